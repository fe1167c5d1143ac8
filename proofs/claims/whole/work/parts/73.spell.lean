-- deps: 72.texts
/-! spell -/
section TX
variable {P : Nat → Nat} {S S0 T : xS} {x m : Nat} {A : xAb} {ob ob0 : Nat → Value} {F : xF} {ts : List Int32}
theorem z_spell (H : xCl S x A) (ht : xTs P S) (hz : ∀ k, 1 ≤ k → k ≤ 9 → P k < x) {i : Int} (i1 : -2147483648 ≤ i) (i2 : i < 2147483648) : ∃ z A', xKI P S x m_X10_spell [.int (iI i)] z A' ∧ ∀ S', xMl S' m A → xGI P S' m m_X11_spell [.int (iI i)] z A' := by
  have hF := H.2.1
  have hk := hF.1.1
  have hP : ∀ j, 1 ≤ j → j ≤ 9 → P j ≠ x + 88 := fun j h1 h2 => by have := hz j h1 h2; omega
  by_cases ci : -1 ≤ i
  · have cI : iI (-1) ≤ iI i := by rw [iI_le (by omega) (by omega) i1 i2]; exact ci
    refine ⟨if i = -1 then iI ((xspl A.1 A.1.1).length : Nat) else xfnd i (xspl A.1 A.1.1), A, ?_, fun S' M => ?_⟩
    · obtain ⟨T1, b1, w1⟩ := d_begin (P := P) H.2.2.2.2.2.2.2.2.2.2.2 i
      have key := xloopQ (run := fun v (Z : xS) => xrun P m_X10_spell 17 [(0, .ref x), (2, .int (iI v))] [] Z)
        (Inv := fun v Z => xWS S Z x i (xspl A.1 v))
        (fun res => ∃ T, res = some (some (.int (if i = -1 then iI ((xspl A.1 A.1.1).length : Nat) else xfnd i (xspl A.1 A.1.1))), T) ∧ xCl T x A ∧ xfr S T (xrg x 89)) 0 A.1.1 (Nat.zero_le _) (by
          rintro v Z - hv hw
          right
          have HZ := (H.ws hw).1
          have hZ : xFd Z (x + 1) A.1 := HZ.2.1
          have bb := hF.1.2 v hv
          have lt := xspl_len hF.1 v (by omega)
          have ln1 := xnu_len bb.1 (show A.1.2.1 v < 100000000000 by omega)
          have ln2 := xnu_len bb.2.2.1 (show A.1.2.2 v < 100000000000 by omega)
          obtain ⟨Y1, p1, q1⟩ := d_put (P := P) hw i1 i2 ht.2.2.1 (hP 3 (by decide) (by decide)) (by simp only [List.length_append, List.length_map, List.length_cons, List.length_nil]; omega)
          have HY1 := (H.ws q1).1
          have hY1 : xFd Y1 (x + 1) A.1 := HY1.2.1
          obtain ⟨Y2, p2, q2⟩ := d_putNumber (P := P) q1 i1 i2 bb.1 (show A.1.2.1 v < 100000000000 by omega) (by simp only [List.length_append, List.length_map, List.length_cons, List.length_nil]; omega)
          have HY2 := (H.ws q2).1
          have hY2 : xFd Y2 (x + 1) A.1 := HY2.2.1
          have l2 : (xspl A.1 v ++ [114, 117, 110, 32].map iI ++ xnu (A.1.2.1 v)).length < 1000 := by simp only [List.length_append, List.length_map, List.length_cons, List.length_nil] at *; omega
          by_cases c : A.1.2.2 v = 0
          · obtain ⟨Y3, p3, q3⟩ := d_put (P := P) q2 i1 i2 ht.2.2.2.2.1 (hP 5 (by decide) (by decide)) (by simp only [List.length_append, List.length_map, List.length_cons, List.length_nil]; omega)
            have c0 : (iI (A.1.2.2 v) = 0) = True := by rw [c]; exact t_00
            refine ⟨Y3, ?_, ?_⟩
            · rw [e_X10_spell_17, HZ.r0, xob_some, hZ.o, cond_true, d_size hZ, xob_some, if_neg (by rw [iI_le (by omega) (by omega) (by omega) (by omega)]; omega)]
              simp only [HZ.r11, hw.o, p1, HY1.r11, HY1.r0, hY1.o, d_speedAt hY1 hv, q1.o, iI_ji (z := A.1.2.1 v) (by omega) (by omega), p2, HY2.r0, hY2.o, d_startAt hY2 hv, c0, if_true, if_false, HY2.r11, q2.o, p3, iI_suc, xob_some, cond_true]
            · simp only [xspl, if_pos c]
              simp only [List.append_assoc] at q3
              exact q3
          · obtain ⟨Y3, p3, q3⟩ := d_put (P := P) q2 i1 i2 ht.2.2.2.1 (hP 4 (by decide) (by decide)) (by simp only [List.length_append, List.length_map, List.length_cons, List.length_nil]; omega)
            have HY3 := (H.ws q3).1
            have hY3 : xFd Y3 (x + 1) A.1 := HY3.2.1
            obtain ⟨Y4, p4, q4⟩ := d_putNumber (P := P) q3 i1 i2 bb.2.2.1 (show A.1.2.2 v < 100000000000 by omega) (by simp only [List.length_append, List.length_map, List.length_cons, List.length_nil]; omega)
            have HY4 := (H.ws q4).1
            obtain ⟨Y5, p5, q5⟩ := d_put (P := P) q4 i1 i2 ht.2.2.2.2.1 (hP 5 (by decide) (by decide)) (by simp only [List.length_append, List.length_map, List.length_cons, List.length_nil]; omega)
            have c0 : (iI (A.1.2.2 v) = 0) = False := t_nz (by omega) (by omega) c
            refine ⟨Y5, ?_, ?_⟩
            · rw [e_X10_spell_17, HZ.r0, xob_some, hZ.o, cond_true, d_size hZ, xob_some, if_neg (by rw [iI_le (by omega) (by omega) (by omega) (by omega)]; omega)]
              simp only [HZ.r11, hw.o, p1, HY1.r11, HY1.r0, hY1.o, d_speedAt hY1 hv, q1.o, iI_ji (z := A.1.2.1 v) (by omega) (by omega), p2, HY2.r0, hY2.o, d_startAt hY2 hv, c0, if_true, if_false, iI_suc, HY2.r11, q2.o, p3, HY3.r11, HY3.r0, hY3.o, d_startAt hY3 hv, q3.o, iI_ji (z := A.1.2.2 v) (by omega) (by omega), p4, HY4.r11, q4.o, p5, xob_some, cond_true]
            · simp only [xspl, if_neg c]
              simp only [List.append_assoc] at q5
              exact q5) (by
          intro Z hw
          have HZ := H.ws hw
          have hZ : xFd Z (x + 1) A.1 := HZ.1.2.1
          refine ⟨Z, ?_, HZ.1, HZ.2⟩
          rw [e_X10_spell_17, HZ.1.r0, xob_some, hZ.o, cond_true, d_size hZ, xob_some, if_pos (by rw [iI_le (by omega) (by omega) (by omega) (by omega)]; omega)]
          simp only [HZ.1.r11, hw.o, d_answer hw ci i2, xob_some, cond_true]) (s := T1) w1
      obtain ⟨T, t1, t2, t3⟩ := key
      refine ⟨T, xcI_of ((e_X10_spell_0 P x (iI i) S).trans ?_), t2, t3⟩
      have o9 : xisO S (x + 88) 9 = true := by
        obtain ⟨p, q, r, e⟩ := H.2.2.2.2.2.2.2.2.2.2.2
        exact xisO_at e
      rw [if_pos cI]
      simp only [H.r11, o9, b1, xob_some, cond_true]
      exact t1
    · obtain ⟨ob, e0, h5, h28, hR, -⟩ := id M
      have hw18 := M.w18
      obtain ⟨T1, b1, w1⟩ := g_beginText e0 M.i16
      have key := xloopQ (run := fun v (Z : xS) => xrun P m_X11_spell 14 [(0, .ref m), (1, .int (iI i)), (2, .int (iI v))] [] Z)
        (Inv := fun v Z => xTw S' Z m ob (xspl A.1 v))
        (fun res => ∃ T, res = some (some (.int (if i = -1 then iI ((xspl A.1 A.1.1).length : Nat) else xfnd i (xspl A.1 A.1.1))), T) ∧ xMl T m A ∧ xfr S' T (xrg m 19)) 0 A.1.1 (Nat.zero_le _) (by
          rintro v Z - hv hw
          right
          have bb := hF.1.2 v hv
          have lt := xspl_len hF.1 v (by omega)
          have ln1 := xnu_len bb.1 (show A.1.2.1 v < 100000000000 by omega)
          have ln2 := xnu_len bb.2.2.1 (show A.1.2.2 v < 100000000000 by omega)
          obtain ⟨o0, f0, E0, -, -, -, -, fr0⟩ := id hw
          have R0 := hR.fr fr0 (by omega)
          obtain ⟨Y1, p1, q1⟩ := g_w0 (P := P) hw hw18 (by omega)
          have l1 : (xspl A.1 v ++ [114, 117, 110].map iI).length ≤ 300 := by simp only [List.length_append, List.length_map, List.length_cons, List.length_nil] at *; omega
          obtain ⟨Y2, p2, q2⟩ := g_sign (P := P) q1 (by omega) (iI 32)
          have l2 : (xspl A.1 v ++ [114, 117, 110].map iI ++ [iI 32]).length ≤ 310 := by simp only [List.length_append, List.length_map, List.length_cons, List.length_nil] at *; omega
          obtain ⟨o2, f2, E2, -, -, -, -, fr2⟩ := id q2
          have R2 := hR.fr fr2 (by omega)
          obtain ⟨Y3, p3, q3⟩ := g_number (P := P) q2 bb.1 (show A.1.2.1 v < 100000000000 by omega) (by omega)
          have l3 : (xspl A.1 v ++ [114, 117, 110].map iI ++ [iI 32] ++ xnu (A.1.2.1 v)).length ≤ 330 := by rw [List.length_append]; omega
          obtain ⟨o3, f3, E3, -, -, -, -, fr3⟩ := id q3
          have R3 := hR.fr fr3 (by omega)
          by_cases c : A.1.2.2 v = 0
          · obtain ⟨Y4, p4, q4⟩ := g_sign (P := P) q3 (by omega) (iI 59)
            have c0 : (iI (A.1.2.2 v) ≤ 0) = True := by rw [c]; simp; decide +kernel
            refine ⟨Y4, ?_, ?_⟩
            · rw [e_X11_spell_14, E0.r1, xob_some, g_K R0, xob_some, if_neg (by rw [iI_le (by omega) (by omega) (by omega) (by omega)]; omega)]
              simp only [E0.o, p1, q1.o, p2, E2.o, g_speedOf E2 R2 hv, iI_ji (z := A.1.2.1 v) (by omega) (by omega), p3, E3.o, g_startOf E3 R3 hv, c0, if_true, if_false, iI_suc, p4, xob_some, cond_true]
            · simp only [xspl, if_pos c]
              simp only [List.append_assoc, List.map_cons, List.map_nil, List.cons_append, List.nil_append] at q4 ⊢
              exact q4
          · obtain ⟨Y4, p4, q4⟩ := g_sign (P := P) q3 (by omega) (iI 32)
            have l4 : (xspl A.1 v ++ [114, 117, 110].map iI ++ [iI 32] ++ xnu (A.1.2.1 v) ++ [iI 32]).length ≤ 340 := by simp only [List.length_append, List.length_map, List.length_cons, List.length_nil] at *; omega
            obtain ⟨Y5, p5, q5⟩ := g_w1 (P := P) q4 hw18 (by omega)
            have l5 : (xspl A.1 v ++ [114, 117, 110].map iI ++ [iI 32] ++ xnu (A.1.2.1 v) ++ [iI 32] ++ [102, 114, 111, 109].map iI).length ≤ 350 := by simp only [List.length_append, List.length_map, List.length_cons, List.length_nil] at *; omega
            obtain ⟨Y6, p6, q6⟩ := g_sign (P := P) q5 (by omega) (iI 32)
            have l6 : (xspl A.1 v ++ [114, 117, 110].map iI ++ [iI 32] ++ xnu (A.1.2.1 v) ++ [iI 32] ++ [102, 114, 111, 109].map iI ++ [iI 32]).length ≤ 360 := by simp only [List.length_append, List.length_map, List.length_cons, List.length_nil] at *; omega
            obtain ⟨o6, f6, E6, -, -, -, -, fr6⟩ := id q6
            have R6 := hR.fr fr6 (by omega)
            obtain ⟨Y7, p7, q7⟩ := g_number (P := P) q6 bb.2.2.1 (show A.1.2.2 v < 100000000000 by omega) (by omega)
            obtain ⟨Y8, p8, q8⟩ := g_sign (P := P) q7 (by rw [List.length_append]; omega) (iI 59)
            have c0 : (iI (A.1.2.2 v) ≤ 0) = False := by rw [iI_0, iI_le (by omega) (by omega) (by omega) (by omega)]; simp; omega
            refine ⟨Y8, ?_, ?_⟩
            · rw [e_X11_spell_14, E0.r1, xob_some, g_K R0, xob_some, if_neg (by rw [iI_le (by omega) (by omega) (by omega) (by omega)]; omega)]
              simp only [E0.o, p1, q1.o, p2, E2.o, g_speedOf E2 R2 hv, iI_ji (z := A.1.2.1 v) (by omega) (by omega), p3, E3.o, g_startOf E3 R3 hv, c0, if_true, if_false, iI_suc, p4, q4.o, p5, q5.o, p6, E6.o, g_startOf E6 R6 hv, iI_ji (z := A.1.2.2 v) (by omega) (by omega), p7, q7.o, p8, xob_some, cond_true]
            · simp only [xspl, if_neg c]
              simp only [List.append_assoc, List.map_cons, List.map_nil, List.cons_append, List.nil_append] at q8 ⊢
              exact q8) (by
          intro Z hw
          have lt := xspl_len hF.1 A.1.1 (Nat.le_refl _)
          obtain ⟨o0, f0, E0, -, -, -, -, fr0⟩ := id hw
          have R0 := hR.fr fr0 (by omega)
          obtain ⟨MM, ff⟩ := M.txt e0 hw
          refine ⟨Z, ?_, MM, ff⟩
          rw [e_X11_spell_14, E0.r1, xob_some, g_K R0, xob_some, if_pos (by rw [iI_le (by omega) (by omega) (by omega) (by omega)]; omega), E0.o, cond_true, g_told hw ci i2 (by omega), xob_some]) (s := T1) w1
      obtain ⟨T, t1, t2, t3⟩ := key
      refine ⟨T, xcI_of ((e_X11_spell_0 P m (iI i) S').trans ?_), t2, t3⟩
      rw [if_pos cI, b1, xob_some]
      exact t1
  · have cI : ¬ iI (-1) ≤ iI i := by rw [iI_le (by omega) (by omega) i1 i2]; exact ci
    refine ⟨iI (-1), A, ⟨S, xcI_of ((e_X10_spell_0 P x (iI i) S).trans ?_), H, xfr.rf⟩, fun S' M => ⟨S', xcI_of ((e_X11_spell_0 P m (iI i) S').trans ?_), M, xfr.rf⟩⟩
    · rw [if_neg cI]
    · rw [if_neg cI]
end TX
