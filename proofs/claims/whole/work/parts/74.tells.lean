-- deps: 73.spell
/-! tells -/
section TE
variable {P : Nat → Nat} {S S0 T : xS} {x m : Nat} {A : xAb} {ob ob0 : Nat → Value} {F : xF} {ts : List Int32}
theorem xIn.fr {a k : Nat} {W : Int} {pl : Nat → Int} {B : Nat → Prop} (h : xIn S a k W pl) (hf : xfr S T B) (h0 : ¬ B a) (h1 : ¬ B (a + 1)) : xIn T a k W pl := by
  obtain ⟨a1, a2, a3, a4, f, ⟨a5, a6⟩, a7⟩ := h
  exact ⟨a1, a2, a3, a4, f, ⟨(hf.2 _ h0).trans a5, (hf.2 _ h1).trans a6⟩, a7⟩
theorem xTt.fr {k : Nat} {l : List Int} {B : Nat → Prop} (h : xTt P S k l) (hf : xfr S T B) (h0 : ¬ B (P k)) : xTt P T k l := by
  obtain ⟨f, e, h2⟩ := h
  exact ⟨f, (hf.2 _ h0).trans e, h2⟩
theorem xTs.fr (h : xTs P S) (hz : ∀ k, 1 ≤ k → k ≤ 9 → P k < x) (hf : xfr S T (xrg x 89)) : xTs P T := by
  have g : ∀ k, 1 ≤ k → k ≤ 9 → ¬ xrg x 89 (P k) := fun k h1 h2 h3 => by
    have := hz k h1 h2
    unfold xrg at h3
    omega
  obtain ⟨h1, h2, h3, h4, h5, h6, h7, h8, h9⟩ := h
  exact ⟨h1.fr hf (g 1 (by decide) (by decide)), h2.fr hf (g 2 (by decide) (by decide)), h3.fr hf (g 3 (by decide) (by decide)), h4.fr hf (g 4 (by decide) (by decide)), h5.fr hf (g 5 (by decide) (by decide)), h6.fr hf (g 6 (by decide) (by decide)), h7.fr hf (g 7 (by decide) (by decide)), h8.fr hf (g 8 (by decide) (by decide)), h9.fr hf (g 9 (by decide) (by decide))⟩
/-- who is at a rank -/
noncomputable def xwh (pl : Nat → Int) (k n : Nat) : Nat := @dite _ (∃ t, t < k ∧ xrk2 pl k t = n) (Classical.propDecidable _) (fun h => Classical.choose h) (fun _ => 0)
theorem xwh_at {pl : Nat → Int} {k n : Nat} (hn : n < k) : xwh pl k n < k ∧ xrk2 pl k (xwh pl k n) = n := by
  have h := xrk2_on (pl := pl) hn
  unfold xwh
  rw [dif_pos h]
  exact Classical.choose_spec h
noncomputable def xtl (pl : Nat → Int) (W : Int) (k : Nat) : Nat → List Int32
  | 0 => []
  | n + 1 => xtl pl W k n ++ (xnu (xwh pl k n) ++ ([32, 97, 116, 32].map iI ++ (xprt (pl (xwh pl k n)) W ++ [59].map iI)))
theorem xprt_len {u l : Int} (u0 : 0 ≤ u) (u1 : u < 100000000000) (l0 : 0 < l) (l1 : l < 100000000000) : (xprt u l).length ≤ 26 := by
  have bf := xpo_bd (t := false) u0 l0
  have bt := xpo_bd (t := true) u0 l0
  have lf := xnu_len bf.1 (show xpo u l false < 100000000000 by omega)
  have lt := xnu_len bt.1 (show xpo u l true < 100000000000 by omega)
  unfold xprt
  simp only [List.length_append, List.length_map, List.length_cons, List.length_nil] at *; omega
theorem xtl_len {pl : Nat → Int} {W : Int} {k : Nat} (hp : ∀ i, i < k → 0 ≤ pl i ∧ pl i < W) (W1 : W ≤ 11988) (hk : k ≤ 6) : ∀ n, n ≤ k → (xtl pl W k n).length ≤ 42 * n := by
  intro n
  induction n with
  | zero => intro _; exact Nat.le_refl 0
  | succ n ih =>
    intro hn
    have w := xwh_at (pl := pl) (show n < k by omega)
    have b := hp _ w.1
    have l1 := xnu_len (v := (xwh pl k n : Nat)) (by omega) (by omega)
    have l2 := xprt_len b.1 (show pl (xwh pl k n) < 100000000000 by omega) (show 0 < W by omega) (show W < 100000000000 by omega)
    have := ih (by omega)
    simp only [xtl]
    simp only [List.length_append, List.length_map, List.length_cons, List.length_nil] at *; omega
theorem z_tells (H : xCl S x A) (ht : xTs P S) (hz : ∀ k, 1 ≤ k → k ≤ 9 → P k < x) {p q i : Int} (p1 : -2147483648 ≤ p) (p2 : p < 2147483648) (q1 : -2147483648 ≤ q) (q2 : q < 2147483648) (i1 : -2147483648 ≤ i) (i2 : i < 2147483648) : ∃ z A', xKI P S x m_X10_tells [.int (iI p), .int (iI q), .int (iI i)] z A' ∧ ∀ S', xMl S' m A → xGI P S' m m_X11_tells [.int (iI p), .int (iI q), .int (iI i)] z A' := by
  have hF := H.2.1
  have hk := hF.1.1
  have hP : ∀ j, 1 ≤ j → j ≤ 9 → P j ≠ x + 88 := fun j h1 h2 => by have := hz j h1 h2; omega
  by_cases ct : (0 ≤ p ∧ p ≤ 9999 ∧ 1 ≤ q ∧ q ≤ 999)
  · by_cases ci : -1 ≤ i
    · have cI : iI (-1) ≤ iI i := by rw [iI_le (by omega) (by omega) i1 i2]; exact ci
      have hp : ∀ i, i < A.1.1 → 0 ≤ xplc A.1 p q i ∧ xplc A.1 p q i < 12 * q := fun i _ => xplc_bd A.1 (by omega) i
      have ln : ∀ n, n ≤ A.1.1 → (xtl (xplc A.1 p q) (12 * q) A.1.1 n).length ≤ 42 * n := xtl_len hp (by omega) hk
      refine ⟨if i = -1 then iI ((xtl (xplc A.1 p q) (12 * q) A.1.1 A.1.1).length : Nat) else xfnd i (xtl (xplc A.1 p q) (12 * q) A.1.1 A.1.1), A, ?_, fun S' M => ?_⟩
      · obtain ⟨T1, k1, k2, H1, fr⟩ := H.see (P := P) ct
        have ht1 := ht.fr hz fr
        obtain ⟨T2, b1, w1⟩ := d_begin (P := P) H1.2.2.2.2.2.2.2.2.2.2.2 i
        have key := xloopQ (run := fun v (Z : xS) => xrun P m_X10_tells 39 [(0, .ref x), (4, .int (iI v))] [] Z)
          (Inv := fun v Z => xWS T1 Z x i (xtl (xplc A.1 p q) (12 * q) A.1.1 v))
          (fun res => ∃ T, res = some (some (.int (if i = -1 then iI ((xtl (xplc A.1 p q) (12 * q) A.1.1 A.1.1).length : Nat) else xfnd i (xtl (xplc A.1 p q) (12 * q) A.1.1 A.1.1))), T) ∧ xCl T x A ∧ xfr T1 T (xrg x 89)) 0 A.1.1 (Nat.zero_le _) (by
            rintro v Z - hv hw
            right
            have HZ := (H1.ws hw).1
            have hZ : xFd Z (x + 1) A.1 := HZ.2.1
            have IZ := k2.fr hw.2 (by omega) (by omega)
            have w := xwh_at (pl := xplc A.1 p q) hv
            have bb := hp _ w.1
            have l0 := ln v (by omega)
            have l1 := xnu_len (v := (xwh (xplc A.1 p q) A.1.1 v : Nat)) (by omega) (by omega)
            have l2 := xprt_len bb.1 (show xplc A.1 p q (xwh (xplc A.1 p q) A.1.1 v) < 100000000000 by omega) (show 0 < 12 * q by omega) (show 12 * q < 100000000000 by omega)
            have ra := d_atRank (P := P) IZ (show v < 6 by omega) w.1 w.2 (fun j hj h => by have := xrk2_inj (pl := xplc A.1 p q) (show j < A.1.1 by omega) w.1 (h.trans w.2.symm); omega)
            obtain ⟨Y1, p1', q1'⟩ := d_putNumber (P := P) hw i1 i2 (v := (xwh (xplc A.1 p q) A.1.1 v : Nat)) (by omega) (by omega) (by omega)
            have HY1 := (H1.ws q1').1
            obtain ⟨Y2, p2', q2'⟩ := d_put (P := P) q1' i1 i2 ht1.2.2.2.2.2.2.2.2 (hP 9 (by decide) (by decide)) (by simp only [List.length_append, List.length_map, List.length_cons, List.length_nil] at *; omega)
            have HY2 := (H1.ws q2').1
            have IY2 := k2.fr q2'.2 (by omega) (by omega)
            obtain ⟨Y3, p3', q3'⟩ := d_putPart (P := P) q2' i1 i2 ht1 hz bb.1 (show xplc A.1 p q (xwh (xplc A.1 p q) A.1.1 v) < 100000000000 by omega) (show 0 < 12 * q by omega) (show 12 * q < 100000000000 by omega) (by simp only [List.length_append, List.length_map, List.length_cons, List.length_nil] at *; omega)
            have HY3 := (H1.ws q3').1
            obtain ⟨Y4, p4', q4'⟩ := d_put (P := P) q3' i1 i2 ht1.2.2.2.2.1 (hP 5 (by decide) (by decide)) (by simp only [List.length_append, List.length_map, List.length_cons, List.length_nil] at *; omega)
            refine ⟨Y4, ?_, ?_⟩
            · rw [e_X10_tells_39, HZ.r0, xob_some, hZ.o, cond_true, d_size hZ, xob_some, if_neg (by rw [iI_le (by omega) (by omega) (by omega) (by omega)]; omega)]
              simp only [HZ.r7, IZ.o, ra, HZ.r11, hw.o, iI_ji (z := (xwh (xplc A.1 p q) A.1.1 v : Nat)) (by omega) (by omega), p1', HY1.r11, q1'.o, p2', HY2.r11, HY2.r7, IY2.o, d_placeAt IY2 w.1, d_whole IY2, q2'.o, iI_ji (z := xplc A.1 p q (xwh (xplc A.1 p q) A.1.1 v)) (by omega) (by omega), iI_ji (z := 12 * q) (by omega) (by omega), p3', HY3.r11, q3'.o, p4', iI_suc, xob_some, cond_true]
            · simp only [xtl]
              simp only [List.append_assoc] at q4'
              exact q4') (by
            intro Z hw
            have HZ := H1.ws hw
            have hZ : xFd Z (x + 1) A.1 := HZ.1.2.1
            refine ⟨Z, ?_, HZ.1, HZ.2⟩
            rw [e_X10_tells_39, HZ.1.r0, xob_some, hZ.o, cond_true, d_size hZ, xob_some, if_pos (by rw [iI_le (by omega) (by omega) (by omega) (by omega)]; omega)]
            simp only [HZ.1.r11, hw.o, d_answer hw ci i2, xob_some, cond_true]) (s := T2) w1
        obtain ⟨T, t1, t2, t3⟩ := key
        refine ⟨T, xcI_of ((e_X10_tells_0 P x (iI p) (iI q) (iI i) S).trans ?_), t2, fr.tr t3⟩
        have o9 : xisO T1 (x + 88) 9 = true := by
          obtain ⟨p, q, r, e⟩ := H1.2.2.2.2.2.2.2.2.2.2.2
          exact xisO_at e
        rw [d_isTime p1 p2 q1 q2, if_pos ct, xob_some]
        dsimp only
        rw [if_neg (by decide +kernel), if_pos cI]
        simp only [H.r7, H.r0, H.io, k1, H1.r11, o9, b1, xob_some, cond_true]
        exact t1
      · obtain ⟨ob, e0, h5, h28, hR, -⟩ := id M
        obtain ⟨T1, b1, w1⟩ := g_beginText e0 M.i16
        have M1 := (M.txt e0 w1).1
        have fr1 := (M.txt e0 w1).2
        obtain ⟨ob1, f1, E1, hk1, h26, hf1, -, -⟩ := id w1
        obtain ⟨T2, f, k1, k2, k3, k4⟩ := g_ranks2 (P := P) M1 ct.1 ct.2.1 ct.2.2.1 ct.2.2.2
        obtain ⟨M2, fr2⟩ := M1.ord k2 ⟨f, k3⟩
        have hw18 := M2.w18
        have E2 := E1.fr k2 (by omega)
        have W2 : xTw T2 T2 m ob1 [] := ⟨ob1, f1, E2, fun _ _ => rfl, h26, (k2.2 _ (by omega)).trans hf1, fun i hi => absurd hi (Nat.not_lt_zero i), xfr.rf⟩
        have hR2 : xRo T2 (m + 1) A.1 := by
          obtain ⟨ob', -, -, -, h, -⟩ := M2
          exact h
        have rd : ∀ Z, xfr T2 Z (fun c => c = m ∨ c = m + 16) → ∀ n : Nat, n < A.1.1 → xrdI Z (m + 7) (iI n) = some (iI (xwh (xplc A.1 p q) A.1.1 n : Nat)) := fun Z hf n hn => by
          have w := xwh_at (pl := xplc A.1 p q) hn
          have := k4 _ w.1
          rw [w.2] at this
          rw [xrdI_at ((hf.2 _ (by omega)).trans k3) (by omega) (by omega) (by omega)]
          exact congrArg some this
        have key := xloopQ (run := fun v (Z : xS) => xrun P m_X11_tells 29 [(0, .ref m), (1, .int (iI p)), (2, .int (iI q)), (3, .int (iI i)), (4, .int (iI v))] [] Z)
          (Inv := fun v Z => xTw T2 Z m ob1 (xtl (xplc A.1 p q) (12 * q) A.1.1 v))
          (fun res => ∃ T, res = some (some (.int (if i = -1 then iI ((xtl (xplc A.1 p q) (12 * q) A.1.1 A.1.1).length : Nat) else xfnd i (xtl (xplc A.1 p q) (12 * q) A.1.1 A.1.1))), T) ∧ xMl T m A ∧ xfr T2 T (xrg m 19)) 0 A.1.1 (Nat.zero_le _) (by
            rintro v Z - hv hw
            right
            have w := xwh_at (pl := xplc A.1 p q) hv
            have bb := hp _ w.1
            have l0 := ln v (by omega)
            have l1 := xnu_len (v := (xwh (xplc A.1 p q) A.1.1 v : Nat)) (by omega) (by omega)
            have l2 := xprt_len bb.1 (show xplc A.1 p q (xwh (xplc A.1 p q) A.1.1 v) < 100000000000 by omega) (show 0 < 12 * q by omega) (show 12 * q < 100000000000 by omega)
            obtain ⟨o0, f0, E0, -, -, -, -, fr0⟩ := id hw
            have R0 := hR2.fr fr0 (by omega)
            obtain ⟨Y1, p1', q1'⟩ := g_number (P := P) hw (v := (xwh (xplc A.1 p q) A.1.1 v : Nat)) (by omega) (by omega) (by omega)
            obtain ⟨Y2, p2', q2'⟩ := g_sign (P := P) q1' (by simp only [List.length_append, List.length_map, List.length_cons, List.length_nil] at *; omega) (iI 32)
            obtain ⟨Y3, p3', q3'⟩ := g_w5 (P := P) q2' hw18 (by simp only [List.length_append, List.length_map, List.length_cons, List.length_nil] at *; omega)
            obtain ⟨Y4, p4', q4'⟩ := g_sign (P := P) q3' (by simp only [List.length_append, List.length_map, List.length_cons, List.length_nil] at *; omega) (iI 32)
            obtain ⟨o4, f4, E4, -, -, -, -, fr4⟩ := id q4'
            have R4 := hR2.fr fr4 (by omega)
            obtain ⟨Y5, p5', q5'⟩ := g_part (P := P) q4' hw18 bb.1 (show xplc A.1 p q (xwh (xplc A.1 p q) A.1.1 v) < 100000000000 by omega) (show 0 < 12 * q by omega) (show 12 * q < 100000000000 by omega) (fun S t => d_part bb.1 (by omega) (by omega) (by omega) t) (by simp only [List.length_append, List.length_map, List.length_cons, List.length_nil] at *; omega)
            obtain ⟨Y6, p6', q6'⟩ := g_sign (P := P) q5' (by simp only [List.length_append, List.length_map, List.length_cons, List.length_nil] at *; omega) (iI 59)
            refine ⟨Y6, ?_, ?_⟩
            · rw [e_X11_tells_29, E0.r1, xob_some, g_K R0, xob_some, if_neg (by rw [iI_le (by omega) (by omega) (by omega) (by omega)]; omega)]
              simp only [E0.r8, rd Z fr0 v hv, E0.o, iI_ji (z := (xwh (xplc A.1 p q) A.1.1 v : Nat)) (by omega) (by omega), p1', q1'.o, p2', q2'.o, p3', q3'.o, p4', E4.r8, rd Y4 fr4 v hv, E4.o, iI_ji (z := p) (by omega) (by omega), iI_ji (z := q) (by omega) (by omega), g_placeTop E4 R4 w.1 (p := p) (q := q) (by omega) (by omega) (by omega) (by omega), jI_mul, p5', q5'.o, p6', iI_suc, xob_some, cond_true]
            · simp only [xtl]
              simp only [List.append_assoc, List.map_cons, List.map_nil, List.cons_append, List.nil_append] at q6' ⊢
              exact q6') (by
            intro Z hw
            have l0 := ln A.1.1 (Nat.le_refl _)
            obtain ⟨o0, f0, E0, -, -, -, -, fr0⟩ := id hw
            have R0 := hR2.fr fr0 (by omega)
            obtain ⟨MM, ff⟩ := M2.txt E2 hw
            refine ⟨Z, ?_, MM, ff⟩
            rw [e_X11_tells_29, E0.r1, xob_some, g_K R0, xob_some, if_pos (by rw [iI_le (by omega) (by omega) (by omega) (by omega)]; omega), E0.o, cond_true, g_told hw ci i2 (by omega), xob_some]) (s := T2) W2
        obtain ⟨T, t1, t2, t3⟩ := key
        refine ⟨T, xcI_of ((e_X11_tells_0 P m (iI p) (iI q) (iI i) S').trans ?_), t2, (fr1.tr fr2).tr t3⟩
        rw [g_isTime p1 p2 q1 q2, if_pos ct, xob_some]
        dsimp only
        rw [if_neg (by decide +kernel), if_pos cI, b1, xob_some, E1.o, cond_true, k1, xob_some]
        exact t1
    · have cI : ¬ iI (-1) ≤ iI i := by rw [iI_le (by omega) (by omega) i1 i2]; exact ci
      refine ⟨iI (-1), A, ⟨S, xcI_of ((e_X10_tells_0 P x (iI p) (iI q) (iI i) S).trans ?_), H, xfr.rf⟩, fun S' M => ⟨S', xcI_of ((e_X11_tells_0 P m (iI p) (iI q) (iI i) S').trans ?_), M, xfr.rf⟩⟩
      · simp only [d_isTime p1 p2 q1 q2, if_pos ct, if_neg cI, xob_some, cond_true, t_10, t_00, ne_eq, not_true_eq_false, not_false_eq_true, if_true, if_false]
      · simp only [g_isTime p1 p2 q1 q2, if_pos ct, if_neg cI, xob_some, cond_true, t_10, t_00, ne_eq, not_true_eq_false, not_false_eq_true, if_true, if_false]
  · refine ⟨iI (-1), A, ⟨S, xcI_of ((e_X10_tells_0 P x (iI p) (iI q) (iI i) S).trans ?_), H, xfr.rf⟩, fun S' M => ⟨S', xcI_of ((e_X11_tells_0 P m (iI p) (iI q) (iI i) S').trans ?_), M, xfr.rf⟩⟩
    · simp only [d_isTime p1 p2 q1 q2, if_neg ct, xob_some, cond_true, t_10, t_00, ne_eq, not_true_eq_false, not_false_eq_true, if_true, if_false]
    · simp only [g_isTime p1 p2 q1 q2, if_neg ct, xob_some, cond_true, t_10, t_00, ne_eq, not_true_eq_false, not_false_eq_true, if_true, if_false]
end TE
