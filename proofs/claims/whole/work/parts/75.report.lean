-- deps: 74.tells
/-! report -/
section RP
variable {P : Nat → Nat} {S S0 T : xS} {x m : Nat} {A : xAb} {ob ob0 : Nat → Value} {F : xF} {ts : List Int32}
/-- stretches, told -/
noncomputable def xrp (sc : Int) (u v : Nat → Int) : Nat → List Int32
  | 0 => []
  | n + 1 => xrp sc u v n ++ (xprt (u n) sc ++ ([32, 116, 111, 32].map iI ++ (xprt (v n) sc ++ [59].map iI)))
noncomputable def xrq (sc : Int) (u v : Nat → Int) (n : Nat) : List Int32 := xrp sc u v n ++ ([104, 111, 117, 114, 115, 32].map iI ++ (xprt (xln u v n) sc ++ [59].map iI))
theorem xrp_len {F : xF} {i : Nat} {sc : Int} {N : Nat} {u v : Nat → Int} (h : xDt F i sc N u v) (s1 : 0 < sc) (s2 : sc < 100000000000) : ∀ n, n ≤ N → (xrp sc u v n).length ≤ 57 * n := by
  intro n
  induction n with
  | zero => intro _; exact Nat.le_refl 0
  | succ n ih =>
    intro hn
    have b := h.bd (show n < N by omega)
    have l1 := xprt_len b.1 (show u n < 100000000000 by omega) s1 s2
    have l2 := xprt_len (show 0 ≤ v n by omega) (show v n < 100000000000 by omega) s1 s2
    have := ih (by omega)
    simp only [xrp]
    simp only [List.length_append, List.length_map, List.length_cons, List.length_nil] at *; omega
theorem z_report (H : xCl S x A) (ht : xTs P S) (hz : ∀ k, 1 ≤ k → k ≤ 9 → P k < x) {i j : Int} (i1 : -2147483648 ≤ i) (i2 : i < 2147483648) (j1 : -2147483648 ≤ j) (j2 : j < 2147483648) : ∃ z A', xKI P S x m_X10_report [.int (iI i), .int (iI j)] z A' ∧ ∀ S', xMl S' m A → xGI P S' m m_X11_report [.int (iI i), .int (iI j)] z A' := by
  have hF := H.2.1
  have hk := hF.1.1
  have hP : ∀ j, 1 ≤ j → j ≤ 9 → P j ≠ x + 88 := fun j h1 h2 => by have := hz j h1 h2; omega
  by_cases ci : 0 ≤ i ∧ i < A.1.1
  · obtain ⟨r, rfl⟩ : ∃ r : Nat, i = r := ⟨i.toNat, by omega⟩
    have hr : r < A.1.1 := by omega
    by_cases cj : -1 ≤ j
    · have cI : iI (-1) ≤ iI j := by rw [iI_le (by omega) (by omega) j1 j2]; exact cj
      obtain ⟨S1, s1, s2, l1, l2, sc, pt, n, u, v, k1, k2, k3, k4, k5, k6, k7, k8⟩ := d_watchDt (P := P) H hr
      have n201 := k6.2.2.1
      have lb := xSo_ln k6.2.1 (fun k hk => (k6.bd hk).2.2) (show 0 ≤ sc by omega)
      have ln := xrp_len k6 (show 0 < sc by omega) (show sc < 100000000000 by omega)
      have s88 : ∀ b, x3 s1 b → ¬ b = x + 88 := fun b hb => by
        have := k4.2.1
        unfold x3 at hb
        omega
      have ht1 := ht.fr hz k3
      refine ⟨if j = -1 then iI ((xrq sc u v n).length : Nat) else xfnd j (xrq sc u v n), A, ?_, fun S' M => ?_⟩
      · obtain ⟨T2, b1, w1⟩ := d_begin (P := P) k2.2.2.2.2.2.2.2.2.2.2.2 j
        have key := xloopQ (run := fun k (Z : xS) => xrun P m_X10_report 51 [(0, .ref x), (3, .ref s1), (4, .long (jI sc)), (6, .int (iI k))] [] Z)
          (Inv := fun k Z => xWS S1 Z x j (xrp sc u v k))
          (fun res => ∃ T, res = some (some (.int (if j = -1 then iI ((xrq sc u v n).length : Nat) else xfnd j (xrq sc u v n))), T) ∧ xCl T x A ∧ xfr S1 T (xrg x 89)) 0 n (Nat.zero_le _) (by
            rintro k Z - hk1 hw
            right
            have HZ := (k2.ws hw).1
            have IZ := k5.fr hw.2 s88
            have bd := k6.bd hk1
            have l0 := ln k (by omega)
            have a1 := xprt_len bd.1 (show u k < 100000000000 by omega) (show 0 < sc by omega) (show sc < 100000000000 by omega)
            have a2 := xprt_len (show 0 ≤ v k by omega) (show v k < 100000000000 by omega) (show 0 < sc by omega) (show sc < 100000000000 by omega)
            obtain ⟨Y1, p1, q1⟩ := d_putPart (P := P) hw j1 j2 ht1 hz bd.1 (show u k < 100000000000 by omega) (show 0 < sc by omega) (show sc < 100000000000 by omega) (by omega)
            have HY1 := (k2.ws q1).1
            obtain ⟨Y2, p2, q2⟩ := d_put (P := P) q1 j1 j2 ht1.2.2.2.2.2.2.1 (hP 7 (by decide) (by decide)) (by simp only [List.length_append, List.length_map, List.length_cons, List.length_nil] at *; omega)
            have HY2 := (k2.ws q2).1
            have IY2 := k5.fr q2.2 s88
            obtain ⟨Y3, p3, q3⟩ := d_putPart (P := P) q2 j1 j2 ht1 hz (show 0 ≤ v k by omega) (show v k < 100000000000 by omega) (show 0 < sc by omega) (show sc < 100000000000 by omega) (by simp only [List.length_append, List.length_map, List.length_cons, List.length_nil] at *; omega)
            have HY3 := (k2.ws q3).1
            obtain ⟨Y4, p4, q4⟩ := d_put (P := P) q3 j1 j2 ht1.2.2.2.2.1 (hP 5 (by decide) (by decide)) (by simp only [List.length_append, List.length_map, List.length_cons, List.length_nil] at *; omega)
            refine ⟨Y4, ?_, ?_⟩
            · rw [e_X10_report_51, IZ.o, cond_true, d_ssize IZ, xob_some, if_neg (by rw [iI_le (by omega) (by omega) (by omega) (by omega)]; omega)]
              simp only [HZ.r11, IZ.o, d_fromAt IZ hk1, hw.o, p1, HY1.r11, q1.o, p2, HY2.r11, IY2.o, d_toAt IY2 hk1, q2.o, p3, HY3.r11, q3.o, p4, iI_suc, xob_some, cond_true]
            · simp only [xrp]
              simp only [List.append_assoc] at q4
              exact q4) (by
            intro Z hw
            have HZ := (k2.ws hw).1
            have IZ := k5.fr hw.2 s88
            have l0 := ln n (Nat.le_refl _)
            obtain ⟨Y1, p1, q1⟩ := d_put (P := P) hw j1 j2 ht1.2.2.2.2.2.2.2.1 (hP 8 (by decide) (by decide)) (by simp only [List.length_append, List.length_map, List.length_cons, List.length_nil] at *; omega)
            have HY1 := (k2.ws q1).1
            have IY1 := k5.fr q1.2 s88
            obtain ⟨Y2, p2, q2⟩ := d_putPart (P := P) q1 j1 j2 ht1 hz lb.1 (show xln u v n < 100000000000 by omega) (show 0 < sc by omega) (show sc < 100000000000 by omega) (by simp only [List.length_append, List.length_map, List.length_cons, List.length_nil] at *; omega)
            have HY2 := (k2.ws q2).1
            have a2 := xprt_len lb.1 (show xln u v n < 100000000000 by omega) (show 0 < sc by omega) (show sc < 100000000000 by omega)
            obtain ⟨Y3, p3, q3⟩ := d_put (P := P) q2 j1 j2 ht1.2.2.2.2.1 (hP 5 (by decide) (by decide)) (by simp only [List.length_append, List.length_map, List.length_cons, List.length_nil] at *; omega)
            have q5 : xWS S1 Y3 x j (xrq sc u v n) := by
              unfold xrq
              simp only [List.append_assoc] at q3
              exact q3
            have HY3 := k2.ws q5
            refine ⟨Y3, ?_, HY3.1, HY3.2⟩
            rw [e_X10_report_51, IZ.o, cond_true, d_ssize IZ, xob_some, if_pos (by rw [iI_le (by omega) (by omega) (by omega) (by omega)]; omega)]
            simp only [HZ.r11, hw.o, p1, HY1.r11, IY1.o, d_slength IY1, q1.o, p2, HY2.r11, q2.o, p3, HY3.1.r11, q5.o, d_answer q5 cj j2, xob_some, cond_true]) (s := T2) w1
        obtain ⟨T, t1, t2, t3⟩ := key
        refine ⟨T, xcI_of ((e_X10_report_0 P x (iI r) (iI j) S).trans ?_), t2, k3.tr t3⟩
        have o9 : xisO S1 (x + 88) 9 = true := by
          obtain ⟨p, q, r, e⟩ := k2.2.2.2.2.2.2.2.2.2.2.2
          exact xisO_at e
        rw [H.r0, xob_some, hF.o, cond_true, d_has hF i1 i2, if_pos ci, xob_some]
        dsimp only
        rw [if_neg (by decide +kernel), if_pos cI]
        simp only [H.o, k1, k2.r10, k4.o, d_spans k4, d_scale k4, k2.r11, o9, b1, xob_some, cond_true]
        exact t1
      · obtain ⟨ob, e0, -, -, hR, -⟩ := id M
        obtain ⟨T1, b1, w1⟩ := g_beginText e0 M.i16
        have M1 := (M.txt e0 w1).1
        have fr1 := (M.txt e0 w1).2
        obtain ⟨ob1, f1, E1, hk1, h26, hf1, -, -⟩ := id w1
        obtain ⟨T2, ob2, c1, c2, c3, M2, fr2, E2, c20, cu, cv⟩ := d_laysStretches3 (P := P) M1 E1 hr k6
        have hw18 := M2.w18
        have W2 : xTw T2 T2 m ob2 [] := ⟨ob2, f1, E2, fun _ _ => rfl, (c1 26 (by decide) (by decide)).trans h26, (c2.2 _ (by omega)).trans hf1, fun i hi => absurd hi (Nat.not_lt_zero i), xfr.rf⟩
        have key := xloopQ (run := fun k (Z : xS) => xrun P m_X11_report 27 [(0, .ref m), (2, .int (iI j)), (3, .int (iI k))] [] Z)
          (Inv := fun k Z => xTw T2 Z m ob2 (xrp sc u v k))
          (fun res => ∃ T, res = some (some (.int (if j = -1 then iI ((xrq sc u v n).length : Nat) else xfnd j (xrq sc u v n))), T) ∧ xMl T m A ∧ xfr T2 T (xrg m 19)) 0 n (Nat.zero_le _) (by
            rintro k Z - hkn hw
            right
            have bd := k6.bd hkn
            have l0 := ln k (by omega)
            have a1 := xprt_len bd.1 (show u k < 100000000000 by omega) (show 0 < sc by omega) (show sc < 100000000000 by omega)
            have a2 := xprt_len (show 0 ≤ v k by omega) (show v k < 100000000000 by omega) (show 0 < sc by omega) (show sc < 100000000000 by omega)
            obtain ⟨o0, f0, E0, g0, -, -, -, fr0⟩ := id hw
            obtain ⟨pu, wu, r1, r2, y1, y2, eu⟩ := (cu.fr fr0 (by omega) (by omega)).rd hkn (by omega)
            have pb := x_tt_bd (show 0 < sc by omega) y1 eu bd.1 (by omega)
            obtain ⟨Y1, p1, q1⟩ := g_part (P := P) hw hw18 bd.1 (show u k < 100000000000 by omega) (show 0 < sc by omega) (show sc < 100000000000 by omega) (p := pu) (q := wu) (fun S t => by rw [d_part pb.1 (by omega) (by omega) (by omega), xpo_eq pb.1 (by omega) bd.1 (by omega) eu]) (by omega)
            obtain ⟨Y2, p2, q2⟩ := g_sign (P := P) q1 (by simp only [List.length_append, List.length_map, List.length_cons, List.length_nil] at *; omega) (iI 32)
            obtain ⟨Y3, p3, q3⟩ := g_w3 (P := P) q2 hw18 (by simp only [List.length_append, List.length_map, List.length_cons, List.length_nil] at *; omega)
            obtain ⟨Y4, p4, q4⟩ := g_sign (P := P) q3 (by simp only [List.length_append, List.length_map, List.length_cons, List.length_nil] at *; omega) (iI 32)
            obtain ⟨o4, f4, E4, -, -, -, -, fr4⟩ := id q4
            obtain ⟨pv, wv, r3, r4, y3, y4, ev⟩ := (cv.fr fr4 (by omega) (by omega)).rd hkn (by omega)
            have pc := x_tt_bd (show 0 < sc by omega) y3 ev (by omega) bd.2.2
            obtain ⟨Y5, p5, q5⟩ := g_part (P := P) q4 hw18 (show 0 ≤ v k by omega) (show v k < 100000000000 by omega) (show 0 < sc by omega) (show sc < 100000000000 by omega) (p := pv) (q := wv) (fun S t => by rw [d_part pc.1 (by omega) (by omega) (by omega), xpo_eq pc.1 (by omega) (by omega) (by omega) ev]) (by simp only [List.length_append, List.length_map, List.length_cons, List.length_nil] at *; omega)
            obtain ⟨Y6, p6, q6⟩ := g_sign (P := P) q5 (by simp only [List.length_append, List.length_map, List.length_cons, List.length_nil] at *; omega) (iI 59)
            refine ⟨Y6, ?_, ?_⟩
            · rw [e_X11_report_27, E0.i (by omega) ((g0 20 (by decide)).trans c20), xob_some, if_neg (by rw [iI_le (by omega) (by omega) (by omega) (by omega)]; omega)]
              simp only [E0.r16, r1, E0.r17, r2, E0.o, p1, q1.o, p2, q2.o, p3, q3.o, p4, E4.r18, r3, E4.r19, r4, E4.o, p5, q5.o, p6, iI_suc, xob_some, cond_true]
            · simp only [xrp]
              simp only [List.append_assoc, List.map_cons, List.map_nil, List.cons_append, List.nil_append] at q6 ⊢
              exact q6) (by
            intro Z hw
            have l0 := ln n (Nat.le_refl _)
            have a2 := xprt_len lb.1 (show xln u v n < 100000000000 by omega) (show 0 < sc by omega) (show sc < 100000000000 by omega)
            obtain ⟨o0, f0, E0, g0, h26', hf0, hi0, fr0⟩ := id hw
            obtain ⟨MZ, ffZ⟩ := M2.txt E2 hw
            obtain ⟨S3, ob3, w1, w2, w3, w4, w5⟩ := d_addsUp (P := P) E0 ((g0 20 (by decide)).trans c20) (cu.fr fr0 (by omega) (by omega)) (cv.fr fr0 (by omega) (by omega)) k6.2.1 (by omega) (fun k hk => (k6.bd hk).2.2) (by omega) (by omega)
            obtain ⟨M3, ff3⟩ := MZ.re E0 (w5.mono (fun c h => Or.inl h)) w2 (w3 5 (by decide) (by decide)) (w3 28 (by decide) (by decide)) (fun d d0 d1 => by
              obtain ⟨ob', -, -, -, -, -, -, -, -, a1, a2, a3, a4, a5, a6, a7, a8, a9, -⟩ := MZ
              have hd : d = 8 ∨ d = 9 ∨ d = 10 ∨ d = 11 ∨ d = 12 ∨ d = 13 := by omega
              rcases hd with rfl | rfl | rfl | rfl | rfl | rfl
              · exact a4.fr w5 (by omega)
              · exact a5.fr w5 (by omega)
              · exact a6.fr w5 (by omega)
              · exact a7.fr w5 (by omega)
              · exact a8.fr w5 (by omega)
              · exact a9.fr w5 (by omega))
            have W3 : xTw S3 S3 m ob3 (xrp sc u v n) := ⟨ob3, f0, w2, fun _ _ => rfl, (w3 26 (by decide) (by decide)).trans h26', (w5.2 _ (by omega)).trans hf0, hi0, xfr.rf⟩
            have hw3 := M3.w18
            obtain ⟨Y1, p1, q1⟩ := g_w4 (P := P) W3 hw3 (by omega)
            obtain ⟨Y2, p2, q2⟩ := g_sign (P := P) q1 (by simp only [List.length_append, List.length_map, List.length_cons, List.length_nil] at *; omega) (iI 32)
            obtain ⟨o2, f2, E2', g2, -, -, -, -⟩ := id q2
            obtain ⟨hu, hb, t1, t2, t3, t4, t5⟩ := w4
            have hd := Int.le_of_dvd (show 0 < sc by omega) (x_hb_dvd t4 t5)
            have b := x_tt_bd (show 0 < sc by omega) t3 t5 lb.1 lb.2
            obtain ⟨Y3, p3, q3⟩ := g_part (P := P) q2 hw3 lb.1 (show xln u v n < 100000000000 by omega) (show 0 < sc by omega) (show sc < 100000000000 by omega) (p := hu) (q := hb) (fun S t => by rw [d_part b.1 (by omega) (by omega) (by omega), xpo_eq b.1 (by omega) lb.1 (by omega) t5]) (by simp only [List.length_append, List.length_map, List.length_cons, List.length_nil] at *; omega)
            obtain ⟨Y4, p4, q4⟩ := g_sign (P := P) q3 (by simp only [List.length_append, List.length_map, List.length_cons, List.length_nil] at *; omega) (iI 59)
            have q5 : xTw S3 Y4 m ob3 (xrq sc u v n) := by
              unfold xrq
              simp only [List.append_assoc, List.map_cons, List.map_nil, List.cons_append, List.nil_append] at q4 ⊢
              exact q4
            have lq : (xrq sc u v n).length < 16000 := by
              unfold xrq
              simp only [List.length_append, List.length_map, List.length_cons, List.length_nil] at *; omega
            obtain ⟨MM, ff⟩ := M3.txt w2 q5
            refine ⟨Y4, ?_, MM, (ffZ.tr ff3).tr ff⟩
            rw [e_X11_report_27, E0.i (by omega) ((g0 20 (by decide)).trans c20), xob_some, if_pos (by rw [iI_le (by omega) (by omega) (by omega) (by omega)]; omega)]
            simp only [E0.o, w1, w2.o, p1, q1.o, p2, E2'.j (show 21 < 35 by decide) ((g2 21 (by decide)).trans t1), E2'.j (show 22 < 35 by decide) ((g2 22 (by decide)).trans t2), E2'.o, p3, q3.o, p4, q5.o, g_told q5 cj j2 lq, xob_some, cond_true]) (s := T2) W2
        obtain ⟨T, t1, t2, t3⟩ := key
        refine ⟨T, xcI_of ((e_X11_report_0 P m (iI r) (iI j) S').trans ?_), t2, (fr1.tr fr2).tr t3⟩
        rw [e0.o, cond_true, g_isRunner e0 hR i1 i2, if_pos ci, xob_some]
        dsimp only
        rw [if_neg (by decide +kernel), if_pos cI, b1, xob_some, E1.o, cond_true, c3, xob_some]
        exact t1
    · have cI : ¬ iI (-1) ≤ iI j := by rw [iI_le (by omega) (by omega) j1 j2]; exact cj
      refine ⟨iI (-1), A, ⟨S, xcI_of ((e_X10_report_0 P x (iI r) (iI j) S).trans ?_), H, xfr.rf⟩, fun S' M => ?_⟩
      · simp only [H.r0, hF.o, d_has hF i1 i2, if_pos ci, if_neg cI, xob_some, cond_true, t_10, t_00, ne_eq, not_true_eq_false, not_false_eq_true, if_true, if_false]
      · obtain ⟨ob, e0, -, -, hR, -⟩ := id M
        refine ⟨S', xcI_of ((e_X11_report_0 P m (iI r) (iI j) S').trans ?_), M, xfr.rf⟩
        simp only [e0.o, g_isRunner e0 hR i1 i2, if_pos ci, if_neg cI, xob_some, cond_true, t_10, t_00, ne_eq, not_true_eq_false, not_false_eq_true, if_true, if_false]
  · refine ⟨iI (-1), A, ⟨S, xcI_of ((e_X10_report_0 P x (iI i) (iI j) S).trans ?_), H, xfr.rf⟩, fun S' M => ?_⟩
    · simp only [H.r0, hF.o, d_has hF i1 i2, if_neg ci, xob_some, cond_true, t_10, t_00, ne_eq, not_true_eq_false, not_false_eq_true, if_true, if_false]
    · obtain ⟨ob, e0, -, -, hR, -⟩ := id M
      refine ⟨S', xcI_of ((e_X11_report_0 P m (iI i) (iI j) S').trans ?_), M, xfr.rf⟩
      simp only [e0.o, g_isRunner e0 hR i1 i2, if_neg ci, xob_some, cond_true, t_10, t_00, ne_eq, not_true_eq_false, not_false_eq_true, if_true, if_false]
end RP
