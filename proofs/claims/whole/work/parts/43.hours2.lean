-- deps: 42.hours
/-! hours, hoursBy: the class and the reference -/
section HY
variable {P : Nat → Nat} {S : xS} {x m : Nat} {A : xAb}
theorem xSo_ln {n : Nat} {u v : Nat → Int} {sc : Int} (h : xSo n u v) (hv : ∀ k, k < n → v k ≤ sc) (hs : 0 ≤ sc) : 0 ≤ xln u v n ∧ xln u v n ≤ sc := by
  match n, h, hv with
  | 0, _, _ => exact ⟨Int.le_refl _, hs⟩
  | n + 1, h, hv =>
    have b := xln_bd h n (by omega)
    have := hv n (by omega)
    have b2 := h.1 n (by omega)
    simp only [xln] at b ⊢
    omega
theorem d_addsUp {ob : Nat → Value} {n : Nat} {u v : Nat → Int} {sc : Int} (hM : xMo S m ob) (h20 : ob 20 = .int (iI n)) (hu : xEn S (m + 10) (m + 11) n sc u) (hv : xEn S (m + 12) (m + 13) n sc v) (hSo : xSo n u v) (hn : n ≤ 1300) (hb : ∀ k, k < n → v k ≤ sc) (hs : 0 < sc) (sc1 : sc ≤ 800000000000000) :
    ∃ S1 ob1, xcV P m_X11_addsUp [.ref m] S = some S1 ∧ xMo S1 m ob1 ∧ (∀ k, k ≠ 21 → k ≠ 22 → ob1 k = ob k) ∧ xHo ob1 sc (xln u v n) ∧ xfr S S1 (fun c => c = m) := by
  obtain ⟨S0, ob0, i1, i2, i3, i4, i5⟩ := d_beginsHours (P := P) hM hs
  have key := xloopQ (run := fun k (Z : xS) => xrun P m_X11_addsUp 6 [(0, .ref m), (1, .int (iI k))] [] Z)
    (Inv := fun k Z => ∃ ob1, xMo Z m ob1 ∧ (∀ k, k ≠ 21 → k ≠ 22 → ob1 k = ob k) ∧ xHo ob1 sc (xln u v k) ∧ xfr S Z (fun c => c = m))
    (fun res => ∃ S1 ob1, res = some (none, S1) ∧ xMo S1 m ob1 ∧ (∀ k, k ≠ 21 → k ≠ 22 → ob1 k = ob k) ∧ xHo ob1 sc (xln u v n) ∧ xfr S S1 (fun c => c = m)) 0 n (by omega) (fun k Z _ hk hZ => by
      obtain ⟨ob1, h1, h2, h3, h4⟩ := hZ
      have lb := xln_bd hSo k hk
      have vb := hSo.1 k hk
      have vb2 := hb k hk
      obtain ⟨p, q, r1, r2, q0, q1, e1⟩ := (hv.fr h4 (by omega) (by omega)).rd hk hn
      obtain ⟨Z1, ob2, j1, j2, j3, j4, j5⟩ := d_adds (P := P) h1 h3 hs (by omega) q0 q1 e1 (by omega) (by omega) (by omega) (Or.inr (by omega))
      have h5 := h4.tr j5
      obtain ⟨p', q', r3, r4, q0', q1', e2⟩ := (hu.fr h5 (by omega) (by omega)).rd hk hn
      obtain ⟨Z2, ob3, l1, l2, l3, l4, l5⟩ := d_adds (P := P) j2 j4 hs (by omega) (p := -p') (q := q') (Y := -u k) q0' q1' (by rw [Int.neg_mul, Int.neg_mul, e2]) (by omega) (by omega) (by omega) (Or.inr (by omega))
      refine Or.inr ⟨Z2, ?_, ob3, l2, fun k a b => (l3 k a b).trans ((j3 k a b).trans (h2 k a b)), ?_, h5.tr l5⟩
      · rw [e_X11_addsUp_6, h1.i (by omega) ((h2 20 (by decide) (by decide)).trans h20), xob_some]
        simp (disch := omega) only [iI_le]
        rw [if_neg (by omega), h1.r18, xob_some, r1, xob_some, h1.r19, xob_some, r2, xob_some, h1.o, cond_true, j1, xob_some, j2.r16, xob_some, r3, xob_some, j2.r17, xob_some, r4, xob_some, j2.o, cond_true, jI_neg, l1, xob_some, iI_suc]
      · simp only [xln]
        rw [show xln u v k + (v k - u k) = xln u v k + v k + -u k by omega]
        exact l4) (fun Z hZ => by
      obtain ⟨ob1, h1, h2, h3, h4⟩ := hZ
      refine ⟨Z, ob1, ?_, h1, h2, h3, h4⟩
      rw [e_X11_addsUp_6, h1.i (by omega) ((h2 20 (by decide) (by decide)).trans h20), xob_some]
      simp (disch := omega) only [iI_le]
      rw [if_pos (by omega)]) (s := S0) ⟨ob0, i2, i3, i4, i5⟩
  obtain ⟨S1, ob1, k1, k2⟩ := key
  refine ⟨S1, ob1, xcV_of ((e_X11_addsUp_0 P m S).trans ?_), k2⟩
  rw [hM.o, cond_true, i1, xob_some]
  exact k1
/-- what it tells in the end -/
theorem xHo.told {ob : Nat → Value} {sc X : Int} (h : xHo ob sc X) (hM : xMo S m ob) (hs : 0 < sc) (sc1 : sc ≤ 4611686018427387903) (hX : 0 ≤ X ∧ X ≤ sc) (l : Bool) : ∃ ht hb, xfJ S m 11 21 = some (jI ht) ∧ xfJ S m 11 22 = some (jI hb) ∧ xcJ P m_X11_part [.long (jI ht), .long (jI hb), .int (iI (xb l))] S = some (jI (xpo X sc l), S) := by
  obtain ⟨ht, hb, h1, h2, h3, h4, h5⟩ := h
  have hd := Int.le_of_dvd hs (x_hb_dvd h4 h5)
  have b := x_tt_bd hs h3 h5 hX.1 hX.2
  exact ⟨ht, hb, hM.j (by omega) h1, hM.j (by omega) h2, by rw [d_part b.1 (by omega) (by omega) (by omega), xpo_eq b.1 (by omega) hX.1 hs h5]⟩
theorem z_hours (H : xCl S x A) {i : Int} (i1 : -2147483648 ≤ i) (i2 : i < 2147483648) (l : Bool) : ∃ v A', xKJ P S x m_X10_hours [.int (iI i), .int (iI (xb l))] v A' ∧ ∀ S', xMl S' m A → xGJ P S' m m_X11_hours [.int (iI i), .int (iI (xb l))] v A' := by
  have hF := H.2.1
  have hk := hF.1.1
  by_cases ci : 0 ≤ i ∧ i < A.1.1
  · obtain ⟨r, rfl⟩ : ∃ r : Nat, i = r := ⟨i.toNat, by omega⟩
    obtain ⟨S1, s1, s2, l1, l2, sc, pt, n, u, v, k1, k2, k3, k4, k5, k6, k7, k8⟩ := d_watchDt (P := P) H (show r < A.1.1 by omega)
    have lb := xSo_ln k6.2.1 (fun k hk => (k6.bd hk).2.2) (show 0 ≤ sc by omega)
    refine ⟨jI (xpo (xln u v n) sc l), A, ⟨S1, xcJ_of ((e_X10_hours_0 P x (iI r) (iI (xb l)) S).trans ?_), k2, k3⟩, fun S' M => ?_⟩
    · simp only [H.r0, hF.o, d_has hF i1 i2, if_pos ci, H.o, k1, k2.r10, k4.o, d_spans k4, k5.o, d_slength k5, d_scale k4, xob_some, cond_true, t_10, t_00, ne_eq, not_true_eq_false, not_false_eq_true, if_true, if_false]
      rw [d_partOf lb.1 (by omega) (by omega) (by omega), xob_some]
    · obtain ⟨S2, ob1, j1, j2, j3, j4, j5, j6, j7⟩ := d_laysStretches (P := P) M (show r < A.1.1 by omega) k6
      obtain ⟨S3, ob2, w1, w2, w3, w4, w5⟩ := d_addsUp (P := P) j4 j5 j6 j7 k6.2.1 (by have := k6.2.2.1; omega) (fun k hk => (k6.bd hk).2.2) (by omega) (by omega)
      obtain ⟨ht, hb, t1, t2, t3⟩ := w4.told (P := P) w2 (by omega) (by omega) lb l
      obtain ⟨ob, e0, -, -, hR, -⟩ := id M
      obtain ⟨y1, y2⟩ := j2.re j4 (w5.mono (fun c h => Or.inl h)) w2 (w3 5 (by decide) (by decide)) (w3 28 (by decide) (by decide)) (fun d d0 d1 => by
        obtain ⟨ob', -, -, -, -, -, -, -, -, a1, a2, a3, a4, a5, a6, a7, a8, a9, -⟩ := j2
        have hd : d = 8 ∨ d = 9 ∨ d = 10 ∨ d = 11 ∨ d = 12 ∨ d = 13 := by omega
        rcases hd with rfl | rfl | rfl | rfl | rfl | rfl
        · exact a4.fr w5 (by omega)
        · exact a5.fr w5 (by omega)
        · exact a6.fr w5 (by omega)
        · exact a7.fr w5 (by omega)
        · exact a8.fr w5 (by omega)
        · exact a9.fr w5 (by omega))
      refine ⟨S3, xcJ_of ((e_X11_hours_0 P m (iI r) (iI (xb l)) S').trans ?_), y1, j3.tr y2⟩
      simp only [e0.o, g_isRunner e0 hR i1 i2, if_pos ci, j1, j4.o, w1, t1, t2, t3, xob_some, cond_true, t_10, t_00, ne_eq, not_true_eq_false, not_false_eq_true, if_true, if_false]
  · refine ⟨jI (-1), A, ⟨S, xcJ_of ((e_X10_hours_0 P x (iI i) (iI (xb l)) S).trans ?_), H, xfr.rf⟩, fun S' M => ?_⟩
    · simp only [H.r0, hF.o, d_has hF i1 i2, if_neg ci, xob_some, cond_true, t_10, t_00, ne_eq, not_true_eq_false, not_false_eq_true, if_true, if_false]
    · obtain ⟨ob, e0, -, -, hR, -⟩ := id M
      refine ⟨S', xcJ_of ((e_X11_hours_0 P m (iI i) (iI (xb l)) S').trans ?_), M, xfr.rf⟩
      simp only [e0.o, g_isRunner e0 hR i1 i2, if_neg ci, xob_some, cond_true, t_10, t_00, ne_eq, not_true_eq_false, not_false_eq_true, if_true, if_false]
/-- times laid, spans of what changes at such times alone -/
theorem xSW_gen {nT n : Nat} {T u v : Nat → Int} {sc : Int} {ob : Nat → Value} {L : Int → Prop} (hT : xTn S m ob nT sc T) (hSo : xSo n u v) (hm : ∀ t, xme n u v t ↔ 0 ≤ t ∧ t ≤ 2 * sc ∧ L t) (h0 : xmm nT T 0) (h1 : xmm nT T sc)
    (hC : ∀ a b t t', 0 ≤ a → b ≤ sc → (∀ Y, a < Y → Y < b → ¬ xmm nT T Y) → 2 * a < t → t < 2 * b → 2 * a ≤ t' → t' ≤ 2 * b → L t → L t') : xSW nT T sc n u v := by
  obtain ⟨t1, t2, tt, tb, f, g, t3, t4, t5, t6, t7, -⟩ := hT
  refine ⟨t7, fun k hk => (t6 k hk).2.2.2, h0, h1, hSo, fun t ht => ⟨((hm t).mp ht).1, ((hm t).mp ht).2.1⟩, fun k hk1 t t' a1 a2 a3 a4 ht => ?_⟩
  have bk := (t6 k (by omega)).2.2.2
  have bk1 := (t6 (k + 1) hk1).2.2.2
  refine (hm t').mpr ⟨by omega, by omega, hC (T k) (T (k + 1)) t t' bk.1 bk1.2 (fun Y y1 y2 hY => ?_) a1 a2 a3 a4 ((hm t).mp ht).2.2⟩
  obtain ⟨k', hk', e⟩ := hY
  by_cases d : k' ≤ k
  · by_cases d2 : k' = k
    · subst d2; omega
    · have := x_mono t7 k' k (by omega) (by omega)
      omega
  · by_cases d2 : k' = k + 1
    · subst d2; omega
    · have := x_mono t7 (k + 1) k' (by omega) (by omega)
      omega
/-- behind such a walk of the reference -/
theorem xMl.lh {S0 Z : xS} {ob ob0 : Nat → Value} {nT : Nat} {T : Nat → Int} {sc X : Int} {D : Int → Prop} {n0 : Nat} (H : xMl S m A) (e0 : xMo S m ob) (hS0 : xLT S m ob sc S0 n0 D) (h15 : ∀ k, k ≠ 15 → ob0 k = ob k) (h : xLH S0 m ob0 nT T sc X Z) : xMl Z m A ∧ xfr S Z (xrg m 19) := by
  obtain ⟨ob1, T1, q1, q2, q3, q4, q5⟩ := hS0
  obtain ⟨ob2, h1, h2, h3, h4, h5⟩ := h
  have f := q5.tr (h5.mono (fun c h => Or.inl h) : xfr S0 Z (fun c => c = m ∨ c = m + 8 ∨ c = m + 9))
  refine H.re e0 (f.mono (fun c h => by omega)) h1 ((h2 5 (by decide) (by decide)).trans (h15 5 (by decide))) ((h2 28 (by decide) (by decide)).trans (h15 28 (by decide))) (fun d d0 d1 => ?_)
  obtain ⟨ob', -, -, -, -, -, -, -, -, a1, a2, a3, a4, a5, a6, a7, a8, a9, -⟩ := H
  have hd : d = 8 ∨ d = 9 ∨ d = 10 ∨ d = 11 ∨ d = 12 ∨ d = 13 := by omega
  rcases hd with rfl | rfl | rfl | rfl | rfl | rfl
  · exact h3.jr.1
  · exact h3.jr.2
  · exact a6.fr f (by omega)
  · exact a7.fr f (by omega)
  · exact a8.fr f (by omega)
  · exact a9.fr f (by omega)
theorem z_hoursBy (H : xCl S x A) {i u w : Int} (i1 : -2147483648 ≤ i) (i2 : i < 2147483648) (u1 : -2147483648 ≤ u) (u2 : u < 2147483648) (w1 : -2147483648 ≤ w) (w2 : w < 2147483648) (l : Bool) : ∃ v A', xKJ P S x m_X10_hoursBy [.int (iI i), .int (iI u), .int (iI w), .int (iI (xb l))] v A' ∧ ∀ S', xMl S' m A → xGJ P S' m m_X11_hoursBy [.int (iI i), .int (iI u), .int (iI w), .int (iI (xb l))] v A' := by
  have hF := H.2.1
  have hk := hF.1.1
  have ew1 : (iI w < iI 1) ↔ w < 1 := iI_lt w1 w2 (by omega) (by omega)
  have ew2 : (iI 12 < iI w) ↔ 12 < w := iI_lt (by omega) (by omega) w1 w2
  have eu1 : (iI u < (0 : Int32)) ↔ u < 0 := by rw [iI_0]; exact iI_lt u1 u2 (by omega) (by omega)
  have eu2 : (iI u ≤ iI w) ↔ u ≤ w := iI_le u1 u2 w1 w2
  have lng : iI 12 = iI 12 := rfl
  by_cases ci : 0 ≤ i ∧ i < A.1.1
  · by_cases cw : 1 ≤ w ∧ w ≤ 12
    · by_cases cu : 0 ≤ u ∧ u ≤ w
      · obtain ⟨r, rfl⟩ : ∃ r : Nat, i = r := ⟨i.toNat, by omega⟩
        have hr : r < A.1.1 := by omega
        -- the class
        obtain ⟨s1, s2, l1, l2, sc0, pt0, hw, ho⟩ := H.va.w
        obtain ⟨T, G, k1, k2, k3, k4, k5, k6⟩ := d_measureFor (P := P) hw.1 hF (by omega) (x_bit1 (i := r) (by omega)) (w := w.toNat) (by omega) (by omega)
        rw [Int.toNat_of_nonneg (show 0 ≤ w by omega)] at k1
        rw [x_ct1, if_pos hr] at k5
        have hF1 := hF.fr k6 (fun b hb hz => by unfold x3 at hb; omega)
        have hw1 : xVw T (x + 68) s1 s2 l1 l2 ((Nat.lcm 12 w.toNat * G : Nat) : Int) ((Nat.lcm 12 w.toNat : Nat) : Int) := by
          obtain ⟨-, e2, e3, e4⟩ := hw
          have hs := k2.2.1
          exact ⟨k2, e2.fr k6 (fun b hb hz => by unfold x3 at hb; omega), e3.fr k6 (fun b hb hz => by unfold x3 at hb; omega), e4.fr k6 (fun b hb hz => by unfold x3 at hb; omega)⟩
        have ho1 := ho.fr k6 (fun b hb hz => by unfold x3 at hb; omega)
        have hm : xsc2 ((Nat.lcm 12 w.toNat * G : Nat) : Int) ((Nat.lcm 12 w.toNat : Nat) : Int) G w.toNat := ⟨rfl, rfl, k3, by omega, by omega⟩
        have hg := k4 r hr (decide_eq_true rfl)
        obtain ⟨m1, ⟨pw, m2⟩, ⟨p12, m3⟩, m4, m5, m6, m7⟩ := hm.use
        rw [Int.toNat_of_nonneg (show 0 ≤ w by omega)] at m2
        have bG := xLc_le k3
        have bs := x_mul_bd (show (0 : Int) ≤ ((Nat.lcm 12 w.toNat : Nat) : Int) by omega) m5 (show (0 : Int) ≤ G by omega) (show (G : Int) ≤ 102400000 by simp at k5; omega)
        generalize hsc : ((Nat.lcm 12 w.toNat * G : Nat) : Int) = sc at *
        generalize hpt : ((Nat.lcm 12 w.toNat : Nat) : Int) = pt at *
        obtain ⟨S1, s1', s2', n, u', v', a1, a2, a3, a4, a5, a6, a7⟩ := d_watch (P := P) hw1 ho1 hF1 (by omega) hr k3 m1 m2 m3 m4 m5 cu.1 cu.2 cw.1 cw.2 hg
        have f1 : xfr S T (xrg (x + 68) 13) := k6.mono (fun c hc => ⟨by omega, by omega⟩)
        have f2 := f1.tr a7
        obtain ⟨c1, c2⟩ := H.vi (f2.mono (fun b hb => by unfold xrg at hb ⊢; omega)) (H.va.wb f2 a2 a3)
        have vb : ∀ k, k < n → v' k ≤ sc := fun k hk => by
          have b := a4.1.1 k hk
          have := ((a6 (2 * v' k)).mp ⟨k, hk, by omega, by omega⟩).2.1
          omega
        have lb := xSo_ln a4.1 vb (show 0 ≤ sc by omega)
        have r0 : xfR T x 10 0 = some (x + 1) := xfR_at ((k6.2 x (by omega)).trans H.1) rfl
        have r10 : xfR T x 10 10 = some (x + 68) := xfR_at ((k6.2 x (by omega)).trans H.1) rfl
        refine ⟨jI (xpo (xln u' v' n) sc l), A, ⟨S1, xcJ_of ((e_X10_hoursBy_0 P x (iI r) (iI u) (iI w) (iI (xb l)) S).trans ?_), c1, c2⟩, fun S' M => ?_⟩
        · simp only [H.r0, H.r10, hF.o, d_has hF i1 i2, if_pos ci, xob_some, cond_true, t_10, t_00, ne_eq, not_true_eq_false, not_false_eq_true, if_true, if_false]
          rw [if_neg (fun z => by have := ew1.mp z; omega), if_neg (fun z => by have := ew2.mp z; omega), if_neg (fun z => by have := eu1.mp z; omega), if_pos (eu2.mpr cu.2)]
          simp only [hw.1.o, k1, r0, r10, k2.o, a1, c1.r10, a2.1.o, d_spans a2.1, a4.o, d_slength a4, d_scale a2.1, xob_some, cond_true, t_10, t_00, ne_eq, not_true_eq_false, not_false_eq_true, if_true, if_false]
          rw [d_partOf lb.1 (by omega) (by omega) (by omega), xob_some]
        · obtain ⟨ob, e0, e1, e2, e3, e4, e5, e6, e7, e8⟩ := id M
          obtain ⟨Z1, n1, b1, b2, b3⟩ := d_beginsTurns (P := P) e0 e8.2.2.2.1 e8.2.2.2.2.1 (show 0 < sc by omega)
          have hR : ∀ (Z : xS) (n' : Nat) (D' : Int → Prop), xLT S' m ob sc Z n' D' → xRo Z (m + 1) A.1 := by
            intro Z n' D' h
            obtain ⟨ob', T', -, -, -, -, hf⟩ := h
            exact e3.fr hf (by omega)
          obtain ⟨ob1, T1, hM1, q1, q2, q3, q4⟩ := id b3
          obtain ⟨Z2, n2, j1, j2, j3, j4⟩ := d_laysTurnsOf (P := P) hM1 (hR _ _ _ b3) (show 0 < sc by omega) hr (u := u) (w := w) cw.1 cw.2 cu.1 (by omega) m1 m2 m3 (xhg_mg hg) (q1 1 (by decide)) b3 hR (by omega)
          obtain ⟨ob2, T2, hM2, y1, y2, y3, y4⟩ := id j4
          have hsg : xsg A.1 r w pt pw p12 G sc := ⟨m1, m2, m3, by omega, by omega, xhg_mg hg⟩
          have hW : xSW n2 T2 sc n u' v' := xSW_gen (L := fun t => xfar A.1 r u w (12 * t) (2 * sc)) y2 a4.1 a6 ((y3 0).mpr (Or.inl (Or.inl rfl))) ((y3 sc).mpr (Or.inl (Or.inr rfl))) (fun a b t t' a0 b0 hno h1 h2 h3 h4 hl => x_const hsg (by omega) cu.1 a0 b0 (fun Y y1 y2 j hj hji hc => hno Y y1 y2 ((y3 Y).mpr (Or.inr ⟨by omega, by omega, j, hj, hji, hc⟩))) h1 h2 h3 h4 hl)
          obtain ⟨Z3, ob3, g1, g2, g3, g4, g5⟩ := d_beginsHours (P := P) hM2 (show 0 < sc by omega)
          have hL3 : xLH Z2 m ob2 n2 T2 sc (xcu n u' v' T2 0) Z3 := ⟨ob3, g2, g3, y2.fr g5 (by omega) (by omega) (g3 15 (by decide) (by decide)), g4, g5⟩
          have p := hW.pos
          have dd : ∀ p q, Decidable (xfar A.1 r u w (12 * p) q) := fun _ _ => Classical.propDecidable _
          have key := xloopQ (run := fun k (Z : xS) => xrun P m_X11_hoursBy 53 [(0, .ref m), (1, .int (iI r)), (2, .int (iI u)), (3, .int (iI w)), (4, .int (iI (xb l))), (5, .int (iI k))] [] Z)
            (Inv := fun k Z => xLH Z2 m ob2 n2 T2 sc (xcu n u' v' T2 k) Z)
            (fun res => ∃ Z, res = some (some (.long (jI (xpo (xln u' v' n) sc l))), Z) ∧ xLH Z2 m ob2 n2 T2 sc (xcu n u' v' T2 (n2 - 1)) Z) 0 (n2 - 1) (by omega) (fun k Z _ hk hZ => by
              refine Or.inr ?_
              obtain ⟨obz, z1, z2, z3, z4, z5⟩ := id hZ
              have b1300 := z3.1
              have hRz : xRo Z (m + 1) A.1 := (hR _ _ _ j4).fr z5 (by omega)
              obtain ⟨p, q, f1, f2, f3, f4, f5, f6, f7⟩ := d_middle (P := P) z1 z3 (show 0 < sc by omega) (show k + 1 < n2 by omega)
              have hf := g_isFar (P := P) z1 hRz hr f3 f4 f5 f6 cu.1 (show u ≤ 12 by omega) (show 0 ≤ w by omega) cw.2
              have hfa := xfar_at A.1 r (u := u) (w := w) (show 0 < q by omega) (show 0 < sc by omega) f7
              have bk := hW.2.1 k (by omega)
              have bk1 := hW.2.1 (k + 1) (by omega)
              have cb := xcu_bd hW k (by omega)
              have mm := a6 (T2 k + T2 (k + 1))
              have start : xrun P m_X11_hoursBy 53 [(0, .ref m), (1, .int (iI r)), (2, .int (iI u)), (3, .int (iI w)), (4, .int (iI (xb l))), (5, .int (iI k))] [] Z = (if iI (if xfar A.1 r u w (12 * p) q then 1 else 0) = 0 then xrun P m_X11_hoursBy 53 [(0, .ref m), (1, .int (iI r)), (2, .int (iI u)), (3, .int (iI w)), (4, .int (iI (xb l))), (5, .int (iI (k + 1 : Nat)))] [] Z else (bif xisO Z m 11 then (xob (xcV P m_X11_addsBetween [.ref m, .int (iI k)] Z) none fun q8 => xrun P m_X11_hoursBy 53 [(0, .ref m), (1, .int (iI r)), (2, .int (iI u)), (3, .int (iI w)), (4, .int (iI (xb l))), (5, .int (iI (k + 1 : Nat)))] [] q8) else none)) := by
                rw [e_X11_hoursBy_53, z1.i (by omega) z3.2.1, xob_some, iI_suc, if_neg (by rw [iI_le (by omega) (by omega) (by omega) (by omega)]; omega), z1.o, cond_true, f1, xob_some]
                dsimp only
                rw [z1.o, cond_true, f2, xob_some]
                dsimp only
                rw [z1.o, cond_true, hf, xob_some]
                dsimp only
                rw [z1.o]
              by_cases c : xme n u' v' (T2 k + T2 (k + 1))
              · have cf : xfar A.1 r u w (12 * p) q := hfa.mpr (mm.mp c).2.2
                obtain ⟨Z', x1, x2⟩ := d_addsBetween (P := P) hZ (show 0 < sc by omega) (by omega) (show k + 1 < n2 by omega) cb.1 cb.2
                refine ⟨Z', ?_, by simp only [xcu]; rw [if_pos c]; exact x2⟩
                rw [start, if_pos cf, if_neg (by decide +kernel), z1.o, cond_true, x1, xob_some]
              · have cf : ¬ xfar A.1 r u w (12 * p) q := fun z => c (mm.mpr ⟨by omega, by omega, hfa.mp z⟩)
                refine ⟨Z, ?_, by simp only [xcu]; rw [if_neg c, Int.add_zero]; exact hZ⟩
                rw [start, if_neg cf, if_pos (by decide +kernel)]) (fun Z hZ => by
              obtain ⟨obz, z1, z2, z3, z4, z5⟩ := id hZ
              have b1300 := z3.1
              rw [xcu_ln hW] at z4
              obtain ⟨ht, hb, t1, t2, t3⟩ := z4.told (P := P) z1 (by omega) (by omega) lb l
              refine ⟨Z, ?_, hZ⟩
              rw [e_X11_hoursBy_53, z1.i (by omega) z3.2.1, xob_some, iI_suc, if_pos (by rw [iI_le (by omega) (by omega) (by omega) (by omega)]; omega), t1, xob_some, t2, xob_some, t3, xob_some]) (s := Z3) hL3
          obtain ⟨Z4, v1, v2⟩ := key
          obtain ⟨x1, x2⟩ := M.lh e0 j4 y1 v2
          refine ⟨Z4, xcJ_of ((e_X11_hoursBy_0 P m (iI r) (iI u) (iI w) (iI (xb l)) S').trans ?_), x1, x2⟩
          simp (disch := omega) only [e0.o, g_isRunner e0 e3 i1 i2, if_pos ci, iI_ji, d_in, xob_some, cond_true, t_10, t_00, ne_eq, not_true_eq_false, not_false_eq_true, if_true, if_false]
          rw [if_pos cw, if_neg (by decide +kernel), if_pos cu, if_pos (by decide +kernel), b1, xob_some, hM1.o, cond_true, j1, xob_some, hM2.o, cond_true, g1, xob_some]
          exact v1
      · refine ⟨jI (-1), A, ⟨S, xcJ_of ((e_X10_hoursBy_0 P x (iI i) (iI u) (iI w) (iI (xb l)) S).trans ?_), H, xfr.rf⟩, fun S' M => ?_⟩
        · simp only [H.r0, hF.o, d_has hF i1 i2, if_pos ci, xob_some, cond_true, t_10, t_00, ne_eq, not_true_eq_false, not_false_eq_true, if_true, if_false]
          rw [if_neg (fun z => by have := ew1.mp z; omega), if_neg (fun z => by have := ew2.mp z; omega)]
          by_cases c : u < 0
          · rw [if_pos (eu1.mpr c)]
          · rw [if_neg (fun z => c (eu1.mp z)), if_neg (fun z => by have := eu2.mp z; omega)]
        · obtain ⟨ob, e0, -, -, hR, -⟩ := id M
          refine ⟨S', xcJ_of ((e_X11_hoursBy_0 P m (iI i) (iI u) (iI w) (iI (xb l)) S').trans ?_), M, xfr.rf⟩
          simp (disch := omega) only [e0.o, g_isRunner e0 hR i1 i2, if_pos ci, iI_ji, d_in, xob_some, cond_true, t_10, t_00, ne_eq, not_true_eq_false, not_false_eq_true, if_true, if_false]
          rw [if_pos cw, if_neg (by decide +kernel), if_neg cu, if_neg (by decide +kernel)]
    · refine ⟨jI (-1), A, ⟨S, xcJ_of ((e_X10_hoursBy_0 P x (iI i) (iI u) (iI w) (iI (xb l)) S).trans ?_), H, xfr.rf⟩, fun S' M => ?_⟩
      · simp only [H.r0, hF.o, d_has hF i1 i2, if_pos ci, xob_some, cond_true, t_10, t_00, ne_eq, not_true_eq_false, not_false_eq_true, if_true, if_false]
        by_cases c : w < 1
        · rw [if_pos (ew1.mpr c)]
        · rw [if_neg (fun z => c (ew1.mp z)), if_pos (ew2.mpr (by omega))]
      · obtain ⟨ob, e0, -, -, hR, -⟩ := id M
        refine ⟨S', xcJ_of ((e_X11_hoursBy_0 P m (iI i) (iI u) (iI w) (iI (xb l)) S').trans ?_), M, xfr.rf⟩
        simp (disch := omega) only [e0.o, g_isRunner e0 hR i1 i2, if_pos ci, iI_ji, d_in, xob_some, cond_true, t_10, t_00, ne_eq, not_true_eq_false, not_false_eq_true, if_true, if_false]
        rw [if_neg cw, if_pos (by decide +kernel)]
  · refine ⟨jI (-1), A, ⟨S, xcJ_of ((e_X10_hoursBy_0 P x (iI i) (iI u) (iI w) (iI (xb l)) S).trans ?_), H, xfr.rf⟩, fun S' M => ?_⟩
    · simp only [H.r0, hF.o, d_has hF i1 i2, if_neg ci, xob_some, cond_true, t_10, t_00, ne_eq, not_true_eq_false, not_false_eq_true, if_true, if_false]
    · obtain ⟨ob, e0, -, -, hR, -⟩ := id M
      refine ⟨S', xcJ_of ((e_X11_hoursBy_0 P m (iI i) (iI u) (iI w) (iI (xb l)) S').trans ?_), M, xfr.rf⟩
      simp only [e0.o, g_isRunner e0 hR i1 i2, if_neg ci, xob_some, cond_true, t_10, t_00, ne_eq, not_true_eq_false, not_false_eq_true, if_true, if_false]
end HY
