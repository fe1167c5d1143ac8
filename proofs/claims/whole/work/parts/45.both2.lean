-- deps: 44.both
section BZ
variable {P : Nat → Nat} {S : xS} {x m : Nat} {A : xAb}
theorem g_areTwo {ob : Nat → Value} {F : xF} (h : xMo S m ob) (hF : xRo S (m + 1) F) {i j : Int} (i1 : -2147483648 ≤ i) (i2 : i < 2147483648) (j1 : -2147483648 ≤ j) (j2 : j < 2147483648) : xcI P m_X11_areTwo [.ref m, .int (iI i), .int (iI j)] S = some (iI (if 0 ≤ i ∧ i < F.1 ∧ 0 ≤ j ∧ j < F.1 ∧ i ≠ j then 1 else 0), S) := by
  have e := iI_eq i1 i2 j1 j2
  refine xcI_of ((e_X11_areTwo_0 P m (iI i) (iI j) S).trans ?_)
  by_cases ci : 0 ≤ i ∧ i < F.1
  · by_cases cj : 0 ≤ j ∧ j < F.1
    · simp only [h.o, g_isRunner h hF i1 i2, if_pos ci, g_isRunner h hF j1 j2, if_pos cj, xob_some, cond_true, t_10, t_00, ne_eq, not_true_eq_false, not_false_eq_true, if_true, if_false, e]
      by_cases c : i = j
      · rw [if_pos c, if_neg (by omega)]
      · rw [if_neg c, if_pos (by omega)]
    · simp only [h.o, g_isRunner h hF i1 i2, if_pos ci, g_isRunner h hF j1 j2, if_neg cj, xob_some, cond_true, t_10, t_00, ne_eq, not_true_eq_false, not_false_eq_true, if_true, if_false]
      rw [if_neg (by omega)]
  · simp only [h.o, g_isRunner h hF i1 i2, if_neg ci, xob_some, cond_true, t_10, t_00, ne_eq, not_true_eq_false, not_false_eq_true, if_true, if_false]
    rw [if_neg (by omega)]
theorem z_both (H : xCl S x A) {i j : Int} (i1 : -2147483648 ≤ i) (i2 : i < 2147483648) (j1 : -2147483648 ≤ j) (j2 : j < 2147483648) (l : Bool) : ∃ v A', xKJ P S x m_X10_both [.int (iI i), .int (iI j), .int (iI (xb l))] v A' ∧ ∀ S', xMl S' m A → xGJ P S' m m_X11_both [.int (iI i), .int (iI j), .int (iI (xb l))] v A' := by
  have hF := H.2.1
  have hk := hF.1.1
  by_cases cb : 0 ≤ i ∧ i < A.1.1 ∧ 0 ≤ j ∧ j < A.1.1 ∧ i ≠ j
  · obtain ⟨r, rfl⟩ : ∃ r : Nat, i = r := ⟨i.toNat, by omega⟩
    obtain ⟨q, rfl⟩ : ∃ q : Nat, j = q := ⟨j.toNat, by omega⟩
    have hr : r < A.1.1 := by omega
    have hq : q < A.1.1 := by omega
    obtain ⟨s1, s2, l1, l2, sc0, pt0, hV⟩ := H.va.l
    obtain ⟨S1, s3, s4, l3, l4, sc, pt, G, n, u, v, k1, k2, k3, k4, k5, k6, k7, k8⟩ := d_lengthOfBoth (P := P) hV hF (by omega) hr hq
    obtain ⟨c1, c2⟩ := H.vi k8 k2.va
    obtain ⟨m1, ⟨pw, m2⟩, ⟨p12, m3⟩, m4, m5, m6, m7⟩ := k3.use
    have s6 := x_sc6 k3 (by omega)
    have vb : ∀ k, k < n → v k ≤ sc := fun k hk => by
      have b := k6.1 k hk
      have := ((k7 (2 * v k)).mp ⟨k, hk, by omega, by omega⟩).2.1
      omega
    have lb := xSo_ln k6 vb (show 0 ≤ sc by omega)
    refine ⟨jI (xpo (xln u v n) sc l), A, ⟨S1, xcJ_of ((e_X10_both_0 P x (iI r) (iI q) (iI (xb l)) S).trans ?_), c1, c2⟩, fun S' M => ?_⟩
    · simp only [H.r0, H.r10, hF.o, d_hasBoth hF i1 i2 j1 j2, if_pos cb, hV.1.1.o, k1, c1.r10, k2.1.1.o, d_scale k2.1.1, xob_some, cond_true, t_10, t_00, ne_eq, not_true_eq_false, not_false_eq_true, if_true, if_false]
      rw [d_partOf lb.1 (by omega) (by omega) (by omega), xob_some]
    · obtain ⟨ob, e0, e1, e2, e3, e4, e5, e6, e7, e8⟩ := id M
      obtain ⟨Z1, n1, b1, b2, b3⟩ := d_beginsTurns (P := P) e0 e8.2.2.2.1 e8.2.2.2.2.1 (show 0 < sc by omega)
      have hR : ∀ (Z : xS) (n' : Nat) (D' : Int → Prop), xLT S' m ob sc Z n' D' → xRo Z (m + 1) A.1 := by
        intro Z n' D' h
        obtain ⟨ob', T', -, -, -, -, hf⟩ := h
        exact e3.fr hf (by omega)
      obtain ⟨ob1, T1, hM1, q1, q2, q3, q4⟩ := id b3
      obtain ⟨Z2, n2, j1', j2', j3, j4⟩ := d_laysTurnsOf (P := P) hM1 (hR _ _ _ b3) (show 0 < sc by omega) hr (u := 1) (w := A.1.1) (by omega) (by omega) (by omega) (by omega) m1 m2 m3 (xhg_mg k4) (q1 1 (by decide)) b3 hR (by omega)
      obtain ⟨ob2, T2, hM2, y1, y2, y3, y4⟩ := id j4
      obtain ⟨Z3, n3, w1, w2, w3, w4⟩ := d_laysTurnsOf (P := P) hM2 (hR _ _ _ j4) (show 0 < sc by omega) hq (u := 1) (w := A.1.1) (by omega) (by omega) (by omega) (by omega) m1 m2 m3 (xhg_mg k5) (y1 1 (by decide)) j4 hR (by omega)
      obtain ⟨ob3, T3, hM3, t1, t2, t3, t4⟩ := id w4
      have hW : xSW n3 T3 sc n u v := xSW_gen t2 k6 k7 ((t3 0).mpr (Or.inl (Or.inl (Or.inl rfl)))) ((t3 sc).mpr (Or.inl (Or.inl (Or.inr rfl)))) (fun a b t t' a0 b0 hno h1 h2 h3 h4 hl => ⟨x_constL hr k3 k4 a0 b0 (fun Y y1 y2 j hj hji hc => hno Y y1 y2 ((t3 Y).mpr (Or.inl (Or.inr ⟨by omega, by omega, j, hj, hji, hc⟩)))) h1 h2 h3 h4 hl.1, x_constL hq k3 k5 a0 b0 (fun Y y1 y2 j hj hji hc => hno Y y1 y2 ((t3 Y).mpr (Or.inr ⟨by omega, by omega, j, hj, hji, hc⟩))) h1 h2 h3 h4 hl.2⟩)
      obtain ⟨Z4, ob4, g1, g2, g3, g4, g5⟩ := d_beginsHours (P := P) hM3 (show 0 < sc by omega)
      have hL4 : xLH Z3 m ob3 n3 T3 sc (xcu n u v T3 0) Z4 := ⟨ob4, g2, g3, t2.fr g5 (by omega) (by omega) (g3 15 (by decide) (by decide)), g4, g5⟩
      have p := hW.pos
      have key := xloopQ (run := fun k (Z : xS) => xrun P m_X11_both 48 [(0, .ref m), (1, .int (iI r)), (2, .int (iI q)), (3, .int (iI (xb l))), (4, .int (iI k))] [] Z)
        (Inv := fun k Z => xLH Z3 m ob3 n3 T3 sc (xcu n u v T3 k) Z)
        (fun res => ∃ Z, res = some (some (.long (jI (xpo (xln u v n) sc l))), Z) ∧ xLH Z3 m ob3 n3 T3 sc (xcu n u v T3 (n3 - 1)) Z) 0 (n3 - 1) (by omega) (fun k Z _ hk hZ => by
          refine Or.inr ?_
          obtain ⟨obz, z1, z2, z3, z4, z5⟩ := id hZ
          have b1300 := z3.1
          have hRz : xRo Z (m + 1) A.1 := (hR _ _ _ w4).fr z5 (by omega)
          obtain ⟨p, o, f1, f2, f3, f4, f5, f6, f7⟩ := d_middle (P := P) z1 z3 (show 0 < sc by omega) (show k + 1 < n3 by omega)
          have hf := g_isLonely (P := P) z1 hRz hr f3 f4 f5 f6
          have hf' := g_isLonely (P := P) z1 hRz hq f3 f4 f5 f6
          rw [xlo_at (by omega) (by omega) (by omega) f7] at hf hf'
          have bk := hW.2.1 k (by omega)
          have bk1 := hW.2.1 (k + 1) (by omega)
          have cb := xcu_bd hW k (by omega)
          have mm := k7 (T3 k + T3 (k + 1))
          by_cases c1 : xlo A.1 r (12 * (T3 k + T3 (k + 1))) (2 * sc) = true
          · by_cases c2 : xlo A.1 q (12 * (T3 k + T3 (k + 1))) (2 * sc) = true
            · have c : xme n u v (T3 k + T3 (k + 1)) := mm.mpr ⟨by omega, by omega, c1, c2⟩
              obtain ⟨Z', x1, x2⟩ := d_addsBetween (P := P) hZ (show 0 < sc by omega) s6 (show k + 1 < n3 by omega) cb.1 cb.2
              refine ⟨Z', ?_, by simp only [xcu]; rw [if_pos c]; exact x2⟩
              rw [if_pos c1] at hf
              rw [if_pos c2] at hf'
              rw [e_X11_both_48, z1.i (by omega) z3.2.1, xob_some, iI_suc, if_neg (by rw [iI_le (by omega) (by omega) (by omega) (by omega)]; omega)]
              simp only [z1.o, f1, f2, hf, hf', x1, xob_some, cond_true, t_10, t_00, ne_eq, not_true_eq_false, not_false_eq_true, if_true, if_false]
            · have c : ¬ xme n u v (T3 k + T3 (k + 1)) := fun z => c2 (mm.mp z).2.2.2
              refine ⟨Z, ?_, by simp only [xcu]; rw [if_neg c, Int.add_zero]; exact hZ⟩
              rw [if_pos c1] at hf
              rw [if_neg c2] at hf'
              rw [e_X11_both_48, z1.i (by omega) z3.2.1, xob_some, iI_suc, if_neg (by rw [iI_le (by omega) (by omega) (by omega) (by omega)]; omega)]
              simp only [z1.o, f1, f2, hf, hf', xob_some, cond_true, t_10, t_00, ne_eq, not_true_eq_false, not_false_eq_true, if_true, if_false]
          · have c : ¬ xme n u v (T3 k + T3 (k + 1)) := fun z => c1 (mm.mp z).2.2.1
            refine ⟨Z, ?_, by simp only [xcu]; rw [if_neg c, Int.add_zero]; exact hZ⟩
            rw [if_neg c1] at hf
            rw [e_X11_both_48, z1.i (by omega) z3.2.1, xob_some, iI_suc, if_neg (by rw [iI_le (by omega) (by omega) (by omega) (by omega)]; omega)]
            simp only [z1.o, f1, f2, hf, xob_some, cond_true, t_10, t_00, ne_eq, not_true_eq_false, not_false_eq_true, if_true, if_false]) (fun Z hZ => by
          obtain ⟨obz, z1, z2, z3, z4, z5⟩ := id hZ
          have b1300 := z3.1
          rw [xcu_ln hW] at z4
          obtain ⟨ht, hb, t1, t2, t3⟩ := z4.told (P := P) z1 (by omega) (by omega) lb l
          refine ⟨Z, ?_, hZ⟩
          rw [e_X11_both_48, z1.i (by omega) z3.2.1, xob_some, iI_suc, if_pos (by rw [iI_le (by omega) (by omega) (by omega) (by omega)]; omega), t1, xob_some, t2, xob_some, t3, xob_some]) (s := Z4) hL4
      obtain ⟨Z5, v1, v2⟩ := key
      obtain ⟨x1, x2⟩ := M.lh e0 w4 t1 v2
      refine ⟨Z5, xcJ_of ((e_X11_both_0 P m (iI r) (iI q) (iI (xb l)) S').trans ?_), x1, x2⟩
      simp only [e0.o, g_areTwo e0 e3 i1 i2 j1 j2, if_pos cb, b1, hM1.r1, g_K (hR _ _ _ b3), hM1.o, j1', hM2.r1, g_K (hR _ _ _ j4), hM2.o, w1, hM3.o, g1, xob_some, cond_true, t_10, t_00, ne_eq, not_true_eq_false, not_false_eq_true, if_true, if_false]
      exact v1
  · refine ⟨jI (-1), A, ⟨S, xcJ_of ((e_X10_both_0 P x (iI i) (iI j) (iI (xb l)) S).trans ?_), H, xfr.rf⟩, fun S' M => ?_⟩
    · simp only [H.r0, hF.o, d_hasBoth hF i1 i2 j1 j2, if_neg cb, xob_some, cond_true, t_10, t_00, ne_eq, not_true_eq_false, not_false_eq_true, if_true, if_false]
    · obtain ⟨ob, e0, -, -, hR, -⟩ := id M
      refine ⟨S', xcJ_of ((e_X11_both_0 P m (iI i) (iI j) (iI (xb l)) S').trans ?_), M, xfr.rf⟩
      simp only [e0.o, g_areTwo e0 hR i1 i2 j1 j2, if_neg cb, xob_some, cond_true, t_10, t_00, ne_eq, not_true_eq_false, not_false_eq_true, if_true, if_false]
theorem xcr_sym (F : xF) (i j : Nat) (u w sc Y : Int) : xcr F i j u w sc Y ↔ xcr F j i u w sc Y := by
  unfold xcr
  have e1 : xmg F i j = xmg F j i := by unfold xmg; omega
  rw [e1]
  constructor
  · rintro ⟨h, s, z, h1, h2⟩
    have e2 : xmr F i j = xmr F j i := by unfold xmr; split <;> split <;> omega
    rw [e2] at h2
    exact ⟨fun z => h z.symm, s, z, h1, h2⟩
  · rintro ⟨h, s, z, h1, h2⟩
    have e2 : xmr F i j = xmr F j i := by unfold xmr; split <;> split <;> omega
    rw [← e2] at h2
    exact ⟨fun z => h z.symm, s, z, h1, h2⟩
/-- whether someone is lonely -/
theorem g_isSomeone {ob : Nat → Value} {F : xF} (h : xMo S m ob) (hF : xRo S (m + 1) F) {p q : Int} (p0 : 0 ≤ p) (p1 : p ≤ 1000000000000) (q0 : 1 ≤ q) (q1 : q ≤ 1000000000000) [Decidable (∃ i, i < F.1 ∧ xlo F i (12 * p) q = true)] : xcI P m_X11_isSomeone [.ref m, .long (jI p), .long (jI q)] S = some (iI (if ∃ i, i < F.1 ∧ xlo F i (12 * p) q = true then 1 else 0), S) := by
  have hk := hF.1.1
  have key := xloopQ (run := fun r (_ : Unit) => xrun P m_X11_isSomeone 3 [(0, .ref m), (1, .long (jI p)), (3, .long (jI q)), (5, .int (iI r))] [] S)
    (Inv := fun r _ => ∀ i, i < r → ¬ xlo F i (12 * p) q = true)
    (fun res => res = some (some (.int (iI (if ∃ i, i < F.1 ∧ xlo F i (12 * p) q = true then 1 else 0))), S)) 0 F.1 (by omega) (fun r _ _ hr hI => by
      have hl := g_isLonely (P := P) h hF hr p0 p1 q0 q1
      by_cases c : xlo F r (12 * p) q = true
      · refine Or.inl ?_
        rw [if_pos c] at hl
        rw [e_X11_isSomeone_3, h.r1, xob_some, g_K hF, xob_some, if_neg (by rw [iI_le (by omega) (by omega) (by omega) (by omega)]; omega), if_pos ⟨r, hr, c⟩]
        simp only [h.o, hl, xob_some, cond_true, t_10, t_00, ne_eq, not_true_eq_false, not_false_eq_true, if_true, if_false]
      · refine Or.inr ⟨(), ?_, fun i hi => ?_⟩
        · rw [if_neg c] at hl
          rw [e_X11_isSomeone_3, h.r1, xob_some, g_K hF, xob_some, if_neg (by rw [iI_le (by omega) (by omega) (by omega) (by omega)]; omega)]
          simp only [h.o, hl, iI_suc, xob_some, cond_true, t_10, t_00, ne_eq, not_true_eq_false, not_false_eq_true, if_true, if_false]
        · by_cases e : i = r
          · subst e; exact c
          · exact hI i (by omega)) (fun _ hI => by
      rw [e_X11_isSomeone_3, h.r1, xob_some, g_K hF, xob_some, if_pos (by rw [iI_le (by omega) (by omega) (by omega) (by omega)]; omega), if_neg (fun ⟨i, hi, z⟩ => hI i hi z)]) (s := ()) (fun i hi => by omega)
  exact xcI_of ((e_X11_isSomeone_0 P m (jI p) (jI q) S).trans key)
theorem z_someone (H : xCl S x A) (l : Bool) : ∃ v A', xKJ P S x m_X10_someone [.int (iI (xb l))] v A' ∧ ∀ S', xMl S' m A → xGJ P S' m m_X11_someone [.int (iI (xb l))] v A' := by
  have hF := H.2.1
  have hk := hF.1.1
  by_cases c0 : A.1.1 = 0
  · have e0' : iI (A.1.1 : Int) = iI 0 := by rw [c0]; rfl
    refine ⟨jI (-1), A, ⟨S, xcJ_of ((e_X10_someone_0 P x (iI (xb l)) S).trans ?_), H, xfr.rf⟩, fun S' M => ?_⟩
    · simp only [H.r0, hF.o, d_size hF, e0', xob_some, cond_true, t_10, t_00, ne_eq, not_true_eq_false, not_false_eq_true, if_true, if_false]
    · obtain ⟨ob, e0, -, -, hR, -⟩ := id M
      refine ⟨S', xcJ_of ((e_X11_someone_0 P m (iI (xb l)) S').trans ?_), M, xfr.rf⟩
      simp only [e0.r1, g_K hR, e0', xob_some, cond_true, t_10, t_00, ne_eq, not_true_eq_false, not_false_eq_true, if_true, if_false]
  · have ne0 : (iI (A.1.1 : Int) = 0) = False := t_nz (by omega) (by omega) (by omega)
    obtain ⟨s1, s2, l1, l2, sc0, pt0, hV⟩ := H.va.l
    obtain ⟨S1, s3, s4, l3, l4, sc, pt, G, n, u, v, k1, k2, k3, k4, k6, k7, k8⟩ := d_lengthOfAny (P := P) hV hF (by omega) (by omega)
    obtain ⟨c1, c2⟩ := H.vi k8 k2.va
    obtain ⟨m1, ⟨pw, m2⟩, ⟨p12, m3⟩, m4, m5, m6, m7⟩ := k3.use
    have s6 := x_sc6 k3 (by omega)
    have vb : ∀ k, k < n → v k ≤ sc := fun k hk => by
      have b := k6.1 k hk
      have := ((k7 (2 * v k)).mp ⟨k, hk, by omega, by omega⟩).2.1
      omega
    have lb := xSo_ln k6 vb (show 0 ≤ sc by omega)
    refine ⟨jI (xpo (xln u v n) sc l), A, ⟨S1, xcJ_of ((e_X10_someone_0 P x (iI (xb l)) S).trans ?_), c1, c2⟩, fun S' M => ?_⟩
    · simp only [H.r0, H.r10, hF.o, d_size hF, ne0, hV.1.1.o, k1, c1.r10, k2.1.1.o, d_scale k2.1.1, xob_some, cond_true, t_10, t_00, ne_eq, not_true_eq_false, not_false_eq_true, if_true, if_false]
      rw [d_partOf lb.1 (by omega) (by omega) (by omega), xob_some]
    · obtain ⟨ob, e0, e1, e2, e3, e4, e5, e6, e7, e8⟩ := id M
      obtain ⟨Z1, n1, b1, b2, b3⟩ := d_beginsTurns (P := P) e0 e8.2.2.2.1 e8.2.2.2.2.1 (show 0 < sc by omega)
      have hR : ∀ (Z : xS) (n' : Nat) (D' : Int → Prop), xLT S' m ob sc Z n' D' → xRo Z (m + 1) A.1 := by
        intro Z n' D' h
        obtain ⟨ob', T', -, -, -, -, hf⟩ := h
        exact e3.fr hf (by omega)
      have tri : ∀ i : Nat, i < 6 → 82 * (i * (i - 1) / 2) ≤ 820 := by
        intro i hi
        have : ∀ i : Fin 6, 82 * (i.val * (i.val - 1) / 2) ≤ 820 := by decide
        exact this ⟨i, hi⟩
      have tri2 : ∀ i : Nat, i < 6 → (i + 1) * (i + 1 - 1) / 2 = i * (i - 1) / 2 + i := by
        intro i hi
        have : ∀ i : Fin 6, (i.val + 1) * (i.val + 1 - 1) / 2 = i.val * (i.val - 1) / 2 + i.val := by decide
        exact this ⟨i, hi⟩
      have tri3 : A.1.1 * (A.1.1 - 1) / 2 ≤ 15 := by
        have : ∀ i : Fin 7, i.val * (i.val - 1) / 2 ≤ 15 := by decide
        exact this ⟨A.1.1, by omega⟩
      -- all pairs
      have pairs := xloopQ (run := fun i (Z : xS × Nat) => xrun P m_X11_someone 19 [(0, .ref m), (1, .int (iI (xb l))), (2, .int (iI i))] [] Z.1)
        (Inv := fun i Z => Z.2 ≤ 2 + 82 * (i * (i - 1) / 2) ∧ xLT S' m ob sc Z.1 Z.2 (fun Y => (Y = 0 ∨ Y = sc) ∨ (0 ≤ Y ∧ Y ≤ sc ∧ ∃ i' j', i' < i ∧ j' < i' ∧ xcr A.1 i' j' 1 A.1.1 sc Y)))
        (fun res => ∃ Z n3 Z', xLT S' m ob sc Z n3 (fun Y => (Y = 0 ∨ Y = sc) ∨ (0 ≤ Y ∧ Y ≤ sc ∧ ∃ i' j', i' < A.1.1 ∧ j' < i' ∧ xcr A.1 i' j' 1 A.1.1 sc Y)) ∧ (∃ obq, xMo Z m obq ∧ xcV P m_X11_beginsHours [.ref m] Z = some Z') ∧ res = xrun P m_X11_someone 67 [(0, .ref m), (1, .int (iI (xb l))), (2, .int (iI 0))] [] Z') 0 A.1.1 (by omega) (fun i Z _ hi hZ => by
          obtain ⟨Z, n'⟩ := Z
          obtain ⟨hn', hL⟩ := hZ
          dsimp only at hn' hL ⊢
          refine Or.inr ?_
          obtain ⟨obq, Tq, hMq, hoq, -⟩ := id hL
          have t0 := tri2 i (by omega)
          have t1 := tri i (by omega)
          have inner := xloopQ (run := fun j (Z : xS × Nat) => xrun P m_X11_someone 31 [(0, .ref m), (1, .int (iI (xb l))), (2, .int (iI i)), (3, .int (iI j))] [] Z.1)
            (Inv := fun j Z => Z.2 ≤ 2 + 82 * (i * (i - 1) / 2) + 82 * j ∧ xLT S' m ob sc Z.1 Z.2 (fun Y => ((Y = 0 ∨ Y = sc) ∨ (0 ≤ Y ∧ Y ≤ sc ∧ ∃ i' j', i' < i ∧ j' < i' ∧ xcr A.1 i' j' 1 A.1.1 sc Y)) ∨ (0 ≤ Y ∧ Y ≤ sc ∧ ∃ j', j' < j ∧ xcr A.1 i j' 1 A.1.1 sc Y)))
            (fun res => ∃ Z n'', n'' ≤ 2 + 82 * (i * (i - 1) / 2) + 82 * i ∧ xLT S' m ob sc Z n'' (fun Y => ((Y = 0 ∨ Y = sc) ∨ (0 ≤ Y ∧ Y ≤ sc ∧ ∃ i' j', i' < i ∧ j' < i' ∧ xcr A.1 i' j' 1 A.1.1 sc Y)) ∨ (0 ≤ Y ∧ Y ≤ sc ∧ ∃ j', j' < i ∧ xcr A.1 i j' 1 A.1.1 sc Y)) ∧ res = xrun P m_X11_someone 19 [(0, .ref m), (1, .int (iI (xb l))), (2, .int (iI (i + 1 : Nat)))] [] Z) 0 i (by omega) (fun j Z _ hj hZ => by
              obtain ⟨Z, n'⟩ := Z
              obtain ⟨hn', hL⟩ := hZ
              dsimp only at hn' hL ⊢
              obtain ⟨obq, Tq, hMq, hoq, -⟩ := id hL
              obtain ⟨Z2, n2, j1, j2, j3, j4⟩ := d_laysTurns (P := P) hMq (hR _ _ _ hL) (show 0 < sc by omega) hi (show j < A.1.1 by omega) (u := 1) (w := A.1.1) (by omega) (by omega) (by omega) (by omega) m1 m2 m3 (xhg_mg (k4 i hi) j (by omega)) hL (by omega)
              refine Or.inr ⟨(Z2, n2), ?_, by dsimp only; omega, j4.eqv (fun Y => ?_)⟩
              · dsimp only
                rw [e_X11_someone_31, if_neg (by rw [iI_le (by omega) (by omega) (by omega) (by omega)]; omega), hMq.r1, xob_some, g_K (hR _ _ _ hL), xob_some, hMq.o, cond_true, j1, xob_some, iI_suc]
              · constructor
                · rintro ((z | ⟨z1, z2, j', z3, z4⟩) | ⟨z1, z2, z3⟩)
                  · exact Or.inl z
                  · exact Or.inr ⟨z1, z2, j', by omega, z4⟩
                  · exact Or.inr ⟨z1, z2, j, by omega, z3⟩
                · rintro (z | ⟨z1, z2, j', z3, z4⟩)
                  · exact Or.inl (Or.inl z)
                  · by_cases cj : j' = j
                    · subst cj; exact Or.inr ⟨z1, z2, z4⟩
                    · exact Or.inl (Or.inr ⟨z1, z2, j', by omega, z4⟩)) (fun Z hZ => by
              obtain ⟨Z, n'⟩ := Z
              obtain ⟨hn', hL⟩ := hZ
              dsimp only at hn' hL ⊢
              refine ⟨Z, n', hn', hL, ?_⟩
              rw [e_X11_someone_31, if_pos (by rw [iI_le (by omega) (by omega) (by omega) (by omega)]; omega), iI_suc]) (s := (Z, n')) ⟨by dsimp only; omega, hL.eqv (fun Y => ⟨Or.inl, fun z => z.elim id (fun z => by obtain ⟨-, -, k', hk', -⟩ := z; omega)⟩)⟩
          obtain ⟨Z2, n2, g1, g2, g3⟩ := inner
          refine ⟨(Z2, n2), ?_, by dsimp only; omega, g2.eqv (fun Y => ?_)⟩
          · dsimp only
            rw [e_X11_someone_19, hMq.r1, xob_some, g_K (hR _ _ _ hL), xob_some, if_neg (by rw [iI_le (by omega) (by omega) (by omega) (by omega)]; omega)]
            exact g3
          · constructor
            · rintro ((z | ⟨z1, z2, i', j', z3, z4, z5⟩) | ⟨z1, z2, j', z3, z4⟩)
              · exact Or.inl z
              · exact Or.inr ⟨z1, z2, i', j', by omega, z4, z5⟩
              · exact Or.inr ⟨z1, z2, i, j', by omega, z3, z4⟩
            · rintro (z | ⟨z1, z2, i', j', z3, z4, z5⟩)
              · exact Or.inl (Or.inl z)
              · by_cases c : i' = i
                · subst c; exact Or.inr ⟨z1, z2, j', z4, z5⟩
                · exact Or.inl (Or.inr ⟨z1, z2, i', j', by omega, z4, z5⟩)) (fun Z hZ => by
          obtain ⟨Z, n'⟩ := Z
          obtain ⟨hn', hL⟩ := hZ
          dsimp only at hn' hL ⊢
          obtain ⟨obq, Tq, hMq, hoq, -⟩ := id hL
          obtain ⟨Z4, ob4, g1, -⟩ := d_beginsHours (P := P) hMq (show 0 < sc by omega)
          refine ⟨Z, n', Z4, hL, ⟨obq, hMq, g1⟩, ?_⟩
          rw [e_X11_someone_19, hMq.r1, xob_some, g_K (hR _ _ _ hL), xob_some, if_pos (by rw [iI_le (by omega) (by omega) (by omega) (by omega)]; omega), hMq.o, cond_true, g1, xob_some]) (s := (Z1, n1)) ⟨by dsimp only; omega, b3.eqv (fun Y => ⟨Or.inl, fun z => z.elim id (fun z => by obtain ⟨-, -, k', j', hk', -⟩ := z; omega)⟩)⟩
      obtain ⟨Z3, n3, Z4', w4, ⟨obq, hMq, hbh⟩, prun⟩ := pairs
      obtain ⟨ob3, T3, hM3, t1, t2, t3, t4⟩ := id w4
      have mem : ∀ Y i, i < A.1.1 → 0 ≤ Y → Y ≤ sc → ∀ j, j < A.1.1 → j ≠ i → xcr A.1 i j 1 A.1.1 sc Y → xmm n3 T3 Y := by
        intro Y i hi y0 y1 j hj hji hc
        refine (t3 Y).mpr (Or.inr ⟨y0, y1, ?_⟩)
        by_cases c : j < i
        · exact ⟨i, j, hi, c, hc⟩
        · exact ⟨j, i, hj, by omega, (xcr_sym _ _ _ _ _ _ _).mp hc⟩
      have hW : xSW n3 T3 sc n u v := xSW_gen t2 k6 k7 ((t3 0).mpr (Or.inl (Or.inl rfl))) ((t3 sc).mpr (Or.inl (Or.inr rfl))) (fun a b t t' a0 b0 hno h1 h2 h3 h4 hl => by
        obtain ⟨i, hi, hl⟩ := hl
        exact ⟨i, hi, x_constL hi k3 (k4 i hi) a0 b0 (fun Y y1 y2 j hj hji hc => hno Y y1 y2 (mem Y i hi (by omega) (by omega) j hj hji hc)) h1 h2 h3 h4 hl⟩)
      obtain ⟨Z4, ob4, g1, g2, g3, g4, g5⟩ := d_beginsHours (P := P) hM3 (show 0 < sc by omega)
      have eZ : Z4' = Z4 := Option.some.inj (hbh.symm.trans g1)
      subst eZ
      have hL4 : xLH Z3 m ob3 n3 T3 sc (xcu n u v T3 0) Z4' := ⟨ob4, g2, g3, t2.fr g5 (by omega) (by omega) (g3 15 (by decide) (by decide)), g4, g5⟩
      have p := hW.pos
      have key := xloopQ (run := fun k (Z : xS) => xrun P m_X11_someone 67 [(0, .ref m), (1, .int (iI (xb l))), (2, .int (iI k))] [] Z)
        (Inv := fun k Z => xLH Z3 m ob3 n3 T3 sc (xcu n u v T3 k) Z)
        (fun res => ∃ Z, res = some (some (.long (jI (xpo (xln u v n) sc l))), Z) ∧ xLH Z3 m ob3 n3 T3 sc (xcu n u v T3 (n3 - 1)) Z) 0 (n3 - 1) (by omega) (fun k Z _ hk hZ => by
          refine Or.inr ?_
          obtain ⟨obz, z1, z2, z3, z4, z5⟩ := id hZ
          have b1300 := z3.1
          have hRz : xRo Z (m + 1) A.1 := (hR _ _ _ w4).fr z5 (by omega)
          obtain ⟨p, o, f1, f2, f3, f4, f5, f6, f7⟩ := d_middle (P := P) z1 z3 (show 0 < sc by omega) (show k + 1 < n3 by omega)
          have hk1 : k + 1 < n3 := by omega
          have hsc0 : 0 < sc := by omega
          have nle : ¬ (iI (n3 : Int) ≤ iI ((k + 1 : Nat) : Int)) := by rw [iI_le (by omega) (by omega) (by omega) (by omega)]; omega
          have hb0 : 0 ≤ T3 k + T3 (k + 1) ∧ T3 k + T3 (k + 1) ≤ 2 * sc := by
            have bk := hW.2.1 k (by omega)
            have bk1 := hW.2.1 (k + 1) (by omega)
            omega
          have dd : Decidable (∃ i, i < A.1.1 ∧ xlo A.1 i (12 * p) o = true) := Classical.propDecidable _
          have hf := g_isSomeone (P := P) z1 hRz f3 f4 f5 f6
          have bk := hW.2.1 k (by omega)
          have bk1 := hW.2.1 (k + 1) (by omega)
          have cb := xcu_bd hW k (by omega)
          have mm := k7 (T3 k + T3 (k + 1))
          have ee : (∃ i, i < A.1.1 ∧ xlo A.1 i (12 * p) o = true) ↔ ∃ i, i < A.1.1 ∧ xlo A.1 i (12 * (T3 k + T3 (k + 1))) (2 * sc) = true := by
            constructor
            · rintro ⟨i, hi, h⟩
              exact ⟨i, hi, by rw [← xlo_at (by omega) (by omega) (by omega) f7]; exact h⟩
            · rintro ⟨i, hi, h⟩
              exact ⟨i, hi, by rw [xlo_at (by omega) (by omega) (by omega) f7]; exact h⟩
          by_cases c : xme n u v (T3 k + T3 (k + 1))
          · obtain ⟨Z', x1, x2⟩ := d_addsBetween (P := P) hZ hsc0 s6 hk1 cb.1 cb.2
            refine ⟨Z', ?_, by simp only [xcu]; rw [if_pos c]; exact x2⟩
            rw [if_pos (ee.mpr (mm.mp c).2.2)] at hf
            rw [e_X11_someone_67, z1.i (by omega) z3.2.1, xob_some, iI_suc, if_neg nle]
            simp only [z1.o, f1, f2, hf, x1, xob_some, cond_true, t_10, t_00, ne_eq, not_true_eq_false, not_false_eq_true, if_true, if_false]
          · refine ⟨Z, ?_, by simp only [xcu]; rw [if_neg c, Int.add_zero]; exact hZ⟩
            rw [if_neg (fun z => c (mm.mpr ⟨hb0.1, hb0.2, ee.mp z⟩))] at hf
            rw [e_X11_someone_67, z1.i (by omega) z3.2.1, xob_some, iI_suc, if_neg nle]
            simp only [z1.o, f1, f2, hf, xob_some, cond_true, t_10, t_00, ne_eq, not_true_eq_false, not_false_eq_true, if_true, if_false]) (fun Z hZ => by
          obtain ⟨obz, z1, z2, z3, z4, z5⟩ := id hZ
          have b1300 := z3.1
          rw [xcu_ln hW] at z4
          obtain ⟨ht, hb, t1, t2, t3⟩ := z4.told (P := P) z1 (by omega) (by omega) lb l
          refine ⟨Z, ?_, hZ⟩
          rw [e_X11_someone_67, z1.i (by omega) z3.2.1, xob_some, iI_suc, if_pos (by rw [iI_le (by omega) (by omega) (by omega) (by omega)]; omega), t1, xob_some, t2, xob_some, t3, xob_some]) (s := Z4') hL4
      obtain ⟨Z5, v1, v2⟩ := key
      obtain ⟨x1, x2⟩ := M.lh e0 w4 t1 v2
      refine ⟨Z5, xcJ_of ((e_X11_someone_0 P m (iI (xb l)) S').trans ?_), x1, x2⟩
      simp only [e0.r1, g_K e3, ne0, e0.o, b1, xob_some, cond_true, t_10, t_00, ne_eq, not_true_eq_false, not_false_eq_true, if_true, if_false]
      exact prun.trans v1
end BZ
