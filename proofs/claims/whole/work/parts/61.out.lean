-- deps: 60.kind
/-! loneliest, without; rows are copied, one is taken out -/
noncomputable def xlf (F : xF) : Nat → Int × Int := xfo (fun r s => if xW F r < s.1 then (xW F r, (r : Int)) else s) (12 * xLL, 0)
theorem xlf_suc (F : xF) (r : Nat) : xlf F (r + 1) = if xW F r < (xlf F r).1 then (xW F r, (r : Int)) else xlf F r := rfl
theorem xlf_bd (F : xF) : ∀ v, 0 ≤ (xlf F v).2 ∧ (xlf F v).2 ≤ v := by
  intro v
  induction v with
  | zero => exact ⟨Int.le_refl _, Int.le_refl _⟩
  | succ v ih =>
    rw [xlf_suc]
    split
    · dsimp only; omega
    · omega
section LN
variable {P : Nat → Nat} {S : xS} {x m : Nat} {A : xAb} {ob ob0 : Nat → Value} {F : xF}
theorem z_loneliest (H : xCl S x A) : ∃ z A', xKI P S x m_X10_loneliest [] z A' ∧ ∀ S', xMl S' m A → xGI P S' m m_X11_loneliest [] z A' := by
  have hF := H.2.1
  have hk := hF.1.1
  have hL := xLL_pos
  by_cases c0 : A.1.1 = 0
  · refine ⟨iI (-1), A, ⟨S, xcI_of ((e_X10_loneliest_0 P x S).trans ?_), H, xfr.rf⟩, fun S' M => ?_⟩
    · simp only [H.r0, hF.o, d_size hF, c0, xob_some, cond_true, t_10, t_00, ne_eq, not_true_eq_false, not_false_eq_true, if_true, if_false]
      rw [if_neg (show ¬ ¬ iI ((0 : Nat) : Int) = 0 by decide +kernel)]
    · obtain ⟨ob, e0, h5, h28, hR, -⟩ := id M
      refine ⟨S', xcI_of ((e_X11_loneliest_0 P m S').trans ?_), M, xfr.rf⟩
      rw [e_X11_loneliest_10, e0.r1, xob_some, g_K hR, xob_some, if_pos (by rw [c0]; decide +kernel)]
  · have nz := t_nz (a := A.1.1) (by omega) (by omega) (by omega)
    refine ⟨iI (xlf A.1 A.1.1).2, A, ?_, fun S' M => ?_⟩
    · obtain ⟨kh0, kp0, hP0⟩ := H.px
      obtain ⟨⟨_, _, _, _, hPk0⟩, hO0⟩ := id hP0
      obtain ⟨T2, c1, c2, c3⟩ := d_forgetWorse (P := P) hPk0
      have hP2 : xPr T2 (x + 64) 1 1 := ⟨⟨_, _, _, _, c2⟩, by
        obtain ⟨n, f, g, z⟩ := hO0
        exact ⟨n, f, g, z.fr c3 (fun b hb => by unfold x3 at hb; omega)⟩⟩
      obtain ⟨H2, f2⟩ := H.pk (c3.mono (fun b hb => by unfold xrg; omega)) ⟨_, _, hP2⟩
      have key := xloopQ (run := fun v (Z : xS) => xrun P m_X10_loneliest 23 [(0, .ref x), (1, .int (iI (xlf A.1 v).2)), (2, .int (iI v))] [] Z)
        (Inv := fun v Z => xCl Z x A ∧ xfr S Z (xrg x 89) ∧ ∃ kh kp, xPr Z (x + 64) kh kp ∧ -1 ≤ kh ∧ kh ≤ 1000 ∧ 1 ≤ kp ∧ kp ≤ 1000 ∧ kh * (12 * xLL) = (xlf A.1 v).1 * kp)
        (fun res => ∃ T, res = some (some (.int (iI (xlf A.1 A.1.1).2)), T) ∧ xCl T x A ∧ xfr S T (xrg x 89)) 0 A.1.1 (Nat.zero_le _) (by
          rintro v Z - hv ⟨HZ, fZ, kh, kp, hP, kh0, kh1, kp0, kp1, hkk⟩
          right
          have hFZ := HZ.2.1
          obtain ⟨T3, u, e, s1, u0, u1, e0, e1, s2, s3, H3, f3', f3, hN, -, -⟩ := HZ.seek (P := P) hFZ (Or.inl rfl) hv hP
          have nb := xnr_bd A.1 v (x := u) (e := e) (by omega)
          obtain ⟨T4, t1, t2, t3⟩ := d_isWorse (P := P) s2 nb.1 (by omega) (by omega) (by omega) kh0 kh1 (by omega) kp1
          have hN12 : xnr A.1 v u e * (12 * xLL) = xW A.1 v * (12 * e) := x_h12 hN
          have cmp := (x_rt (show 0 < 12 * xLL by omega) (show 0 < 12 * e by omega) (show 0 < kp by omega) hN12 hkk).1
          have hP4 : xPr T4 (x + 64) (if xnr A.1 v u e * kp < kh * (12 * e) then xnr A.1 v u e else kh) (if xnr A.1 v u e * kp < kh * (12 * e) then 12 * e else kp) := ⟨⟨_, _, _, _, t2⟩, by
            obtain ⟨n, f, g, z⟩ := s3.2
            exact ⟨n, f, g, z.fr t3 (fun b hb => by unfold x3 at hb; omega)⟩⟩
          obtain ⟨H4, f4⟩ := H3.pk (t3.mono (fun b hb => by unfold xrg; omega)) ⟨_, _, hP4⟩
          refine ⟨T4, ?_, H4, (fZ.tr f3).tr f4, _, _, hP4, ?_, ?_, ?_, ?_, ?_⟩
          · rw [e_X10_loneliest_23, HZ.r0, xob_some, hFZ.o, cond_true, d_size hFZ, xob_some, if_neg (by rw [iI_le (by omega) (by omega) (by omega) (by omega)]; omega)]
            simp only [HZ.r9, HZ.r0, hP.o, s1, H3.r9, s3.o, t1, iI_suc, xob_some, cond_true]
            rw [xlf_suc]
            by_cases c : xW A.1 v < (xlf A.1 v).1
            · rw [if_pos c, if_pos (cmp.mpr c), if_neg (show ¬ iI 1 = 0 by decide +kernel)]
            · rw [if_neg c, if_neg (fun z => c (cmp.mp z)), if_pos (show iI 0 = 0 by decide +kernel)]
          · split <;> omega
          · split <;> omega
          · split <;> omega
          · split <;> omega
          · rw [xlf_suc]
            by_cases c : xW A.1 v < (xlf A.1 v).1
            · rw [if_pos c, if_pos (cmp.mpr c), if_pos (cmp.mpr c)]
              exact hN12
            · rw [if_neg c, if_neg (fun z => c (cmp.mp z)), if_neg (fun z => c (cmp.mp z))]
              exact hkk) (by
          rintro Z ⟨HZ, fZ, -⟩
          have hFZ := HZ.2.1
          refine ⟨Z, ?_, HZ, fZ⟩
          rw [e_X10_loneliest_23, HZ.r0, xob_some, hFZ.o, cond_true, d_size hFZ, xob_some, if_pos (by rw [iI_le (by omega) (by omega) (by omega) (by omega)]; omega)]) (s := T2) ⟨H2, f2, 1, 1, hP2, by decide, by decide, by decide, by decide, by
          show 1 * (12 * xLL) = 12 * xLL * 1
          omega⟩
      obtain ⟨T, t1, t2, t3⟩ := key
      refine ⟨T, xcI_of ((e_X10_loneliest_0 P x S).trans ?_), t2, t3⟩
      simp only [H.r0, H.r9, hF.o, d_size hF, nz, hP0.o, c1, xob_some, cond_true, t_10, t_00, ne_eq, not_true_eq_false, not_false_eq_true, if_true, if_false]
      exact t1
    · obtain ⟨ob, e0, h5, h28, hR, -⟩ := id M
      have key := xloopQ (run := fun v (s : xS × Int × Int × Int) => xrun P m_X11_loneliest 10 [(0, .ref m), (1, .int (iI s.2.1)), (2, .long (jI s.2.2.1)), (4, .long (jI s.2.2.2)), (6, .int (iI v))] [] s.1)
        (Inv := fun v s => xfr S' s.1 (fun b => b = m) ∧ (∃ ob1, xMo s.1 m ob1 ∧ (∀ k, k ≠ 9 → k ≠ 10 → k ≠ 11 → k ≠ 12 → ob1 k = ob k)) ∧ (v = 0 → s.2.1 = -1) ∧ (v ≠ 0 → s.2.1 = (xlf A.1 v).2 ∧ 0 ≤ s.2.2.1 ∧ s.2.2.1 ≤ 5760 ∧ 1 ≤ s.2.2.2 ∧ s.2.2.2 ≤ 11520 ∧ s.2.2.1 * (12 * xLL) = (xlf A.1 v).1 * s.2.2.2))
        (fun res => ∃ T, res = some (some (.int (iI (xlf A.1 A.1.1).2)), T) ∧ xMl T m A ∧ xfr S' T (xrg m 19)) 0 A.1.1 (Nat.zero_le _) (by
          rintro v ⟨Z, ix, bn, bd⟩ - hv ⟨fZ, ⟨ob1, hM1, hk1⟩, hz, hnz⟩
          right
          dsimp only at *
          have RZ := hR.fr fZ (by omega)
          obtain ⟨Y2, k1, k2⟩ := g_looks (P := P) hM1 RZ (i := v) hv
          obtain ⟨N, q, ob2, M2, h9, h10, N0, N1, q0, q1, hN, hk2, hf2, -⟩ := k2.use (P := P) hk
          have hN12 : N * (12 * xLL) = xW A.1 v * (12 * q) := x_h12 hN
          have com : xfr S' Y2 (fun b => b = m) ∧ (∃ ob1, xMo Y2 m ob1 ∧ (∀ k, k ≠ 9 → k ≠ 10 → k ≠ 11 → k ≠ 12 → ob1 k = ob k)) := ⟨fZ.tr hf2, ⟨ob2, M2, fun k a b c d => (hk2 k a b c d).trans (hk1 k a b c d)⟩⟩
          have head : ∀ R, (if ix = -1 then xrun P m_X11_loneliest 10 [(0, .ref m), (1, .int (iI v)), (2, .long (jI N)), (4, .long (jI (12 * q))), (6, .int (iI (v + 1 : Nat)))] [] Y2 else if lg_cmp (jI N * jI bd) (jI bn * jI (12 * q)) < 0 then xrun P m_X11_loneliest 10 [(0, .ref m), (1, .int (iI v)), (2, .long (jI N)), (4, .long (jI (12 * q))), (6, .int (iI (v + 1 : Nat)))] [] Y2 else xrun P m_X11_loneliest 10 [(0, .ref m), (1, .int (iI ix)), (2, .long (jI bn)), (4, .long (jI bd)), (6, .int (iI (v + 1 : Nat)))] [] Y2) = R → (-1 ≤ ix ∧ ix ≤ 100) → xrun P m_X11_loneliest 10 [(0, .ref m), (1, .int (iI ix)), (2, .long (jI bn)), (4, .long (jI bd)), (6, .int (iI v))] [] Z = R := by
            intro R hR2 hix
            have ex : (iI ix = iI (-1)) ↔ ix = -1 := iI_eq (by omega) (by omega) (by decide) (by decide)
            rw [e_X11_loneliest_10, hM1.r1, xob_some, g_K RZ, xob_some, if_neg (by rw [iI_le (by omega) (by omega) (by omega) (by omega)]; omega)]
            simp only [hM1.o, k1, M2.j (by decide) h9, M2.j (by decide) h10, iI_suc, xob_some, cond_true, ex]
            exact hR2
          by_cases c0 : v = 0
          · have hz' := hz c0
            refine ⟨(Y2, (v : Int), N, 12 * q), head _ (by rw [if_pos hz']) (by omega), com.1, com.2, fun z => absurd z (Nat.succ_ne_zero v), fun _ => ?_⟩
            have e1 : xlf A.1 (v + 1) = (xW A.1 v, (v : Int)) := by
              rw [xlf_suc, if_pos]
              rw [c0]
              have := (xW_bd A.1 0).2
              show _ < 12 * xLL
              omega
            rw [e1]
            exact ⟨rfl, N0, N1, (by show 1 ≤ 12 * q; omega), (by show 12 * q ≤ 11520; omega), hN12⟩
          · obtain ⟨g1, g2, g3, g4, g5, g6⟩ := hnz c0
            have vb := xlf_bd A.1 v
            have cmp := (x_rt (show 0 < 12 * xLL by omega) (show 0 < 12 * q by omega) (show 0 < bd by omega) hN12 g6).1
            have m1 := x_mul_bd N0 N1 (show 0 ≤ bd by omega) g5
            have m2 := x_mul_bd g2 g3 (show 0 ≤ 12 * q by omega) (show 12 * q ≤ 11520 by omega)
            have ec : (lg_cmp (jI N * jI bd) (jI bn * jI (12 * q)) < 0) ↔ xW A.1 v < (xlf A.1 v).1 := by
              rw [← cmp, jI_mul, jI_mul, x_clt (by omega) (by omega) (by omega) (by omega)]
            by_cases d : xW A.1 v < (xlf A.1 v).1
            · refine ⟨(Y2, (v : Int), N, 12 * q), head _ (by rw [if_neg (by omega), if_pos (ec.mpr d)]) (by omega), com.1, com.2, fun z => absurd z (Nat.succ_ne_zero v), fun _ => ?_⟩
              rw [xlf_suc, if_pos d]
              exact ⟨rfl, N0, N1, (by show 1 ≤ 12 * q; omega), (by show 12 * q ≤ 11520; omega), hN12⟩
            · refine ⟨(Y2, ix, bn, bd), head _ (by rw [if_neg (by omega), if_neg (fun z => d (ec.mp z))]) (by omega), com.1, com.2, fun z => absurd z (Nat.succ_ne_zero v), fun _ => ?_⟩
              rw [xlf_suc, if_neg d]
              exact ⟨g1, g2, g3, g4, g5, g6⟩) (by
          rintro ⟨Z, ix, bn, bd⟩ ⟨fZ, ⟨ob1, hM1, hk1⟩, hz, hnz⟩
          dsimp only at *
          have RZ := hR.fr fZ (by omega)
          obtain ⟨g1, -⟩ := hnz (by omega)
          obtain ⟨MM, ff⟩ := M.num (fZ.mono (fun b hb => Or.inl hb)) hM1 RZ ((hk1 5 (by decide) (by decide) (by decide) (by decide)).trans h5) ((hk1 28 (by decide) (by decide) (by decide) (by decide)).trans h28)
          refine ⟨Z, ?_, MM, ff⟩
          rw [e_X11_loneliest_10, hM1.r1, xob_some, g_K RZ, xob_some, if_pos (by rw [iI_le (by omega) (by omega) (by omega) (by omega)]; omega), g1]) (s := (S', -1, 0, 1)) ⟨xfr.rf, ⟨ob, e0, fun _ _ _ _ _ => rfl⟩, fun _ => rfl, fun z => absurd rfl z⟩
      obtain ⟨T, t1, t2, t3⟩ := key
      exact ⟨T, xcI_of ((e_X11_loneliest_0 P m S').trans t1), t2, t3⟩
/-- a row of thirteen is copied -/
theorem g_copies {a b : Nat} (hab : a ≠ b) {f g : Nat → Int32} (ha : S.1 a = some (.inr (0, (13, .inl f)))) (hb : S.1 b = some (.inr (0, (13, .inl g)))) : ∃ T g', xcV P m_X11_copies [.ref a, .ref b] S = some T ∧ T.1 b = some (.inr (0, (13, .inl g'))) ∧ (∀ k, k < 13 → g' k = f k) ∧ xfr S T (fun c => c = b) := by
  have key := xloopQ (run := fun v (Z : xS) => xrun P m_X11_copies 2 [(0, .ref a), (1, .ref b), (2, .int (iI v))] [] Z)
    (Inv := fun v Z => xfr S Z (fun c => c = b) ∧ ∃ g', Z.1 b = some (.inr (0, (13, .inl g'))) ∧ ∀ k, k < v → g' k = f k)
    (fun res => ∃ T g', res = some (none, T) ∧ T.1 b = some (.inr (0, (13, .inl g'))) ∧ (∀ k, k < 13 → g' k = f k) ∧ xfr S T (fun c => c = b)) 0 13 (by decide) (by
      rintro v Z - hv ⟨fZ, g', hg, hk⟩
      right
      have haZ : Z.1 a = some (.inr (0, (13, .inl f))) := (fZ.2 _ (fun z => hab z)).trans ha
      obtain ⟨Z1, w1, w2, w3⟩ := xwrI_fr (v := f v) hg (i := (v : Int)) (by omega) (by omega) (by omega)
      refine ⟨Z1, ?_, fZ.tr w3, _, w2, fun k hk2 => ?_⟩
      · have rd : xrdI Z a (iI (v : Int)) = some (f v) := xrdI_at haZ (by omega) (by omega) (by omega)
        rw [e_X11_copies_2, if_neg (by rw [iI_le (by omega) (by omega) (by omega) (by omega)]; omega), rd, xob_some, w1, xob_some, iI_suc]
      · show va_up g' v (f v) k = f k
        rw [va_up_at]
        split
        · rename_i h; rw [h]
        · exact hk k (by omega)) (by
      rintro Z ⟨fZ, g', hg, hk⟩
      refine ⟨Z, g', ?_, hg, hk, fZ⟩
      rw [e_X11_copies_2, if_pos (by decide +kernel)]) (s := S) ⟨xfr.rf, g, hb, fun k hk => by omega⟩
  obtain ⟨T, g', t1, t2, t3, t4⟩ := key
  exact ⟨T, g', xcV_of ((e_X11_copies_0 P a b S).trans t1), t2, t3, t4⟩
theorem g_copyRow {a b : Nat} (hab : a ≠ b) (ha : xRo S a F) (hb : xIr S b 13) : ∃ T, xcV P m_X11_copies [.ref a, .ref b] S = some T ∧ xRo T b F ∧ xfr S T (fun c => c = b) := by
  obtain ⟨ok, f, hf, hf2⟩ := ha
  obtain ⟨g, hg⟩ := hb
  obtain ⟨T, g', t1, t2, t3, t4⟩ := g_copies (P := P) hab hf hg
  exact ⟨T, t1, ⟨ok, g', t2, fun k hk => (t3 k hk).trans (hf2 k hk)⟩, t4⟩
theorem xRo.ir {a : Nat} (h : xRo S a F) : xIr S a 13 := by
  obtain ⟨-, f, hf, -⟩ := h
  exact ⟨f, hf⟩
/-- one runner is taken out -/
def xout (F : xF) (i : Nat) : xF := (F.1 - 1, xrm i F.2.1, xrm i F.2.2)
theorem xout_ok (h : xFok F) {i : Nat} (hi : i < F.1) : xFok (xout F i) := by
  refine ⟨by have := h.1; show F.1 - 1 ≤ 6; omega, fun j hj => ?_⟩
  have hj' : j < F.1 - 1 := hj
  show 0 ≤ xrm i F.2.1 j ∧ xrm i F.2.1 j ≤ 40 ∧ 0 ≤ xrm i F.2.2 j ∧ xrm i F.2.2 j < 12
  unfold xrm
  split
  · exact h.2 j (by omega)
  · exact h.2 (j + 1) (by omega)
def xsh2 (f : Nat → Int32) (i j k : Nat) : Int32 := if (1 + i ≤ k ∧ k < 1 + j) ∨ (7 + i ≤ k ∧ k < 7 + j) then f (k + 1) else f k
theorem g_takesOut (M : xMo S m ob) (hR : xRo S (m + 1) F) {i : Nat} (hi : i < F.1) : ∃ T, xcV P m_X11_takesOut [.ref m, .int (iI i)] S = some T ∧ xRo T (m + 1) (xout F i) ∧ xfr S T (fun c => c = m + 1) := by
  obtain ⟨ok, f, hf, hf2⟩ := hR
  have hk := ok.1
  have key := xloopQ (run := fun j (Z : xS) => xrun P m_X11_takesOut 2 [(0, .ref m), (2, .int (iI j))] [] Z)
    (Inv := fun j Z => xfr S Z (fun c => c = m + 1) ∧ ∃ g, Z.1 (m + 1) = some (.inr (0, (13, .inl g))) ∧ ∀ k, k < 13 → g k = xsh2 f i j k)
    (fun res => ∃ T g, res = some (none, T) ∧ T.1 (m + 1) = some (.inr (0, (13, .inl g))) ∧ (∀ k, k < 13 → g k = if k = 0 then f 0 - iI 1 else if k = 6 ∨ k = 12 then iI 0 else xsh2 f i 5 k) ∧ xfr S T (fun c => c = m + 1)) i 5 (by omega) (by
      rintro j Z hj1 hj2 ⟨fZ, g, hg, hk2⟩
      right
      have MZ := M.fr fZ (by omega)
      obtain ⟨Z1, w1, w2, w3⟩ := xwrI_fr (v := g (2 + j)) hg (i := (1 + j : Nat)) (by omega) (by omega) (by omega)
      have M1 := MZ.fr w3 (by omega)
      obtain ⟨Z2, y1, y2, y3⟩ := xwrI_fr (v := g (8 + j)) w2 (i := (7 + j : Nat)) (by omega) (by omega) (by omega)
      refine ⟨Z2, ?_, (fZ.tr w3).tr y3, _, y2, fun k hk3 => ?_⟩
      · have r1 : xrdI Z (m + 1) (iI ((2 + j : Nat) : Int)) = some (g (2 + j)) := xrdI_at hg (by omega) (by omega) (by omega)
        have r2 : xrdI Z1 (m + 1) (iI ((8 + j : Nat) : Int)) = some (g (8 + j)) := by
          rw [xrdI_at w2 (by omega) (by omega) (by omega)]
          show some (va_up g (1 + j) (g (2 + j)) (8 + j)) = _
          rw [va_up_at, if_neg (by omega)]
        have i1 : iI 1 + iI (j : Int) = iI ((1 + j : Nat) : Int) := by rw [iI_add]; rfl
        have i2 : iI ((1 + j : Nat) : Int) + iI 1 = iI ((2 + j : Nat) : Int) := by rw [iI_add]; congr 1; omega
        have i3 : iI 7 + iI (j : Int) = iI ((7 + j : Nat) : Int) := by rw [iI_add]; rfl
        have i4 : iI ((7 + j : Nat) : Int) + iI 1 = iI ((8 + j : Nat) : Int) := by rw [iI_add]; congr 1; omega
        rw [e_X11_takesOut_2, iI_suc, if_neg (by rw [iI_le (by omega) (by omega) (by omega) (by omega)]; omega)]
        simp only [MZ.r1, M1.r1, i1, i2, i3, i4, r1, r2, w1, y1, xob_some]
      · show va_up (va_up g (1 + j) (g (2 + j))) (7 + j) (g (8 + j)) k = _
        rw [va_up_at, va_up_at, hk2 _ (show 2 + j < 13 by omega), hk2 _ (show 8 + j < 13 by omega), hk2 k hk3]
        unfold xsh2
        by_cases c1 : k = 7 + j
        · subst c1
          rw [if_pos rfl, if_neg (by omega), if_pos (by omega), show 8 + j = 7 + j + 1 by omega]
        · rw [if_neg c1]
          by_cases c2 : k = 1 + j
          · subst c2
            rw [if_pos rfl, if_neg (by omega), if_pos (by omega), show 2 + j = 1 + j + 1 by omega]
          · rw [if_neg c2]
            by_cases c3 : (1 + i ≤ k ∧ k < 1 + j) ∨ (7 + i ≤ k ∧ k < 7 + j)
            · rw [if_pos c3, if_pos (by omega)]
            · rw [if_neg c3, if_neg (by omega)]) (by
      rintro Z ⟨fZ, g, hg, hk2⟩
      have MZ := M.fr fZ (by omega)
      obtain ⟨Z1, w1, w2, w3⟩ := xwrI_fr (v := iI 0) hg (i := 6) (by omega) (by omega) (by omega)
      have M1 := MZ.fr w3 (by omega)
      obtain ⟨Z2, y1, y2, y3⟩ := xwrI_fr (v := iI 0) w2 (i := 12) (by omega) (by omega) (by omega)
      have M2 := M1.fr y3 (by omega)
      have r0 : xrdI Z2 (m + 1) (iI 0) = some (f 0) := by
        rw [xrdI_at y2 (by omega) (by omega) (by omega)]
        show some (va_up (va_up g 6 (iI 0)) 12 (iI 0) 0) = _
        rw [va_up_at, va_up_at, if_neg (by decide), if_neg (by decide), hk2 0 (by decide)]
        unfold xsh2
        rw [if_neg (by omega)]
      obtain ⟨Z3, q1, q2, q3⟩ := xwrI_fr (v := f 0 - iI 1) y2 (i := 0) (by omega) (by omega) (by omega)
      refine ⟨Z3, _, ?_, q2, fun k hk3 => ?_, ((fZ.tr w3).tr y3).tr q3⟩
      · rw [e_X11_takesOut_2, if_pos (by decide +kernel)]
        simp only [MZ.r1, M1.r1, M2.r1, w1, y1, r0, q1, xob_some]
      · show va_up (va_up (va_up g 6 (iI 0)) 12 (iI 0)) 0 (f 0 - iI 1) k = _
        rw [va_up_at, va_up_at, va_up_at]
        by_cases c : k = 0
        · rw [if_pos c, if_pos c]
        · rw [if_neg c, if_neg c]
          by_cases d : k = 12
          · rw [if_pos d, if_pos (Or.inr d)]
          · rw [if_neg d]
            by_cases e : k = 6
            · rw [if_pos e, if_pos (Or.inl e)]
            · rw [if_neg e, if_neg (by omega)]
              exact hk2 k hk3) (s := S) ⟨xfr.rf, f, hf, fun k hk => by
      unfold xsh2
      rw [if_neg (by omega)]⟩
  obtain ⟨T, g, t1, t2, t3, t4⟩ := key
  refine ⟨T, xcV_of ((e_X11_takesOut_0 P m (iI i) S).trans t1), ⟨xout_ok ok hi, g, t2, fun k hk3 => ?_⟩, t4⟩
  rw [t3 k hk3]
  unfold xsh2 xout
  by_cases c0 : k = 0
  · rw [if_pos c0, hf2 0 (by decide), c0, iI_sub]
    show iI ((F.1 : Int) - 1) = iI ((F.1 - 1 : Nat) : Int)
    congr 1
    omega
  · rw [if_neg c0]
    by_cases c1 : k < 7
    · have e : xrw (F.1 - 1, xrm i F.2.1, xrm i F.2.2) k = if k - 1 < F.1 - 1 then xrm i F.2.1 (k - 1) else 0 := by
        unfold xrw
        rw [if_neg c0, if_pos c1]
      rw [e]
      by_cases c2 : k = 6
      · rw [if_pos (Or.inl c2), if_neg (by omega)]
      · rw [if_neg (by omega)]
        unfold xrm
        by_cases c3 : 1 + i ≤ k
        · rw [if_pos (by omega), hf2 (k + 1) (by omega)]
          unfold xrw
          rw [if_neg (by omega), if_pos (by omega)]
          by_cases c4 : k < F.1
          · rw [if_pos (by omega), if_pos (by omega), if_neg (by omega), show k + 1 - 1 = k - 1 + 1 by omega]
          · rw [if_neg (by omega), if_neg (by omega)]
        · rw [if_neg (by omega), hf2 k hk3]
          unfold xrw
          rw [if_neg c0, if_pos c1, if_pos (by omega), if_pos (by omega), if_pos (by omega)]
    · have e : xrw (F.1 - 1, xrm i F.2.1, xrm i F.2.2) k = if k - 7 < F.1 - 1 then xrm i F.2.2 (k - 7) else 0 := by
        unfold xrw
        rw [if_neg c0, if_neg c1]
      rw [e]
      by_cases c2 : k = 12
      · rw [if_pos (Or.inr c2), if_neg (by omega)]
      · rw [if_neg (by omega)]
        unfold xrm
        by_cases c3 : 7 + i ≤ k
        · rw [if_pos (by omega), hf2 (k + 1) (by omega)]
          unfold xrw
          rw [if_neg (by omega), if_neg (by omega)]
          by_cases c4 : k - 6 < F.1
          · rw [if_pos (by omega), if_pos (by omega), if_neg (by omega), show k + 1 - 7 = k - 7 + 1 by omega]
          · rw [if_neg (by omega), if_neg (by omega)]
        · rw [if_neg (by omega), hf2 k hk3]
          unfold xrw
          rw [if_neg c0, if_neg c1, if_pos (by omega), if_pos (by omega), if_pos (by omega)]
end LN
