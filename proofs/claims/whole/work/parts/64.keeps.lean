-- deps: 63.acts
/-! the reference keeps, changes; how fast the fastest is -/
section KP
variable {P : Nat → Nat} {S T : xS} {x m : Nat} {A : xAb} {ob ob0 : Nat → Value} {F : xF}
theorem l_keeps52 (M : xMo S m ob) {a : Nat} (h5 : ob 5 = .int (iI a)) (ha : a < 12) (hR : xRo S (m + 1) F) {f : Nat → Int32} (hf : S.1 (m + 4) = some (.inr (0, (156, .inl f)))) :
    ∃ T ob1 f', xrun P m_X11_keeps 52 [(0, .ref m), (1, .int (iI 0))] [] S = some (none, T) ∧ xMo T m ob1 ∧ (∀ k, k ≠ 5 → ob1 k = ob k) ∧ ob1 5 = .int (iI (a + 1 : Nat)) ∧ T.1 (m + 4) = some (.inr (0, (156, .inl f'))) ∧ (∀ k, k < 13 → f' (13 * a + k) = iI (xrw F k)) ∧ (∀ j, j < 13 * a → f' j = f j) ∧ xfr S T (fun b => b = m ∨ b = m + 4) := by
  have key := xloopQ (run := fun v (Z : xS) => xrun P m_X11_keeps 52 [(0, .ref m), (1, .int (iI v))] [] Z)
    (Inv := fun v Z => xfr S Z (fun c => c = m + 4) ∧ ∃ g, Z.1 (m + 4) = some (.inr (0, (156, .inl g))) ∧ (∀ k, k < v → g (13 * a + k) = iI (xrw F k)) ∧ ∀ j, j < 13 * a → g j = f j)
    (fun res => ∃ T ob1 f', res = some (none, T) ∧ xMo T m ob1 ∧ (∀ k, k ≠ 5 → ob1 k = ob k) ∧ ob1 5 = .int (iI (a + 1 : Nat)) ∧ T.1 (m + 4) = some (.inr (0, (156, .inl f'))) ∧ (∀ k, k < 13 → f' (13 * a + k) = iI (xrw F k)) ∧ (∀ j, j < 13 * a → f' j = f j) ∧ xfr S T (fun b => b = m ∨ b = m + 4)) 0 13 (by decide) (by
      rintro v Z - hv ⟨fZ, g, hg, h1, h2⟩
      right
      have MZ := M.fr fZ (by omega)
      have RZ := hR.fr fZ (by omega)
      obtain ⟨Z1, w1, w2, w3⟩ := xwrI_fr (v := iI (xrw F v)) hg (i := ((13 * a + v : Nat) : Int)) (by omega) (by omega) (by omega)
      rw [Int.toNat_natCast] at w2
      refine ⟨Z1, ?_, fZ.tr w3, _, w2, fun k hk => ?_, fun j hj => ?_⟩
      · have e1 : iI 13 * iI (a : Int) + iI (v : Int) = iI ((13 * a + v : Nat) : Int) := by rw [iI_mul, iI_add]; congr 1
        rw [e_X11_keeps_52, if_neg (by rw [iI_le (by omega) (by omega) (by omega) (by omega)]; omega)]
        simp only [MZ.r4, MZ.r1, MZ.i (show 5 < 35 by decide) h5, g_at RZ hv, e1, w1, xob_some, iI_suc]
      · rw [va_up_at]
        by_cases c : k = v
        · rw [if_pos (by omega), c]
        · rw [if_neg (by omega)]
          exact h1 k (by omega)
      · rw [va_up_at, if_neg (by omega)]
        exact h2 j hj) (by
      rintro Z ⟨fZ, g, hg, h1, h2⟩
      have MZ := M.fr fZ (by omega)
      obtain ⟨Z1, p1, p2, p3⟩ := MZ.put (k := 5) (by decide) (by decide) (tag := 0) (v := .int (iI a + iI 1)) rfl
      refine ⟨Z1, _, g, ?_, p2, fun k hk => ?_, ?_, (p3.2 _ (by omega)).trans hg, h1, h2, (fZ.mono (fun b hb => Or.inr hb)).tr (p3.mono (fun b hb => Or.inl hb))⟩
      · rw [e_X11_keeps_52, if_pos (by decide +kernel)]
        simp only [MZ.i (show 5 < 35 by decide) h5, p1, xob_some]
      · rw [va_up_at, if_neg hk]
      · rw [va_up_at, if_pos rfl, iI_suc]) (s := S) ⟨xfr.rf, f, hf, fun k hk => absurd hk (by omega), fun _ _ => rfl⟩
  exact key
theorem x_bf {hs : List xF} {a : Nat} {f f' : Nat → Int32} {m4 : Nat} (hT : T.1 m4 = some (.inr (0, (156, .inl f')))) (ok : xFok F) (hl : hs.length ≤ 12) (ho : ∀ i (hi : i < hs.length), xFok hs[i] ∧ ∀ k, k < 13 → f (13 * (hs.length - 1 - i) + k) = iI (xrw hs[i] k)) (ha : a + 1 = min (hs.length + 1) 12) (h1 : ∀ k, k < 13 → f' (13 * a + k) = iI (xrw F k)) (h2 : ∀ j, j < 13 * a → f' j = f (j + 13 * (hs.length - a))) : xBf T m4 ((F :: hs).take 12) := by
  have len : ((F :: hs).take 12).length = min (hs.length + 1) 12 := by rw [List.length_take, List.length_cons, Nat.min_comm]
  refine ⟨by rw [len]; omega, f', hT, fun i hi => ?_⟩
  rw [len] at hi
  rw [List.getElem_take]
  cases i with
  | zero =>
    rw [List.getElem_cons_zero]
    refine ⟨ok, fun k hk => ?_⟩
    rw [len, show min (hs.length + 1) 12 - 1 - 0 = a by omega]
    exact h1 k hk
  | succ i =>
    rw [List.getElem_cons_succ]
    have g := ho i (by omega)
    refine ⟨g.1, fun k hk => ?_⟩
    refine (congrArg f' (show 13 * (((F :: hs).take 12).length - 1 - (i + 1)) + k = 13 * (min (hs.length + 1) 12 - 1 - (i + 1)) + k by rw [len])).trans ?_
    rw [h2 _ (by omega), ← g.2 k hk]
    congr 1
    omega
theorem xMl.keeps (M : xMl S m A) : ∃ T, xcV P m_X11_keeps [.ref m] S = some T ∧ xMl T m (xac A A.1) ∧ xfr S T (fun b => b = m ∨ b = m + 4) ∧ xfr S T (xrg m 19) := by
  obtain ⟨ob, e0, h5, h28, hR, hB, -⟩ := id M
  obtain ⟨hl, f, hf, hh⟩ := hB
  by_cases c : A.2.1.length = 12
  · have key := xloopQ (run := fun v (Z : xS) => xrun P m_X11_keeps 12 [(0, .ref m), (1, .int (iI v))] [] Z)
      (Inv := fun v Z => xfr S Z (fun c => c = m + 4) ∧ ∃ g, Z.1 (m + 4) = some (.inr (0, (156, .inl g))) ∧ ∀ j, g j = if j + 13 < v then f (j + 13) else f j)
      (fun res => ∃ T, res = some (none, T) ∧ xMl T m (xac A A.1) ∧ xfr S T (fun b => b = m ∨ b = m + 4) ∧ xfr S T (xrg m 19)) 13 156 (by decide) (by
        rintro v Z hv0 hv ⟨fZ, g, hg, h1⟩
        right
        have MZ := e0.fr fZ (by omega)
        obtain ⟨Z1, w1, w2, w3⟩ := xwrI_fr (v := g v) hg (i := ((v - 13 : Nat) : Int)) (by omega) (by omega) (by omega)
        rw [Int.toNat_natCast] at w2
        have r : xrdI Z (m + 4) (iI (v : Int)) = some (g v) := by rw [xrdI_at hg (by omega) (by omega) (by omega), Int.toNat_natCast]
        refine ⟨Z1, ?_, fZ.tr w3, _, w2, fun j => ?_⟩
        · have e1 : iI (v : Int) - iI 13 = iI ((v - 13 : Nat) : Int) := by rw [iI_sub]; congr 1; omega
          rw [e_X11_keeps_12, if_neg (by rw [iI_le (by omega) (by omega) (by omega) (by omega)]; omega)]
          simp only [MZ.r4, r, e1, w1, xob_some, iI_suc]
        · rw [va_up_at, show g v = f v by rw [h1 v, if_neg (by omega)]]
          by_cases d : j = v - 13
          · rw [if_pos d, if_pos (by omega)]
            congr 1
            omega
          · rw [if_neg d, h1 j]
            by_cases e : j + 13 < v
            · rw [if_pos e, if_pos (by omega)]
            · rw [if_neg e, if_neg (by omega)]) (by
        rintro Z ⟨fZ, g, hg, h1⟩
        have MZ := e0.fr fZ (by omega)
        rw [c] at h5
        obtain ⟨Z1, p1, p2, p3⟩ := MZ.put (k := 5) (by decide) (by decide) (tag := 0) (v := .int (iI (12 : Nat) - iI 1)) rfl
        obtain ⟨T, ob1, f', t1, t2, t3, t4, t5, t6, t7, t8⟩ := l_keeps52 (P := P) (a := 11) p2 (by rw [va_up_at, if_pos rfl]; congr 1) (by decide) ((hR.fr fZ (by omega)).fr p3 (by omega)) ((p3.2 _ (by omega)).trans hg)
        have fa : xfr S T (fun b => b = m ∨ b = m + 4) := ((fZ.mono (fun b hb => Or.inr hb)).tr (p3.mono (fun b hb => Or.inl hb))).tr t8
        have B : xBf T (m + 4) ((A.1 :: A.2.1).take 12) := x_bf t5 hR.1 hl hh (a := 11) (by omega) t6 (fun j hj => by
          rw [t7 j hj, h1 j, if_pos (by omega), c])
        obtain ⟨c1, c2⟩ := M.bef e0 fa t2 (fun k hk => (t3 k hk).trans (by rw [va_up_at, if_neg hk])) (by rw [t4]; congr 2; rw [List.length_take, List.length_cons]; omega) B
        refine ⟨T, ?_, c1, fa, c2⟩
        rw [e_X11_keeps_12, if_pos (by decide +kernel)]
        simp only [MZ.i (show 5 < 35 by decide) h5, p1, t1, xob_some]) (s := S) ⟨xfr.rf, f, hf, fun j => by rw [if_neg (by omega)]⟩
    obtain ⟨T, t1, t2, t3, t4⟩ := key
    refine ⟨T, xcV_of ((e_X11_keeps_0 P m S).trans ?_), t2, t3, t4⟩
    rw [e0.i (show 5 < 35 by decide) h5, xob_some, if_neg (by rw [c]; decide +kernel)]
    exact t1
  · obtain ⟨T, ob1, f', t1, t2, t3, t4, t5, t6, t7, t8⟩ := l_keeps52 (P := P) (a := A.2.1.length) e0 h5 (by omega) hR hf
    have B : xBf T (m + 4) ((A.1 :: A.2.1).take 12) := x_bf t5 hR.1 hl hh (a := A.2.1.length) (by omega) t6 (fun j hj => by
      rw [t7 j hj, Nat.sub_self, Nat.mul_zero, Nat.add_zero])
    obtain ⟨c1, c2⟩ := M.bef e0 t8 t2 t3 (by rw [t4]; congr 2; rw [List.length_take, List.length_cons]; omega) B
    refine ⟨T, xcV_of ((e_X11_keeps_0 P m S).trans ?_), c1, t8, c2⟩
    rw [e0.i (show 5 < 35 by decide) h5, xob_some, if_pos (by rw [ne_eq, iI_eq (by omega) (by omega) (by omega) (by omega)]; omega)]
    exact t1
theorem x_un {G : xF} (hk : F.1 = G.1) (h6 : F.1 ≤ 6) : xct (fun k => decide (¬ xrw F k = xrw G k)) 13 = xun F G F.1 := by
  obtain ⟨n, v, s⟩ := F
  obtain ⟨n', v', s'⟩ := G
  dsimp only at hk h6
  subst hk
  have : n = 0 ∨ n = 1 ∨ n = 2 ∨ n = 3 ∨ n = 4 ∨ n = 5 ∨ n = 6 := by omega
  rcases this with rfl | rfl | rfl | rfl | rfl | rfl | rfl <;> simp [xct, xun, xrw] <;> omega
theorem xMl.changed (M : xMl S m A) (hL : xRo S (m + 3) F) (hk : A.1.1 = F.1) : ∃ T, xcI P m_X11_changed [.ref m] S = some (iI (if xun A.1 F A.1.1 = 0 then -1 else (xun A.1 F A.1.1 : Nat)), T) ∧ xMl T m (if xun A.1 F A.1.1 = 0 then A else xac A F) ∧ xfr S T (xrg m 19) := by
  obtain ⟨ob, e0, h5, h28, hR, -⟩ := id M
  have h6 := hR.1.1
  have hu := xun_le A.1 F A.1.1
  have walk := (xsteps (fun r => xrun P m_X11_changed 4 [(0, .ref m), (1, .int (iI (xct (fun k => decide (¬ xrw A.1 k = xrw F k)) r : Nat))), (2, .int (iI r))] [] S) 13 (by
    intro r hr
    have b1 := xrw_bd hR.1 r
    have b2 := xrw_bd hL.1 r

    rw [e_X11_changed_4, if_neg (by rw [iI_le (by omega) (by omega) (by omega) (by omega)]; omega), e0.r1, xob_some, g_at hR hr, xob_some, e0.r3, xob_some, g_at hL hr, xob_some]
    simp only [iI_eq (a := xrw A.1 r) (b := xrw F r) (by omega) (by omega) (by omega) (by omega), iI_suc, xct]
    by_cases c : xrw A.1 r = xrw F r
    · rw [if_pos c, if_neg (by simp [c])]
      rfl
    · rw [if_neg c, if_pos (by simp [c])]))
  rw [x_un hk h6] at walk
  by_cases c : xun A.1 F A.1.1 = 0
  · refine ⟨S, xcI_of ((e_X11_changed_0 P m S).trans (walk.trans ?_)), by rw [if_pos c]; exact M, xfr.rf⟩
    rw [e_X11_changed_4, if_pos (by decide +kernel), if_neg (by rw [c]; decide +kernel), if_pos c]
  · obtain ⟨T1, a1, M1, f1, f1'⟩ := M.keeps (P := P)
    obtain ⟨ob1, e1, -, -, hR1, -⟩ := id M1
    obtain ⟨T2, b1, b2, b3⟩ := g_copyRow (P := P) (show m + 3 ≠ m + 1 by omega) (hL.fr f1 (by omega)) hR1.ir
    obtain ⟨M2, f2⟩ := M1.row b3 b2
    refine ⟨T2, xcI_of ((e_X11_changed_0 P m S).trans (walk.trans ?_)), by rw [if_neg c]; exact M2, f1'.tr f2⟩
    rw [e_X11_changed_4, if_pos (by decide +kernel), if_pos (by rw [ne_eq, iI_0, iI_eq (by omega) (by omega) (by omega) (by omega)]; omega), e0.o, cond_true, a1, xob_some, e1.r3, xob_some, e1.r1, xob_some, b1, xob_some, if_neg c]
theorem g_fastest (h : xMo S m ob) (hF : xRo S (m + 1) F) : xcI P m_X11_fastest [.ref m] S = some (iI (xmx F.2.1 F.1), S) := by
  have h6 := hF.1.1
  refine xcI_of ((e_X11_fastest_0 P m S).trans ?_)
  refine (xsteps (fun r => xrun P m_X11_fastest 4 [(0, .ref m), (1, .int (iI (xmx F.2.1 r))), (2, .int (iI r))] [] S) F.1 (by
    intro r hr
    have b1 := hF.1.2 r hr
    have b2 := xmx_bd (v := F.2.1) (M := 40) (by omega) r (fun i hi => ⟨(hF.1.2 i (by omega)).1, (hF.1.2 i (by omega)).2.1⟩)

    rw [e_X11_fastest_4, h.r1, xob_some, g_K hF, xob_some, if_neg (by rw [iI_le (by omega) (by omega) (by omega) (by omega)]; omega), h.o, cond_true, g_speedOf h hF hr, xob_some]
    simp only [iI_le (a := F.2.1 r) (b := xmx F.2.1 r) (by omega) (by omega) (by omega) (by omega), iI_suc, xmx]
    by_cases c : F.2.1 r ≤ xmx F.2.1 r
    · rw [if_pos c, show max (xmx F.2.1 r) (F.2.1 r) = xmx F.2.1 r by omega]
    · rw [if_neg c, h.o, cond_true, g_speedOf h hF hr, xob_some, show max (xmx F.2.1 r) (F.2.1 r) = F.2.1 r by omega])).trans ?_

  rw [e_X11_fastest_4, h.r1, xob_some, g_K hF, xob_some, if_pos (by rw [iI_le (by omega) (by omega) (by omega) (by omega)]; omega)]
/-- a row grows -/
theorem xRo.add {a : Nat} (h : xRo S a F) (hk : F.1 < 6) {v s : Int} (v0 : 0 ≤ v) (v1 : v ≤ 40) (s0 : 0 ≤ s) (s1 : s < 12) : ∃ S1 S2 S3, xwrI S a (iI (1 + F.1 : Nat)) (iI v) = some S1 ∧ xwrI S1 a (iI (7 + F.1 : Nat)) (iI s) = some S2 ∧ xwrI S2 a (iI 0) (iI (F.1 + 1 : Nat)) = some S3 ∧ xrdI S1 a (iI 0) = some (iI F.1) ∧ xrdI S2 a (iI 0) = some (iI F.1) ∧ xRo S3 a (F.1 + 1, va_up F.2.1 F.1 v, va_up F.2.2 F.1 s) ∧ xfr S S1 (fun c => c = a) ∧ xfr S1 S2 (fun c => c = a) ∧ xfr S2 S3 (fun c => c = a) := by
  obtain ⟨ok, f, hf, hf2⟩ := h
  obtain ⟨S1, u1, u2, u3⟩ := xwrI_fr (v := iI v) hf (i := (1 + F.1 : Nat)) (by omega) (by omega) (by omega)
  obtain ⟨S2, w1, w2, w3⟩ := xwrI_fr (v := iI s) u2 (i := (7 + F.1 : Nat)) (by omega) (by omega) (by omega)
  obtain ⟨S3, y1, y2, y3⟩ := xwrI_fr (v := iI (F.1 + 1 : Nat)) w2 (i := 0) (by omega) (by omega) (by omega)
  have f0 := hf2 0 (by decide)
  rw [xrw_0] at f0
  refine ⟨S1, S2, S3, u1, w1, y1, ?_, ?_, ⟨⟨by show F.1 + 1 ≤ 6; omega, fun i hi => ?_⟩, _, y2, fun k hk2 => ?_⟩, u3, w3, y3⟩
  · rw [xrdI_at u2 (by omega) (by omega) (by omega)]
    show some (va_up f (1 + F.1) (iI v) 0) = _
    rw [va_up_at, if_neg (by omega), f0]
  · rw [xrdI_at w2 (by omega) (by omega) (by omega)]
    show some (va_up (va_up f (1 + F.1) (iI v)) (7 + F.1) (iI s) 0) = _
    rw [va_up_at, va_up_at, if_neg (by omega), if_neg (by omega), f0]
  · dsimp only at hi ⊢
    rw [va_up_at, va_up_at]
    by_cases c : i = F.1
    · rw [if_pos c, if_pos c]; omega
    · rw [if_neg c, if_neg c]; exact ok.2 i (by omega)
  · show va_up (va_up (va_up f (1 + F.1) (iI v)) (7 + F.1) (iI s)) 0 (iI (F.1 + 1 : Nat)) k = _
    rw [va_up_at, va_up_at, va_up_at]
    unfold xrw
    dsimp only
    by_cases c0 : k = 0
    · rw [if_pos c0, if_pos c0]
    · rw [if_neg c0, if_neg c0]
      have g := hf2 k hk2
      unfold xrw at g
      rw [if_neg c0] at g
      by_cases c1 : k < 7
      · rw [if_neg (by omega), if_pos c1, va_up_at]
        rw [if_pos c1] at g
        by_cases c2 : k = 1 + F.1
        · rw [if_pos c2, if_pos (by omega), if_pos (by omega)]
        · rw [if_neg c2, g, if_neg (show ¬ k - 1 = F.1 by omega)]
          by_cases c3 : k - 1 < F.1
          · rw [if_pos c3, if_pos (by omega)]
          · rw [if_neg c3, if_neg (by omega)]
      · rw [if_neg c1, va_up_at]
        rw [if_neg c1] at g
        by_cases c2 : k = 7 + F.1
        · rw [if_pos c2, if_pos (by omega), if_pos (by omega)]
        · rw [if_neg c2, if_neg (by omega), g, if_neg (show ¬ k - 7 = F.1 by omega)]
          by_cases c3 : k - 7 < F.1
          · rw [if_pos c3, if_pos (by omega)]
          · rw [if_neg c3, if_neg (by omega)]
end KP
