-- deps: 57.best
/-! the best: class and reference look over times that say the same -/
theorem xlst_le {f : Nat → Int} {i : Nat} {z : Int} {j : Nat} (hj : j ≠ i) : ∀ n, j < n → xlst f i z n ≤ f j := by
  intro n
  induction n with
  | zero => intro h; omega
  | succ n ih =>
    intro hn
    simp only [xlst]
    by_cases c : j = n
    · subst c
      rw [if_neg (by omega)]
      exact Int.min_le_right _ _
    · have := ih (by omega)
      split
      · exact this
      · exact Int.le_trans (Int.min_le_left _ _) this
theorem xog_sg (F : xF) (i j : Nat) : (xog F i j = xDD F i j ∧ ∃ c, xol F i j = xLD F i j + 12 * c) ∨ (xog F i j = -xDD F i j ∧ ∃ c, xol F i j = -xLD F i j + 12 * c) := by
  unfold xog xol xDD xLD
  by_cases h : F.2.1 j < F.2.1 i
  · left
    rw [if_pos h]
    exact ⟨by omega, (-(F.2.2 j - F.2.2 i)) % 12 / 12 + -(-(-(F.2.2 j - F.2.2 i)) / 12) * 0 + ((-(F.2.2 j - F.2.2 i)) % 12 - (F.2.2 i - F.2.2 j)) / 12, by omega⟩
  · right
    rw [if_neg h]
    exact ⟨by omega, ((F.2.2 j - F.2.2 i) % 12 - (F.2.2 j - F.2.2 i)) / 12, by omega⟩
theorem xsu_cm {gp ld : Nat → Int} {a b : Nat} {t : Int} (ha : 0 ≤ gp a) (hb : 0 ≤ gp b) : xsu gp ld a b t ↔ xcm (gp a + gp b) (ld a + ld b) t := by
  unfold xsu
  constructor
  · rintro ⟨h1, h2⟩
    exact (xcm_pos (by omega)).mpr h2
  · intro h
    have h0 := h.1
    exact ⟨by omega, (xcm_pos (by omega)).mp h⟩
theorem xdi_cm {gp ld : Nat → Int} {a b : Nat} {t : Int} : xdi gp ld a b t ↔ xcm (gp a - gp b) (ld a - ld b) t := by
  unfold xdi
  by_cases c : gp a - gp b < 0
  · rw [if_pos c, show ((gp a - gp b).natAbs : Int) = -(gp a - gp b) by omega]
    rw [← xcm_pos (show 0 < -(gp a - gp b) by omega), xcm_neg]
    exact ⟨fun h => h.2, fun h => ⟨by omega, h⟩⟩
  · rw [if_neg c, show ((gp a - gp b).natAbs : Int) = gp a - gp b by omega]
    constructor
    · rintro ⟨h1, h2⟩
      exact (xcm_pos (by omega)).mpr h2
    · intro h
      have h0 := h.1
      exact ⟨by omega, (xcm_pos (by omega)).mp h⟩
/-- two others: sums and differences -/
theorem xcm_two {F : xF} {i j k : Nat} {t : Int} : (xcm (xog F i j + xog F i k) (xol F i j + xol F i k) t ∨ xcm (xog F i j - xog F i k) (xol F i j - xol F i k) t) ↔ (xcm (xDD F i j - xDD F i k) (xLD F i j - xLD F i k) t ∨ xcm (xDD F i j + xDD F i k) (xLD F i j + xLD F i k) t) := by
  rcases xog_sg F i j with ⟨h1, c1, e1⟩ | ⟨h1, c1, e1⟩ <;> rcases xog_sg F i k with ⟨h2, c2, e2⟩ | ⟨h2, c2, e2⟩
  · rw [h1, h2, xcm_12 (l := xol F i j + xol F i k) (l' := xLD F i j + xLD F i k) ⟨c1 + c2, by omega⟩, xcm_12 (l := xol F i j - xol F i k) (l' := xLD F i j - xLD F i k) ⟨c1 - c2, by omega⟩]
    exact Or.comm
  · rw [h1, h2, xcm_12 (l := xol F i j + xol F i k) (l' := xLD F i j - xLD F i k) ⟨c1 + c2, by omega⟩, xcm_12 (l := xol F i j - xol F i k) (l' := xLD F i j + xLD F i k) ⟨c1 - c2, by omega⟩, show xDD F i j + -xDD F i k = xDD F i j - xDD F i k by omega, show xDD F i j - -xDD F i k = xDD F i j + xDD F i k by omega]
  · rw [h1, h2, xcm_12 (l := xol F i j + xol F i k) (l' := -(xLD F i j - xLD F i k)) ⟨c1 + c2, by omega⟩, xcm_12 (l := xol F i j - xol F i k) (l' := -(xLD F i j + xLD F i k)) ⟨c1 - c2, by omega⟩, show -xDD F i j + xDD F i k = -(xDD F i j - xDD F i k) by omega, show -xDD F i j - xDD F i k = -(xDD F i j + xDD F i k) by omega, xcm_neg, xcm_neg]
  · rw [h1, h2, xcm_12 (l := xol F i j + xol F i k) (l' := -(xLD F i j + xLD F i k)) ⟨c1 + c2, by omega⟩, xcm_12 (l := xol F i j - xol F i k) (l' := -(xLD F i j - xLD F i k)) ⟨c1 - c2, by omega⟩, show -xDD F i j + -xDD F i k = -(xDD F i j + xDD F i k) by omega, show -xDD F i j - -xDD F i k = -(xDD F i j - xDD F i k) by omega, xcm_neg, xcm_neg]
    exact Or.comm
/-- one other, twice: at its place, or over against it -/
theorem xcm_dbl {g l t : Int} : xcm (g + g) (l + l) t ↔ xcm g l t ∨ xcm g (l + 6) t := by
  unfold xcm
  have hL := xLL_pos
  have e1 : (g + g) * t + (l + l) * xLL = 2 * (g * t + l * xLL) := by rw [Int.add_mul, Int.add_mul]; omega
  have e2 : g * t + (l + 6) * xLL = (g * t + l * xLL) + 6 * xLL := by rw [Int.add_mul]; omega
  rw [e1, e2]
  generalize g * t + l * xLL = u
  have key : (12 * xLL ∣ 2 * u) ↔ (12 * xLL ∣ u ∨ 12 * xLL ∣ u + 6 * xLL) := by
    constructor
    · rintro ⟨c, hc⟩
      have hu : u = 6 * xLL * c := by
        rw [show 12 * xLL * c = 2 * (6 * xLL * c) by rw [show 12 * xLL = 2 * (6 * xLL) by omega, Int.mul_assoc]] at hc
        omega
      by_cases d : c % 2 = 0
      · left
        have hd : c = 2 * (c / 2) := by omega
        refine ⟨c / 2, ?_⟩
        generalize c / 2 = d at hd ⊢
        rw [hu, hd, show 12 * xLL = 6 * xLL * 2 by omega]
        ac_rfl
      · right
        have hd : c = 2 * (c / 2) + 1 := by omega
        refine ⟨c / 2 + 1, ?_⟩
        generalize c / 2 = d at hd ⊢
        have e : 6 * xLL * (2 * d) = 12 * xLL * d := by
          rw [show 12 * xLL = 6 * xLL * 2 by omega]
          ac_rfl
        rw [hu, hd, Int.mul_add, Int.mul_add, Int.mul_one, Int.mul_one, e]
        omega
    · rintro (⟨c, hc⟩ | ⟨c, hc⟩)
      · exact ⟨2 * c, by rw [hc]; ac_rfl⟩
      · refine ⟨2 * c - 1, ?_⟩
        rw [Int.mul_sub, Int.mul_one, show 12 * xLL * (2 * c) = 2 * (12 * xLL * c) by ac_rfl, ← hc]
        omega
  rw [key]
  constructor
  · rintro ⟨h1, h2, h3, h4 | h4⟩
    · exact Or.inl ⟨by omega, h2, h3, h4⟩
    · exact Or.inr ⟨by omega, h2, h3, h4⟩
  · rintro (⟨h1, h2, h3, h4⟩ | ⟨h1, h2, h3, h4⟩)
    · exact ⟨by omega, h2, h3, Or.inl h4⟩
    · exact ⟨by omega, h2, h3, Or.inr h4⟩
theorem xcm_pk {F : xF} {i j : Nat} {t : Int} : xcm (xog F i j) (xol F i j + 6) t ↔ xcm (xDD F i j) (xLD F i j + 6) t := by
  rcases xog_sg F i j with ⟨h1, c1, e1⟩ | ⟨h1, c1, e1⟩
  · rw [h1, xcm_12 (l := xol F i j + 6) (l' := xLD F i j + 6) ⟨c1, by omega⟩]
  · rw [h1, xcm_12 (l := xol F i j + 6) (l' := -(xLD F i j + 6)) ⟨c1 + 1, by omega⟩, xcm_neg]
theorem xfN_0 {F : xF} {i j : Nat} {t : Int} (hj : j < F.1) (hji : j ≠ i) (h : xcm (xog F i j) (xol F i j) t) : xfN F i t = 0 := by
  have b := xnr_bd F i (x := t) (e := xLL) xLL_pos
  have e := xa2_dd F i j (x := t) (e := xLL) xLL_pos
  have le := xlst_le (f := fun j => xdd F i j t xLL) (z := 6 * xLL) hji F.1 hj
  have z : xa2 (xog F i) (xol F i) t xLL j = 0 := by
    unfold xa2
    rw [Int.emod_eq_zero_of_dvd h.2.2.2]
    have := xLL_pos
    omega
  have le2 : xfN F i t ≤ xdd F i j t xLL := le
  have : 0 ≤ xfN F i t := b.1
  omega
/-- the class's best is the reference's -/
theorem xbo_same {F : xF} {i : Nat} (hi : i < F.1) {t : Int} (h : xbo (xfN F i) (xD0 (fun t => xog F i (xsk i t)) (fun t => xol F i (xsk i t)) (F.1 - 1)) t) : xbo (xfN F i) (xDm F i F.1) t := by
  have g0 : ∀ j, 0 ≤ xog F i j := fun j => by unfold xog; omega
  have f0 : 0 ≤ xfN F i 0 := (xnr_bd F i (x := 0) (e := xLL) xLL_pos).1
  -- what the class tries: the reference's, or a time of nearness
  have sub : ∀ s, xD0 (fun t => xog F i (xsk i t)) (fun t => xol F i (xsk i t)) (F.1 - 1) s → xDm F i F.1 s ∨ (0 ≤ s ∧ xfN F i s = 0) := by
    intro s hs
    rcases hs with rfl | ⟨a, b, ha, hs⟩
    · exact Or.inl (Or.inl rfl)
    · have sa : xsk i a < F.1 ∧ xsk i a ≠ i := by unfold xsk; split <;> omega
      by_cases c : b = a
      · subst c
        rcases hs with ⟨-, hs⟩ | ⟨h, -⟩
        · have hs' := (xsu_cm (gp := fun t => xog F i (xsk i t)) (ld := fun t => xol F i (xsk i t)) (g0 _) (g0 _)).mp hs
          rcases xcm_dbl.mp hs' with hs | hs
          · exact Or.inr ⟨hs.2.1, xfN_0 sa.1 sa.2 hs⟩
          · exact Or.inl (Or.inr ⟨xsk i b, sa.1, sa.2, Or.inl (xcm_pk.mp hs)⟩)
        · omega
      · have sb : xsk i b ≠ i := by unfold xsk; split <;> omega
        have hba : b < a := by rcases hs with ⟨h, -⟩ | ⟨h, -⟩ <;> omega
        have lt : xsk i b < xsk i a := by unfold xsk; split <;> split <;> omega
        refine Or.inl (Or.inr ⟨xsk i a, sa.1, sa.2, Or.inr ⟨xsk i b, lt, sb, xcm_two.mp ?_⟩⟩)
        rcases hs with ⟨-, hs⟩ | ⟨-, hs⟩
        · exact Or.inl ((xsu_cm (g0 _) (g0 _)).mp hs)
        · exact Or.inr (xdi_cm.mp hs)
  have pos : ∀ j, j < F.1 → j ≠ i → ∃ a, a < F.1 - 1 ∧ xsk i a = j := by
    intro j hj hji
    by_cases c : j < i
    · exact ⟨j, by omega, by unfold xsk; rw [if_pos c]⟩
    · exact ⟨j - 1, by omega, by unfold xsk; rw [if_neg (by omega)]; omega⟩
  have sup : ∀ s, xDm F i F.1 s → xD0 (fun t => xog F i (xsk i t)) (fun t => xol F i (xsk i t)) (F.1 - 1) s := by
    intro s hs
    rcases hs with rfl | ⟨j, hj, hji, hs⟩
    · exact Or.inl rfl
    · obtain ⟨a, ha, ea⟩ := pos j hj hji
      subst ea
      rcases hs with hs | ⟨m', hm, hmi, hs⟩
      · refine Or.inr ⟨a, a, ha, Or.inl ⟨Nat.le_refl _, ?_⟩⟩
        exact (xsu_cm (gp := fun t => xog F i (xsk i t)) (ld := fun t => xol F i (xsk i t)) (g0 _) (g0 _)).mpr (xcm_dbl.mpr (Or.inr (xcm_pk.mpr hs)))
      · obtain ⟨b, hb, eb⟩ := pos m' (by omega) hmi
        subst eb
        have lt : b < a := by unfold xsk at hm; split at hm <;> split at hm <;> omega
        rcases xcm_two.mpr hs with h | h
        · exact Or.inr ⟨a, b, ha, Or.inl ⟨by omega, (xsu_cm (g0 _) (g0 _)).mpr h⟩⟩
        · exact Or.inr ⟨a, b, ha, Or.inr ⟨lt, xdi_cm.mpr h⟩⟩
  refine ⟨?_, fun s hs => h.2 s (sup s hs)⟩
  rcases sub t h.1 with ht | ⟨t0, ht⟩
  · exact ht
  · have := h.2 0 (Or.inl rfl)
    unfold xlx at this
    left
    omega
/-- the time of the best, in parts of 12 xLL -/
noncomputable def xbT (F : xF) (i : Nat) : Int := Classical.epsilon (fun t : Int => xbo (xfN F i) (xDm F i F.1) t)
theorem xbT_is {F : xF} {i : Nat} {t : Int} (h : xbo (xfN F i) (xDm F i F.1) t) : t = xbT F i := by
  have ex : ∃ t, xbo (xfN F i) (xDm F i F.1) t := ⟨t, h⟩
  exact h.un (Classical.epsilon_spec ex)
noncomputable def xTell (F : xF) (i : Nat) (w : Int) : Int := if w < 2 then xpo (xfN F i (xbT F i)) (12 * xLL) (w % 2 == 1) else xpo (xbT F i) (12 * xLL) (w % 2 == 1)
noncomputable def xCmp (F : xF) (i : Nat) : Int := if xfN F i (xbT F i) * F.1 < 12 * xLL then -1 else if xfN F i (xbT F i) * F.1 = 12 * xLL then 0 else 1
noncomputable def xTg (F : xF) (i : Nat) : Int := if F.1 = 1 then 2 else 1 + xCmp F i
theorem xTg_bd (F : xF) (i : Nat) : 0 ≤ xTg F i ∧ xTg F i ≤ 2 := by
  unfold xTg xCmp
  repeat' split
  all_goals omega
theorem xfN_bd (F : xF) (i : Nat) (t : Int) : 0 ≤ xfN F i t ∧ xfN F i t ≤ 6 * xLL := xnr_bd F i xLL_pos
/-- a height N by 12 q, a time u by w that stand for it -/
theorem x_tell {F : xF} {i : Nat} {N q u w v t : Int} (ht : t = xbT F i) (t0 : 0 ≤ t) (N0 : 0 ≤ N) (q0 : 0 < q) (h1 : N * xLL = xfN F i t * q) (u0 : 0 ≤ u) (w0 : 0 < w) (h2 : u * (12 * xLL) = t * w) : xTell F i v = if v < 2 then xpo N (12 * q) (v % 2 == 1) else xpo u w (v % 2 == 1) := by
  have hL := xLL_pos
  have fb := xfN_bd F i t
  unfold xTell
  rw [← ht]
  by_cases c : v < 2
  · rw [if_pos c, if_pos c]
    exact xpo_eq fb.1 (by omega) N0 (by omega) (by rw [show xfN F i t * (12 * q) = 12 * (xfN F i t * q) by ac_rfl, ← h1]; ac_rfl) _
  · rw [if_neg c, if_neg c]
    exact xpo_eq t0 (by omega) u0 w0 h2.symm _
theorem x_cmpr {F : xF} {i : Nat} {N q : Int} (q0 : 0 < q) (h1 : N * xLL = xfN F i (xbT F i) * q) : xCmp F i = if N * F.1 < 12 * q then -1 else if N * F.1 = 12 * q then 0 else 1 := by
  have hL := xLL_pos
  have r := x_rt (A := N * F.1) (B := 12) (f := xfN F i (xbT F i) * F.1) (g := 12 * xLL) (q := q) (r := 1) (L := xLL) hL q0 (by decide) (by rw [show N * F.1 * xLL = N * xLL * F.1 by ac_rfl, h1]; ac_rfl) (by omega)
  rw [Int.mul_one] at r
  unfold xCmp
  by_cases c : xfN F i (xbT F i) * F.1 < 12 * xLL
  · rw [if_pos c, if_pos (r.1.mpr c)]
  · rw [if_neg c, if_neg (fun z => c (r.1.mp z))]
    by_cases d : xfN F i (xbT F i) * F.1 = 12 * xLL
    · rw [if_pos d, if_pos (r.2.mpr d)]
    · rw [if_neg d, if_neg (fun z => d (r.2.mp z))]
section B2
variable {P : Nat → Nat} {S : xS} {x m : Nat} {A : xAb} {ob ob0 : Nat → Value} {F : xF}
/-- the class seeks the best -/
theorem xCl.seek (H : xCl S x A) {b : Nat} (hF : xFd S b F) (hb : b = x + 1 ∨ b = x + 4) {i : Nat} (hi : i < F.1) {kh kp : Int} (hP : xPr S (x + 64) kh kp) : ∃ T u e, xcV P m_X4_seek [.ref (x + 64), .ref b, .int (iI i)] S = some T ∧ 0 ≤ u ∧ u < 12 * e ∧ 1 ≤ e ∧ e ≤ 80 ∧ xPk T (x + 64) (xnr F i u e) (12 * e) u (12 * e) kh kp ∧ xPr T (x + 64) kh kp ∧ xCl T x A ∧ xfr S T (xrg (x + 64) 4) ∧ xfr S T (xrg x 89) ∧ xnr F i u e * xLL = xfN F i (xbT F i) * e ∧ (∀ w, 0 ≤ w → w ≤ 3 → xcI P m_X4_tell [.ref (x + 64), .int (iI w)] T = some (iI (xTell F i w), T)) ∧ xcI P m_X4_comparedToLonely [.ref (x + 64), .int (iI F.1)] T = some (iI (xCmp F i), T) := by
  have hk := hF.1.1
  obtain ⟨T, u, e, k1, k2, k3, k4, k5⟩ := d_seek (P := P) hP hF (by omega) hi
  obtain ⟨u0, u1, e0, e1, hPk⟩ := id k2
  have en : xNr (fun t => xog F i (xsk i t)) (fun t => xol F i (xsk i t)) (F.1 - 1) u e = xnr F i u e := xNr_nr F hi (by omega)
  have ef : xfL (fun t => xog F i (xsk i t)) (fun t => xol F i (xsk i t)) (F.1 - 1) = xfN F i := funext (fun t => xNr_nr F hi xLL_pos)
  rw [ef] at k5
  have eT := xbT_is (xbo_same hi k5)
  rw [en] at hPk
  have q := xta_q e0 e1
  have eL := xta_L e0 e1
  have h1 : xnr F i u e * xLL = xfN F i (xta u e) * e := by
    have s := xnr_scale F i (x := u) (e := e) q
    rw [← eL] at s
    have s' : xfN F i (xta u e) = xnr F i u e * (xLL / e) := s
    rw [s', Int.mul_assoc, Int.mul_comm (xLL / e) e, ← eL]
  have h2 : u * (12 * xLL) = xta u e * (12 * e) := by
    unfold xta
    rw [show u * (xLL / e) * (12 * e) = u * (12 * (e * (xLL / e))) by ac_rfl, ← eL]
  have nb := xnr_bd F i (x := u) (e := e) (by omega)
  have t0 : 0 ≤ xta u e := Int.mul_nonneg u0 (by omega)
  have hPr : xPr T (x + 64) kh kp := ⟨⟨_, _, _, _, hPk⟩, by
    obtain ⟨-, -, f, g, z, -⟩ := k3
    exact ⟨_, f, g, z⟩⟩
  obtain ⟨c1, c2⟩ := H.pk k4 ⟨kh, kp, hPr⟩
  refine ⟨T, u, e, k1, u0, u1, e0, e1, hPk, hPr, c1, k4, c2, by rw [← eT]; exact h1, fun w w0 w1 => ?_, ?_⟩
  · have dt := d_tell (P := P) k2 w0 w1
    rw [en] at dt
    rw [dt, x_tell (v := w) eT t0 nb.1 (show 0 < e by omega) h1 u0 (show 0 < 12 * e by omega) h2]
  · have dc := d_compared (P := P) k2 (k := F.1) (by omega) (by omega)
    rw [en] at dc
    rw [dc, x_cmpr (show 0 < e by omega) (by rw [← eT]; exact h1)]
theorem xPr.ex (h : xPa S (x + 64)) : ∃ kh kp, xPr S (x + 64) kh kp := h
/-- what the reference tells of it -/
theorem xBs.use {S0 T : xS} {i : Nat} (h : xBs S0 T m ob0 F i (xDm F i F.1)) (hk : F.1 ≤ 6) : ∃ N q ob, xMo T m ob ∧ ob 9 = .long (jI N) ∧ ob 10 = .long (jI (12 * q)) ∧ 0 ≤ N ∧ N ≤ 5760 ∧ 1 ≤ q ∧ q ≤ 960 ∧ N * xLL = xfN F i (xbT F i) * q ∧ (∀ k, k ≠ 9 → k ≠ 10 → k ≠ 11 → k ≠ 12 → ob k = ob0 k) ∧ xfr S0 T (fun b => b = m) ∧ ∀ (Z : xS) (w : Int), 0 ≤ w → w ≤ 3 → xMo Z m ob → xcI P m_X11_toldBest [.ref m, .int (iI w)] Z = some (iI (xTell F i w), Z) := by
  obtain ⟨p, q, t, ob, M, h9, h10, h11, h12, hk2, hf, ht, hb⟩ := h
  have eT := xbT_is hb
  have hN := xmT_f (F := F) (i := i) ht
  obtain ⟨q1, q2, p0, p1, pe⟩ := ht
  have nb := xnr_bd F i (x := 12 * p) (e := q) (by omega)
  have t0 : 0 ≤ t := by
    by_cases c : 0 ≤ t
    · exact c
    · have a := Int.mul_neg_of_neg_of_pos (show t < 0 by omega) (show 0 < q by omega)
      have b := Int.mul_nonneg p0 (show 0 ≤ 12 * xLL by have := xLL_pos; omega)
      omega
  refine ⟨_, q, ob, M, h9, h10, nb.1, by omega, q1, q2, by rw [← eT]; exact hN, hk2, hf, fun Z w w0 w1 MZ => xcI_of ((e_X11_toldBest_0 P m (iI w) Z).trans ?_)⟩
  have xt := x_tell (v := w) eT t0 nb.1 (show 0 < q by omega) hN p0 (show 0 < q by omega) pe.symm
  rw [xt]
  have dh := fun t => d_part (P := P) (S := Z) (u := xnr F i (12 * p) q) (l := 12 * q) nb.1 (by omega) (by omega) (by omega) t
  have dt := fun t => d_part (P := P) (S := Z) (u := p) (l := q) p0 (by omega) (by omega) (by omega) t
  have dh0 := dh false
  have dh1 := dh true
  have dt0 := dt false
  have dt1 := dt true
  simp only [xb, Bool.false_eq_true, if_false, if_true] at dh0 dh1 dt0 dt1
  simp only [MZ.j (by decide) h9, MZ.j (by decide) h10, MZ.j (by decide) h11, MZ.j (by decide) h12, xob_some]
  have e2 : (iI 2 ≤ iI w) ↔ 2 ≤ w := iI_le (by decide) (by decide) (by omega) (by omega)
  have e3 : (iI w = iI 3) ↔ w = 3 := iI_eq (by omega) (by omega) (by decide) (by decide)
  have e1 : (iI w = iI 1) ↔ w = 1 := iI_eq (by omega) (by omega) (by decide) (by decide)
  rcases (by omega : w = 0 ∨ w = 1 ∨ w = 2 ∨ w = 3) with rfl | rfl | rfl | rfl
  · rw [if_neg (by rw [e2]; omega), if_pos (show iI 0 ≠ iI 1 by decide +kernel), dh0, xob_some, jI_ij]
    rfl
  · rw [if_neg (by rw [e2]; omega), if_neg (show ¬ iI 1 ≠ iI 1 from fun z => z rfl), dh1, xob_some, jI_ij]
    rfl
  · rw [if_pos (by rw [e2]; omega), if_pos (show iI 2 ≠ iI 3 by decide +kernel), dt0, xob_some, jI_ij]
    rfl
  · rw [if_pos (by rw [e2]; omega), if_neg (show ¬ iI 3 ≠ iI 3 from fun z => z rfl), dt1, xob_some, jI_ij]
    rfl
/-- only numbers have changed, not those that count -/
theorem xMl.num {T : xS} {ob1 : Nat → Value} (M : xMl S m A) (hf : xfr S T (fun b => b = m ∨ b = m + 1)) (hn : xMo T m ob1) (hr : xRo T (m + 1) A.1) (h5 : ob1 5 = .int (iI A.2.1.length)) (h28 : ob1 28 = .int (iI A.2.2.2.1)) : xMl T m A ∧ xfr S T (xrg m 19) := by
  obtain ⟨ob, e0, e1, e2, e3, e4, e5, e6, e7, e8⟩ := M
  exact ⟨⟨ob1, hn, h5, h28, hr, e4.fr hf (by omega), e5.fr hf (by omega) (by omega), e6.fr hf (by omega), e7.fr hf (by omega), e8.fr hf (fun d hd => by omega)⟩, hf.mono (fun b hb => ⟨by omega, by omega⟩)⟩
theorem g_tightness (M : xMo S m ob0) (hR : xRo S (m + 1) F) {i : Nat} (hi : i < F.1) : ∃ T ob, xcI P m_X11_tightness [.ref m, .int (iI i)] S = some (iI (xTg F i), T) ∧ xMo T m ob ∧ (∀ k, k ≠ 9 → k ≠ 10 → k ≠ 11 → k ≠ 12 → ob k = ob0 k) ∧ xfr S T (fun b => b = m) := by
  have hk := hR.1.1
  have e1 : (iI F.1 ≠ iI 1) ↔ F.1 ≠ 1 := by rw [ne_eq, iI_eq (by omega) (by omega) (by decide) (by decide)]; omega
  by_cases c : F.1 = 1
  · refine ⟨S, ob0, xcI_of ((e_X11_tightness_0 P m (iI i) S).trans ?_), M, fun _ _ _ _ _ => rfl, xfr.rf⟩
    rw [M.r1, xob_some, g_K hR, xob_some, if_neg (by rw [e1]; omega), xTg, if_pos c]
  · obtain ⟨T, k1, k2⟩ := g_looks (P := P) M hR hi
    obtain ⟨N, q, ob, M2, h9, h10, N0, N1, q0, q1, hN, hk2, hf, -⟩ := k2.use (P := P) hk
    have hR2 := hR.fr hf (by omega)
    have nk := x_mul_bd N0 N1 (show (0 : Int) ≤ F.1 by omega) (show (F.1 : Int) ≤ 6 by omega)
    refine ⟨T, ob, xcI_of ((e_X11_tightness_0 P m (iI i) S).trans ?_), M2, hk2, hf⟩
    rw [M.r1, xob_some, g_K hR, xob_some, if_pos (by rw [e1]; exact c)]
    simp only [M.o, k1, M2.j (by decide) h9, M2.j (by decide) h10, M2.r1, g_K hR2, xob_some, cond_true]
    rw [iI_ji (by omega) (by omega), jI_mul, jI_sub, xTg, if_neg c, x_cmpr (show 0 < q by omega) hN]
    by_cases a : N * F.1 < 12 * q
    · rw [if_neg (by rw [x_cge (by omega) (by omega) (by decide) (by decide)]; omega), if_pos a]
      rfl
    · rw [if_pos (by rw [x_cge (by omega) (by omega) (by decide) (by decide)]; omega), if_neg a]
      by_cases b : N * F.1 = 12 * q
      · rw [if_neg (by rw [ne_eq, x_ceq (by omega) (by omega) (by decide) (by decide)]; omega), if_pos b]
        rfl
      · rw [if_pos (by rw [ne_eq, x_ceq (by omega) (by omega) (by decide) (by decide)]; omega), if_neg b]
        rfl
end B2
