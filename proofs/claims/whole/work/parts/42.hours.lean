-- deps: 41.spans2
/-! the reference adds up hours -/
def xHo (ob : Nat → Value) (sc X : Int) : Prop := ∃ ht hb : Int, ob 21 = .long (jI ht) ∧ ob 22 = .long (jI hb) ∧ 1 ≤ hb ∧ Int.gcd ht hb = 1 ∧ ht * sc = X * hb
theorem x_abs_bd {a b X sc c : Int} (hs : 0 < sc) (hb : 1 ≤ b) (h : a * sc = X * b) (h0 : -(c * sc) ≤ X) (h1 : X ≤ c * sc) : -(c * b) ≤ a ∧ a ≤ c * b := by
  have e1 : X * b ≤ c * sc * b := Int.mul_le_mul_of_nonneg_right h1 (by omega)
  have e0 : -(c * sc) * b ≤ X * b := Int.mul_le_mul_of_nonneg_right h0 (by omega)
  rw [← h] at e0 e1
  rw [show c * sc * b = c * b * sc by ac_rfl] at e1
  rw [Int.neg_mul, show c * sc * b = c * b * sc by ac_rfl, ← Int.neg_mul] at e0
  exact ⟨Int.le_of_mul_le_mul_right e0 hs, Int.le_of_mul_le_mul_right e1 hs⟩
section HO
variable {P : Nat → Nat} {S : xS} {m n nT : Nat} {ob : Nat → Value} {sc X : Int} {T u v : Nat → Int} {F : xF}
theorem x_hb_dvd {ht hb : Int} (hg : Int.gcd ht hb = 1) (h : ht * sc = X * hb) : hb ∣ sc := by
  have h1 : hb ∣ ht * sc := ⟨X, by rw [h, Int.mul_comm]⟩
  have h2 := Int.dvd_gcd_mul_iff_dvd_mul.mpr h1
  rw [Int.gcd_comm, hg] at h2
  simpa using h2
theorem d_adds (hM : xMo S m ob) (hH : xHo ob sc X) (hs : 0 < sc) (sc1 : sc ≤ 4611686018427387903) {p q Y : Int} (q0 : 1 ≤ q) (q1 : q ≤ 5760) (hp : p * sc = Y * q) (hX : -(2 * sc) ≤ X ∧ X ≤ 2 * sc) (hY : -sc ≤ Y ∧ Y ≤ sc) (hXY : -(2 * sc) ≤ X + Y ∧ X + Y ≤ 2 * sc) (hB : (q ∣ 12 * sc ∧ 12 * sc ≤ 4611686018427387903) ∨ sc * 5760 ≤ 4611686018427387903) :
    ∃ S1 ob1, xcV P m_X11_adds [.ref m, .long (jI p), .long (jI q)] S = some S1 ∧ xMo S1 m ob1 ∧ (∀ k, k ≠ 21 → k ≠ 22 → ob1 k = ob k) ∧ xHo ob1 sc (X + Y) ∧ xfr S S1 (fun c => c = m) := by
  obtain ⟨ht, hb, o1, o2, hb0, hg, he⟩ := hH
  have hd := x_hb_dvd hg he
  have hb1 := Int.le_of_dvd hs hd
  have g1 := x_gcd_le (u := hb) (l := q) (by omega)
  obtain ⟨b', hb'⟩ := Int.gcd_dvd_left (a := hb) (b := q)
  obtain ⟨q', hq'⟩ := Int.gcd_dvd_right (a := hb) (b := q)
  have hlcm : ((Nat.lcm hb.toNat q.toNat : Nat) : Int) = b' * q := by
    have := x_lc (a := hb) (b := q) (by omega) (by omega)
    rw [← this]
    congr 1
    have e : hb = b' * (Int.gcd hb q : Int) := by rw [Int.mul_comm]; exact hb'
    exact Int.ediv_eq_of_eq_mul_left (by omega) e
  have hbot : b' * q ≤ 4611686018427387903 ∧ 1 ≤ b' * q := by
    refine ⟨?_, ?_⟩
    · rcases hB with ⟨h1, h2⟩ | h1
      · have d1 : Nat.lcm hb.toNat q.toNat ∣ (12 * sc).toNat := by
          refine Nat.lcm_dvd ?_ ?_
          · have : hb ∣ 12 * sc := Int.dvd_trans hd ⟨12, Int.mul_comm _ _⟩
            have h3 : ((hb.toNat : Nat) : Int) ∣ (((12 * sc).toNat : Nat) : Int) := by rw [Int.toNat_of_nonneg (by omega), Int.toNat_of_nonneg (by omega)]; exact this
            exact Int.natCast_dvd_natCast.mp h3
          · have h3 : ((q.toNat : Nat) : Int) ∣ (((12 * sc).toNat : Nat) : Int) := by rw [Int.toNat_of_nonneg (by omega), Int.toNat_of_nonneg (by omega)]; exact h1
            exact Int.natCast_dvd_natCast.mp h3
        have := Nat.le_of_dvd (by omega) d1
        omega
      · have d1 : Nat.lcm hb.toNat q.toNat ≤ hb.toNat * q.toNat := Nat.div_le_self _ _
        have d2 := Nat.mul_le_mul (show hb.toNat ≤ sc.toNat by omega) (show q.toNat ≤ 5760 by omega)
        have d3 : ((sc.toNat * 5760 : Nat) : Int) = sc * 5760 := by rw [Int.natCast_mul, Int.toNat_of_nonneg (by omega)]; rfl
        omega
    · have b0 : 1 ≤ b' := by
        by_cases c : 1 ≤ b'
        · exact c
        · have := Int.mul_le_mul_of_nonneg_left (show b' ≤ 0 by omega) (show 0 ≤ (Int.gcd hb q : Int) by omega)
          rw [← hb', Int.mul_zero] at this
          omega
      exact Int.mul_pos (by omega) (by omega)
  generalize hgg : (Int.gcd hb q : Int) = g at *
  have q'0 : 1 ≤ q' := by
    by_cases c : 1 ≤ q'
    · exact c
    · have := Int.mul_le_mul_of_nonneg_left (show q' ≤ 0 by omega) (show 0 ≤ g by omega)
      rw [← hq', Int.mul_zero] at this
      omega
  have b'0 : 1 ≤ b' := by
    by_cases c : 1 ≤ b'
    · exact c
    · have := Int.mul_le_mul_of_nonneg_left (show b' ≤ 0 by omega) (show 0 ≤ g by omega)
      rw [← hb', Int.mul_zero] at this
      omega
  have dq : q / g = q' := Int.ediv_eq_of_eq_mul_right (by omega) hq'
  have db : hb / g = b' := Int.ediv_eq_of_eq_mul_right (by omega) hb'
  have hbq : hb * q' = b' * q := by rw [hb', hq']; ac_rfl
  have k1 := x_abs_bd (c := 2) hs hb0 he hX.1 hX.2
  have k2 := x_abs_bd (c := 1) hs q0 hp (by omega) (by omega)
  have m1 : -(2 * (b' * q)) ≤ ht * q' ∧ ht * q' ≤ 2 * (b' * q) := by
    have h1 := Int.mul_le_mul_of_nonneg_right k1.2 (show 0 ≤ q' by omega)
    have h2 := Int.mul_le_mul_of_nonneg_right k1.1 (show 0 ≤ q' by omega)
    rw [Int.mul_assoc, hbq] at h1
    rw [Int.neg_mul, Int.mul_assoc, hbq] at h2
    exact ⟨h2, h1⟩
  have m2 : -(b' * q) ≤ p * b' ∧ p * b' ≤ b' * q := by
    have h1 := Int.mul_le_mul_of_nonneg_right k2.2 (show 0 ≤ b' by omega)
    have h2 := Int.mul_le_mul_of_nonneg_right k2.1 (show 0 ≤ b' by omega)
    rw [Int.one_mul, Int.mul_comm q] at h1
    rw [Int.one_mul, Int.neg_mul, Int.mul_comm q] at h2
    exact ⟨h2, h1⟩
  have et : (ht * q' + p * b') * sc = (X + Y) * (b' * q) := by
    rw [Int.add_mul, Int.add_mul, show ht * q' * sc = ht * sc * q' by ac_rfl, he, show X * hb * q' = X * (hb * q') by ac_rfl, hbq, show p * b' * sc = p * sc * b' by ac_rfl, hp, show Y * q * b' = Y * (b' * q) by ac_rfl]
  generalize htop : ht * q' + p * b' = top at *
  generalize hbo : b' * q = bot at *
  have k3 := x_abs_bd (c := 2) hs hbot.2 et hXY.1 hXY.2
  have g2 := x_gcd_le (u := top) (l := bot) (by omega)
  obtain ⟨t', ht'⟩ := Int.gcd_dvd_left (a := top) (b := bot)
  obtain ⟨o', ho'⟩ := Int.gcd_dvd_right (a := top) (b := bot)
  have hg1 : Int.gcd t' o' = 1 := by
    have : Int.gcd top bot = Int.gcd top bot * Int.gcd t' o' := by
      have h := Int.gcd_mul_left (Int.gcd top bot : Int) t' o'
      rw [← ht', ← ho', Int.natAbs_natCast] at h
      exact h
    have g3 : 0 < Int.gcd top bot := by omega
    exact (Nat.eq_of_mul_eq_mul_left g3 (this.symm.trans (Nat.mul_one _).symm))
  generalize hg3 : (Int.gcd top bot : Int) = g3 at *
  have o'0 : 1 ≤ o' := by
    by_cases c : 1 ≤ o'
    · exact c
    · have := Int.mul_le_mul_of_nonneg_left (show o' ≤ 0 by omega) (show 0 ≤ g3 by omega)
      rw [← ho', Int.mul_zero] at this
      omega
  have dt : top.tdiv g3 = t' := by rw [ht', Int.mul_tdiv_cancel_left _ (by omega)]
  have dbo : bot.tdiv g3 = o' := by rw [ho', Int.mul_tdiv_cancel_left _ (by omega)]
  obtain ⟨S1, i1, i2, i3⟩ := hM.put (k := 21) (by omega) rfl (tag := 1) (v := .long (jI t')) rfl
  obtain ⟨S2, j1, j2, j3⟩ := i2.put (k := 22) (by omega) rfl (tag := 1) (v := .long (jI o')) rfl
  refine ⟨S2, _, xcV_of ((e_X11_adds_0 P m (jI p) (jI q) S).trans ?_), j2, fun k h1 h2 => by rw [va_up_at, if_neg h2, va_up_at, if_neg h1], ⟨t', o', by rw [va_up_at, if_neg (by decide), va_up_at, if_pos rfl], by rw [va_up_at, if_pos rfl], o'0, hg1, ?_⟩, i3.tr j3⟩
  · rw [hM.j (by omega) o2, xob_some, d_common (by omega) (by omega) (by omega) (by omega), xob_some]
    dsimp only
    rw [hgg, hM.j (by omega) o1, xob_some, if_neg (by rw [jI_0, jI_eq (by omega) (by omega) (by omega) (by omega)]; omega), hM.j (by omega) o2, xob_some, if_neg (by rw [jI_0, jI_eq (by omega) (by omega) (by omega) (by omega)]; omega), xob_some, if_neg (by rw [jI_0, jI_eq (by omega) (by omega) (by omega) (by omega)]; omega), jI_div (by omega) (by omega) (by omega) (by omega), jI_div (by omega) (by omega) (by omega) (by omega), dq, db, jI_mul, jI_mul, jI_mul, jI_add, htop, hbo, d_common (by omega) (by omega) (by omega) (by omega), xob_some]
    dsimp only
    rw [hg3, if_neg (by rw [jI_0, jI_eq (by omega) (by omega) (by omega) (by omega)]; omega), jI_tdivg (by omega) (by omega) (by omega) (by omega), jI_tdivg (by omega) (by omega) (by omega) (by omega), dt, dbo, i1, xob_some, if_neg (by rw [jI_0, jI_eq (by omega) (by omega) (by omega) (by omega)]; omega), j1, xob_some]
  · have e : g3 * (t' * sc) = g3 * ((X + Y) * o') := by
      rw [show g3 * (t' * sc) = g3 * t' * sc by ac_rfl, ← ht', et]
      conv => lhs; rw [ho']
      ac_rfl
    exact Int.eq_of_mul_eq_mul_left (by omega) e
theorem d_beginsHours (hM : xMo S m ob) (hs : 0 < sc) : ∃ S1 ob1, xcV P m_X11_beginsHours [.ref m] S = some S1 ∧ xMo S1 m ob1 ∧ (∀ k, k ≠ 21 → k ≠ 22 → ob1 k = ob k) ∧ xHo ob1 sc 0 ∧ xfr S S1 (fun c => c = m) := by
  obtain ⟨S1, i1, i2, i3⟩ := hM.put (k := 21) (by omega) rfl (tag := 1) (v := .long (jI 0)) rfl
  obtain ⟨S2, j1, j2, j3⟩ := i2.put (k := 22) (by omega) rfl (tag := 1) (v := .long (jI 1)) rfl
  refine ⟨S2, _, xcV_of ((e_X11_beginsHours_0 P m S).trans ?_), j2, fun k h1 h2 => by rw [va_up_at, if_neg h2, va_up_at, if_neg h1], ⟨0, 1, by rw [va_up_at, if_neg (by decide), va_up_at, if_pos rfl], by rw [va_up_at, if_pos rfl], by omega, by decide, by omega⟩, i3.tr j3⟩
  rw [i1, xob_some, j1, xob_some]
/-- what stands while the times between are added -/
def xLH (S0 : xS) (m : Nat) (ob0 : Nat → Value) (nT : Nat) (T : Nat → Int) (sc X : Int) (Z : xS) : Prop := ∃ ob, xMo Z m ob ∧ (∀ k, k ≠ 21 → k ≠ 22 → ob k = ob0 k) ∧ xTn Z m ob nT sc T ∧ xHo ob sc X ∧ xfr S0 Z (fun c => c = m)
theorem d_addsBetween {S0 : xS} {ob0 : Nat → Value} (h : xLH S0 m ob0 nT T sc X S) (hs : 0 < sc) (sc1 : sc ≤ 384307168202282325) {k : Nat} (hk : k + 1 < nT) (hX0 : 0 ≤ X) (hX1 : X ≤ T k) : ∃ S1, xcV P m_X11_addsBetween [.ref m, .int (iI k)] S = some S1 ∧ xLH S0 m ob0 nT T sc (X + (T (k + 1) - T k)) S1 := by
  obtain ⟨ob, hM, ho, hT, hH, hf⟩ := h
  have bT := hT
  obtain ⟨t1, t2, tt, tb, f, g, t3, t4, t5, t6, t7, -⟩ := bT
  have b1 := (t6 k (by omega)).2.2.2
  have b2 := (t6 (k + 1) hk).2.2.2
  have b3 := t7 k hk
  obtain ⟨a, b, r1, r2, a0, a1, b0, b1', e1, d1⟩ := hT.rd2 hs (show k < nT by omega)
  obtain ⟨c, d, r3, r4, c0, c1, d0, d1', e2, d2⟩ := hT.rd2 hs hk
  obtain ⟨S1, ob1, i1, i2, i3, i4, i5⟩ := d_adds (P := P) hM hH hs (by omega) d0 d1' e2 (by omega) (by omega) (by omega) (Or.inl ⟨d2, by omega⟩)
  have hT1 : xTn S1 m ob1 nT sc T := hT.fr i5 (by omega) (by omega) (i3 15 (by decide) (by decide))
  obtain ⟨S2, ob2, j1, j2, j3, j4, j5⟩ := d_adds (P := P) i2 i4 hs (by omega) (p := -a) (q := b) (Y := -T k) b0 b1' (by rw [Int.neg_mul, Int.neg_mul, e1]) (by omega) (by omega) (by omega) (Or.inl ⟨d1, by omega⟩)
  have r1' : xrdJ S1 (m + 8) (iI k) = some (jI a) := by unfold xrdJ; unfold xrdJ at r1; rw [i5.2 _ (by omega)]; exact r1
  have r2' : xrdJ S1 (m + 9) (iI k) = some (jI b) := by unfold xrdJ; unfold xrdJ at r2; rw [i5.2 _ (by omega)]; exact r2
  refine ⟨S2, xcV_of ((e_X11_addsBetween_0 P m (iI k) S).trans ?_), ob2, j2, fun q h1 h2 => (j3 q h1 h2).trans ((i3 q h1 h2).trans (ho q h1 h2)), hT1.fr j5 (by omega) (by omega) (j3 15 (by decide) (by decide)), ?_, (hf.tr i5).tr j5⟩
  · rw [hM.r13, xob_some, iI_suc, r3, xob_some, hM.r14, xob_some, r4, xob_some, hM.o, cond_true, i1, xob_some, i2.r13, xob_some, r1', xob_some, i2.r14, xob_some, r2', xob_some, i2.o, cond_true, jI_neg, j1, xob_some]
  · rw [show X + (T (k + 1) - T k) = X + T (k + 1) + -T k by omega]
    exact j4
/-- how long it is together -/
noncomputable def xcu (n : Nat) (u v T : Nat → Int) : Nat → Int
  | 0 => 0
  | k + 1 => xcu n u v T k + (@ite _ (xme n u v (T k + T (k + 1))) (Classical.propDecidable _) (T (k + 1) - T k) 0)
theorem xcu_bd (hW : xSW nT T sc n u v) : ∀ k, k < nT → 0 ≤ xcu n u v T k ∧ xcu n u v T k ≤ T k := by
  intro k
  induction k with
  | zero => intro _; rw [hW.first]; exact ⟨Int.le_refl _, Int.le_refl _⟩
  | succ k ih =>
    intro hk
    have h1 := ih (by omega)
    have h2 := hW.1 k hk
    simp only [xcu]
    split <;> omega
/-- a count of whole parts -/
noncomputable def xcq (n : Nat) (u v : Nat → Int) : Nat → Nat := xct (fun j => @decide (xme n u v (2 * j + 1)) (Classical.propDecidable _))
theorem xcq_all {a b : Nat} (hab : a ≤ b) (h : ∀ j : Nat, a ≤ j → j < b → xme n u v (2 * j + 1)) : xcq n u v b = xcq n u v a + (b - a) := by
  obtain ⟨d, rfl⟩ : ∃ d, b = a + d := ⟨b - a, by omega⟩
  induction d with
  | zero => simp
  | succ d ih =>
    have := ih (by omega) (fun j h1 h2 => h j h1 (by omega))
    show xct _ (a + d + 1) = _
    simp only [xct]
    rw [if_pos (by simpa using h (a + d) (by omega) (by omega))]
    unfold xcq at this ⊢
    omega
theorem xcq_none {a b : Nat} (hab : a ≤ b) (h : ∀ j : Nat, a ≤ j → j < b → ¬ xme n u v (2 * j + 1)) : xcq n u v b = xcq n u v a := by
  obtain ⟨d, rfl⟩ : ∃ d, b = a + d := ⟨b - a, by omega⟩
  induction d with
  | zero => rfl
  | succ d ih =>
    have := ih (by omega) (fun j h1 h2 => h j h1 (by omega))
    show xct _ (a + d + 1) = _
    simp only [xct]
    rw [if_neg (by simpa using h (a + d) (by omega) (by omega))]
    unfold xcq at this ⊢
    omega
theorem xcu_q (hW : xSW nT T sc n u v) : ∀ k, k < nT → xcu n u v T k = (xcq n u v (T k).toNat : Nat) := by
  intro k
  induction k with
  | zero => intro _; rw [hW.first]; rfl
  | succ k ih =>
    intro hk
    have h1 := ih (by omega)
    have h2 := hW.1 k hk
    have h3 := hW.2.1 k (by omega)
    have hC := hW.2.2.2.2.2.2 k hk
    simp only [xcu]
    by_cases c : xme n u v (T k + T (k + 1))
    · rw [if_pos c, xcq_all (a := (T k).toNat) (by omega) (fun j j1 j2 => hC _ _ (by omega) (by omega) (by omega) (by omega) c), h1]
      omega
    · rw [if_neg c, xcq_none (a := (T k).toNat) (by omega) (fun j j1 j2 z => c (hC _ _ (by omega) (by omega) (by omega) (by omega) z)), h1]
      omega
theorem xln_q (hW : xSW nT T sc n u v) : ∀ k, k < n → xln u v (k + 1) = (xcq n u v (v k).toNat : Nat) := by
  have hSo := hW.2.2.2.2.1
  have inn : ∀ (k j : Nat), k < n → u k ≤ j → (j : Int) < v k → xme n u v (2 * j + 1) := fun k j hk h1 h2 => ⟨k, hk, by omega, by omega⟩
  have step : ∀ (k : Nat) (a : Nat), k < n → (a : Int) ≤ u k → (∀ j : Nat, a ≤ j → (j : Int) < u k → ¬ xme n u v (2 * j + 1)) → (xcq n u v (v k).toNat : Int) = (xcq n u v a : Nat) + (v k - u k) := by
    intro k a hk ha hno
    have b := hW.vv hk
    rw [xcq_all (a := (u k).toNat) (b := (v k).toNat) (by omega) (fun j j1 j2 => inn k j hk (by omega) (by omega)), xcq_none (a := a) (b := (u k).toNat) (by omega) (fun j j1 j2 => hno j j1 (by omega))]
    omega
  intro k
  induction k with
  | zero =>
    intro hk
    rw [step 0 0 hk (hW.vv hk).2.2.1 (fun j j1 j2 z => by
      obtain ⟨q, hq, z1, z2⟩ := z
      by_cases c : q = 0
      · subst c; omega
      · have := hSo.lt (show 0 < q by omega) hq
        have := (hW.vv hk).1
        omega)]
    show 0 + (v 0 - u 0) = ((xct _ 0 : Nat) : Int) + _
    simp [xct]
  | succ k ih =>
    intro hk
    have h1 := ih (by omega)
    have h2 := hSo.2 k hk
    have b := hW.vv (show k < n by omega)
    have b2 := hW.vv hk
    rw [step (k + 1) (v k).toNat hk (by omega) (fun j j1 j2 z => by
      obtain ⟨q, hq, z1, z2⟩ := z
      by_cases c : q ≤ k
      · have : v q ≤ v k := by
          by_cases d : q = k
          · subst d; omega
          · have := hSo.lt (show q < k by omega) (show k < n by omega)
            omega
        omega
      · by_cases d : q = k + 1
        · subst d; omega
        · have := hSo.lt (show k + 1 < q by omega) hq
          omega), ← h1]
    rfl
theorem xcu_ln (hW : xSW nT T sc n u v) : xcu n u v T (nT - 1) = xln u v n := by
  have p := hW.pos
  have l := hW.last (show nT - 1 + 1 = nT by omega)
  rw [xcu_q hW (nT - 1) (by omega), l]
  have hSo := hW.2.2.2.2.1
  match n, hW, hSo with
  | 0, hW, hSo =>
    rw [xcq_none (a := 0) (by omega) (fun j _ _ z => by obtain ⟨q, hq, -⟩ := z; omega)]
    rfl
  | n + 1, hW, hSo =>
    have b := hW.vv (show n < n + 1 by omega)
    rw [xcq_none (a := (v n).toNat) (b := sc.toNat) (by omega) (fun j j1 j2 z => by
      obtain ⟨q, hq, z1, z2⟩ := z
      have : v q ≤ v n := by
        by_cases d : q = n
        · subst d; omega
        · have := hSo.lt (show q < n by omega) (show n < n + 1 by omega)
          omega
      omega)]
    exact (xln_q hW n (by omega)).symm
end HO
