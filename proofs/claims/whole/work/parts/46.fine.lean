-- deps: 45.both2
/-! any time a by q: within a span or not; next, leastGrid -/
theorem xdd_per (F : xF) (i j : Nat) (a q c : Int) : xdd F i j (12 * (a + q * c)) q = xdd F i j (12 * a) q := by
  unfold xdd
  rw [show (F.2.1 j - F.2.1 i) * (12 * (a + q * c)) + (F.2.2 j - F.2.2 i) * q = (F.2.1 j - F.2.1 i) * (12 * a) + (F.2.2 j - F.2.2 i) * q + 12 * q * ((F.2.1 j - F.2.1 i) * c) by rw [Int.mul_add 12, Int.mul_add, show (F.2.1 j - F.2.1 i) * (12 * (q * c)) = 12 * q * ((F.2.1 j - F.2.1 i) * c) by ac_rfl]; omega, Int.add_mul_emod_self_left]
theorem xlo_per (F : xF) (i : Nat) (a q c : Int) : xlo F i (12 * (a + q * c)) q = xlo F i (12 * a) q := by
  unfold xlo xnr
  rw [xlst_congr F.1 (fun j _ => xdd_per F i j a q c)]
theorem x_fine {F : xF} {i n : Nat} {sc a q : Int} {u v : Nat → Int} (hi : i < F.1) (hD : xDt F i sc n u v) (hq : 0 < q) (a0 : 0 ≤ a) (a1 : a ≤ q) : xlo F i (12 * a) q = true ↔ ∃ k, k < n ∧ u k * q ≤ a * sc ∧ a * sc ≤ v k * q := by
  obtain ⟨⟨pt, G, hm, hg⟩, hSo, hn, hsl⟩ := hD
  obtain ⟨m1, ⟨pw, m2⟩, ⟨p12, m3⟩, m4, m5, m6, m7⟩ := hm.use
  have bG := xLc_le hm.2.2.1
  have r0 := Int.emod_nonneg (a * sc) (Int.ne_of_gt hq)
  have r1 := Int.emod_lt_of_pos (a * sc) hq
  have e := Int.mul_ediv_add_emod (a * sc) q
  have as0 : 0 ≤ a * sc := Int.mul_nonneg a0 (by omega)
  have as1 : a * sc ≤ q * sc := Int.mul_le_mul_of_nonneg_right a1 (by omega)
  have j0 : 0 ≤ a * sc / q := Int.ediv_nonneg as0 (by omega)
  generalize hj : a * sc / q = j at *
  generalize hr : a * sc % q = r at *
  have le : ∀ x y : Int, q * x ≤ q * y ↔ x ≤ y := fun x y => ⟨fun h => Int.le_of_mul_le_mul_left h hq, fun h => Int.mul_le_mul_of_nonneg_left h (by omega)⟩
  have lt : ∀ x y : Int, q * x < q * y ↔ x < y := fun x y => by have := le y x; omega
  by_cases cr : r = 0
  · -- a whole part
    rw [xlo_at (t := 2 * j) (sc := sc) (by omega) hq (by omega) (by rw [show a * (2 * sc) = 2 * (a * sc) by ac_rfl, ← e, cr, Int.add_zero]; ac_rfl)]
    have js : j ≤ sc := by
      rw [← le]
      omega
    constructor
    · intro h
      obtain ⟨k, hk, h1, h2⟩ := (hsl (2 * j)).mpr ⟨by omega, by omega, h⟩
      have b1 := (le (u k) j).mpr (by omega)
      have b2 := (le j (v k)).mpr (by omega)
      refine ⟨k, hk, ?_, ?_⟩
      · rw [Int.mul_comm (u k)]; omega
      · rw [Int.mul_comm (v k)]; omega
    · rintro ⟨k, hk, h1, h2⟩
      rw [Int.mul_comm (u k)] at h1
      rw [Int.mul_comm (v k)] at h2
      have b1 := (le (u k) j).mp (by omega)
      have b2 := (le j (v k)).mp (by omega)
      exact ((hsl (2 * j)).mp ⟨k, hk, by omega, by omega⟩).2.2
  · -- within a part
    have qj : q * (j + 1) = q * j + q := by rw [Int.mul_add, Int.mul_one]
    have js : j + 1 ≤ sc := by
      have : q * j < q * sc := by omega
      rw [lt] at this
      omega
    have e1 : xlo F i (12 * a) q = xlo F i (12 * (2 * (a * sc))) (2 * (sc * q)) := xlo_at (by omega) hq (Int.mul_pos (by omega) hq) (by ac_rfl)
    have e2 : xlo F i (12 * (2 * (q * j) + q)) (2 * (sc * q)) = xlo F i (12 * (2 * j + 1)) (2 * sc) := xlo_at (by omega) (by have := Int.mul_pos (show 0 < sc by omega) hq; omega) (by omega) (by rw [show 2 * (q * j) + q = (2 * j + 1) * q by rw [Int.add_mul, Int.one_mul]; ac_rfl]; ac_rfl)
    have hsg : xsg F i F.1 pt pw p12 (G * q) (sc * q) := ⟨by rw [m1, Int.mul_assoc], m2, m3, by omega, Int.mul_pos (by omega) hq, fun j' hj' hne => Int.dvd_trans (xhg_mg hg j' hj' hne) ⟨q, rfl⟩⟩
    have hno : ∀ Y, q * j < Y → Y < q * (j + 1) → ∀ j', j' < F.1 → j' ≠ i → ¬ xcr F i j' (if F.1 = 1 then 0 else 1) F.1 (sc * q) Y := by
      intro Y y1 y2 j' hj' hji hc
      obtain ⟨hne, side, z, hs, hY⟩ := hc
      obtain ⟨s, hsG⟩ := xhg_mg hg j' hj' hne
      have gb : 1 ≤ xmg F i j' := by unfold xmg; omega
      generalize huu : (if F.1 = 1 then (0 : Int) else 1) = uu at hY
      have hX : sc * (12 * F.1 * z + side * 12 * uu - F.1 * xmr F i j') = (s * (pt * z + side * pw * uu - p12 * xmr F i j')) * (12 * F.1 * xmg F i j') := by
        rw [m1, hsG]
        have f1 : pt * (xmg F i j' * s) * (12 * F.1 * z) = s * (pt * z) * (12 * F.1 * xmg F i j') := by ac_rfl
        have f2 : pt * (xmg F i j' * s) * (side * 12 * uu) = s * (side * pw * uu) * (12 * F.1 * xmg F i j') := by rw [m2]; ac_rfl
        have f3 : pt * (xmg F i j' * s) * (F.1 * xmr F i j') = s * (p12 * xmr F i j') * (12 * F.1 * xmg F i j') := by rw [m3]; ac_rfl
        rw [Int.mul_sub, Int.mul_add, f1, f2, f3, Int.mul_sub s, Int.mul_add s, Int.sub_mul, Int.add_mul]
      generalize s * (pt * z + side * pw * uu - p12 * xmr F i j') = X at hX
      have kp : 0 < 12 * (F.1 : Int) * xmg F i j' := Int.mul_pos (by omega) (by omega)
      have eY : Y = q * X := by
        have : Y * (12 * F.1 * xmg F i j') = (q * X) * (12 * F.1 * xmg F i j') := by
          rw [hY, show sc * q * (12 * F.1 * z + side * 12 * uu - F.1 * xmr F i j') = q * (sc * (12 * F.1 * z + side * 12 * uu - F.1 * xmr F i j')) by ac_rfl, hX]
          ac_rfl
        exact Int.eq_of_mul_eq_mul_right (Int.ne_of_gt kp) this
      rw [eY] at y1 y2
      rw [lt] at y1 y2
      omega
    have u0 : (0 : Int) ≤ (if F.1 = 1 then 0 else 1) := by split <;> omega
    have A0 : 0 ≤ q * j := Int.mul_nonneg (by omega) j0
    have B1 : q * (j + 1) ≤ sc * q := by rw [Int.mul_comm sc]; exact (le _ _).mpr js
    have sq : 0 < sc * q := Int.mul_pos (by omega) hq
    have e3 : xlo F i (12 * (2 * (a * sc))) (2 * (sc * q)) = true ↔ xlo F i (12 * (2 * (q * j) + q)) (2 * (sc * q)) = true := by
      rw [xlo_iff (by omega) (by omega), xlo_iff (by omega) (by omega)]
      exact ⟨fun h => x_const hsg (by omega) u0 A0 B1 hno (by omega) (by omega) (by omega) (by omega) h, fun h => x_const hsg (by omega) u0 A0 B1 hno (by omega) (by omega) (by omega) (by omega) h⟩
    rw [e1, e3, e2]
    constructor
    · intro h
      obtain ⟨k, hk, h1, h2⟩ := (hsl (2 * j + 1)).mpr ⟨by omega, by omega, h⟩
      have b1 := (le (u k) j).mpr (by omega)
      have b2 := (le (j + 1) (v k)).mpr (by omega)
      refine ⟨k, hk, ?_, ?_⟩
      · rw [Int.mul_comm (u k)]; omega
      · rw [Int.mul_comm (v k)]; omega
    · rintro ⟨k, hk, h1, h2⟩
      rw [Int.mul_comm (u k)] at h1
      rw [Int.mul_comm (v k)] at h2
      have b1 := (lt (u k) (j + 1)).mp (by omega)
      have b2 := (lt j (v k)).mp (by omega)
      exact ((hsl (2 * j + 1)).mp ⟨k, hk, by omega, by omega⟩).2.2
section FI
variable {P : Nat → Nat} {S : xS} {x m : Nat} {A : xAb}
theorem c_floorDivJ {a b : Int} (a1 : 0 ≤ a) (a2 : a < 9223372036854775808) (b1 : 0 < b) (b2 : b < 9223372036854775808) : xcJ P m_J9_floorDiv_f86c9 [.long (jI a), .long (jI b)] S = some (jI (a / b), S) := by
  refine xcJ_of ((e_J9_floorDiv_f86c9_0 P (jI a) (jI b) S).trans ?_)
  have hx : (0 : Int64) ≤ jI a ^^^ jI b := (jI_xor_pos (by omega) a2 (by omega) b2).mpr a1
  rw [if_neg (by rw [jI_0, jI_eq (by omega) (by omega) (by omega) (by omega)]; omega), if_pos, jI_div a1 a2 b1 b2]
  obtain ⟨z, hz, z1, z2⟩ := jI_of (jI a ^^^ jI b)
  rw [hz] at hx ⊢
  rw [jI_0, jI_le (by omega) (by omega) z1 z2] at hx
  rw [lg_ge z1 z2 (by omega) (by omega)]
  exact hx
theorem d_hasGridTime {a s1 s2 l1 l2 n : Nat} {sc pt : Int} {u v : Nat → Int} (hV : xVo S a s1 s2 l1 l2 sc pt) (hSp : xSp S s1 210 n u v) (hs : 0 < sc) (sc1 : sc ≤ 13516800000) (hv : ∀ k, k < n → v k ≤ sc) {w : Int} (w0 : 1 ≤ w) (w1 : w ≤ 999) [Decidable (∃ k, k < n ∧ u k * w ≤ v k * w / sc * sc)] : xcI P m_X8_hasGridTime [.ref a, .int (iI w)] S = some (iI (if ∃ k, k < n ∧ u k * w ≤ v k * w / sc * sc then 1 else 0), S) := by
  have hn := hSp.m
  refine xcI_of ((e_X8_hasGridTime_0 P a (iI w) S).trans ?_)
  rw [xfJ_at (k := 7) hV.1 rfl, xob_some, if_pos (by rw [lg_ge (by omega) (by omega) (by omega) (by omega)]; omega)]
  refine xloopQ (run := fun k (_ : Unit) => xrun P m_X8_hasGridTime 13 [(0, .ref a), (1, .int (iI w)), (2, .int (iI k))] [] S)
    (Inv := fun k _ => ∀ k', k' < k → ¬ u k' * w ≤ v k' * w / sc * sc)
    (fun res => res = some (some (.int (iI (if ∃ k, k < n ∧ u k * w ≤ v k * w / sc * sc then 1 else 0))), S)) 0 n (by omega) (fun k _ _ hk hI => ?_) (fun _ hI => ?_) (s := ()) (fun k' hk' => by omega)
  · have b := hSp.1.1 k hk
    have vb := hv k hk
    have p1 := x_mul_bd (show 0 ≤ v k by omega) (show v k ≤ 13516800000 by omega) (show 0 ≤ w by omega) w1
    have p2 := x_mul_bd b.1 (show u k ≤ 13516800000 by omega) (show 0 ≤ w by omega) w1
    have p3 := Int.ediv_mul_le (v k * w) (Int.ne_of_gt hs)
    have p4 := Int.ediv_nonneg p1.1 (show 0 ≤ sc by omega)
    have p5 := Int.mul_nonneg p4 (show 0 ≤ sc by omega)
    have st : xrun P m_X8_hasGridTime 13 [(0, .ref a), (1, .int (iI w)), (2, .int (iI k))] [] S = (if (lg_cmp (jI (v k * w / sc * sc)) (jI (u k * w))) < 0 then xrun P m_X8_hasGridTime 13 [(0, .ref a), (1, .int (iI w)), (2, .int (iI (k + 1 : Nat)))] [] S else some (some (.int (iI 1)), S)) := by
      rw [e_X8_hasGridTime_13, xfR_at (k := 2) hV.1 rfl, xob_some, hSp.o, cond_true, d_ssize hSp, xob_some, if_neg (by rw [iI_le (by omega) (by omega) (by omega) (by omega)]; omega), xfR_at (k := 2) hV.1 rfl, xob_some]
      dsimp only
      rw [hSp.o, cond_true, d_toAt hSp hk, xob_some, xfJ_at (k := 7) hV.1 rfl, xob_some, iI_ji (by omega) (by omega), jI_mul, c_floorDivJ p1.1 (by omega) hs (by omega), xob_some]
      dsimp only
      rw [xfJ_at (k := 7) hV.1 rfl, xob_some, xfR_at (k := 2) hV.1 rfl, xob_some, hSp.o, cond_true, d_fromAt hSp hk, xob_some, jI_mul, jI_mul, iI_suc]
    have ll : lg_cmp (jI (v k * w / sc * sc)) (jI (u k * w)) < 0 ↔ v k * w / sc * sc < u k * w := lg_lt (by omega) (by omega) (by omega) (by omega)
    by_cases c : u k * w ≤ v k * w / sc * sc
    · refine Or.inl ?_
      rw [st, if_neg (fun z => by have := ll.mp z; omega), if_pos ⟨k, hk, c⟩]
    · refine Or.inr ⟨(), by rw [st, if_pos (ll.mpr (by omega))], fun k' hk' => ?_⟩
      by_cases e : k' = k
      · subst e; exact c
      · exact hI k' (by omega)
  · rw [e_X8_hasGridTime_13, xfR_at (k := 2) hV.1 rfl, xob_some, hSp.o, cond_true, d_ssize hSp, xob_some, if_pos (by rw [iI_le (by omega) (by omega) (by omega) (by omega)]; omega), if_neg (fun ⟨k, hk, z⟩ => hI k hk z)]
/-- some time by w is within a span, some time by w is lonely -/
theorem x_grid {F : xF} {i n : Nat} {sc w : Int} {u v : Nat → Int} (hi : i < F.1) (hD : xDt F i sc n u v) (hs : 0 < sc) (w0 : 0 < w) : (∃ k, k < n ∧ u k * w ≤ v k * w / sc * sc) ↔ ∃ a : Nat, (a : Int) < w ∧ xlo F i (12 * a) w = true := by
  constructor
  · rintro ⟨k, hk, h⟩
    have b := hD.bd hk
    have v0 : 0 ≤ v k * w := Int.mul_nonneg (by omega) (by omega)
    have e0 := Int.ediv_nonneg v0 (show 0 ≤ sc by omega)
    have e1 := Int.ediv_mul_le (v k * w) (Int.ne_of_gt hs)
    have e2 : v k * w ≤ w * sc := by
      rw [Int.mul_comm w]
      exact Int.mul_le_mul_of_nonneg_right b.2.2 (by omega)
    have e3 : v k * w / sc ≤ w := Int.le_of_mul_le_mul_right (Int.le_trans e1 e2) hs
    have hl : xlo F i (12 * (v k * w / sc)) w = true := (x_fine hi hD w0 e0 e3).mpr ⟨k, hk, h, e1⟩
    by_cases c : v k * w / sc < w
    · exact ⟨(v k * w / sc).toNat, by omega, by rw [Int.toNat_of_nonneg e0]; exact hl⟩
    · refine ⟨0, by omega, ?_⟩
      have := xlo_per F i 0 w 1
      rw [show (0 : Int) + w * 1 = v k * w / sc by omega, hl] at this
      exact this.symm
  · rintro ⟨a, ha, hl⟩
    obtain ⟨k, hk, h1, h2⟩ := (x_fine hi hD w0 (by omega) (by omega)).mp hl
    refine ⟨k, hk, ?_⟩
    have : (a : Int) ≤ v k * w / sc := (Int.le_ediv_iff_mul_le hs).mpr h2
    exact Int.le_trans h1 (Int.mul_le_mul_of_nonneg_right this (by omega))
theorem z_leastGrid (H : xCl S x A) {i : Int} (i1 : -2147483648 ≤ i) (i2 : i < 2147483648) : ∃ v A', xKI P S x m_X10_leastGrid [.int (iI i)] v A' ∧ ∀ S', xMl S' m A → xGI P S' m m_X11_leastGrid [.int (iI i)] v A' := by
  have hF := H.2.1
  have hk := hF.1.1
  by_cases ci : 0 ≤ i ∧ i < A.1.1
  · obtain ⟨r, rfl⟩ : ∃ r : Nat, i = r := ⟨i.toNat, by omega⟩
    have hr : r < A.1.1 := by omega
    obtain ⟨S1, s1, s2, l1, l2, sc, pt, n, u, v, k1, k2, k3, k4, k5, k6, k7, k8⟩ := d_watchDt (P := P) H hr
    have dd : ∀ w : Int, Decidable (∃ k, k < n ∧ u k * w ≤ v k * w / sc * sc) := fun _ => Classical.propDecidable _
    have hg := fun (w : Int) (w0 : 1 ≤ w) (w1 : w ≤ 999) => d_hasGridTime (P := P) k4 k5 (show 0 < sc by omega) k8 (fun k hk => (k6.bd hk).2.2) w0 w1
    have hx := fun (w : Int) (w0 : 1 ≤ w) => x_grid hr k6 (show 0 < sc by omega) (show 0 < w by omega)
    -- both loops side by side
    have key : ∀ (d w : Nat), w + d = 1000 → 1 ≤ w → ∃ ans, xrun P m_X10_leastGrid 20 [(0, .ref x), (2, .int (iI w))] [] S1 = some (some (.int ans), S1) ∧ ∀ S', xMl S' m A → xrun P m_X11_leastGrid 12 [(0, .ref m), (1, .int (iI r)), (2, .int (iI w))] [] S' = some (some (.int ans), S') := by
      intro d
      induction d with
      | zero =>
        intro w hw _
        refine ⟨iI (-2), ?_, fun S' M => ?_⟩
        · rw [e_X10_leastGrid_20, if_pos (by rw [iI_lt (by omega) (by omega) (by omega) (by omega)]; omega)]
        · rw [e_X11_leastGrid_12, if_pos (by rw [iI_lt (by omega) (by omega) (by omega) (by omega)]; omega)]
      | succ d ih =>
        intro w hw w0
        have h1 := hg w (by omega) (by omega)
        have h2 := hx w (by omega)
        have inner : ∀ S', xMl S' m A → xrun P m_X11_leastGrid 12 [(0, .ref m), (1, .int (iI r)), (2, .int (iI w))] [] S' = (if ∃ k, k < n ∧ u k * w ≤ v k * w / sc * sc then some (some (.int (iI w)), S') else xrun P m_X11_leastGrid 12 [(0, .ref m), (1, .int (iI r)), (2, .int (iI (w + 1 : Nat)))] [] S') := by
          intro S' M
          obtain ⟨ob, e0, -, -, hR, -⟩ := M
          rw [e_X11_leastGrid_12, if_neg (by rw [iI_lt (by omega) (by omega) (by omega) (by omega)]; omega)]
          refine xloopQ (run := fun a (_ : Unit) => xrun P m_X11_leastGrid 21 [(0, .ref m), (1, .int (iI r)), (2, .int (iI w)), (3, .int (iI a))] [] S')
            (Inv := fun a _ => ∀ a' : Nat, a' < a → ¬ xlo A.1 r (12 * a') w = true)
            (fun res => res = (if ∃ k, k < n ∧ u k * w ≤ v k * w / sc * sc then some (some (.int (iI w)), S') else xrun P m_X11_leastGrid 12 [(0, .ref m), (1, .int (iI r)), (2, .int (iI (w + 1 : Nat)))] [] S')) 0 w (by omega) (fun a _ _ ha hI => ?_) (fun _ hI => ?_) (s := ()) (fun a' ha' => by omega)
          · have hl := g_isLonely (P := P) e0 hR hr (p := a) (q := w) (by omega) (by omega) (by omega) (by omega)
            have st : xrun P m_X11_leastGrid 21 [(0, .ref m), (1, .int (iI r)), (2, .int (iI w)), (3, .int (iI a))] [] S' = (if iI (if xlo A.1 r (12 * a) w = true then 1 else 0) = 0 then xrun P m_X11_leastGrid 21 [(0, .ref m), (1, .int (iI r)), (2, .int (iI w)), (3, .int (iI (a + 1 : Nat)))] [] S' else some (some (.int (iI w)), S')) := by
              rw [e_X11_leastGrid_21, if_neg (by rw [iI_le (by omega) (by omega) (by omega) (by omega)]; omega), e0.o, cond_true, iI_ji (by omega) (by omega), iI_ji (by omega) (by omega), hl, xob_some, iI_suc]
            by_cases c : xlo A.1 r (12 * a) w = true
            · refine Or.inl ?_
              rw [st, if_pos c, if_neg (by decide +kernel), if_pos (h2.mpr ⟨a, by omega, c⟩)]
            · refine Or.inr ⟨(), by rw [st, if_neg c, if_pos (by decide +kernel)], fun a' ha' => ?_⟩
              by_cases e : a' = a
              · subst e; exact c
              · exact hI a' (by omega)
          · rw [e_X11_leastGrid_21, if_pos (by rw [iI_le (by omega) (by omega) (by omega) (by omega)]; omega), if_neg (fun z => by
              obtain ⟨a, ha, hl⟩ := h2.mp z
              exact hI a (by omega) hl), iI_suc]
        by_cases c : ∃ k, k < n ∧ u k * w ≤ v k * w / sc * sc
        · refine ⟨iI w, ?_, fun S' M => ?_⟩
          · rw [if_pos c] at h1
            rw [e_X10_leastGrid_20, if_neg (by rw [iI_lt (by omega) (by omega) (by omega) (by omega)]; omega), k2.r10, xob_some, k4.o, cond_true, h1, xob_some]
            exact if_neg (show ¬ iI 1 = 0 by decide +kernel)
          · rw [inner S' M, if_pos c]
        · obtain ⟨ans, i1, i2⟩ := ih (w + 1) (by omega) (by omega)
          refine ⟨ans, ?_, fun S' M => ?_⟩
          · rw [if_neg c] at h1
            rw [e_X10_leastGrid_20, if_neg (by rw [iI_lt (by omega) (by omega) (by omega) (by omega)]; omega), k2.r10, xob_some, k4.o, cond_true, h1, xob_some, iI_suc]
            exact (if_pos (show iI 0 = 0 by decide +kernel)).trans i1
          · rw [inner S' M, if_neg c]
            exact i2 S' M
    obtain ⟨ans, a1, a2⟩ := key 999 1 (by omega) (by omega)
    refine ⟨ans, A, ⟨S1, xcI_of ((e_X10_leastGrid_0 P x (iI r) S).trans ?_), k2, k3⟩, fun S' M => ⟨S', xcI_of ((e_X11_leastGrid_0 P m (iI r) S').trans ?_), M, xfr.rf⟩⟩
    · simp only [H.r0, hF.o, d_has hF i1 i2, if_pos ci, H.o, k1, xob_some, cond_true, t_10, t_00, ne_eq, not_true_eq_false, not_false_eq_true, if_true, if_false]
      exact a1
    · obtain ⟨ob, e0, -, -, hR, -⟩ := id M
      simp only [e0.o, g_isRunner e0 hR i1 i2, if_pos ci, xob_some, cond_true, t_10, t_00, ne_eq, not_true_eq_false, not_false_eq_true, if_true, if_false]
      exact a2 S' M
  · refine ⟨iI (-1), A, ⟨S, xcI_of ((e_X10_leastGrid_0 P x (iI i) S).trans ?_), H, xfr.rf⟩, fun S' M => ?_⟩
    · simp only [H.r0, hF.o, d_has hF i1 i2, if_neg ci, xob_some, cond_true, t_10, t_00, ne_eq, not_true_eq_false, not_false_eq_true, if_true, if_false]
    · obtain ⟨ob, e0, -, -, hR, -⟩ := id M
      refine ⟨S', xcI_of ((e_X11_leastGrid_0 P m (iI i) S').trans ?_), M, xfr.rf⟩
      simp only [e0.o, g_isRunner e0 hR i1 i2, if_neg ci, xob_some, cond_true, t_10, t_00, ne_eq, not_true_eq_false, not_false_eq_true, if_true, if_false]
end FI
