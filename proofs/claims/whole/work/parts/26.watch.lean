-- deps: 25.vigil
/-! Vigil: the spans in which one is so far from another -/
/-- so far off at the time x by 12 e: u by w or more -/
def xfa (gp ld : Nat → Int) (r : Nat) (u w x e : Int) : Prop := 12 * e * u ≤ xa2 gp ld x e r * w
theorem x_single {gp ld : Nat → Int} {r : Nat} {G s u w pw p12 pt sc t : Int} (hs : 0 < s) (hG : G = gp r * s) (g0 : 1 ≤ gp r) (l0 : 0 ≤ ld r) (l1 : ld r < 12) (u0 : 0 < u) (w0 : 0 < w) (hp : pt = w * pw) (hp2 : pt = 12 * p12) (p0 : 0 < pt) (hsc : sc = pt * G) (t0 : 0 ≤ t) (t1 : t ≤ 2 * sc) :
    xfa gp ld r u w (12 * t) (2 * sc) ↔ ∃ m : Nat, (m : Int) ≤ gp r ∧ 2 * ((m * pt + pw * u - p12 * ld r) * s) ≤ t ∧ t ≤ 2 * ((m * pt + pt - pw * u - p12 * ld r) * s) := by
  have G0 : 0 < G := by rw [hG]; exact Int.mul_pos (by omega) hs
  have sc0 : 0 < sc := by rw [hsc]; exact Int.mul_pos p0 G0
  have pw0 : 0 < pw := by
    by_cases c : 0 < pw
    · exact c
    · have := Int.mul_le_mul_of_nonneg_left (show pw ≤ 0 by omega) (show 0 ≤ w by omega)
      omega
  -- the numbers of the ring
  generalize hA : pw * u * G = A
  generalize hC : p12 * ld r * G = C
  have A0 : 0 < A := by rw [← hA]; exact Int.mul_pos (Int.mul_pos pw0 u0) G0
  have hAw : sc * u = A * w := by rw [hsc, hp, ← hA]; ac_rfl
  have hC12 : 12 * C = ld r * sc := by rw [hsc, hp2, ← hC]; ac_rfl
  have C0 : 0 ≤ C := by
    have := Int.mul_nonneg l0 (show 0 ≤ sc by omega)
    omega
  have C1 : C < sc := by
    have := Int.mul_le_mul_of_nonneg_right (show ld r ≤ 11 by omega) (show 0 ≤ sc by omega)
    omega
  have eF : ∀ m : Int, gp r * ((m * pt + pw * u - p12 * ld r) * s) = m * sc + A - C := by
    intro m
    rw [show gp r * ((m * pt + pw * u - p12 * ld r) * s) = (m * pt + pw * u - p12 * ld r) * (gp r * s) by ac_rfl, ← hG, Int.sub_mul, Int.add_mul, hA, hC, hsc, Int.mul_assoc]
  have eT : ∀ m : Int, gp r * ((m * pt + pt - pw * u - p12 * ld r) * s) = m * sc + sc - A - C := by
    intro m
    rw [show gp r * ((m * pt + pt - pw * u - p12 * ld r) * s) = (m * pt + pt - pw * u - p12 * ld r) * (gp r * s) by ac_rfl, ← hG, Int.sub_mul, Int.sub_mul, Int.add_mul, hA, hC, ← hsc, Int.mul_assoc, ← hsc]
  generalize hY : gp r * t + 2 * C = Y
  have Y0 : 0 ≤ Y := by
    have := Int.mul_nonneg (show 0 ≤ gp r by omega) t0
    omega
  have Y1 : Y < 2 * sc * (gp r + 1) := by
    have := Int.mul_le_mul_of_nonneg_left t1 (show 0 ≤ gp r by omega)
    rw [Int.mul_add, Int.mul_comm (2 * sc) (gp r)]
    omega
  have m0 := Int.emod_nonneg Y (b := 2 * sc) (by omega)
  have m1 := Int.emod_lt_of_pos Y (b := 2 * sc) (by omega)
  have hx : xfa gp ld r u w (12 * t) (2 * sc) ↔ 2 * A ≤ Y % (2 * sc) ∧ Y % (2 * sc) ≤ 2 * sc - 2 * A := by
    unfold xfa xa2
    have e1 : gp r * (12 * t) + ld r * (2 * sc) = Y * 12 := by
      rw [show gp r * (12 * t) = gp r * t * 12 by ac_rfl, show ld r * (2 * sc) = 2 * (ld r * sc) by ac_rfl, ← hC12, ← hY]
      omega
    rw [e1, show 12 * (2 * sc) = 2 * sc * 12 by omega, xmul_emod (by omega), ← Int.sub_mul, ← xmin_mul (by omega)]
    generalize Y % (2 * sc) = z at *
    have e2 : 2 * sc * 12 * u = 24 * (A * w) := by rw [← hAw, show 2 * sc * 12 * u = 2 * 12 * (sc * u) by ac_rfl]; omega
    have e3 : min z (2 * sc - z) * 12 * w = 12 * (min z (2 * sc - z) * w) := by ac_rfl
    rw [e2, e3]
    have e4 : (2 * A) * w ≤ min z (2 * sc - z) * w ↔ 2 * A ≤ min z (2 * sc - z) := Int.mul_le_mul_right w0
    rw [Int.mul_assoc] at e4
    omega
  rw [hx]
  have gp0 : 0 < gp r := by omega
  have key : ∀ m : Int, (2 * ((m * pt + pw * u - p12 * ld r) * s) ≤ t ∧ t ≤ 2 * ((m * pt + pt - pw * u - p12 * ld r) * s)) ↔ (2 * (m * sc) + 2 * A ≤ Y ∧ Y ≤ 2 * (m * sc) + 2 * sc - 2 * A) := by
    intro m
    have f1 := eF m
    have f2 := eT m
    generalize (m * pt + pw * u - p12 * ld r) * s = X1 at *
    generalize (m * pt + pt - pw * u - p12 * ld r) * s = X2 at *
    have a1 : (2 * X1) * gp r ≤ t * gp r ↔ 2 * X1 ≤ t := Int.mul_le_mul_right gp0
    have a2 : t * gp r ≤ (2 * X2) * gp r ↔ t ≤ 2 * X2 := Int.mul_le_mul_right gp0
    rw [Int.mul_assoc, Int.mul_comm X1, f1, Int.mul_comm t] at a1
    rw [Int.mul_assoc, Int.mul_comm X2, f2, Int.mul_comm t] at a2
    omega
  constructor
  · intro h
    have d0 : 0 ≤ Y / (2 * sc) := Int.ediv_nonneg Y0 (by omega)
    have e := Int.mul_ediv_add_emod Y (2 * sc)
    have d1 : Y / (2 * sc) < gp r + 1 := Int.ediv_lt_of_lt_mul (by omega) (by rw [Int.mul_comm]; exact Y1)
    refine ⟨(Y / (2 * sc)).toNat, by omega, ?_⟩
    rw [Int.toNat_of_nonneg d0]
    rw [key]
    rw [show 2 * sc * (Y / (2 * sc)) = 2 * ((Y / (2 * sc)) * sc) by ac_rfl] at e
    omega
  · rintro ⟨m, hm, h⟩
    rw [key] at h
    have e : Y % (2 * sc) = Y - 2 * (m * sc) := by
      rw [show Y = (Y - 2 * (m * sc)) + 2 * sc * m by rw [show 2 * sc * (m : Int) = 2 * (m * sc) by ac_rfl]; omega, Int.add_mul_emod_self_left, Int.emod_eq_of_lt (by omega) (by omega), show 2 * sc * (m : Int) = 2 * (m * sc) by ac_rfl]
      omega
    rw [e]
    omega
/-- where span m begins and ends -/
def xFm (pt pw p12 s u l : Int) (m : Int) : Int := (m * pt + pw * u - p12 * l) * s
def xTm (pt pw p12 s u l : Int) (m : Int) : Int := (m * pt + pt - pw * u - p12 * l) * s
theorem x_FT {g l G s u w pw p12 pt sc : Int} (hs : 0 < s) (hG : G = g * s) (g0 : 1 ≤ g) (l0 : 0 ≤ l) (l1 : l < 12) (u0 : 0 < u) (uw : u ≤ w) (hp : pt = w * pw) (hp2 : pt = 12 * p12) (p0 : 0 < pt) (hsc : sc = pt * G) {m : Int} (m0 : 0 ≤ m) (m1 : m ≤ g) :
    -sc ≤ xFm pt pw p12 s u l m ∧ xFm pt pw p12 s u l m ≤ 2 * sc ∧ -(2 * sc) ≤ xTm pt pw p12 s u l m ∧ xTm pt pw p12 s u l m ≤ 2 * sc ∧ xTm pt pw p12 s u l m < xFm pt pw p12 s u l (m + 1) ∧ xFm pt pw p12 s u l m < xFm pt pw p12 s u l (m + 1) := by
  have G0 : 0 < G := by rw [hG]; exact Int.mul_pos (by omega) hs
  have sc0 : 0 < sc := by rw [hsc]; exact Int.mul_pos p0 G0
  have w0 : 0 < w := by omega
  have pw0 : 0 < pw := by
    by_cases c : 0 < pw
    · exact c
    · have := Int.mul_le_mul_of_nonneg_left (show pw ≤ 0 by omega) (show 0 ≤ w by omega)
      omega
  have A0 : 0 < pw * u * G := Int.mul_pos (Int.mul_pos pw0 u0) G0
  have A1 : pw * u * G ≤ sc := by
    have h1 := Int.mul_le_mul_of_nonneg_left uw (show 0 ≤ pw by omega)
    have h2 := Int.mul_le_mul_of_nonneg_right h1 (show 0 ≤ G by omega)
    rw [Int.mul_comm pw w, ← hp, ← hsc] at h2
    exact h2
  have hC12 : 12 * (p12 * l * G) = l * sc := by rw [hsc, hp2]; ac_rfl
  have C0 : 0 ≤ p12 * l * G := by
    have := Int.mul_nonneg l0 (show 0 ≤ sc by omega)
    omega
  have C1 : p12 * l * G < sc := by
    have := Int.mul_le_mul_of_nonneg_right (show l ≤ 11 by omega) (show 0 ≤ sc by omega)
    omega
  have eF : ∀ m : Int, g * xFm pt pw p12 s u l m = m * sc + pw * u * G - p12 * l * G := by
    intro m
    unfold xFm
    rw [show g * ((m * pt + pw * u - p12 * l) * s) = (m * pt + pw * u - p12 * l) * (g * s) by ac_rfl, ← hG, Int.sub_mul, Int.add_mul, hsc, Int.mul_assoc m pt G]
  have eT : ∀ m : Int, g * xTm pt pw p12 s u l m = m * sc + sc - pw * u * G - p12 * l * G := by
    intro m
    unfold xTm
    rw [show g * ((m * pt + pt - pw * u - p12 * l) * s) = (m * pt + pt - pw * u - p12 * l) * (g * s) by ac_rfl, ← hG, Int.sub_mul, Int.sub_mul, Int.add_mul, ← hsc, Int.mul_assoc m pt G, ← hsc]
  have f0 := eF m
  have f1 := eT m
  have f2 := eF (m + 1)
  rw [Int.add_mul, Int.one_mul] at f2
  have gs : sc ≤ g * sc := by
    have := Int.mul_le_mul_of_nonneg_right g0 (show 0 ≤ sc by omega)
    omega
  have ms0 := Int.mul_nonneg m0 (show 0 ≤ sc by omega)
  have ms1 := Int.mul_le_mul_of_nonneg_right m1 (show 0 ≤ sc by omega)
  generalize xFm pt pw p12 s u l m = X at *
  generalize xTm pt pw p12 s u l m = Y at *
  generalize xFm pt pw p12 s u l (m + 1) = Z at *
  have g1 : 0 < g := by omega
  have k : ∀ a b : Int, g * a ≤ g * b → a ≤ b := fun a b h => Int.le_of_mul_le_mul_left h g1
  have k2 : ∀ a b : Int, g * a < g * b → a < b := fun a b h => Int.lt_of_mul_lt_mul_left h (by omega)
  have e1 : g * (-sc) = -(g * sc) := Int.mul_neg _ _
  have e2 : g * (2 * sc) = 2 * (g * sc) := Int.mul_left_comm _ _ _
  have e3 : g * (-(2 * sc)) = -(g * (2 * sc)) := Int.mul_neg _ _
  exact ⟨k _ _ (by omega), k _ _ (by omega), k _ _ (by omega), k _ _ (by omega), k2 _ _ (by omega), k2 _ _ (by omega)⟩
section WS
variable {P : Nat → Nat} {S : xS} {a s1 s2 l1 l2 : Nat} {sc pt : Int}
theorem d_watchSingle (H : xVo S a s1 s2 l1 l2 sc pt) (h0 : ∃ n f g, xPq S (a + 4) 210 n f g) {gp ld : Nat → Int} {r : Nat} {G : Nat} (hG : G ∣ xLc) (hsc : sc = pt * G) {u w pw p12 : Int} (hp : pt = w * pw) (hp2 : pt = 12 * p12) (p0 : 12 ≤ pt) (p1 : pt ≤ 132) (u0 : 1 ≤ u) (w0 : 1 ≤ w) (w1 : w ≤ 12) (uw : 2 * u ≤ w) (g0 : 0 ≤ gp r) (g1 : gp r ≤ 40) (hd : gp r ≠ 0 → (gp r).toNat ∣ G) (l0 : 0 ≤ ld r) (l1' : ld r < 12) :
    ∃ S1 n u' v', xcV P m_X8_watchSingle [.ref a, .int (iI (gp r)), .int (iI (ld r)), .int (iI u), .int (iI w)] S = some S1 ∧ xSp S1 (a + 4) 210 n u' v' ∧ n ≤ 41 ∧ (∀ t, xme n u' v' t ↔ (0 ≤ t ∧ t ≤ 2 * sc ∧ xfa gp ld r u w (12 * t) (2 * sc))) ∧ xfr S S1 (x3 (a + 4)) := by
  have bG := xLc_le hG
  obtain ⟨n0, f0, g0', hq⟩ := h0
  obtain ⟨T, k1, k2, k3⟩ := d_sclear (P := P) (u := gp) (v := ld) ⟨f0, g0', (show xPq S (a + 4) 210 n0 f0 g0' from hq)⟩
  have HT := H.fr k3 (by unfold x3; omega)
  have pw0 : 0 < pw := by
    by_cases c : 0 < pw
    · exact c
    · have := Int.mul_le_mul_of_nonneg_left (show pw ≤ 0 by omega) (show 0 ≤ w by omega)
      omega
  have pwu : 0 ≤ pw * u ∧ 2 * (pw * u) ≤ pt := by
    have h1 := Int.mul_le_mul_of_nonneg_left uw (show 0 ≤ pw by omega)
    rw [Int.mul_comm pw w, ← hp, Int.mul_left_comm] at h1
    exact ⟨Int.mul_nonneg (by omega) (by omega), h1⟩
  have al := x_mul_bd (show 0 ≤ p12 by omega) (show p12 ≤ 11 by omega) l0 (show ld r ≤ 11 by omega)
  have alp : 12 * (p12 * ld r) = pt * ld r := by rw [hp2]; ac_rfl
  have alq : p12 * ld r < pt := by
    have := Int.mul_le_mul_of_nonneg_left (show ld r ≤ 11 by omega) (show 0 ≤ pt by omega)
    omega
  have sc0 : 0 < sc := by rw [hsc]; exact Int.mul_pos (by omega) (by omega)
  have sc1 : sc ≤ 132 * 5342931457063200 := by
    rw [hsc]
    exact Int.mul_le_mul p1 (by omega) (by omega) (by omega)
  have ew : pt / w * u = pw * u := by rw [hp, Int.mul_ediv_cancel_left _ (by omega)]
  have e12 : pt / 12 * ld r = p12 * ld r := by rw [hp2, Int.mul_ediv_cancel_left _ (by omega)]
  by_cases c : gp r < 1
  · -- as fast: it stays so far off
    have gz : gp r = 0 := by omega
    have hx : ∀ t, xfa gp ld r u w (12 * t) (2 * sc) ↔ pw * u ≤ min (p12 * ld r) (pt - p12 * ld r) := by
      intro t
      have m : (ld r * (2 * sc)) % (12 * (2 * sc)) = ld r * (2 * sc) := Int.emod_eq_of_lt (Int.mul_nonneg l0 (by omega)) (Int.mul_lt_mul_of_pos_right l1' (by omega))
      unfold xfa xa2
      rw [gz, Int.zero_mul, Int.zero_add, m, ← Int.sub_mul, ← xmin_mul (by omega)]
      have e1 : 12 * (2 * sc) * u = (12 * u) * (2 * sc) := by ac_rfl
      have e2 : min (ld r) (12 - ld r) * (2 * sc) * w = (min (ld r) (12 - ld r) * w) * (2 * sc) := by ac_rfl
      rw [e1, e2, Int.mul_le_mul_right (show 0 < 2 * sc by omega)]
      have e3 : (12 * u) * pt ≤ (min (ld r) (12 - ld r) * w) * pt ↔ 12 * u ≤ min (ld r) (12 - ld r) * w := Int.mul_le_mul_right (show 0 < pt by omega)
      rw [← e3]
      have e4 : (12 * u) * pt = (pw * u) * (12 * w) := by rw [hp]; ac_rfl
      have e5 : (min (ld r) (12 - ld r) * w) * pt = min (p12 * ld r) (pt - p12 * ld r) * (12 * w) := by
        have : pt - p12 * ld r = p12 * (12 - ld r) := by rw [Int.mul_sub, hp2]; omega
        rw [this, Int.mul_comm p12 (ld r), Int.mul_comm p12 (12 - ld r), ← xmin_mul (by omega), hp2]
        ac_rfl
      rw [e4, e5]
      exact Int.mul_le_mul_right (show 0 < 12 * w by omega)
    have run : ∀ T1, (pw * u ≤ min (p12 * ld r) (pt - p12 * ld r) → xcV P m_X6_add [.ref (a + 4), .long (jI 0), .long (jI sc)] T = some T1) → (min (p12 * ld r) (pt - p12 * ld r) < pw * u → xcV P m_X6_add [.ref (a + 4), .long (jI 0), .long (jI (-1))] T = some T1) → xcV P m_X8_watchSingle [.ref a, .int (iI (gp r)), .int (iI (ld r)), .int (iI u), .int (iI w)] S = some T1 := by
      intro T1 q1 q2
      refine xcV_of ((e_X8_watchSingle_0 P a (iI (gp r)) (iI (ld r)) (iI u) (iI w) S).trans ?_)
      rw [xfR_at (k := 1) H.1 rfl, xob_some, xisO_at hq.2.2.1, cond_true, k1, xob_some, if_pos (by rw [iI_le (by omega) (by omega) (by omega) (by omega)]; omega), xfI_at (k := 8) HT.1 rfl, xob_some, if_neg (by rw [iI_0, iI_eq (by omega) (by omega) (by omega) (by omega)]; omega), xob_some, if_pos (by rw [iI_lt (by omega) (by omega) (by omega) (by omega)]; omega), xob_some, iI_div (by omega) (by omega) (by omega) (by omega), iI_div (by omega) (by omega) (by omega) (by omega), iI_mul, iI_mul, ew, e12, iI_sub, c_min (by omega) (by omega) (by omega) (by omega), xob_some]
      dsimp only
      by_cases c2 : min (p12 * ld r) (pt - p12 * ld r) < pw * u
      · rw [if_pos (by rw [iI_lt (by omega) (by omega) (by omega) (by omega)]; omega), xfR_at (k := 1) HT.1 rfl, xob_some, if_pos (by decide +kernel), k2.o, cond_true, q2 c2, xob_some]
      · rw [if_neg (by rw [iI_lt (by omega) (by omega) (by omega) (by omega)]; omega), xfR_at (k := 1) HT.1 rfl, xob_some, if_neg (by decide +kernel), xfJ_at (k := 7) HT.1 rfl, xob_some, k2.o, cond_true, q1 (by omega), xob_some]
    by_cases c2 : pw * u ≤ min (p12 * ld r) (pt - p12 * ld r)
    · obtain ⟨T1, n', u', v', q1, q2, q3, q4, q5, q6⟩ := d_saddE (P := P) k2 (by omega) (x := 0) (y := sc) (by omega) (by omega) (by omega) (by omega) (fun z => by omega)
      refine ⟨T1, n', u', v', run T1 (fun _ => q1) (fun z => by omega), q2, by omega, fun t => ?_, k3.tr q6⟩
      rw [q4, hx]
      constructor
      · rintro (⟨k, hk, -⟩ | z)
        · omega
        · exact ⟨by omega, by omega, c2⟩
      · rintro ⟨z1, z2, -⟩
        exact Or.inr ⟨by omega, by omega⟩
    · refine ⟨T, 0, gp, ld, run T (fun z => absurd z c2) (fun _ => d_sadd0 k2 (by omega) (by omega) (by omega) (by omega) (by omega)), k2, by omega, fun t => ?_, k3⟩
      rw [hx]
      exact ⟨fun ⟨k, hk, _⟩ => by omega, fun z => absurd z.2.2 c2⟩
  · have c' : 1 ≤ gp r := by omega
    obtain ⟨d, hd'⟩ := hd (by omega)
    have gN : ((gp r).toNat : Int) = gp r := Int.toNat_of_nonneg g0
    have hGs : (G : Int) = gp r * (d : Int) := by rw [hd', Int.natCast_mul, gN]
    have hs : 0 < (d : Int) := by
      by_cases cd : 0 < (d : Int)
      · exact cd
      · rw [show (d : Int) = 0 by omega, Int.mul_zero] at hGs
        omega
    have hstep : sc / (pt * gp r) = d := by
      rw [hsc, hGs, ← Int.mul_assoc, Int.mul_ediv_cancel_left _ (by
        have := Int.mul_pos (show 0 < pt by omega) (show 0 < gp r by omega)
        omega)]
    have FT := fun (m : Int) (m0 : 0 ≤ m) (m1 : m ≤ gp r) => x_FT (m := m) hs hGs c' l0 l1' (show 0 < u by omega) (show u ≤ w by omega) hp hp2 (show 0 < pt by omega) hsc m0 m1
    have xs := fun t (t0 : 0 ≤ t) (t1 : t ≤ 2 * sc) => x_single (gp := gp) (ld := ld) (r := r) (t := t) hs hGs c' l0 l1' (show 0 < u by omega) (show 0 < w by omega) hp hp2 (show 0 < pt by omega) hsc t0 t1
    have pg := x_mul_bd (show 0 ≤ pt by omega) p1 g0 g1
    have pg1 := Int.mul_pos (show 0 < pt by omega) (show 0 < gp r by omega)
    have key := xloopQ (run := fun m (T1 : xS) => xrun P m_X8_watchSingle 115 [(0, .ref a), (1, .int (iI (gp r))), (5, .int (iI (pw * u))), (6, .int (iI (p12 * ld r))), (7, .long (jI d)), (9, .int (iI m))] [] T1)
      (Inv := fun m T1 => ∃ n u' v', xSp T1 (a + 4) 210 n u' v' ∧ n ≤ m ∧ xfr T T1 (x3 (a + 4)) ∧ (0 < n → v' (n - 1) < xFm pt pw p12 d u (ld r) m) ∧ ∀ t, xme n u' v' t ↔ (0 ≤ t ∧ t ≤ 2 * sc ∧ ∃ k : Nat, k < m ∧ 2 * xFm pt pw p12 d u (ld r) k ≤ t ∧ t ≤ 2 * xTm pt pw p12 d u (ld r) k))
      (fun res => ∃ S1 n u' v', res = some (none, S1) ∧ xSp S1 (a + 4) 210 n u' v' ∧ n ≤ 41 ∧ (∀ t, xme n u' v' t ↔ (0 ≤ t ∧ t ≤ 2 * sc ∧ xfa gp ld r u w (12 * t) (2 * sc))) ∧ xfr S S1 (x3 (a + 4))) 0 ((gp r).toNat + 1) (by omega) (fun m T1 _ hm hT => by
        obtain ⟨n, u', v', q1, q2, q3, q4, q5⟩ := hT
        have H1 := HT.fr q3 (by unfold x3; omega)
        have b := FT m (by omega) (by omega)
        have mp := x_mul_bd (show 0 ≤ (m : Int) by omega) (show (m : Int) ≤ 40 by omega) (show 0 ≤ pt by omega) p1
        obtain ⟨T2, n2, u2, v2, z1, z2, z3, z4, z5, z6⟩ := d_saddE (P := P) q1 (by omega) (x := max 0 (xFm pt pw p12 d u (ld r) m)) (y := min sc (xTm pt pw p12 d u (ld r) m)) (by omega) (by omega) (by omega) (by omega) (fun z => by have := q4 z; omega)
        refine Or.inr ⟨T2, ?_, n2, u2, v2, z2, by omega, q3.tr z6, fun z => ?_, fun t => ?_⟩
        · rw [e_X8_watchSingle_115, if_neg (by rw [iI_lt (by omega) (by omega) (by omega) (by omega)]; omega), xfI_at (k := 8) H1.1 rfl, xob_some, xob_some, xob_some, xfR_at (k := 1) H1.1 rfl, xob_some, iI_mul, iI_add, iI_sub, iI_ji (by omega) (by omega), jI_mul, show (m * pt + pw * u - p12 * ld r) * (d : Int) = xFm pt pw p12 d u (ld r) m from rfl, c_maxL (by omega) (by omega) (by omega) (by omega), xob_some]
          dsimp only
          rw [xfJ_at (k := 7) H1.1 rfl, xob_some, iI_add, iI_sub, iI_sub, iI_ji (by omega) (by omega), jI_mul, show (m * pt + pt - pw * u - p12 * ld r) * (d : Int) = xTm pt pw p12 d u (ld r) m from rfl, c_minL (by omega) (by omega) (by omega) (by omega), xob_some]
          dsimp only
          rw [q1.o, cond_true, z1, xob_some, iI_suc]
        · have o := z2.1.1 (n2 - 1) (by omega)
          rw [show ((m + 1 : Nat) : Int) = (m : Int) + 1 from rfl]
          rcases z5 z with z | z <;> omega
        · rw [z4, q5]
          constructor
          · rintro (⟨h1, h2, k, hk, h3⟩ | h)
            · exact ⟨h1, h2, k, by omega, h3⟩
            · exact ⟨by omega, by omega, m, by omega, by omega, by omega⟩
          · rintro ⟨h1, h2, k, hk, h3⟩
            by_cases ck : k = m
            · subst ck; exact Or.inr ⟨by omega, by omega⟩
            · exact Or.inl ⟨h1, h2, k, by omega, h3⟩) (fun T1 hT => by
        obtain ⟨n, u', v', q1, q2, q3, q4, q5⟩ := hT
        refine ⟨T1, n, u', v', ?_, q1, by omega, fun t => ?_, k3.tr q3⟩
        · rw [e_X8_watchSingle_115, if_pos (by rw [iI_lt (by omega) (by omega) (by omega) (by omega)]; omega)]
        · rw [q5]
          constructor
          · rintro ⟨h1, h2, k, hk, h3, h4⟩
            exact ⟨h1, h2, (xs t h1 h2).mpr ⟨k, by omega, h3, h4⟩⟩
          · rintro ⟨h1, h2, h3⟩
            obtain ⟨k, hk, h4, h5⟩ := (xs t h1 h2).mp h3
            exact ⟨h1, h2, k, by omega, h4, h5⟩) (s := T) ⟨0, gp, ld, k2, by omega, xfr.rf, fun z => by omega, fun t => ⟨fun ⟨k, hk, _⟩ => by omega, fun ⟨_, _, k, hk, _⟩ => by omega⟩⟩
    obtain ⟨S1, n, u', v', r1, r2⟩ := key
    refine ⟨S1, n, u', v', xcV_of ((e_X8_watchSingle_0 P a (iI (gp r)) (iI (ld r)) (iI u) (iI w) S).trans ?_), r2⟩
    rw [xfR_at (k := 1) H.1 rfl, xob_some, xisO_at hq.2.2.1, cond_true, k1, xob_some, if_pos (by rw [iI_le (by omega) (by omega) (by omega) (by omega)]; omega), xfI_at (k := 8) HT.1 rfl, xob_some, if_neg (by rw [iI_0, iI_eq (by omega) (by omega) (by omega) (by omega)]; omega), xob_some, if_neg (by rw [iI_lt (by omega) (by omega) (by omega) (by omega)]; omega), xob_some, if_pos (by rw [iI_le (by omega) (by omega) (by omega) (by omega)]; omega), xfJ_at (k := 7) HT.1 rfl, xob_some, xob_some, iI_ji (by omega) (by omega), iI_ji (by omega) (by omega), jI_mul, if_neg (by rw [jI_0, jI_eq (by omega) (by omega) (by omega) (by omega)]; omega), iI_div (by omega) (by omega) (by omega) (by omega), iI_div (by omega) (by omega) (by omega) (by omega), iI_mul, iI_mul, ew, e12, jI_div (by omega) (by omega) (by omega) (by omega), hstep]
    exact r1
end WS
