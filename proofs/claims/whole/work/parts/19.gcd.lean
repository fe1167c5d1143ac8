-- deps: 18.seen 09b.eqs
/-! common divisors, fractions in lowest terms, remainders of longs -/
theorem lg_z {a b : Int} (a1 : -9223372036854775808 ≤ a) (a2 : a < 9223372036854775808) (b1 : -9223372036854775808 ≤ b) (b2 : b < 9223372036854775808) : lg_cmp (jI a) (jI b) = 0 ↔ a = b := by
  rw [jI_cmp_lt a1 a2 b1 b2, iI_0]
  repeat' split
  all_goals (rw [iI_eq (by omega) (by omega) (by omega) (by omega)]; omega)
theorem lg_lt {a b : Int} (a1 : -9223372036854775808 ≤ a) (a2 : a < 9223372036854775808) (b1 : -9223372036854775808 ≤ b) (b2 : b < 9223372036854775808) : lg_cmp (jI a) (jI b) < 0 ↔ a < b := by
  rw [jI_cmp_lt a1 a2 b1 b2, iI_0]
  repeat' split
  all_goals (rw [iI_lt (by omega) (by omega) (by omega) (by omega)]; omega)
theorem lg_gt {a b : Int} (a1 : -9223372036854775808 ≤ a) (a2 : a < 9223372036854775808) (b1 : -9223372036854775808 ≤ b) (b2 : b < 9223372036854775808) : 0 < lg_cmp (jI a) (jI b) ↔ b < a := by
  rw [jI_cmp_lt a1 a2 b1 b2, iI_0]
  repeat' split
  all_goals (rw [iI_lt (by omega) (by omega) (by omega) (by omega)]; omega)
theorem lg_ge {a b : Int} (a1 : -9223372036854775808 ≤ a) (a2 : a < 9223372036854775808) (b1 : -9223372036854775808 ≤ b) (b2 : b < 9223372036854775808) : 0 ≤ lg_cmp (jI a) (jI b) ↔ b ≤ a := by
  rw [jI_cmp_lt a1 a2 b1 b2, iI_0]
  repeat' split
  all_goals (rw [iI_le (by omega) (by omega) (by omega) (by omega)]; omega)
theorem lg_le {a b : Int} (a1 : -9223372036854775808 ≤ a) (a2 : a < 9223372036854775808) (b1 : -9223372036854775808 ≤ b) (b2 : b < 9223372036854775808) : lg_cmp (jI a) (jI b) ≤ 0 ↔ a ≤ b := by
  rw [jI_cmp_lt a1 a2 b1 b2, iI_0]
  repeat' split
  all_goals (rw [iI_le (by omega) (by omega) (by omega) (by omega)]; omega)
theorem jI_tdivg {a b : Int} (a1 : -9223372036854775808 ≤ a) (a2 : a < 9223372036854775808) (b1 : -9223372036854775808 ≤ b) (b2 : b < 9223372036854775808) : jI a / jI b = jI (a.tdiv b) :=
  (Int64.ofInt_tdiv (by show -9223372036854775808 ≤ a; omega) (by show a ≤ 9223372036854775807; omega) (by show -9223372036854775808 ≤ b; omega) (by show b ≤ 9223372036854775807; omega)).symm
theorem jI_tmod {a b : Int} (a1 : -9223372036854775808 ≤ a) (a2 : a < 9223372036854775808) (b1 : -9223372036854775808 ≤ b) (b2 : b < 9223372036854775808) : jI a - jI a / jI b * jI b = jI (a.tmod b) := by
  rw [jI_tdivg a1 a2 b1 b2, jI_mul, jI_sub, x_tmod]
section GC
variable {P : Nat → Nat} {S : xS}
theorem l_cd : ∀ (k g l n : Nat), k ≤ 63 → g < 9223372036854775808 → l < 2 ^ k → n + 2 * k < 200 → xrun P m_X10_commonDivisor 9 [(4, .long (jI g)), (6, .long (jI l)), (8, .int (iI n))] [] S = some (some (.long (jI (Nat.gcd g l))), S) := by
  intro k
  induction k with
  | zero =>
    intro g l n _ hg hl hn
    have e : l = 0 := by omega
    subst e
    rw [e_X10_commonDivisor_9]
    simp (disch := omega) only [iI_le, lg_z, Nat.gcd_zero_right]
    rw [if_neg (by omega), if_pos (by omega)]
  | succ k ih =>
    intro g l n hk hg hl hn
    have p63 : 2 ^ (k + 1) ≤ 2 ^ 63 := Nat.pow_le_pow_right (by decide) hk
    have hl63 : l < 9223372036854775808 := by omega
    have pk : 2 ^ (k + 1) = 2 * 2 ^ k := by rw [Nat.pow_succ, Nat.mul_comm]
    by_cases c : l = 0
    · subst c
      rw [e_X10_commonDivisor_9]
      simp (disch := omega) only [iI_le, lg_z, Nat.gcd_zero_right]
      rw [if_neg (by omega), if_pos (by omega)]
    · have hr : g % l < l := Nat.mod_lt _ (by omega)
      have e1 : xrun P m_X10_commonDivisor 9 [(4, .long (jI g)), (6, .long (jI l)), (8, .int (iI n))] [] S = xrun P m_X10_commonDivisor 9 [(4, .long (jI l)), (6, .long (jI (g % l : Nat))), (8, .int (iI (n + 1 : Nat)))] [] S := by
        rw [e_X10_commonDivisor_9]
        simp (disch := omega) only [iI_le, lg_z, jI_0, jI_eq, iI_suc, jI_rem]
        rw [if_neg (by omega), if_neg (by omega), if_neg (by omega)]
        rfl
      have g1 : Nat.gcd g l = Nat.gcd l (g % l) := by rw [Nat.gcd_comm g l, Nat.gcd_rec l g, Nat.gcd_comm]
      by_cases c2 : g % l < 2 ^ k
      · rw [e1, ih l (g % l) (n + 1) (by omega) hl63 c2 (by omega), g1]
      · have p0 : 0 < 2 ^ k := Nat.pow_pos (by decide)
        have hr2 : l % (g % l) < 2 ^ k := by
          have : l % (g % l) = l - g % l := by
            rw [Nat.mod_eq_sub_mod (by omega), Nat.mod_eq_of_lt (by omega)]
          omega
        have e2 : xrun P m_X10_commonDivisor 9 [(4, .long (jI l)), (6, .long (jI (g % l : Nat))), (8, .int (iI (n + 1 : Nat)))] [] S = xrun P m_X10_commonDivisor 9 [(4, .long (jI (g % l : Nat))), (6, .long (jI (l % (g % l) : Nat))), (8, .int (iI (n + 1 + 1 : Nat)))] [] S := by
          rw [e_X10_commonDivisor_9]
          simp (disch := omega) only [iI_le, lg_z, jI_0, jI_eq, iI_suc, jI_rem]
          rw [if_neg (by omega), if_neg (by omega), if_neg (by omega)]
          rfl
        have g2 : Nat.gcd l (g % l) = Nat.gcd (g % l) (l % (g % l)) := by rw [Nat.gcd_comm l (g % l), Nat.gcd_rec (g % l) l, Nat.gcd_comm]
        rw [e1, e2, ih (g % l) (l % (g % l)) (n + 1 + 1) (by omega) (by omega) hr2 (by omega), g1, g2]
theorem d_cd {a b : Int} (a0 : 0 ≤ a) (a1 : a < 9223372036854775808) (b0 : 0 ≤ b) (b1 : b < 9223372036854775808) : xcJ P m_X10_commonDivisor [.long (jI a), .long (jI b)] S = some (jI (Int.gcd a b), S) := by
  have ea : jI a = jI (a.toNat : Nat) := by rw [Int.toNat_of_nonneg a0]
  have eb : jI b = jI (b.toNat : Nat) := by rw [Int.toNat_of_nonneg b0]
  have eg : Int.gcd a b = Nat.gcd a.toNat b.toNat := by
    unfold Int.gcd
    rw [show a.natAbs = a.toNat by omega, show b.natAbs = b.toNat by omega]
  rw [ea, eb, eg]
  refine xcJ_of ((e_X10_commonDivisor_0 P (jI (a.toNat : Nat)) (jI (b.toNat : Nat)) S).trans ?_)
  exact l_cd 63 a.toNat b.toNat 0 (by omega) (by omega) (by omega) (by omega)
/-- a part of a fraction in lowest terms -/
def xpo (u l : Int) (t : Bool) : Int := (if t then l else u) / (Int.gcd u l : Nat)
theorem x_gcd_le {u l : Int} (l0 : 0 < l) : 0 < (Int.gcd u l : Int) ∧ (Int.gcd u l : Int) ≤ l := by
  have h1 : 0 < Int.gcd u l := Nat.pos_of_ne_zero (fun h => by have := (Int.gcd_eq_zero_iff.mp h).2; omega)
  have h2 := Int.le_of_dvd l0 (Int.gcd_dvd_right u l)
  omega
theorem xpo_bd {u l : Int} {t : Bool} (u0 : 0 ≤ u) (l0 : 0 < l) : 0 ≤ xpo u l t ∧ (xpo u l t ≤ u ∨ xpo u l t ≤ l) := by
  have h := x_gcd_le (u := u) l0
  unfold xpo
  split
  · exact ⟨Int.ediv_nonneg (by omega) (by omega), Or.inr (Int.ediv_le_self _ (by omega))⟩
  · exact ⟨Int.ediv_nonneg (by omega) (by omega), Or.inl (Int.ediv_le_self _ (by omega))⟩
def xb (t : Bool) : Int := if t then 1 else 0
theorem d_partOf {u l : Int} (u0 : 0 ≤ u) (u1 : u < 9223372036854775808) (l0 : 0 < l) (l1 : l < 9223372036854775808) (t : Bool) : xcJ P m_X10_partOf [.long (jI u), .long (jI l), .int (iI (xb t))] S = some (jI (xpo u l t), S) := by
  have h := x_gcd_le (u := u) l0
  refine xcJ_of ((e_X10_partOf_0 P (jI u) (jI l) (iI (xb t)) S).trans ?_)
  rw [d_cd u0 u1 (by omega) l1, xob_some]
  simp (disch := omega) only [lg_z, jI_0, jI_eq, jI_div, ne_eq]
  rw [if_pos (by omega)]
  cases t
  · rw [if_pos (by decide +kernel), if_neg (by omega)]; rfl
  · rw [if_neg (by decide +kernel), if_neg (by omega)]; rfl
theorem d_cm {a b : Int} (a0 : 0 < a) (a1 : a < 9223372036854775808) (b0 : 0 < b) (b1 : b < 9223372036854775808) : xcJ P m_X10_commonMultiple [.long (jI a), .long (jI b)] S = some (jI (a / (Int.gcd a b : Nat) * b), S) := by
  have h := x_gcd_le (u := a) b0
  refine xcJ_of ((e_X10_commonMultiple_0 P (jI a) (jI b) S).trans ?_)
  rw [d_cd (by omega) a1 (by omega) b1, xob_some]
  simp (disch := omega) only [lg_z, jI_0, jI_eq, jI_div, ne_eq, jI_mul]
  rw [if_pos (by omega), if_neg (by omega)]
theorem l_common : ∀ (n : Nat) (a b : Int), b.natAbs ≤ n → -9223372036854775808 < a → a < 9223372036854775808 → -9223372036854775808 < b → b < 9223372036854775808 → xrun P m_X11_common 6 [(4, .long (jI a)), (6, .long (jI b))] [] S = some (some (.long (jI (Int.gcd a b))), S) := by
  intro n
  induction n with
  | zero =>
    intro a b hb a0 a1 b0 b1
    have e : b = 0 := by omega
    subst e
    rw [e_X11_common_6]
    simp (disch := omega) only [lg_z, lg_ge, if_true, Int.gcd_zero_right, jI_neg]
    split
    · rw [show ((a.natAbs : Nat) : Int) = a by omega]
    · rw [show ((a.natAbs : Nat) : Int) = -a by omega]
  | succ n ih =>
    intro a b hb a0 a1 b0 b1
    by_cases c : b = 0
    · subst c
      rw [e_X11_common_6]
      simp (disch := omega) only [lg_z, lg_ge, if_true, Int.gcd_zero_right, jI_neg]
      split
      · rw [show ((a.natAbs : Nat) : Int) = a by omega]
      · rw [show ((a.natAbs : Nat) : Int) = -a by omega]
    · have e1 : (a.tmod b).natAbs = a.natAbs % b.natAbs := Int.natAbs_tmod a b
      have e2 : a.natAbs % b.natAbs < b.natAbs := Nat.mod_lt _ (by omega)
      have g := ih b (a.tmod b) (by omega) b0 b1 (by omega) (by omega)
      rw [e_X11_common_6]
      simp (disch := omega) only [lg_z, jI_0, jI_eq, jI_tmod]
      rw [if_neg c, if_neg c, g]
      have eg : Int.gcd b (a.tmod b) = Int.gcd a b := by
        unfold Int.gcd
        rw [e1, Nat.gcd_comm a.natAbs b.natAbs, Nat.gcd_rec b.natAbs a.natAbs, Nat.gcd_comm]
      rw [eg]
theorem d_common {a b : Int} (a0 : -9223372036854775808 < a) (a1 : a < 9223372036854775808) (b0 : -9223372036854775808 < b) (b1 : b < 9223372036854775808) : xcJ P m_X11_common [.long (jI a), .long (jI b)] S = some (jI (Int.gcd a b), S) :=
  xcJ_of ((e_X11_common_0 P (jI a) (jI b) S).trans (l_common b.natAbs a b (Nat.le_refl _) a0 a1 b0 b1))
theorem d_part {u l : Int} (u0 : 0 ≤ u) (u1 : u < 9223372036854775808) (l0 : 0 < l) (l1 : l < 9223372036854775808) (t : Bool) : xcJ P m_X11_part [.long (jI u), .long (jI l), .int (iI (xb t))] S = some (jI (xpo u l t), S) := by
  have h := x_gcd_le (u := u) l0
  refine xcJ_of ((e_X11_part_0 P (jI u) (jI l) (iI (xb t)) S).trans ?_)
  rw [d_common (by omega) u1 (by omega) l1, xob_some]
  simp (disch := omega) only [jI_0, jI_eq, jI_div]
  cases t
  · rw [if_pos (by decide +kernel), if_neg (by omega)]; rfl
  · rw [if_neg (by decide +kernel), if_neg (by omega)]; rfl
theorem d_ring {a W : Int} (a0 : -4611686018427387904 < a) (a1 : a < 4611686018427387904) (W0 : 0 < W) (W1 : W < 4611686018427387904) : xcJ P m_X11_ring [.long (jI a), .long (jI W)] S = some (jI (a % W), S) := by
  have t := x_tmod_lt (a := a) W0
  refine xcJ_of ((e_X11_ring_0 P (jI a) (jI W) S).trans ?_)
  simp (disch := omega) only [jI_tmod, jI_0, jI_eq, lg_ge, jI_add]
  rw [if_neg (by omega)]
  by_cases c : 0 ≤ a
  · have e := Int.tmod_eq_emod_of_nonneg (b := W) c
    have e2 := Int.emod_nonneg a (b := W) (by omega)
    rw [if_pos (by omega), e]
  · have e := x_tmod_neg (a := a) (b := W) (by omega) W0
    rw [e]
    have e3 := Int.emod_nonneg a (b := W) (by omega)
    rw [e] at e3
    by_cases c2 : a.tmod W = 0
    · rw [if_pos c2, if_pos (by omega), c2]
    · rw [if_neg c2, if_neg]
      have e4 := Int.emod_lt_of_pos a W0
      rw [e, if_neg c2] at e4
      omega
theorem d_lesser {a b : Int} (a0 : -9223372036854775808 ≤ a) (a1 : a < 9223372036854775808) (b0 : -9223372036854775808 ≤ b) (b1 : b < 9223372036854775808) : xcJ P m_X11_lesser [.long (jI a), .long (jI b)] S = some (jI (min a b), S) := by
  refine xcJ_of ((e_X11_lesser_0 P (jI a) (jI b) S).trans ?_)
  simp (disch := omega) only [lg_ge]
  split
  · rw [show min a b = b by omega]
  · rw [show min a b = a by omega]
theorem d_in {v a b : Int} (v0 : -9223372036854775808 ≤ v) (v1 : v < 9223372036854775808) (a0 : -9223372036854775808 ≤ a) (a1 : a < 9223372036854775808) (b0 : -9223372036854775808 ≤ b) (b1 : b < 9223372036854775808) : xcI P m_X11_in [.long (jI v), .long (jI a), .long (jI b)] S = some (iI (if a ≤ v ∧ v ≤ b then 1 else 0), S) := by
  refine xcI_of ((e_X11_in_0 P (jI v) (jI a) (jI b) S).trans ?_)
  simp (disch := omega) only [lg_lt, lg_gt]
  repeat' split
  all_goals first | rfl | (exfalso; omega)
theorem d_size11 {a : Int} (a0 : -2147483648 < a) (a1 : a < 2147483648) : xcI P m_X11_size [.int (iI a)] S = some (iI (a.natAbs : Nat), S) := by
  refine xcI_of ((e_X11_size_0 P (iI a) S).trans ?_)
  simp (disch := omega) only [iI_0, iI_le, iI_neg]
  split
  · rw [show ((a.natAbs : Nat) : Int) = a by omega]
  · rw [show ((a.natAbs : Nat) : Int) = -a by omega]
end GC
