-- deps: 10.num 09c.eqs
/-! the JDK's own functions of numbers -/
theorem iI_xor_pos {a b : Int} (a1 : -2147483648 ≤ a) (a2 : a < 2147483648) (b1 : 0 ≤ b) (b2 : b < 2147483648) : (0 ≤ iI a ^^^ iI b) ↔ 0 ≤ a := by
  have hb : (iI b).toBitVec.msb = false := by
    have h : ¬ (iI b).toInt < 0 := by rw [iI_toInt (by omega) b2]; omega
    rw [← Int32.toInt_toBitVec] at h
    rw [BitVec.msb_eq_toInt, decide_eq_false_iff_not]
    exact h
  have ha : (iI a).toBitVec.msb = decide (a < 0) := by
    rw [BitVec.msb_eq_toInt, Int32.toInt_toBitVec, iI_toInt a1 a2]
  have hx : (iI a ^^^ iI b).toBitVec.msb = decide (a < 0) := by
    rw [Int32.toBitVec_xor, BitVec.msb_xor, ha, hb, Bool.xor_false]
  rw [BitVec.msb_eq_toInt, Int32.toInt_toBitVec] at hx
  have h2 : ((iI a ^^^ iI b).toInt < 0) ↔ a < 0 := by simpa using hx
  rw [Int32.le_iff_toInt_le, Int32.toInt_zero]
  omega
theorem jI_xor_pos {a b : Int} (a1 : -9223372036854775808 ≤ a) (a2 : a < 9223372036854775808) (b1 : 0 ≤ b) (b2 : b < 9223372036854775808) : (0 ≤ jI a ^^^ jI b) ↔ 0 ≤ a := by
  have hb : (jI b).toBitVec.msb = false := by
    have h : ¬ (jI b).toInt < 0 := by rw [jI_toInt (by omega) b2]; omega
    rw [← Int64.toInt_toBitVec] at h
    rw [BitVec.msb_eq_toInt, decide_eq_false_iff_not]
    exact h
  have ha : (jI a).toBitVec.msb = decide (a < 0) := by
    rw [BitVec.msb_eq_toInt, Int64.toInt_toBitVec, jI_toInt a1 a2]
  have hx : (jI a ^^^ jI b).toBitVec.msb = decide (a < 0) := by
    rw [Int64.toBitVec_xor, BitVec.msb_xor, ha, hb, Bool.xor_false]
  rw [BitVec.msb_eq_toInt, Int64.toInt_toBitVec] at hx
  have h2 : ((jI a ^^^ jI b).toInt < 0) ↔ a < 0 := by simpa using hx
  rw [Int64.le_iff_toInt_le, Int64.toInt_zero]
  omega
/-- a quotient, cut to 0 -/
theorem iI_tdiv {a b : Int} (a1 : -2147483648 ≤ a) (a2 : a < 2147483648) (b1 : 0 < b) (b2 : b < 2147483648) : iI a / iI b = iI (a.tdiv b) :=
  (Int32.ofInt_tdiv (by show -2147483648 ≤ a; omega) (by show a ≤ 2147483647; omega) (by show -2147483648 ≤ b; omega) (by show b ≤ 2147483647; omega)).symm
theorem jI_tdiv {a b : Int} (a1 : -9223372036854775808 ≤ a) (a2 : a < 9223372036854775808) (b1 : 0 < b) (b2 : b < 9223372036854775808) : jI a / jI b = jI (a.tdiv b) :=
  (Int64.ofInt_tdiv (by show -9223372036854775808 ≤ a; omega) (by show a ≤ 9223372036854775807; omega) (by show -9223372036854775808 ≤ b; omega) (by show b ≤ 9223372036854775807; omega)).symm
theorem x_tmod {a b : Int} : a - a.tdiv b * b = a.tmod b := by
  have := Int.mul_tdiv_add_tmod a b
  rw [Int.mul_comm] at this
  omega
theorem x_tmod_neg {a b : Int} (ha : a < 0) (hb : 0 < b) : a % b = (if a.tmod b = 0 then 0 else a.tmod b + b) := by
  have h1 := Int.emod_nonneg a (Int.ne_of_gt hb)
  have h2 := Int.emod_lt_of_pos a hb
  rw [Int.tmod_eq_emod]
  have hn : (b.natAbs : Int) = b := Int.natAbs_of_nonneg (Int.le_of_lt hb)
  have key : (b ∣ a) ↔ a % b = 0 := Int.dvd_iff_emod_eq_zero
  by_cases hd : b ∣ a
  · have h0 := key.mp hd
    rw [if_pos (Or.inr hd), h0]
    simp
  · have h0 : ¬ a % b = 0 := fun q => hd (key.mpr q)
    rw [if_neg (show ¬ (0 ≤ a ∨ b ∣ a) from fun q => q.elim (by omega) hd), hn]
    rw [if_neg (by omega)]
    omega
theorem x_tmod_lt {a b : Int} (hb : 0 < b) : -b < a.tmod b ∧ a.tmod b < b := tmod_bounds hb
section JD
variable {P : Nat → Nat} {S : xS}
theorem c_max {a b : Int} (a1 : -2147483648 ≤ a) (a2 : a < 2147483648) (b1 : -2147483648 ≤ b) (b2 : b < 2147483648) : xcI P m_J9_max_7cf53 [.int (iI a), .int (iI b)] S = some (iI (max a b), S) := by
  refine xcI_of ((e_J9_max_7cf53_0 P (iI a) (iI b) S).trans ?_)
  rw [Int.max_def]
  simp only [iI_lt a1 a2 b1 b2]
  by_cases c : a < b
  · rw [if_pos c, if_pos (by omega)]
  · rw [if_neg c]
    by_cases d : a ≤ b
    · rw [if_pos d, show a = b by omega]
    · rw [if_neg d]
theorem c_min {a b : Int} (a1 : -2147483648 ≤ a) (a2 : a < 2147483648) (b1 : -2147483648 ≤ b) (b2 : b < 2147483648) : xcI P m_J9_min_7cf53 [.int (iI a), .int (iI b)] S = some (iI (min a b), S) := by
  refine xcI_of ((e_J9_min_7cf53_0 P (iI a) (iI b) S).trans ?_)
  rw [Int.min_def]
  simp only [iI_lt b1 b2 a1 a2]
  by_cases c : b < a
  · rw [if_pos c, if_neg (by omega)]
  · rw [if_neg c, if_pos (by omega)]
theorem c_abs {a : Int} (a1 : -2147483647 ≤ a) (a2 : a < 2147483648) : xcI P m_J9_abs_0f7a4 [.int (iI a)] S = some (iI (a.natAbs : Int), S) := by
  refine xcI_of ((e_J9_abs_0f7a4_0 P (iI a) S).trans ?_)
  rw [iI_0]
  simp only [iI_le (a := 0) (b := a) (by omega) (by omega) (by omega) a2, iI_neg]
  by_cases c : 0 ≤ a
  · rw [if_pos c, show ((a.natAbs : Nat) : Int) = a by omega]
  · rw [if_neg c, show ((a.natAbs : Nat) : Int) = -a by omega]
theorem c_maxL {a b : Int} (a1 : -9223372036854775808 ≤ a) (a2 : a < 9223372036854775808) (b1 : -9223372036854775808 ≤ b) (b2 : b < 9223372036854775808) : xcJ P m_J9_max_f86c9 [.long (jI a), .long (jI b)] S = some (jI (max a b), S) := by
  refine xcJ_of ((e_J9_max_f86c9_0 P (jI a) (jI b) S).trans ?_)
  rw [jI_cmp_lt a1 a2 b1 b2, Int.max_def]
  by_cases c : a < b
  · rw [if_neg (show ¬ b < a by omega), if_neg (show ¬ a = b by omega), if_pos (by decide), if_pos (by omega)]
  · by_cases d : a = b
    · subst d
      rw [if_neg (show ¬ a < a by omega), if_pos rfl, if_neg (by decide), if_pos (by omega)]
    · rw [if_pos (show b < a by omega), if_neg (by decide), if_neg (by omega)]
theorem c_minL {a b : Int} (a1 : -9223372036854775808 ≤ a) (a2 : a < 9223372036854775808) (b1 : -9223372036854775808 ≤ b) (b2 : b < 9223372036854775808) : xcJ P m_J9_min_f86c9 [.long (jI a), .long (jI b)] S = some (jI (min a b), S) := by
  refine xcJ_of ((e_J9_min_f86c9_0 P (jI a) (jI b) S).trans ?_)
  rw [jI_cmp_lt a1 a2 b1 b2, Int.min_def]
  by_cases c : a < b
  · rw [if_neg (show ¬ b < a by omega), if_neg (show ¬ a = b by omega), if_neg (by decide), if_pos (by omega)]
  · by_cases d : a = b
    · subst d
      rw [if_neg (show ¬ a < a by omega), if_pos rfl, if_neg (by decide), if_pos (by omega)]
    · rw [if_pos (show b < a by omega), if_pos (by decide), if_neg (by omega)]
theorem c_floorMod {a b : Int} (a1 : -2147483648 ≤ a) (a2 : a < 2147483648) (b1 : 0 < b) (b2 : b < 2147483648) : xcI P m_J9_floorMod_7cf53 [.int (iI a), .int (iI b)] S = some (iI (a % b), S) := by
  refine xcI_of ((e_J9_floorMod_7cf53_0 P (iI a) (iI b) S).trans ?_)
  have hm := x_tmod_lt (a := a) b1
  simp only [iI_xor_pos a1 a2 (Int.le_of_lt b1) b2, iI_tdiv a1 a2 b1 b2, iI_mul, iI_sub, x_tmod, iI_add]
  rw [iI_0]
  simp only [iI_eq (a := b) (b := 0) (by omega) b2 (by omega) (by omega), iI_eq (a := a.tmod b) (b := 0) (by omega) (by omega) (by omega) (by omega)]
  rw [if_neg (by omega)]
  by_cases c : 0 ≤ a
  · rw [if_pos c, Int.tmod_eq_emod_of_nonneg c]
  · rw [if_neg c, x_tmod_neg (by omega) b1]
    by_cases d : a.tmod b = 0
    · rw [if_pos d, if_pos d, d]
    · rw [if_neg d, if_neg d]
theorem x_ediv_neg {a b : Int} (ha : a < 0) (hb : 0 < b) : a / b = (if a.tdiv b * b = a then a.tdiv b else a.tdiv b - 1) := by
  have h1 := x_tmod (a := a) (b := b)
  have h2 := x_tmod_neg ha hb
  have h3 := Int.emod_def a b
  have h4 : b * (a / b) = a - a % b := by omega
  split
  · rename_i c
    have e0 : a.tmod b = 0 := by omega
    rw [if_pos e0] at h2
    rw [h2, Int.sub_zero] at h4
    have : b * (a / b) = b * a.tdiv b := by rw [h4, Int.mul_comm b, c]
    exact Int.eq_of_mul_eq_mul_left (Int.ne_of_gt hb) this
  · rename_i c
    have e0 : ¬ a.tmod b = 0 := by omega
    rw [if_neg e0] at h2
    have : b * (a / b) = b * (a.tdiv b - 1) := by
      rw [h4, h2, Int.mul_sub, Int.mul_one, Int.mul_comm b]
      omega
    exact Int.eq_of_mul_eq_mul_left (Int.ne_of_gt hb) this
theorem x_tdiv_bd {a b : Int} (hb : 0 < b) (M : Int) (h1 : -M ≤ a) (h2 : a ≤ M) (hM : 0 ≤ M) : -M ≤ a.tdiv b ∧ a.tdiv b ≤ M ∧ -M ≤ a.tdiv b * b ∧ a.tdiv b * b ≤ M := by
  have h3 := x_tmod (a := a) (b := b)
  have hm := x_tmod_lt (a := a) hb
  have sgn : (0 ≤ a → 0 ≤ a.tmod b) ∧ (a ≤ 0 → a.tmod b ≤ 0) := ⟨fun h => Int.tmod_nonneg b h, fun h => by
    have := Int.tmod_nonneg (a := -a) b (by omega)
    rw [Int.neg_tmod] at this
    omega⟩
  have e1 : -M ≤ a.tdiv b * b ∧ a.tdiv b * b ≤ M := by
    rcases Int.le_total 0 a with h | h
    · have := sgn.1 h
      have : 0 ≤ a.tdiv b * b := by
        have := Int.tdiv_nonneg h (Int.le_of_lt hb)
        exact Int.mul_nonneg this (Int.le_of_lt hb)
      omega
    · have := sgn.2 h
      have : a.tdiv b * b ≤ 0 := by
        have h5 := Int.tdiv_nonneg (a := -a) (b := b) (by omega) (Int.le_of_lt hb)
        rw [Int.neg_tdiv] at h5
        have := Int.mul_nonneg h5 (Int.le_of_lt hb)
        rw [Int.neg_mul] at this
        omega
      omega
  have key : ∀ q : Int, -M ≤ q * b → q * b ≤ M → -M ≤ q ∧ q ≤ M := by
    intro q g1 g2
    rcases Int.le_total 0 q with h | h
    · have : q * 1 ≤ q * b := Int.mul_le_mul_of_nonneg_left (by omega) h
      omega
    · have : (-q) * 1 ≤ (-q) * b := Int.mul_le_mul_of_nonneg_left (by omega) (by omega)
      rw [Int.neg_mul, Int.neg_mul] at this
      omega
  have := key _ e1.1 e1.2
  exact ⟨this.1, this.2, e1.1, e1.2⟩
theorem c_floorDiv {a b : Int} (a1 : -2147483647 ≤ a) (a2 : a < 2147483648) (b1 : 0 < b) (b2 : b < 2147483648) : xcI P m_J9_floorDiv_7cf53 [.int (iI a), .int (iI b)] S = some (iI (a / b), S) := by
  refine xcI_of ((e_J9_floorDiv_7cf53_0 P (iI a) (iI b) S).trans ?_)
  obtain ⟨g1, g2, g3, g4⟩ := x_tdiv_bd (a := a) b1 2147483647 (by omega) (by omega) (by omega)
  simp only [iI_xor_pos (a := a) (by omega) a2 (Int.le_of_lt b1) b2, iI_tdiv (a := a) (by omega) a2 b1 b2, iI_mul, iI_sub]
  rw [iI_0]
  simp only [iI_eq (a := b) (b := 0) (by omega) b2 (by omega) (by omega), iI_eq (a := a.tdiv b * b) (b := a) (by omega) (by omega) (by omega) (by omega)]
  rw [if_neg (by omega)]
  by_cases c : 0 ≤ a
  · rw [if_pos c, Int.tdiv_eq_ediv_of_nonneg c]
  · rw [if_neg c, x_ediv_neg (by omega) b1]
    by_cases d : a.tdiv b * b = a
    · rw [if_pos d, if_pos d]
    · rw [if_neg d, if_neg d]
theorem c_compare {a b : Int} (a1 : -2147483648 ≤ a) (a2 : a < 2147483648) (b1 : -2147483648 ≤ b) (b2 : b < 2147483648) : xcI P m_J6_compare_7cf53 [.int (iI a), .int (iI b)] S = some (iI (if a < b then -1 else if a = b then 0 else 1), S) := by
  refine xcI_of ((e_J6_compare_7cf53_0 P (iI a) (iI b) S).trans ?_)
  simp only [iI_le b1 b2 a1 a2, ne_eq, iI_eq a1 a2 b1 b2]
  by_cases c : a < b
  · rw [if_neg (by omega), if_pos c]
  · rw [if_pos (by omega), if_neg c]
    by_cases d : a = b
    · rw [if_neg (by simp [d]), if_pos d]
    · rw [if_pos d, if_neg d]
end JD
