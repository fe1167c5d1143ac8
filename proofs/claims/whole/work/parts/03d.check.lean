theorem xr_all (j : Nat) (h : j < 17) : xr j = true := by
  match j, h with
  | 0, _ => exact xr_0
  | 1, _ => exact xr_1
  | 2, _ => exact xr_2
  | 3, _ => exact xr_3
  | 4, _ => exact xr_4
  | 5, _ => exact xr_5
  | 6, _ => exact xr_6
  | 7, _ => exact xr_7
  | 8, _ => exact xr_8
  | 9, _ => exact xr_9
  | 10, _ => exact xr_10
  | 11, _ => exact xr_11
  | 12, _ => exact xr_12
  | 13, _ => exact xr_13
  | 14, _ => exact xr_14
  | 15, _ => exact xr_15
  | 16, _ => exact xr_16
  | _ + 17, h => omega
theorem xrl_all (j : Nat) (h : j < 27) : xrl j = true := by
  match j, h with
  | 0, _ => exact xrl_0
  | 1, _ => exact xrl_1
  | 2, _ => exact xrl_2
  | 3, _ => exact xrl_3
  | 4, _ => exact xrl_4
  | 5, _ => exact xrl_5
  | 6, _ => exact xrl_6
  | 7, _ => exact xrl_7
  | 8, _ => exact xrl_8
  | 9, _ => exact xrl_9
  | 10, _ => exact xrl_10
  | 11, _ => exact xrl_11
  | 12, _ => exact xrl_12
  | 13, _ => exact xrl_13
  | 14, _ => exact xrl_14
  | 15, _ => exact xrl_15
  | 16, _ => exact xrl_16
  | 17, _ => exact xrl_17
  | 18, _ => exact xrl_18
  | 19, _ => exact xrl_19
  | 20, _ => exact xrl_20
  | 21, _ => exact xrl_21
  | 22, _ => exact xrl_22
  | 23, _ => exact xrl_23
  | 24, _ => exact xrl_24
  | 25, _ => exact xrl_25
  | 26, _ => exact xrl_26
  | _ + 27, h => omega
theorem xiok_all (m pc : Nat) : xiok m pc = true := by
  by_cases h : m < 331
  · by_cases h2 : pc < xsz m
    · have h3 := List.all_eq_true.mp (xr_all (m / 20) (by omega)) (m % 20) (List.mem_range.mpr (by omega))
      have e : 20 * (m / 20) + m % 20 = m := by omega
      rw [e] at h3
      have h4 : Nat.ble 331 m = false := by
        rw [← Bool.not_eq_true, Nat.ble_eq]
        omega
      rw [h4, Bool.false_or] at h3
      exact List.all_eq_true.mp h3 pc (List.mem_range.mpr h2)
    · have : Nat.blt pc (xsz m) = false := by
        rw [← Bool.not_eq_true, Nat.blt_eq]; omega
      simp [xiok, xin, this]
  · by_cases h1 : m = 331
    · subst h1
      by_cases h2 : pc < 2700
      · have h3 := List.all_eq_true.mp (xrl_all (pc / 100) (by omega)) (pc % 100) (List.mem_range.mpr (by omega))
        have e : 100 * (pc / 100) + pc % 100 = pc := by omega
        rw [e] at h3
        exact h3
      · have : Nat.blt pc (xsz 331) = false := by
          rw [← Bool.not_eq_true, Nat.blt_eq]
          show ¬ pc < 2651
          omega
        simp [xiok, xin, this]
    · have : Nat.blt m xM = false := by
        rw [← Bool.not_eq_true, Nat.blt_eq]
        show ¬ m < 332
        omega
      simp [xiok, xin, this]

