/-- a hundred bytes of the law -/
def xrl (j : Nat) : Bool := (List.range 100).all (fun i => xiok 331 (100 * j + i))
set_option maxRecDepth 1000000 in
theorem xrl_0 : xrl 0 = true := by decide +kernel
set_option maxRecDepth 1000000 in
theorem xrl_1 : xrl 1 = true := by decide +kernel
set_option maxRecDepth 1000000 in
theorem xrl_2 : xrl 2 = true := by decide +kernel
set_option maxRecDepth 1000000 in
theorem xrl_3 : xrl 3 = true := by decide +kernel
set_option maxRecDepth 1000000 in
theorem xrl_4 : xrl 4 = true := by decide +kernel
set_option maxRecDepth 1000000 in
theorem xrl_5 : xrl 5 = true := by decide +kernel
set_option maxRecDepth 1000000 in
theorem xrl_6 : xrl 6 = true := by decide +kernel
set_option maxRecDepth 1000000 in
theorem xrl_7 : xrl 7 = true := by decide +kernel
set_option maxRecDepth 1000000 in
theorem xrl_8 : xrl 8 = true := by decide +kernel
set_option maxRecDepth 1000000 in
theorem xrl_9 : xrl 9 = true := by decide +kernel
set_option maxRecDepth 1000000 in
theorem xrl_10 : xrl 10 = true := by decide +kernel
set_option maxRecDepth 1000000 in
theorem xrl_11 : xrl 11 = true := by decide +kernel
set_option maxRecDepth 1000000 in
theorem xrl_12 : xrl 12 = true := by decide +kernel
set_option maxRecDepth 1000000 in
theorem xrl_13 : xrl 13 = true := by decide +kernel
set_option maxRecDepth 1000000 in
theorem xrl_14 : xrl 14 = true := by decide +kernel
set_option maxRecDepth 1000000 in
theorem xrl_15 : xrl 15 = true := by decide +kernel
set_option maxRecDepth 1000000 in
theorem xrl_16 : xrl 16 = true := by decide +kernel
set_option maxRecDepth 1000000 in
theorem xrl_17 : xrl 17 = true := by decide +kernel
set_option maxRecDepth 1000000 in
theorem xrl_18 : xrl 18 = true := by decide +kernel
set_option maxRecDepth 1000000 in
theorem xrl_19 : xrl 19 = true := by decide +kernel
set_option maxRecDepth 1000000 in
theorem xrl_20 : xrl 20 = true := by decide +kernel
set_option maxRecDepth 1000000 in
theorem xrl_21 : xrl 21 = true := by decide +kernel
set_option maxRecDepth 1000000 in
theorem xrl_22 : xrl 22 = true := by decide +kernel
set_option maxRecDepth 1000000 in
theorem xrl_23 : xrl 23 = true := by decide +kernel
set_option maxRecDepth 1000000 in
theorem xrl_24 : xrl 24 = true := by decide +kernel
set_option maxRecDepth 1000000 in
theorem xrl_25 : xrl 25 = true := by decide +kernel
set_option maxRecDepth 1000000 in
theorem xrl_26 : xrl 26 = true := by decide +kernel
