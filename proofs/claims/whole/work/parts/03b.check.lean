set_option maxRecDepth 1000000 in
theorem xmok_all : ∀ m, m < xM - 1 → xmok m = true := by
  intro m h
  have h1 : (List.range (xM - 1)).all xmok = true := by decide +kernel
  exact List.all_eq_true.mp h1 m (List.mem_range.mpr h)
/-- twenty methods -/
def xr (j : Nat) : Bool := (List.range 20).all (fun i => Nat.ble 331 (20 * j + i) || (List.range (xsz (20 * j + i))).all (xiok (20 * j + i)))
set_option maxRecDepth 1000000 in
theorem xr_0 : xr 0 = true := by decide +kernel
set_option maxRecDepth 1000000 in
theorem xr_1 : xr 1 = true := by decide +kernel
set_option maxRecDepth 1000000 in
theorem xr_2 : xr 2 = true := by decide +kernel
set_option maxRecDepth 1000000 in
theorem xr_3 : xr 3 = true := by decide +kernel
set_option maxRecDepth 1000000 in
theorem xr_4 : xr 4 = true := by decide +kernel
set_option maxRecDepth 1000000 in
theorem xr_5 : xr 5 = true := by decide +kernel
set_option maxRecDepth 1000000 in
theorem xr_6 : xr 6 = true := by decide +kernel
set_option maxRecDepth 1000000 in
theorem xr_7 : xr 7 = true := by decide +kernel
set_option maxRecDepth 1000000 in
theorem xr_8 : xr 8 = true := by decide +kernel
set_option maxRecDepth 1000000 in
theorem xr_9 : xr 9 = true := by decide +kernel
set_option maxRecDepth 1000000 in
theorem xr_10 : xr 10 = true := by decide +kernel
set_option maxRecDepth 1000000 in
theorem xr_11 : xr 11 = true := by decide +kernel
set_option maxRecDepth 1000000 in
theorem xr_12 : xr 12 = true := by decide +kernel
set_option maxRecDepth 1000000 in
theorem xr_13 : xr 13 = true := by decide +kernel
set_option maxRecDepth 1000000 in
theorem xr_14 : xr 14 = true := by decide +kernel
set_option maxRecDepth 1000000 in
theorem xr_15 : xr 15 = true := by decide +kernel
set_option maxRecDepth 1000000 in
theorem xr_16 : xr 16 = true := by decide +kernel
