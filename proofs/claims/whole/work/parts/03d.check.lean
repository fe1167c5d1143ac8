theorem xmok_all : ∀ m, m < xM - 1 → xmok m = true := sorry
theorem xiok_all (m pc : Nat) : xiok m pc = true := sorry
