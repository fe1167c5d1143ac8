-- deps: 71.mwrite
/-! spell, tells, report -/
section TX
variable {P : Nat → Nat} {S S0 T : xS} {x m : Nat} {A : xAb} {ob ob0 : Nat → Value} {F : xF} {ts : List Int32}
/-- all runners, told -/
noncomputable def xspl (F : xF) : Nat → List Int32
  | 0 => []
  | n + 1 => xspl F n ++ ([114, 117, 110, 32].map iI ++ (xnu (F.2.1 n) ++ (if F.2.2 n = 0 then [59].map iI else [32, 102, 114, 111, 109, 32].map iI ++ (xnu (F.2.2 n) ++ [59].map iI))))
theorem xspl_len {F : xF} (h : xFok F) : ∀ n, n ≤ F.1 → (xspl F n).length ≤ 40 * n := by
  intro n
  induction n with
  | zero => intro _; exact Nat.le_refl 0
  | succ n ih =>
    intro hn
    have b := h.2 n (by omega)
    have l1 := xnu_len b.1 (show F.2.1 n < 100000000000 by omega)
    have l2 := xnu_len b.2.2.1 (show F.2.2 n < 100000000000 by omega)
    have := ih (by omega)
    simp only [xspl]
    split
    · simp only [List.length_append, List.length_map, List.length_cons, List.length_nil]
      omega
    · simp only [List.length_append, List.length_map, List.length_cons, List.length_nil]
      omega
end TX
