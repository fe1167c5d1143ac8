-- deps: 69.told
/-! what is still to be shown -/
section ST
variable {P : Nat → Nat} {S T : xS} {x m : Nat} {A : xAb} {ob ob0 : Nat → Value} {F : xF}
theorem z_text (H : xCl S x A) (ht : xTs P S) (hz : ∀ k, 1 ≤ k → k ≤ 9 → P k < x) : ∃ z A', xKI P S x m_X10_text [] z A' ∧ ∀ S', xMl S' m A → xGI P S' m m_X11_text [] z A' := sorry
theorem z_spell (H : xCl S x A) (ht : xTs P S) (hz : ∀ k, 1 ≤ k → k ≤ 9 → P k < x) {i : Int} (i1 : -2147483648 ≤ i) (i2 : i < 2147483648) : ∃ z A', xKI P S x m_X10_spell [.int (iI i)] z A' ∧ ∀ S', xMl S' m A → xGI P S' m m_X11_spell [.int (iI i)] z A' := sorry
theorem z_report (H : xCl S x A) (ht : xTs P S) (hz : ∀ k, 1 ≤ k → k ≤ 9 → P k < x) {i j : Int} (i1 : -2147483648 ≤ i) (i2 : i < 2147483648) (j1 : -2147483648 ≤ j) (j2 : j < 2147483648) : ∃ z A', xKI P S x m_X10_report [.int (iI i), .int (iI j)] z A' ∧ ∀ S', xMl S' m A → xGI P S' m m_X11_report [.int (iI i), .int (iI j)] z A' := sorry
theorem z_tells (H : xCl S x A) (ht : xTs P S) (hz : ∀ k, 1 ≤ k → k ≤ 9 → P k < x) {p q i : Int} (p1 : -2147483648 ≤ p) (p2 : p < 2147483648) (q1 : -2147483648 ≤ q) (q2 : q < 2147483648) (i1 : -2147483648 ≤ i) (i2 : i < 2147483648) : ∃ z A', xKI P S x m_X10_tells [.int (iI p), .int (iI q), .int (iI i)] z A' ∧ ∀ S', xMl S' m A → xGI P S' m m_X11_tells [.int (iI p), .int (iI q), .int (iI i)] z A' := sorry
theorem z_count (H : xCl S x A) {i : Int} (i1 : -2147483648 ≤ i) (i2 : i < 2147483648) : ∃ z A', xKI P S x m_X10_count [.int (iI i)] z A' ∧ ∀ S', xMl S' m A → xGI P S' m m_X11_count [.int (iI i)] z A' := sorry
end ST
