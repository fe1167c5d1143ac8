-- deps: 14.hist
/-! loops -/
theorem xsteps {β : Type} (run : Nat → β) (k : Nat) (h : ∀ r, r < k → run r = run (r + 1)) : run 0 = run k := by
  have key : ∀ n, n ≤ k → run 0 = run n := by
    intro n
    induction n with
    | zero => intro _; rfl
    | succ n ih => intro hn; exact (ih (by omega)).trans (h n (by omega))
  exact key k (Nat.le_refl k)
theorem xstepsF {β : Type} (run : Nat → β) (a k : Nat) (hak : a ≤ k) (h : ∀ r, a ≤ r → r < k → run r = run (r + 1)) : run a = run k := by
  have key : ∀ n, a + n ≤ k → run a = run (a + n) := by
    intro n
    induction n with
    | zero => intro _; rfl
    | succ n ih => intro hn; exact (ih (by omega)).trans (h (a + n) (by omega) (by omega))
  have := key (k - a) (by omega)
  rw [show a + (k - a) = k by omega] at this
  exact this
theorem xloopQ {α β : Type} {run : Nat → α → β} {Inv : Nat → α → Prop} (Q : β → Prop) (a k : Nat) (hak : a ≤ k) (hs : ∀ r s, a ≤ r → r < k → Inv r s → Q (run r s) ∨ ∃ s', run r s = run (r + 1) s' ∧ Inv (r + 1) s') (he : ∀ s, Inv k s → Q (run k s)) {s : α} (h0 : Inv a s) : Q (run a s) := by
  have key : ∀ n, n ≤ k - a → ∀ s, Inv (k - n) s → Q (run (k - n) s) := by
    intro n
    induction n with
    | zero => intro _ s h; exact he s h
    | succ n ih =>
      intro hn s h
      rcases hs (k - (n + 1)) s (by omega) (by omega) h with q | ⟨s', e, h'⟩
      · exact q
      · rw [e]
        rw [show k - (n + 1) + 1 = k - n by omega] at h' ⊢
        exact ih (by omega) s' h'
  have := key (k - a) (Nat.le_refl _) s
  rw [show k - (k - a) = a by omega] at this
  exact this h0
def xfo {α : Type} (f : Nat → α → α) (s : α) : Nat → α
  | 0 => s
  | n + 1 => f n (xfo f s n)
theorem xfo_inv {α : Type} {f : Nat → α → α} {s : α} (Inv : Nat → α → Prop) (h0 : Inv 0 s) : ∀ k, (∀ r t, r < k → Inv r t → Inv (r + 1) (f r t)) → Inv k (xfo f s k) := by
  intro k
  induction k with
  | zero => intro _; exact h0
  | succ k ih => intro h; exact h k _ (by omega) (ih (fun r t hr => h r t (by omega)))
theorem xfo_congr {α : Type} {f g : Nat → α → α} {s : α} : ∀ k, (∀ r t, r < k → f r t = g r t) → xfo f s k = xfo g s k := by
  intro k
  induction k with
  | zero => intro _; rfl
  | succ k ih => intro h; show f k (xfo f s k) = g k (xfo g s k); rw [ih (fun r t hr => h r t (by omega)), h k _ (by omega)]
theorem x_emod_neg {z W : Int} (h : -W ≤ z) (h2 : z < 0) : z % W = z + W := by
  rw [← Int.add_emod_right z W, Int.emod_eq_of_lt (by omega) (by omega)]
