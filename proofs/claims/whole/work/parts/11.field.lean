/-! Field: so many runners, their speeds, their starts -/
abbrev xF : Type := Nat × (Nat → Int) × (Nat → Int)
/-- all are what they may be -/
def xFok (F : xF) : Prop := F.1 ≤ 6 ∧ ∀ i, i < F.1 → 0 ≤ F.2.1 i ∧ F.2.1 i ≤ 40 ∧ 0 ≤ F.2.2 i ∧ F.2.2 i < 12
def xFd (S : xS) (a : Nat) (F : xF) : Prop := xFok F ∧ ∃ f g : Nat → Int32, S.1 a = some (.inl (0, [.ref (a + 1), .ref (a + 2), .int (iI F.1)])) ∧ S.1 (a + 1) = some (.inr (0, (6, .inl f))) ∧ S.1 (a + 2) = some (.inr (0, (6, .inl g))) ∧ ∀ i, i < F.1 → f i = iI (F.2.1 i) ∧ g i = iI (F.2.2 i)
/-- what lies elsewhere stays -/
def xfr (S S1 : xS) (A : Nat → Prop) : Prop := S1.2 = S.2 ∧ ∀ b, ¬ A b → S1.1 b = S.1 b
theorem xfr.rf {S : xS} {A : Nat → Prop} : xfr S S A := ⟨rfl, fun _ _ => rfl⟩
theorem xfr.tr {S S1 S2 : xS} {A : Nat → Prop} (h : xfr S S1 A) (h2 : xfr S1 S2 A) : xfr S S2 A := ⟨h2.1.trans h.1, fun b hb => (h2.2 b hb).trans (h.2 b hb)⟩
theorem xfr.mono {S S1 : xS} {A B : Nat → Prop} (h : xfr S S1 A) (hAB : ∀ b, A b → B b) : xfr S S1 B := ⟨h.1, fun b hb => h.2 b (fun q => hb (hAB b q))⟩
theorem xfr.pt {S : xS} {a : Nat} {e : xC} {A : Nat → Prop} (ha : A a) : xfr S (xpt S a e) A := ⟨rfl, fun b hb => by rw [xpt_1, if_neg (fun q => hb (by rw [q]; exact ha))]⟩
theorem xFd.fr {S S1 : xS} {a : Nat} {F : xF} {A : Nat → Prop} (h : xFd S a F) (hf : xfr S S1 A) (h0 : ¬ A a) (h1 : ¬ A (a + 1)) (h2 : ¬ A (a + 2)) : xFd S1 a F := by
  obtain ⟨hk, f, g, e1, e2, e3, e4⟩ := h
  exact ⟨hk, f, g, (hf.2 _ h0).trans e1, (hf.2 _ h1).trans e2, (hf.2 _ h2).trans e3, e4⟩
section FD
variable {P : Nat → Nat} {S : xS} {a : Nat} {F : xF}
theorem xFd.k (h : xFd S a F) : F.1 ≤ 6 := h.1.1
theorem xFd.o (h : xFd S a F) : xisO S a 0 = true := by
  obtain ⟨hk, f, g, e1, e2, e3, e4⟩ := h
  exact xisO_at e1
theorem c_X0_size (h : xFd S a F) : xcI P m_X0_size [.ref a] S = some (iI F.1, S) := by
  obtain ⟨hk, f, g, e1, e2, e3, e4⟩ := h
  refine xcI_of ((e_X0_size_0 P a S).trans ?_)
  rw [xfI_at e1 rfl, xob_some]
theorem c_X0_isFull (h : xFd S a F) : xcI P m_X0_isFull [.ref a] S = some (iI (if F.1 < 6 then 0 else 1), S) := by
  have h6 := h.k
  obtain ⟨hk, f, g, e1, e2, e3, e4⟩ := h
  refine xcI_of ((e_X0_isFull_0 P a S).trans (S1 := S) ?_)
  simp (disch := omega) only [xfI_at (k := 2) e1 rfl, xob_some, iI_lt]
  by_cases c : F.1 < 6
  · rw [if_pos (by omega), if_pos c]
  · rw [if_neg (by omega), if_neg c]
theorem c_X0_has (h : xFd S a F) {i : Int} (i1 : -2147483648 ≤ i) (i2 : i < 2147483648) : xcI P m_X0_has [.ref a, .int (iI i)] S = some (iI (if 0 ≤ i ∧ i < F.1 then 1 else 0), S) := by
  have h6 := h.k
  obtain ⟨hk, f, g, e1, e2, e3, e4⟩ := h
  refine xcI_of ((e_X0_has_0 P a (iI i) S).trans ?_)
  simp (disch := omega) only [xfI_at (k := 2) e1 rfl, xob_some, iI_0, iI_lt, iI_le]
  by_cases c : 0 ≤ i ∧ i < F.1
  · rw [if_neg (by omega), if_neg (by omega), if_neg (by omega), if_pos c]
  · rw [if_neg c]
    by_cases c1 : i < 0
    · rw [if_pos c1]
    · rw [if_neg c1, if_pos (by omega)]
theorem c_X0_speedAt (h : xFd S a F) {r : Nat} (hr : r < F.1) : xcI P m_X0_speedAt [.ref a, .int (iI r)] S = some (iI (F.2.1 r), S) := by
  have h6 := h.k
  obtain ⟨hk, f, g, e1, e2, e3, e4⟩ := h
  refine xcI_of ((e_X0_speedAt_0 P a (iI r) S).trans ?_)
  simp (disch := omega) only [xfI_at (k := 2) e1 rfl, xfR_at (k := 0) e1 rfl, xob_some, iI_0, iI_lt, iI_le, xrdI_at e2]
  rw [if_neg (by omega), if_neg (by omega), if_neg (by omega), Int.toNat_natCast, (e4 r hr).1]
theorem c_X0_startAt (h : xFd S a F) {r : Nat} (hr : r < F.1) : xcI P m_X0_startAt [.ref a, .int (iI r)] S = some (iI (F.2.2 r), S) := by
  have h6 := h.k
  obtain ⟨hk, f, g, e1, e2, e3, e4⟩ := h
  refine xcI_of ((e_X0_startAt_0 P a (iI r) S).trans ?_)
  simp (disch := omega) only [xfI_at (k := 2) e1 rfl, xfR_at (k := 1) e1 rfl, xob_some, iI_0, iI_lt, iI_le, xrdI_at e3]
  rw [if_neg (by omega), if_neg (by omega), if_neg (by omega), Int.toNat_natCast, (e4 r hr).2]
end FD
