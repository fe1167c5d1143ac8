-- deps: 10a.jdk 09a.eqs
/-! Field: so many runners, their speeds, their starts -/
abbrev xF : Type := Nat × (Nat → Int) × (Nat → Int)
/-- all are what they may be -/
def xFok (F : xF) : Prop := F.1 ≤ 6 ∧ ∀ i, i < F.1 → 0 ≤ F.2.1 i ∧ F.2.1 i ≤ 40 ∧ 0 ≤ F.2.2 i ∧ F.2.2 i < 12
/-- the object and its two rows, as they lie there -/
def xFs (S : xS) (a k : Nat) (f g : Nat → Int32) : Prop := k ≤ 6 ∧ S.1 a = some (.inl (0, [.ref (a + 1), .ref (a + 2), .int (iI k)])) ∧ S.1 (a + 1) = some (.inr (0, (6, .inl f))) ∧ S.1 (a + 2) = some (.inr (0, (6, .inl g)))
def xFd (S : xS) (a : Nat) (F : xF) : Prop := xFok F ∧ ∃ f g : Nat → Int32, xFs S a F.1 f g ∧ ∀ i, i < F.1 → f i = iI (F.2.1 i) ∧ g i = iI (F.2.2 i)
/-- what lies elsewhere stays -/
def xfr (S S1 : xS) (A : Nat → Prop) : Prop := S1.2 = S.2 ∧ ∀ b, ¬ A b → S1.1 b = S.1 b
theorem xfr.rf {S : xS} {A : Nat → Prop} : xfr S S A := ⟨rfl, fun _ _ => rfl⟩
theorem xfr.tr {S S1 S2 : xS} {A : Nat → Prop} (h : xfr S S1 A) (h2 : xfr S1 S2 A) : xfr S S2 A := ⟨h2.1.trans h.1, fun b hb => (h2.2 b hb).trans (h.2 b hb)⟩
theorem xfr.mono {S S1 : xS} {A B : Nat → Prop} (h : xfr S S1 A) (hAB : ∀ b, A b → B b) : xfr S S1 B := ⟨h.1, fun b hb => h.2 b (fun q => hb (hAB b q))⟩
theorem xfr.pt {S : xS} {a : Nat} {e : xC} {A : Nat → Prop} (ha : A a) : xfr S (xpt S a e) A := ⟨rfl, fun b hb => by rw [xpt_1, if_neg (fun q => hb (by rw [q]; exact ha))]⟩
/-- the three cells from a on -/
def x3 (a : Nat) : Nat → Prop := fun b => a ≤ b ∧ b ≤ a + 2
theorem xFs.fr {S S1 : xS} {a k : Nat} {f g : Nat → Int32} {A : Nat → Prop} (h : xFs S a k f g) (hf : xfr S S1 A) (h0 : ∀ b, x3 a b → ¬ A b) : xFs S1 a k f g := by
  obtain ⟨hk, e1, e2, e3⟩ := h
  exact ⟨hk, (hf.2 _ (h0 _ ⟨by omega, by omega⟩)).trans e1, (hf.2 _ (h0 _ ⟨by omega, by omega⟩)).trans e2, (hf.2 _ (h0 _ ⟨by omega, by omega⟩)).trans e3⟩
theorem xFd.fr {S S1 : xS} {a : Nat} {F : xF} {A : Nat → Prop} (h : xFd S a F) (hf : xfr S S1 A) (h0 : ∀ b, x3 a b → ¬ A b) : xFd S1 a F := by
  obtain ⟨hk, f, g, e1, e4⟩ := h
  exact ⟨hk, f, g, e1.fr hf h0, e4⟩
section FD
variable {P : Nat → Nat} {S : xS} {a k : Nat} {f g : Nat → Int32} {F : xF}
theorem xFs.o (h : xFs S a k f g) : xisO S a 0 = true := xisO_at h.2.1
theorem xFd.o (h : xFd S a F) : xisO S a 0 = true := by
  obtain ⟨hk, f, g, e, e4⟩ := h
  exact e.o
theorem xFs.v (h : xFs S a k f g) (f' : Nat → Int32) : xFs (xpt S (a + 1) (.inr (0, (6, .inl f')))) a k f' g := by
  obtain ⟨hk, e1, e2, e3⟩ := h
  refine ⟨hk, ?_, ?_, ?_⟩
  · rw [xpt_1, if_neg (by omega)]; exact e1
  · rw [xpt_1, if_pos rfl]
  · rw [xpt_1, if_neg (by omega)]; exact e3
theorem xFs.s (h : xFs S a k f g) (g' : Nat → Int32) : xFs (xpt S (a + 2) (.inr (0, (6, .inl g')))) a k f g' := by
  obtain ⟨hk, e1, e2, e3⟩ := h
  refine ⟨hk, ?_, ?_, ?_⟩
  · rw [xpt_1, if_neg (by omega)]; exact e1
  · rw [xpt_1, if_neg (by omega)]; exact e2
  · rw [xpt_1, if_pos rfl]
theorem xFs.z (h : xFs S a k f g) {k' : Nat} (hk' : k' ≤ 6) : xFs (xpt S a (.inl (0, [.ref (a + 1), .ref (a + 2), .int (iI k')]))) a k' f g := by
  obtain ⟨hk, e1, e2, e3⟩ := h
  refine ⟨hk', ?_, ?_, ?_⟩
  · rw [xpt_1, if_pos rfl]
  · rw [xpt_1, if_neg (by omega)]; exact e2
  · rw [xpt_1, if_neg (by omega)]; exact e3
theorem c_X0_size (h : xFs S a k f g) : xcI P m_X0_size [.ref a] S = some (iI k, S) := by
  obtain ⟨hk, e1, e2, e3⟩ := h
  refine xcI_of ((e_X0_size_0 P a S).trans ?_)
  rw [xfI_at e1 rfl, xob_some]
theorem c_X0_isFull (h : xFs S a k f g) : xcI P m_X0_isFull [.ref a] S = some (iI (if k < 6 then 0 else 1), S) := by
  obtain ⟨hk, e1, e2, e3⟩ := h
  refine xcI_of ((e_X0_isFull_0 P a S).trans ?_)
  simp (disch := omega) only [xfI_at (k := 2) e1 rfl, xob_some, iI_lt]
  by_cases c : k < 6
  · rw [if_pos (by omega), if_pos c]
  · rw [if_neg (by omega), if_neg c]
theorem c_X0_has (h : xFs S a k f g) {i : Int} (i1 : -2147483648 ≤ i) (i2 : i < 2147483648) : xcI P m_X0_has [.ref a, .int (iI i)] S = some (iI (if 0 ≤ i ∧ i < k then 1 else 0), S) := by
  obtain ⟨hk, e1, e2, e3⟩ := h
  refine xcI_of ((e_X0_has_0 P a (iI i) S).trans ?_)
  simp (disch := omega) only [xfI_at (k := 2) e1 rfl, xob_some, iI_0, iI_lt, iI_le]
  by_cases c : 0 ≤ i ∧ i < k
  · rw [if_neg (by omega), if_neg (by omega), if_neg (by omega), if_pos c]
  · rw [if_neg c]
    by_cases c1 : i < 0
    · rw [if_pos c1]
    · rw [if_neg c1, if_pos (by omega)]
theorem c_X0_speedAt (h : xFs S a k f g) {r : Nat} (hr : r < k) : xcI P m_X0_speedAt [.ref a, .int (iI r)] S = some (f r, S) := by
  obtain ⟨hk, e1, e2, e3⟩ := h
  refine xcI_of ((e_X0_speedAt_0 P a (iI r) S).trans ?_)
  simp (disch := omega) only [xfI_at (k := 2) e1 rfl, xfR_at (k := 0) e1 rfl, xob_some, iI_0, iI_lt, iI_le, xrdI_at e2]
  rw [if_neg (by omega), if_neg (by omega), if_neg (by omega), Int.toNat_natCast]
theorem c_X0_startAt (h : xFs S a k f g) {r : Nat} (hr : r < k) : xcI P m_X0_startAt [.ref a, .int (iI r)] S = some (g r, S) := by
  obtain ⟨hk, e1, e2, e3⟩ := h
  refine xcI_of ((e_X0_startAt_0 P a (iI r) S).trans ?_)
  simp (disch := omega) only [xfI_at (k := 2) e1 rfl, xfR_at (k := 1) e1 rfl, xob_some, iI_0, iI_lt, iI_le, xrdI_at e3]
  rw [if_neg (by omega), if_neg (by omega), if_neg (by omega), Int.toNat_natCast]
theorem c_X0_setSpeed (h : xFs S a k f g) {r : Nat} (hr : r < k) (v : Int32) : xcV P m_X0_setSpeed [.ref a, .int (iI r), .int v] S = some (xpt S (a + 1) (.inr (0, (6, .inl (va_up f r v))))) := by
  have hh := c_X0_has (P := P) h (i := r) (by omega) (by have := h.1; omega)
  have ho := h.o
  obtain ⟨hk, e1, e2, e3⟩ := h
  refine xcV_of ((e_X0_setSpeed_0 P a (iI r) v S).trans ?_)
  rw [if_pos (by omega)] at hh
  rw [ho, cond_true, hh, xob_some]
  dsimp only
  rw [if_neg (by decide), xfR_at (k := 0) e1 rfl, xob_some, xwrI_at e2 (by omega) (by omega) (by decide), xob_some, Int.toNat_natCast]
theorem c_X0_setStart (h : xFs S a k f g) {r : Nat} (hr : r < k) (v : Int32) : xcV P m_X0_setStart [.ref a, .int (iI r), .int v] S = some (xpt S (a + 2) (.inr (0, (6, .inl (va_up g r v))))) := by
  have hh := c_X0_has (P := P) h (i := r) (by omega) (by have := h.1; omega)
  have ho := h.o
  obtain ⟨hk, e1, e2, e3⟩ := h
  refine xcV_of ((e_X0_setStart_0 P a (iI r) v S).trans ?_)
  rw [if_pos (by omega)] at hh
  rw [ho, cond_true, hh, xob_some]
  dsimp only
  rw [if_neg (by decide), xfR_at (k := 1) e1 rfl, xob_some, xwrI_at e3 (by omega) (by omega) (by decide), xob_some, Int.toNat_natCast]
theorem c_X0_clear (h : xFs S a k f g) : xcV P m_X0_clear [.ref a] S = some (xpt S a (.inl (0, [.ref (a + 1), .ref (a + 2), .int (iI 0)]))) := by
  obtain ⟨hk, e1, e2, e3⟩ := h
  refine xcV_of ((e_X0_clear_0 P a S).trans ?_)
  rw [xpf_at e1 (show 2 < 3 by decide) rfl, xob_some]
  rfl
theorem c_X0_hasBoth (h : xFs S a k f g) {i j : Int} (i1 : -2147483648 ≤ i) (i2 : i < 2147483648) (j1 : -2147483648 ≤ j) (j2 : j < 2147483648) : xcI P m_X0_hasBoth [.ref a, .int (iI i), .int (iI j)] S = some (iI (if 0 ≤ i ∧ i < k ∧ 0 ≤ j ∧ j < k ∧ i ≠ j then 1 else 0), S) := by
  have h1 := c_X0_has (P := P) h i1 i2
  have h2 := c_X0_has (P := P) h j1 j2
  have ho := h.o
  refine xcI_of ((e_X0_hasBoth_0 P a (iI i) (iI j) S).trans ?_)
  simp only [ho, cond_true, h1, h2, xob_some, iI_eq i1 i2 j1 j2]
  by_cases c1 : 0 ≤ i ∧ i < k
  · rw [if_pos c1, if_neg (by decide)]
    by_cases c2 : 0 ≤ j ∧ j < k
    · rw [if_pos c2, if_neg (by decide)]
      by_cases c3 : i = j
      · rw [if_pos c3, if_neg (by omega)]
      · rw [if_neg c3, if_pos (by omega)]
    · rw [if_neg c2, if_pos (by decide), if_neg (by omega)]
  · rw [if_neg c1, if_pos (by decide), if_neg (by omega)]
end FD
