-- deps: 12.field
/-! Field: the rest -/
/-- a place goes -/
def xrm (i : Nat) (v : Nat → Int) : Nat → Int := fun j => if j < i then v j else v (j + 1)
/-- two places change -/
def xex (i j : Nat) (v : Nat → Int) : Nat → Int := fun t => if t = j then v i else if t = i then v j else v t
/-- how many numbers of the first n are others -/
def xun (F G : xF) : Nat → Nat
  | 0 => 0
  | n + 1 => xun F G n + (if F.2.1 n = G.2.1 n then 0 else 1) + (if F.2.2 n = G.2.2 n then 0 else 1)
theorem xun_le (F G : xF) : ∀ n, xun F G n ≤ 2 * n := by
  intro n
  induction n with
  | zero => simp [xun]
  | succ n ih =>
    simp only [xun]
    split <;> split <;> omega
section FM
variable {P : Nat → Nat} {a b k : Nat} {f g f2 g2 : Nat → Int32} {F G : xF}
theorem xFs.put {S : xS} (h : xFs S a k f g) (v : Int32) : xpf S a 0 2 0 (.int v) = some (xpt S a (.inl (0, [.ref (a + 1), .ref (a + 2), .int v]))) := (xpf_at h.2.1 (show 2 < 3 by decide) rfl).trans rfl
theorem d_setSpeed {S : xS} (h : xFd S a F) {r : Nat} (hr : r < F.1) {v : Int} (v1 : 0 ≤ v) (v2 : v ≤ 40) : ∃ S1, xcV P m_X0_setSpeed [.ref a, .int (iI r), .int (iI v)] S = some S1 ∧ xFd S1 a (F.1, va_up F.2.1 r v, F.2.2) ∧ xfr S S1 (x3 a) := by
  obtain ⟨hF, f, g, e1, e2⟩ := h
  refine ⟨_, c_X0_setSpeed e1 hr (iI v), ⟨⟨hF.1, fun i hi => ?_⟩, _, g, e1.v _, fun i hi => ?_⟩, xfr.pt ⟨by omega, by omega⟩⟩
  · have := hF.2 i hi
    dsimp only
    rw [va_up_at]
    split <;> omega
  · have := e2 i hi
    dsimp only
    rw [va_up_at, va_up_at]
    split
    · exact ⟨rfl, this.2⟩
    · exact this
theorem d_setStart {S : xS} (h : xFd S a F) {r : Nat} (hr : r < F.1) {v : Int} (v1 : 0 ≤ v) (v2 : v < 12) : ∃ S1, xcV P m_X0_setStart [.ref a, .int (iI r), .int (iI v)] S = some S1 ∧ xFd S1 a (F.1, F.2.1, va_up F.2.2 r v) ∧ xfr S S1 (x3 a) := by
  obtain ⟨hF, f, g, e1, e2⟩ := h
  refine ⟨_, c_X0_setStart e1 hr (iI v), ⟨⟨hF.1, fun i hi => ?_⟩, f, _, e1.s _, fun i hi => ?_⟩, xfr.pt ⟨by omega, by omega⟩⟩
  · have := hF.2 i hi
    dsimp only
    rw [va_up_at]
    split <;> omega
  · have := e2 i hi
    dsimp only
    rw [va_up_at, va_up_at]
    split
    · exact ⟨this.1, rfl⟩
    · exact this
theorem d_add {S : xS} (h : xFd S a F) (hk : F.1 < 6) {v s : Int} (v1 : 0 ≤ v) (v2 : v ≤ 40) (s1 : 0 ≤ s) (s2 : s < 12) : ∃ S1, xcV P m_X0_add [.ref a, .int (iI v), .int (iI s)] S = some S1 ∧ xFd S1 a (F.1 + 1, va_up F.2.1 F.1 v, va_up F.2.2 F.1 s) ∧ xfr S S1 (x3 a) := by
  obtain ⟨hF, f, g, e1, e2⟩ := h
  have hfull := c_X0_isFull (P := P) e1
  rw [if_pos hk] at hfull
  have z := e1.z (k' := F.1 + 1) (by omega)
  have hs := c_X0_setSpeed (P := P) z (r := F.1) (by omega) (iI v)
  have z2 := z.v (va_up f F.1 (iI v))
  have ht := c_X0_setStart (P := P) z2 (r := F.1) (by omega) (iI s)
  have z3 := z2.s (va_up g F.1 (iI s))
  refine ⟨_, xcV_of ((e_X0_add_0 P a (iI v) (iI s) S).trans ?_), ⟨⟨by show F.1 + 1 ≤ 6; omega, fun i hi => ?_⟩, _, _, z3, fun i hi => ?_⟩, ?_⟩
  · rw [e1.o, cond_true, hfull, xob_some]
    dsimp only
    rw [if_neg (by decide), xfI_at e1.2.1 rfl, xob_some, e1.put, xob_some, iI_suc, xfI_at z.2.1 rfl, xob_some, z.o, cond_true, iI_pre, hs, xob_some, xfI_at z2.2.1 rfl, xob_some, z2.o, cond_true, iI_pre, ht, xob_some]
  · dsimp only at hi ⊢
    rw [va_up_at, va_up_at]
    by_cases c : i = F.1
    · rw [if_pos c, if_pos c]; omega
    · rw [if_neg c, if_neg c]; exact hF.2 i (by omega)
  · dsimp only at hi ⊢
    rw [va_up_at, va_up_at, va_up_at, va_up_at]
    by_cases c : i = F.1
    · rw [if_pos c, if_pos c, if_pos c, if_pos c]; exact ⟨rfl, rfl⟩
    · rw [if_neg c, if_neg c, if_neg c, if_neg c]; exact e2 i (by omega)
  · exact ((xfr.pt ⟨by omega, by omega⟩).tr (xfr.pt ⟨by omega, by omega⟩)).tr (xfr.pt ⟨by omega, by omega⟩)
theorem l_X0_remove {i : Nat} : ∀ (d r : Nat) (S : xS) (f1 g1 : Nat → Int32), r + d + 1 = k → i ≤ r → xFs S a k f1 g1 → (∀ j, j < k → f1 j = (if j < i then f j else if j < r then f (j + 1) else f j) ∧ g1 j = (if j < i then g j else if j < r then g (j + 1) else g j)) →
    ∃ (S1 : xS) (f2 g2 : Nat → Int32), xrun P m_X0_remove 10 [(0, .ref a), (2, .int (iI r))] [] S = some (none, S1) ∧ xFs S1 a (k - 1) f2 g2 ∧ (∀ j, j + 1 < k → f2 j = (if j < i then f j else f (j + 1)) ∧ g2 j = (if j < i then g j else g (j + 1))) ∧ xfr S S1 (x3 a) := by
  intro d
  induction d with
  | zero =>
    intro r S f1 g1 hr hir h1 h2
    have hk := h1.1
    have z := h1.z (k' := k - 1) (by omega)
    refine ⟨_, f1, g1, ?_, z, fun j hj => ?_, xfr.pt ⟨by omega, by omega⟩⟩
    · rw [e_X0_remove_10, xfI_at h1.2.1 rfl, xob_some, iI_suc]
      simp (disch := omega) only [iI_le]
      rw [if_pos (by omega), xob_some, h1.put, xob_some, iI_sub, show ((k : Int) - 1) = ((k - 1 : Nat) : Int) by omega]
    · have := h2 j (by omega)
      by_cases c : j < i
      · rw [if_pos c, if_pos c] at this ⊢; simpa [c] using this
      · simpa [c, show j < r by omega] using this
  | succ d ih =>
    intro r S f1 g1 hr hir h1 h2
    have hk := h1.1
    have hw := h1.v (va_up f1 r (f1 (r + 1)))
    have hw2 := hw.s (va_up g1 r (g1 (r + 1)))
    have fr1 : xfr S (xpt S (a + 1) (.inr (0, (6, .inl (va_up f1 r (f1 (r + 1))))))) (x3 a) := xfr.pt ⟨by omega, by omega⟩
    have fr2 : xfr (xpt S (a + 1) (.inr (0, (6, .inl (va_up f1 r (f1 (r + 1))))))) (xpt (xpt S (a + 1) (.inr (0, (6, .inl (va_up f1 r (f1 (r + 1))))))) (a + 2) (.inr (0, (6, .inl (va_up g1 r (g1 (r + 1))))))) (x3 a) := xfr.pt ⟨by omega, by omega⟩
    obtain ⟨S1, f2, g2, q1, q2, q3, q4⟩ := ih (r + 1) _ _ _ (by omega) (by omega) hw2 (fun j hj => by
      have hj' := h2 j hj
      have hr' := h2 (r + 1) (by omega)
      rw [va_up_at, va_up_at]
      by_cases c : j = r
      · subst c
        rw [if_pos rfl, if_pos rfl]
        rw [if_neg (by omega), if_neg (by omega), if_neg (by omega), if_neg (by omega)] at hr'
        rw [if_neg (by omega), if_pos (by omega), if_neg (by omega), if_pos (by omega)]
        exact hr'
      · rw [if_neg c, if_neg c]
        by_cases c1 : j < i
        · simpa [c1] using hj'
        · by_cases c2 : j < r
          · simpa [c1, c2, show j < r + 1 by omega] using hj'
          · simpa [c1, c2, show ¬ j < r + 1 by omega] using hj')
    refine ⟨S1, f2, g2, ?_, q2, q3, (fr1.tr fr2).tr q4⟩
    rw [e_X0_remove_10, xfI_at h1.2.1 rfl, xob_some, iI_suc]
    simp (disch := omega) only [iI_le]
    rw [if_neg (by omega), h1.o, cond_true, c_X0_speedAt h1 (by omega), xob_some]
    dsimp only
    rw [h1.o, cond_true, c_X0_setSpeed h1 (by omega), xob_some, hw.o, cond_true, c_X0_startAt hw (by omega), xob_some]
    dsimp only
    rw [hw.o, cond_true, c_X0_setStart hw (by omega), xob_some]
    exact q1
theorem d_remove {S : xS} (h : xFd S a F) {i : Nat} (hi : i < F.1) : ∃ S1, xcV P m_X0_remove [.ref a, .int (iI i)] S = some S1 ∧ xFd S1 a (F.1 - 1, xrm i F.2.1, xrm i F.2.2) ∧ xfr S S1 (x3 a) := by
  have hh := d_has (P := P) h (i := i) (by omega) (by have := h.1.1; omega)
  have ho := h.o
  obtain ⟨hF, f, g, e1, e2⟩ := h
  obtain ⟨S1, f2, g2, q1, q2, q3, q4⟩ := l_X0_remove (P := P) (i := i) (f := f) (g := g) (F.1 - 1 - i) i S f g (by omega) (by omega) e1 (fun j hj => by
    by_cases c : j < i
    · simp [c]
    · simp [c])
  have hF1 := hF.1
  refine ⟨S1, xcV_of ((e_X0_remove_0 P a (iI i) S).trans ?_), ⟨⟨by show F.1 - 1 ≤ 6; omega, fun j hj => ?_⟩, f2, g2, q2, fun j hj => ?_⟩, q4⟩
  · rw [if_pos (by omega)] at hh
    rw [ho, cond_true, hh, xob_some]
    dsimp only
    rw [if_neg (by decide)]
    exact q1
  · dsimp only [xrm] at hj ⊢
    split
    · exact hF.2 j (by omega)
    · exact hF.2 (j + 1) (by omega)
  · dsimp only [xrm] at hj ⊢
    have := q3 j (by omega)
    by_cases c : j < i
    · simp only [c, if_true] at this ⊢
      exact ⟨this.1.trans (e2 j (by omega)).1, this.2.trans (e2 j (by omega)).2⟩
    · simp only [c, if_false] at this ⊢
      exact ⟨this.1.trans (e2 (j + 1) (by omega)).1, this.2.trans (e2 (j + 1) (by omega)).2⟩
theorem d_exchange {S : xS} (h : xFd S a F) {i j : Nat} (hi : i < F.1) (hj : j < F.1) (hij : i ≠ j) : ∃ S1, xcV P m_X0_exchange [.ref a, .int (iI i), .int (iI j)] S = some S1 ∧ xFd S1 a (F.1, xex i j F.2.1, xex i j F.2.2) ∧ xfr S S1 (x3 a) := by
  obtain ⟨hF, f, g, e1, e2⟩ := h
  have z1 := e1.v (va_up f i (f j))
  have z2 := z1.s (va_up g i (g j))
  have z3 := z2.v (va_up (va_up f i (f j)) j (f i))
  have z4 := z3.s (va_up (va_up g i (g j)) j (g i))
  refine ⟨_, xcV_of ((e_X0_exchange_0 P a (iI i) (iI j) S).trans ?_), ⟨⟨hF.1, fun t ht => ?_⟩, _, _, z4, fun t ht => ?_⟩, ((xfr.pt ⟨by omega, by omega⟩).tr (xfr.pt ⟨by omega, by omega⟩)).tr ((xfr.pt ⟨by omega, by omega⟩).tr (xfr.pt ⟨by omega, by omega⟩))⟩
  · rw [e1.o, cond_true, c_X0_speedAt e1 hi, xob_some]
    dsimp only
    rw [e1.o, cond_true, c_X0_startAt e1 hi, xob_some]
    dsimp only
    rw [e1.o, cond_true, c_X0_speedAt e1 hj, xob_some]
    dsimp only
    rw [e1.o, cond_true, c_X0_setSpeed e1 hi, xob_some, z1.o, cond_true, c_X0_startAt z1 hj, xob_some]
    dsimp only
    rw [z1.o, cond_true, c_X0_setStart z1 hi, xob_some, z2.o, cond_true, c_X0_setSpeed z2 hj, xob_some, z3.o, cond_true, c_X0_setStart z3 hj, xob_some]
  · dsimp only [xex] at ht ⊢
    have h1 := hF.2 i hi
    have h2 := hF.2 j hj
    have h3 := hF.2 t ht
    split
    · exact h1
    · split
      · exact h2
      · exact h3
  · dsimp only [xex] at ht ⊢
    rw [va_up_at, va_up_at, va_up_at, va_up_at]
    by_cases c : t = j
    · simp only [c, if_true]; exact e2 i hi
    · by_cases c1 : t = i
      · simp only [c, c1, if_false, if_true]
        rw [if_neg hij, if_neg hij]
        simp only [if_neg hij, if_true]
        exact e2 j hj
      · simp only [c, c1, if_false]; exact e2 t ht
theorem l_X0_unlike {S : xS} (h : xFd S a F) (h2 : xFd S b G) (hk : F.1 = G.1) : ∀ (d r : Nat), r + d = F.1 → xrun P m_X0_unlikeNumbers 4 [(0, .ref a), (1, .ref b), (2, .int (iI (xun F G r))), (3, .int (iI r))] [] S = some (some (.int (iI (xun F G F.1))), S) := by
  have hk6 := h.1.1
  have hb := h.1.2
  have hb2 := h2.1.2
  intro d
  induction d with
  | zero =>
    intro r hr
    rw [e_X0_unlikeNumbers_4, d_k h, xob_some]
    simp (disch := omega) only [iI_le]
    rw [if_pos (by omega), show r = F.1 by omega]
  | succ d ih =>
    intro r hr
    have b1 := hb r (by omega)
    have b2 := hb2 r (by omega)
    have g := ih (r + 1) (by omega)
    simp only [xun] at g
    rw [e_X0_unlikeNumbers_4, d_k h, xob_some]
    simp (disch := omega) only [iI_le]
    rw [if_neg (by omega)]
    simp only [h.o, h2.o, cond_true, d_speedAt (P := P) h (show r < F.1 by omega), d_speedAt (P := P) h2 (show r < G.1 by omega), d_startAt (P := P) h (show r < F.1 by omega), d_startAt (P := P) h2 (show r < G.1 by omega), xob_some, iI_suc, iI_add]
    simp (disch := omega) only [iI_eq]
    by_cases c1 : F.2.1 r = G.2.1 r
    · by_cases c2 : F.2.2 r = G.2.2 r
      · rw [if_pos c1, if_pos c2]
        rw [if_pos c1, if_pos c2] at g
        exact g
      · rw [if_pos c1, if_neg c2]
        rw [if_pos c1, if_neg c2] at g
        exact g
    · by_cases c2 : F.2.2 r = G.2.2 r
      · rw [if_neg c1, if_pos c2]
        rw [if_neg c1, if_pos c2] at g
        exact g
      · rw [if_neg c1, if_neg c2]
        rw [if_neg c1, if_neg c2] at g
        exact g
theorem d_unlike {S : xS} (h : xFd S a F) (h2 : xFd S b G) (hk : F.1 = G.1) : xcI P m_X0_unlikeNumbers [.ref a, .ref b] S = some (iI (xun F G F.1), S) :=
  xcI_of ((e_X0_unlikeNumbers_0 P a b S).trans (l_X0_unlike h h2 hk F.1 0 (by omega)))
end FM
