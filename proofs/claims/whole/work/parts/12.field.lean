-- deps: 11.field
/-! Field: its loops -/
theorem iI_suc (r : Nat) : iI (r : Int) + iI 1 = iI ((r + 1 : Nat) : Int) := (iI_add r 1).trans rfl
theorem iI_pre (r : Nat) : iI ((r + 1 : Nat) : Int) - iI 1 = iI (r : Int) := by
  rw [iI_sub]
  congr 1
  omega
theorem va_up_at {α : Type} (f : Nat → α) (r : Nat) (v : α) (i : Nat) : va_up f r v i = if i = r then v else f i := rfl
/-- greatest, sum, how many unlike of the first n -/
def xmx (v : Nat → Int) : Nat → Int
  | 0 => 0
  | n + 1 => max (xmx v n) (v n)
def xsm (v : Nat → Int) : Nat → Int
  | 0 => 0
  | n + 1 => xsm v n + v n
theorem xmx_bd {v : Nat → Int} {M : Int} (hM : 0 ≤ M) : ∀ n, (∀ i, i < n → 0 ≤ v i ∧ v i ≤ M) → 0 ≤ xmx v n ∧ xmx v n ≤ M := by
  intro n
  induction n with
  | zero => intro _; exact ⟨by simp [xmx], by simpa [xmx] using hM⟩
  | succ n ih =>
    intro h
    have h1 := ih (fun i hi => h i (by omega))
    have h2 := h n (by omega)
    simp only [xmx]
    omega
theorem xsm_bd {v : Nat → Int} {M : Int} : ∀ n, (∀ i, i < n → 0 ≤ v i ∧ v i ≤ M) → 0 ≤ xsm v n ∧ xsm v n ≤ n * M := by
  intro n
  induction n with
  | zero => intro _; simp [xsm]
  | succ n ih =>
    intro h
    have h1 := ih (fun i hi => h i (by omega))
    have h2 := h n (by omega)
    have e : ((n + 1 : Nat) : Int) * M = n * M + M := by rw [Int.natCast_add, Int.add_mul]; simp
    simp only [xsm]
    rw [e]
    omega
section FL
variable {P : Nat → Nat} {a b k : Nat} {f g f2 g2 : Nat → Int32} {F : xF}
theorem l_X0_become (hab : a + 2 < b ∨ b + 2 < a) : ∀ (d r : Nat) (S : xS) (f g : Nat → Int32), r + d = k → xFs S a k f g → xFs S b k f2 g2 → (∀ i, i < r → f i = f2 i ∧ g i = g2 i) →
    ∃ (S1 : xS) (f1 g1 : Nat → Int32), xrun P m_X0_become 10 [(0, .ref a), (1, .ref b), (2, .int (iI r))] [] S = some (none, S1) ∧ xFs S1 a k f1 g1 ∧ (∀ i, i < k → f1 i = f2 i ∧ g1 i = g2 i) ∧ xfr S S1 (x3 a) := by
  intro d
  induction d with
  | zero =>
    intro r S f g hr h1 h2 h3
    have hk := h1.1
    refine ⟨S, f, g, ?_, h1, fun i hi => h3 i (by omega), xfr.rf⟩
    rw [e_X0_become_10, xfI_at h1.2.1 rfl, xob_some]
    simp (disch := omega) only [iI_le]
    rw [if_pos (by omega)]
  | succ d ih =>
    intro r S f g hr h1 h2 h3
    have hk := h1.1
    have hw := h1.v (va_up f r (f2 r))
    have fr1 : xfr S (xpt S (a + 1) (.inr (0, (6, .inl (va_up f r (f2 r)))))) (x3 a) := xfr.pt ⟨by omega, by omega⟩
    have h2' := h2.fr fr1 (fun c hc hx => by unfold x3 at hc hx; omega)
    have hw2 := hw.s (va_up g r (g2 r))
    have fr2 : xfr (xpt S (a + 1) (.inr (0, (6, .inl (va_up f r (f2 r)))))) (xpt (xpt S (a + 1) (.inr (0, (6, .inl (va_up f r (f2 r)))))) (a + 2) (.inr (0, (6, .inl (va_up g r (g2 r)))))) (x3 a) := xfr.pt ⟨by omega, by omega⟩
    have h2'' := h2'.fr fr2 (fun c hc hx => by unfold x3 at hc hx; omega)
    obtain ⟨S1, f1, g1, q1, q2, q3, q4⟩ := ih (r + 1) _ _ _ (by omega) hw2 h2'' (fun i hi => by
      rw [va_up_at, va_up_at]
      by_cases c : i = r
      · rw [if_pos c, if_pos c, c]; exact ⟨rfl, rfl⟩
      · rw [if_neg c, if_neg c]; exact h3 i (by omega))
    refine ⟨S1, f1, g1, ?_, q2, q3, (fr1.tr fr2).tr q4⟩
    rw [e_X0_become_10, xfI_at h1.2.1 rfl, xob_some]
    simp (disch := omega) only [iI_le]
    rw [if_neg (by omega), h2.o, cond_true, c_X0_speedAt h2 (by omega), xob_some]
    dsimp only
    rw [h1.o, cond_true, c_X0_setSpeed h1 (by omega), xob_some, h2'.o, cond_true, c_X0_startAt h2' (by omega), xob_some]
    dsimp only
    rw [hw.o, cond_true, c_X0_setStart hw (by omega), xob_some, iI_suc]
    exact q1
theorem c_X0_become {S : xS} {k0 : Nat} (hab : a + 2 < b ∨ b + 2 < a) (h1 : xFs S a k0 f g) (h2 : xFs S b k f2 g2) : ∃ (S1 : xS) (f1 g1 : Nat → Int32), xcV P m_X0_become [.ref a, .ref b] S = some S1 ∧ xFs S1 a k f1 g1 ∧ (∀ i, i < k → f1 i = f2 i ∧ g1 i = g2 i) ∧ xfr S S1 (x3 a) := by
  have hk := h2.1
  have hz := h1.z hk
  have fr1 : xfr S (xpt S a (.inl (0, [.ref (a + 1), .ref (a + 2), .int (iI k)]))) (x3 a) := xfr.pt ⟨by omega, by omega⟩
  have h2' := h2.fr fr1 (fun c hc hx => by unfold x3 at hc hx; omega)
  obtain ⟨S1, f1, g1, q1, q2, q3, q4⟩ := l_X0_become (P := P) hab k 0 _ _ _ (by omega) hz h2' (fun i hi => absurd hi (by omega))
  refine ⟨S1, f1, g1, xcV_of ((e_X0_become_0 P a b S).trans ?_), q2, q3, fr1.tr q4⟩
  rw [xfI_at h2.2.1 rfl, xob_some, xpf_at h1.2.1 (show 2 < 3 by decide) rfl, xob_some]
  exact q1
/-- a field is as another one -/
theorem d_become {S : xS} {k0 : Nat} (hab : a + 2 < b ∨ b + 2 < a) (h1 : xFs S a k0 f g) (h2 : xFd S b F) : ∃ S1 : xS, xcV P m_X0_become [.ref a, .ref b] S = some S1 ∧ xFd S1 a F ∧ xfr S S1 (x3 a) := by
  obtain ⟨hF, f2, g2, e1, e2⟩ := h2
  obtain ⟨S1, f1, g1, q1, q2, q3, q4⟩ := c_X0_become (P := P) hab h1 e1
  exact ⟨S1, q1, ⟨hF, f1, g1, q2, fun i hi => ⟨(q3 i hi).1.trans (e2 i hi).1, (q3 i hi).2.trans (e2 i hi).2⟩⟩, q4⟩
theorem d_speedAt {S : xS} (h : xFd S a F) {r : Nat} (hr : r < F.1) : xcI P m_X0_speedAt [.ref a, .int (iI r)] S = some (iI (F.2.1 r), S) := by
  obtain ⟨hF, f, g, e1, e2⟩ := h
  rw [c_X0_speedAt e1 hr, (e2 r hr).1]
theorem d_startAt {S : xS} (h : xFd S a F) {r : Nat} (hr : r < F.1) : xcI P m_X0_startAt [.ref a, .int (iI r)] S = some (iI (F.2.2 r), S) := by
  obtain ⟨hF, f, g, e1, e2⟩ := h
  rw [c_X0_startAt e1 hr, (e2 r hr).2]
theorem d_size {S : xS} (h : xFd S a F) : xcI P m_X0_size [.ref a] S = some (iI F.1, S) := by
  obtain ⟨hF, f, g, e1, e2⟩ := h
  exact c_X0_size e1
theorem d_k {S : xS} (h : xFd S a F) : xfI S a 0 2 = some (iI F.1) := by
  obtain ⟨hF, f, g, e1, e2⟩ := h
  exact xfI_at e1.2.1 rfl
theorem d_has {S : xS} (h : xFd S a F) {i : Int} (i1 : -2147483648 ≤ i) (i2 : i < 2147483648) : xcI P m_X0_has [.ref a, .int (iI i)] S = some (iI (if 0 ≤ i ∧ i < F.1 then 1 else 0), S) := by
  obtain ⟨hF, f, g, e1, e2⟩ := h
  exact c_X0_has e1 i1 i2
theorem d_hasBoth {S : xS} (h : xFd S a F) {i j : Int} (i1 : -2147483648 ≤ i) (i2 : i < 2147483648) (j1 : -2147483648 ≤ j) (j2 : j < 2147483648) : xcI P m_X0_hasBoth [.ref a, .int (iI i), .int (iI j)] S = some (iI (if 0 ≤ i ∧ i < F.1 ∧ 0 ≤ j ∧ j < F.1 ∧ i ≠ j then 1 else 0), S) := by
  obtain ⟨hF, f, g, e1, e2⟩ := h
  exact c_X0_hasBoth e1 i1 i2 j1 j2
theorem l_X0_greatestSpeed {S : xS} (h : xFd S a F) : ∀ (d r : Nat), r + d = F.1 → xrun P m_X0_greatestSpeed 4 [(0, .ref a), (1, .int (iI (xmx F.2.1 r))), (2, .int (iI r))] [] S = some (some (.int (iI (xmx F.2.1 F.1))), S) := by
  have hk := h.1.1
  have hb := h.1.2
  intro d
  induction d with
  | zero =>
    intro r hr
    rw [e_X0_greatestSpeed_4, d_k h, xob_some]
    simp (disch := omega) only [iI_le]
    rw [if_pos (by omega), show r = F.1 by omega]
  | succ d ih =>
    intro r hr
    have hm := xmx_bd (v := F.2.1) (M := 40) (by omega) r (fun i hi => ⟨(hb i (by omega)).1, (hb i (by omega)).2.1⟩)
    have hv := hb r (by omega)
    rw [e_X0_greatestSpeed_4, d_k h, xob_some]
    simp (disch := omega) only [iI_le]
    rw [if_neg (by omega), h.o, cond_true, d_speedAt h (by omega), xob_some]
    dsimp only
    rw [c_max (by omega) (by omega) (by omega) (by omega), xob_some]
    dsimp only
    rw [iI_suc]
    exact ih (r + 1) (by omega)
theorem d_greatestSpeed {S : xS} (h : xFd S a F) : xcI P m_X0_greatestSpeed [.ref a] S = some (iI (xmx F.2.1 F.1), S) :=
  xcI_of ((e_X0_greatestSpeed_0 P a S).trans (l_X0_greatestSpeed h F.1 0 (by omega)))
theorem l_X0_sumOfSpeeds {S : xS} (h : xFd S a F) : ∀ (d r : Nat), r + d = F.1 → xrun P m_X0_sumOfSpeeds 4 [(0, .ref a), (1, .int (iI (xsm F.2.1 r))), (2, .int (iI r))] [] S = some (some (.int (iI (xsm F.2.1 F.1))), S) := by
  have hk := h.1.1
  intro d
  induction d with
  | zero =>
    intro r hr
    rw [e_X0_sumOfSpeeds_4, d_k h, xob_some]
    simp (disch := omega) only [iI_le]
    rw [if_pos (by omega), show r = F.1 by omega]
  | succ d ih =>
    intro r hr
    rw [e_X0_sumOfSpeeds_4, d_k h, xob_some]
    simp (disch := omega) only [iI_le]
    rw [if_neg (by omega), h.o, cond_true, d_speedAt h (by omega), xob_some]
    dsimp only
    rw [iI_suc, iI_add]
    exact ih (r + 1) (by omega)
theorem d_sumOfSpeeds {S : xS} (h : xFd S a F) : xcI P m_X0_sumOfSpeeds [.ref a] S = some (iI (xsm F.2.1 F.1), S) :=
  xcI_of ((e_X0_sumOfSpeeds_0 P a S).trans (l_X0_sumOfSpeeds h F.1 0 (by omega)))
theorem l_X0_sumOfStarts {S : xS} (h : xFd S a F) : ∀ (d r : Nat), r + d = F.1 → xrun P m_X0_sumOfStarts 4 [(0, .ref a), (1, .int (iI (xsm F.2.2 r))), (2, .int (iI r))] [] S = some (some (.int (iI (xsm F.2.2 F.1))), S) := by
  have hk := h.1.1
  intro d
  induction d with
  | zero =>
    intro r hr
    rw [e_X0_sumOfStarts_4, d_k h, xob_some]
    simp (disch := omega) only [iI_le]
    rw [if_pos (by omega), show r = F.1 by omega]
  | succ d ih =>
    intro r hr
    rw [e_X0_sumOfStarts_4, d_k h, xob_some]
    simp (disch := omega) only [iI_le]
    rw [if_neg (by omega), h.o, cond_true, d_startAt h (by omega), xob_some]
    dsimp only
    rw [iI_suc, iI_add]
    exact ih (r + 1) (by omega)
theorem d_sumOfStarts {S : xS} (h : xFd S a F) : xcI P m_X0_sumOfStarts [.ref a] S = some (iI (xsm F.2.2 F.1), S) :=
  xcI_of ((e_X0_sumOfStarts_0 P a S).trans (l_X0_sumOfStarts h F.1 0 (by omega)))
end FL
