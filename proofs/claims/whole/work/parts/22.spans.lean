-- deps: 21.seek
/-! Spans: so many, from where, to where -/
theorem xlen_at {S : xS} {a n : Nat} {f : Nat → Int64} (h : S.1 a = some (.inr (1, (n, .inr (.inl f))))) : xlen S a = some (iI n) := by
  unfold xlen
  rw [h]
  rfl
/-- the object and its two rows, as they lie there -/
def xPq (S : xS) (a M n : Nat) (f g : Nat → Int64) : Prop := n ≤ M ∧ M ≤ 1300 ∧ S.1 a = some (.inl (6, [.ref (a + 1), .ref (a + 2), .int (iI n)])) ∧ S.1 (a + 1) = some (.inr (1, (M, .inr (.inl f)))) ∧ S.1 (a + 2) = some (.inr (1, (M, .inr (.inl g))))
theorem xPq.fr {S S1 : xS} {a M n : Nat} {f g : Nat → Int64} {A : Nat → Prop} (h : xPq S a M n f g) (hf : xfr S S1 A) (h0 : ∀ b, x3 a b → ¬ A b) : xPq S1 a M n f g := by
  obtain ⟨h1, h2, e1, e2, e3⟩ := h
  exact ⟨h1, h2, (hf.2 _ (h0 _ ⟨by omega, by omega⟩)).trans e1, (hf.2 _ (h0 _ ⟨by omega, by omega⟩)).trans e2, (hf.2 _ (h0 _ ⟨by omega, by omega⟩)).trans e3⟩
/-- in order, none touching the next -/
def xSo (n : Nat) (u v : Nat → Int) : Prop := (∀ k, k < n → 0 ≤ u k ∧ u k ≤ v k ∧ v k < 1152921504606846976) ∧ ∀ k, k + 1 < n → v k < u (k + 1)
def xSp (S : xS) (a M n : Nat) (u v : Nat → Int) : Prop := xSo n u v ∧ ∃ f g, xPq S a M n f g ∧ ∀ k, k < n → f k = jI (u k) ∧ g k = jI (v k)
theorem xSp.fr {S S1 : xS} {a M n : Nat} {u v : Nat → Int} {A : Nat → Prop} (h : xSp S a M n u v) (hf : xfr S S1 A) (h0 : ∀ b, x3 a b → ¬ A b) : xSp S1 a M n u v := by
  obtain ⟨h1, f, g, h2, h3⟩ := h
  exact ⟨h1, f, g, h2.fr hf h0, h3⟩
/-- a time, in halves of a part, is in one of them -/
def xme (n : Nat) (u v : Nat → Int) (t : Int) : Prop := ∃ k, k < n ∧ 2 * u k ≤ t ∧ t ≤ 2 * v k
def xln (u v : Nat → Int) : Nat → Int
  | 0 => 0
  | n + 1 => xln u v n + (v n - u n)
theorem xSo.lt {n : Nat} {u v : Nat → Int} (h : xSo n u v) {j k : Nat} (hjk : j < k) (hk : k < n) : v j < u k := by
  have key : ∀ d, j + d + 1 < n → v j < u (j + d + 1) := by
    intro d
    induction d with
    | zero => intro h1; exact h.2 j h1
    | succ d ih =>
      intro h1
      have h2 := ih (by omega)
      have h3 := h.1 (j + d + 1) (by omega)
      have h4 := h.2 (j + d + 1) h1
      have e : j + (d + 1) + 1 = j + d + 1 + 1 := by omega
      rw [e]
      omega
  have := key (k - j - 1) (by omega)
  rw [show j + (k - j - 1) + 1 = k by omega] at this
  exact this
theorem xln_bd {n : Nat} {u v : Nat → Int} (h : xSo n u v) : ∀ k, k < n → 0 ≤ xln u v k ∧ xln u v k ≤ u k ∧ xln u v (k + 1) ≤ v k := by
  intro k
  induction k with
  | zero =>
    intro hk
    have h1 := h.1 0 hk
    simp only [xln]
    omega
  | succ k ih =>
    intro hk
    have h1 := ih (by omega)
    have h2 := h.1 k (by omega)
    have h3 := h.1 (k + 1) hk
    have h4 := h.2 k hk
    simp only [xln] at h1 ⊢
    omega
section SP
variable {P : Nat → Nat} {S : xS} {a M n : Nat} {u v : Nat → Int}
theorem xSp.o (h : xSp S a M n u v) : xisO S a 6 = true := by
  obtain ⟨h1, f, g, h2, h3⟩ := h
  exact xisO_at h2.2.2.1
theorem xSp.z (h : xSp S a M n u v) : xfI S a 6 2 = some (iI n) := by
  obtain ⟨h1, f, g, h2, h3⟩ := h
  exact xfI_at h2.2.2.1 rfl
theorem xSp.m (h : xSp S a M n u v) : n ≤ M ∧ M ≤ 1300 := by
  obtain ⟨h1, f, g, h2, h3⟩ := h
  exact ⟨h2.1, h2.2.1⟩
theorem d_sclear (h : ∃ f g, xPq S a M n f g) : ∃ S1, xcV P m_X6_clear [.ref a] S = some S1 ∧ xSp S1 a M 0 u v ∧ xfr S S1 (x3 a) := by
  obtain ⟨f, g, h1, h2, e1, e2, e3⟩ := h
  let S1 : xS := xpt S a (.inl (6, [.ref (a + 1), .ref (a + 2), .int (iI ((0 : Nat) : Int))]))
  have p : xpf S a 6 2 0 (.int (iI 0)) = some S1 := (xpf_at e1 (show 2 < 3 by decide) rfl).trans rfl
  refine ⟨S1, xcV_of ((e_X6_clear_0 P a S).trans ?_), ⟨⟨fun k hk => by omega, fun k hk => by omega⟩, f, g, ⟨by omega, h2, by rw [xpt_1, if_pos rfl], by rw [xpt_1, if_neg (by omega)]; exact e2, by rw [xpt_1, if_neg (by omega)]; exact e3⟩, fun k hk => by omega⟩, xfr.pt ⟨by omega, by omega⟩⟩
  rw [p, xob_some]
theorem d_ssize (h : xSp S a M n u v) : xcI P m_X6_size [.ref a] S = some (iI n, S) := by
  refine xcI_of ((e_X6_size_0 P a S).trans ?_)
  rw [h.z, xob_some]
theorem d_fromAt (h : xSp S a M n u v) {k : Nat} (hk : k < n) : xcJ P m_X6_fromAt [.ref a, .int (iI k)] S = some (jI (u k), S) := by
  have hn := h.m
  obtain ⟨h1, f, g, ⟨-, -, e1, e2, e3⟩, h3⟩ := h
  refine xcJ_of ((e_X6_fromAt_0 P a (iI k) S).trans ?_)
  rw [if_neg (by rw [iI_0, iI_lt (by omega) (by omega) (by omega) (by omega)]; omega), xfI_at (k := 2) e1 rfl, xob_some, if_neg (by rw [iI_le (by omega) (by omega) (by omega) (by omega)]; omega), xfR_at (k := 0) e1 rfl, xob_some, xlen_at e2, xob_some, if_neg (by rw [iI_le (by omega) (by omega) (by omega) (by omega)]; omega), xob_some, xrdJ_at e2 (by omega) (by omega) (by omega), xob_some, Int.toNat_natCast, (h3 k hk).1]
theorem d_toAt (h : xSp S a M n u v) {k : Nat} (hk : k < n) : xcJ P m_X6_toAt [.ref a, .int (iI k)] S = some (jI (v k), S) := by
  have hn := h.m
  obtain ⟨h1, f, g, ⟨-, -, e1, e2, e3⟩, h3⟩ := h
  refine xcJ_of ((e_X6_toAt_0 P a (iI k) S).trans ?_)
  rw [if_neg (by rw [iI_0, iI_lt (by omega) (by omega) (by omega) (by omega)]; omega), xfI_at (k := 2) e1 rfl, xob_some, if_neg (by rw [iI_le (by omega) (by omega) (by omega) (by omega)]; omega), xfR_at (k := 1) e1 rfl, xob_some, xlen_at e3, xob_some, if_neg (by rw [iI_le (by omega) (by omega) (by omega) (by omega)]; omega), xob_some, xrdJ_at e3 (by omega) (by omega) (by omega), xob_some, Int.toNat_natCast, (h3 k hk).2]
theorem d_sadd0 (h : xSp S a M n u v) {x y : Int} (x0 : -4611686018427387904 ≤ x) (x1 : x < 4611686018427387904) (y0 : -4611686018427387904 ≤ y) (y1 : y < 4611686018427387904) (hxy : y < x) : xcV P m_X6_add [.ref a, .long (jI x), .long (jI y)] S = some S := by
  refine xcV_of ((e_X6_add_0 P a (jI x) (jI y) S).trans ?_)
  rw [if_pos ((lg_gt (by omega) (by omega) (by omega) (by omega)).mpr hxy)]
theorem d_sadd (h : xSp S a M n u v) (hM : n < M) {x y : Int} (x0 : 0 ≤ x) (hxy : x ≤ y) (y1 : y < 1152921504606846976) (hl : 0 < n → v (n - 1) < x) : ∃ S1, xcV P m_X6_add [.ref a, .long (jI x), .long (jI y)] S = some S1 ∧ xSp S1 a M (n + 1) (va_up u n x) (va_up v n y) ∧ xfr S S1 (x3 a) := by
  have hn := h.m
  obtain ⟨h1, f, g, ⟨-, -, e1, e2, e3⟩, h3⟩ := h
  let S1 : xS := xpt S (a + 1) (.inr (1, (M, .inr (.inl (va_up f n (jI x))))))
  have p1 : xwrJ S (a + 1) (iI n) (jI x) = some S1 := by rw [xwrJ_at e2 (by omega) (by omega) (by omega), Int.toNat_natCast]
  have a1 : S1.1 a = _ := (show S1.1 a = S.1 a by rw [xpt_1, if_neg (by omega)]).trans e1
  have a3 : S1.1 (a + 2) = _ := (show S1.1 (a + 2) = S.1 (a + 2) by rw [xpt_1, if_neg (by omega)]).trans e3
  let S2 : xS := xpt S1 (a + 2) (.inr (1, (M, .inr (.inl (va_up g n (jI y))))))
  have p2 : xwrJ S1 (a + 2) (iI n) (jI y) = some S2 := by rw [xwrJ_at a3 (by omega) (by omega) (by omega), Int.toNat_natCast]
  have b1 : S2.1 a = _ := (show S2.1 a = S1.1 a by rw [xpt_1, if_neg (by omega)]).trans a1
  let S3 : xS := xpt S2 a (.inl (6, [.ref (a + 1), .ref (a + 2), .int (iI ((n + 1 : Nat) : Int))]))
  have p3 : xpf S2 a 6 2 0 (.int (iI ((n + 1 : Nat) : Int))) = some S3 := (xpf_at b1 (show 2 < 3 by decide) rfl).trans rfl
  have f1 : xfr S S1 (x3 a) := xfr.pt ⟨by omega, by omega⟩
  have f2 : xfr S1 S2 (x3 a) := xfr.pt ⟨by omega, by omega⟩
  have f3 : xfr S2 S3 (x3 a) := xfr.pt ⟨by omega, by omega⟩
  refine ⟨S3, xcV_of ((e_X6_add_0 P a (jI x) (jI y) S).trans ?_), ⟨⟨fun k hk => ?_, fun k hk => ?_⟩, va_up f n (jI x), va_up g n (jI y), ⟨by omega, hn.2, by rw [xpt_1, if_pos rfl], by rw [xpt_1, if_neg (by omega), xpt_1, if_neg (by omega), xpt_1, if_pos rfl], by rw [xpt_1, if_neg (by omega), xpt_1, if_pos rfl]⟩, fun k hk => ?_⟩, (f1.tr f2).tr f3⟩
  · rw [if_neg (by rw [lg_gt (by omega) (by omega) (by omega) (by omega)]; omega), xfI_at (k := 2) e1 rfl, xob_some, if_neg (by rw [iI_0, iI_lt (by omega) (by omega) (by omega) (by omega)]; omega), xob_some, xfR_at (k := 0) e1 rfl, xob_some, xlen_at e2, xob_some, if_neg (by rw [iI_le (by omega) (by omega) (by omega) (by omega)]; omega), xob_some, xfR_at (k := 1) e1 rfl, xob_some, xlen_at e3, xob_some, if_neg (by rw [iI_le (by omega) (by omega) (by omega) (by omega)]; omega), xob_some, xob_some, p1, xob_some, xfR_at (k := 1) a1 rfl, xob_some, xfI_at (k := 2) a1 rfl, xob_some, p2, xob_some, xfI_at (k := 2) b1 rfl, xob_some, iI_suc, p3, xob_some]
  · rw [va_up_at, va_up_at]
    by_cases c : k = n
    · rw [if_pos c, if_pos c]; omega
    · rw [if_neg c, if_neg c]; exact h1.1 k (by omega)
  · rw [va_up_at, va_up_at, if_neg (by omega)]
    by_cases c : k + 1 = n
    · rw [if_pos c]
      have := hl (by omega)
      rw [show n - 1 = k by omega] at this
      exact this
    · rw [if_neg c]; exact h1.2 k (by omega)
  · rw [va_up_at, va_up_at, va_up_at, va_up_at]
    by_cases c : k = n
    · rw [if_pos c, if_pos c, if_pos c, if_pos c]; exact ⟨rfl, rfl⟩
    · rw [if_neg c, if_neg c, if_neg c, if_neg c]; exact h3 k (by omega)
theorem d_slength (h : xSp S a M n u v) : xcJ P m_X6_length [.ref a] S = some (jI (xln u v n), S) := by
  have hn := h.m
  refine xcJ_of ((e_X6_length_0 P a S).trans ?_)
  refine (xsteps (fun r => xrun P m_X6_length 4 [(0, .ref a), (1, .long (jI (xln u v r))), (3, .int (iI r))] [] S) n ?_).trans ?_
  · intro r hr
    rw [e_X6_length_4, h.z, xob_some]
    simp (disch := omega) only [iI_le]
    rw [if_neg (by omega), h.o, cond_true, d_toAt h hr, xob_some]
    dsimp only
    rw [h.o, cond_true, d_fromAt h hr, xob_some, jI_sub, jI_add, iI_suc]
    rfl
  · rw [e_X6_length_4, h.z, xob_some]
    simp (disch := omega) only [iI_le]
    rw [if_pos (by omega)]
theorem xme_up {x y t : Int} : xme (n + 1) (va_up u n x) (va_up v n y) t ↔ xme n u v t ∨ (2 * x ≤ t ∧ t ≤ 2 * y) := by
  constructor
  · rintro ⟨k, hk, h⟩
    rw [va_up_at, va_up_at] at h
    by_cases c : k = n
    · rw [if_pos c, if_pos c] at h; exact Or.inr h
    · rw [if_neg c, if_neg c] at h; exact Or.inl ⟨k, by omega, h⟩
  · rintro (⟨k, hk, h⟩ | h)
    · exact ⟨k, by omega, by rw [va_up_at, va_up_at, if_neg (by omega), if_neg (by omega)]; exact h⟩
    · exact ⟨n, by omega, by rw [va_up_at, va_up_at, if_pos rfl, if_pos rfl]; exact h⟩
end SP
