-- deps: 14.hist
/-! Tape -/
def xTp (S : xS) (a n : Nat) (b : Nat → Int32) : Prop := n ≤ 200 ∧ ∃ f : Nat → Int32, S.1 a = some (.inl (7, [.ref (a + 1), .int (iI n)])) ∧ S.1 (a + 1) = some (.inr (0, (200, .inl f))) ∧ ∀ i, i < n → f i = b i
theorem xTp.fr {S S1 : xS} {a n : Nat} {b : Nat → Int32} {A : Nat → Prop} (h : xTp S a n b) (hf : xfr S S1 A) (h0 : ∀ c, xrg a 2 c → ¬ A c) : xTp S1 a n b := by
  obtain ⟨hn, f, e1, e2, e3⟩ := h
  exact ⟨hn, f, (hf.2 _ (h0 _ ⟨by omega, by omega⟩)).trans e1, (hf.2 _ (h0 _ ⟨by omega, by omega⟩)).trans e2, e3⟩
/-- byte k of a word -/
def xby (w : Int32) (k : Nat) : Int32 := (w >>> (iI (24 - 8 * k) &&& 31)) &&& iI 255
section TP
variable {P : Nat → Nat} {S : xS} {a n : Nat} {b : Nat → Int32}
theorem xTp.o (h : xTp S a n b) : xisO S a 7 = true := by
  obtain ⟨hn, f, e1, e2, e3⟩ := h
  exact xisO_at e1
theorem d_tsize (h : xTp S a n b) : xcI P m_X7_size [.ref a] S = some (iI n, S) := by
  obtain ⟨hn, f, e1, e2, e3⟩ := h
  refine xcI_of ((e_X7_size_0 P a S).trans ?_)
  rw [xfI_at e1 rfl, xob_some]
theorem d_room (h : xTp S a n b) : xcI P m_X7_hasRoomFor [.ref a, .int (iI 20)] S = some (iI (if n + 20 ≤ 200 then 1 else 0), S) := by
  obtain ⟨hn, f, e1, e2, e3⟩ := h
  refine xcI_of ((e_X7_hasRoomFor_0 P a (iI 20) S).trans ?_)
  rw [xfI_at e1 rfl, xob_some, iI_add]
  simp (disch := omega) only [iI_lt]
  by_cases c : n + 20 ≤ 200
  · rw [if_neg (by omega), if_pos c]
  · rw [if_pos (by omega), if_neg c]
theorem d_byteAt (h : xTp S a n b) {i : Int} (i1 : -2147483648 ≤ i) (i2 : i < 2147483648) : xcI P m_X7_byteAt [.ref a, .int (iI i)] S = some (if 0 ≤ i ∧ i < n then b i.toNat else iI (-1), S) := by
  obtain ⟨hn, f, e1, e2, e3⟩ := h
  by_cases c : 0 ≤ i ∧ i < n
  · refine xcI_of ((e_X7_byteAt_0 P a (iI i) S).trans ?_)
    simp (disch := omega) only [xfI_at (k := 1) e1 rfl, xfR_at (k := 0) e1 rfl, xob_some, iI_0, iI_lt, iI_le, xrdI_at e2]
    rw [if_neg (by omega), if_neg (by omega), if_neg (by omega), if_pos c, e3 _ (by omega)]
  · refine xcI_of ((e_X7_byteAt_0 P a (iI i) S).trans ?_)
    simp (disch := omega) only [xfI_at (k := 1) e1 rfl, xob_some, iI_0, iI_lt, iI_le]
    rw [if_neg c]
    by_cases c1 : i < 0
    · rw [if_pos c1]
    · rw [if_neg c1, if_pos (by omega)]
theorem d_shorten (h : xTp S a n b) {z : Int} (z0 : 0 ≤ z) (z1 : z ≤ n) : ∃ S1, xcV P m_X7_shorten [.ref a, .int (iI z)] S = some S1 ∧ xTp S1 a (n - z.toNat) b ∧ xfr S S1 (xrg a 2) := by
  obtain ⟨hn, f, e1, e2, e3⟩ := h
  refine ⟨xpt S a (.inl (7, [.ref (a + 1), .int (iI ((n - z.toNat : Nat) : Int))])), xcV_of ((e_X7_shorten_0 P a (iI z) S).trans ?_), ⟨by omega, f, by rw [xpt_1, if_pos rfl], by rw [xpt_1, if_neg (by omega)]; exact e2, fun i hi => e3 i (by omega)⟩, xfr.pt ⟨by omega, by omega⟩⟩
  rw [xfI_at e1 rfl, xob_some, iI_sub, c_max (by omega) (by omega) (by omega) (by omega), xob_some]
  dsimp only
  rw [xpf_at e1 (show 1 < 2 by decide) rfl, xob_some, show max 0 ((n : Int) - z) = ((n - z.toNat : Nat) : Int) by omega]
  rfl
theorem l_addWord (h : xTp S a n b) (hn : n < 200) (w : Int32) {z : Int} (z0 : 0 ≤ z) (z1 : z ≤ 24) : ∃ S1, xrun P m_X7_addWord 3 [(0, .ref a), (1, .int w), (2, .int (iI z))] [] S = xrun P m_X7_addWord 3 [(0, .ref a), (1, .int w), (2, .int (iI (z + -8)))] [] S1 ∧ xTp S1 a (n + 1) (va_up b n ((w >>> (iI z &&& 31)) &&& iI 255)) ∧ xfr S S1 (xrg a 2) := by
  obtain ⟨-, f, e1, e2, e3⟩ := h
  let S1 : xS := xpt S (a + 1) (.inr (0, (200, .inl (va_up f n ((w >>> (iI z &&& 31)) &&& iI 255)))))
  have e1' : S1.1 a = some (.inl (7, [.ref (a + 1), .int (iI n)])) := by rw [xpt_1, if_neg (by omega)]; exact e1
  let S2 : xS := xpt S1 a (.inl (7, [.ref (a + 1), .int (iI ((n + 1 : Nat) : Int))]))
  have p1 : xwrI S (a + 1) (iI n) ((w >>> (iI z &&& 31)) &&& iI 255) = some S1 := by
    rw [xwrI_at e2 (by omega) (by omega) (by decide), Int.toNat_natCast]
  have p2 : xpf S1 a 7 1 0 (.int (iI ((n + 1 : Nat) : Int))) = some S2 := (xpf_at e1' (show 1 < 2 by decide) rfl).trans rfl
  have f1 : xfr S S1 (xrg a 2) := xfr.pt ⟨by omega, by omega⟩
  have f2 : xfr S1 S2 (xrg a 2) := xfr.pt ⟨by omega, by omega⟩
  refine ⟨S2, ?_, ⟨by omega, _, by rw [xpt_1, if_pos rfl], by rw [xpt_1, if_neg (by omega), xpt_1, if_pos rfl], fun i hi => ?_⟩, f1.tr f2⟩
  · rw [e_X7_addWord_3]
    simp (disch := omega) only [xfI_at (k := 1) e1 rfl, xfR_at (k := 0) e1 rfl, xob_some, iI_0, iI_lt, iI_le]
    rw [if_neg (by omega), if_neg (by omega), if_neg (by omega), p1, xob_some, xfI_at (k := 1) e1' rfl, xob_some, iI_suc, p2, xob_some, iI_add]
  · rw [va_up_at, va_up_at]
    by_cases c : i = n
    · rw [if_pos c, if_pos c]
    · rw [if_neg c, if_neg c]; exact e3 i (by omega)
theorem d_addWord (h : xTp S a n b) (hn : n + 4 ≤ 200) (w : Int32) : ∃ S1 b1, xcV P m_X7_addWord [.ref a, .int w] S = some S1 ∧ xTp S1 a (n + 4) b1 ∧ (∀ i, i < n → b1 i = b i) ∧ (∀ k, k < 4 → b1 (n + k) = xby w k) ∧ xfr S S1 (xrg a 2) := by
  obtain ⟨S1, r1, h1, f1⟩ := l_addWord (P := P) h (by omega) w (z := 24) (by omega) (by omega)
  obtain ⟨S2, r2, h2, f2⟩ := l_addWord (P := P) h1 (by omega) w (z := 24 + -8) (by omega) (by omega)
  obtain ⟨S3, r3, h3, f3⟩ := l_addWord (P := P) h2 (by omega) w (z := 24 + -8 + -8) (by omega) (by omega)
  obtain ⟨S4, r4, h4, f4⟩ := l_addWord (P := P) h3 (by omega) w (z := 24 + -8 + -8 + -8) (by omega) (by omega)
  refine ⟨S4, _, xcV_of ((e_X7_addWord_0 P a w S).trans ?_), h4, fun i hi => ?_, fun k hk => ?_, ((f1.tr f2).tr f3).tr f4⟩
  · rw [r1, r2, r3, r4, e_X7_addWord_3]
    rw [if_pos (by rw [iI_0, iI_lt (by omega) (by omega) (by omega) (by omega)]; omega)]
  · simp only [va_up_at]
    rw [if_neg (by omega), if_neg (by omega), if_neg (by omega), if_neg (by omega)]
  · simp only [va_up_at]
    match k, hk with
    | 0, _ => rw [if_neg (by omega), if_neg (by omega), if_neg (by omega), if_pos (by omega)]; simp [xby]
    | 1, _ => rw [if_neg (by omega), if_neg (by omega), if_pos (by omega)]; simp [xby]
    | 2, _ => rw [if_neg (by omega), if_pos (by omega)]; simp [xby]
    | 3, _ => rw [if_pos (by omega)]; simp [xby]
    | k + 4, hk => omega
end TP
