-- deps: 26.watch 31.model
/-! the class as it lies there, all of it -/
/-- what it stands for: the runners, earlier ones, the marks, so many bytes of the tape -/
abbrev xAb : Type := xF × List xF × (Nat → Option xF) × Nat × (Nat → Int32)
def xC0 (S : xS) (x : Nat) : Prop := S.1 x = some (.inl (10, [.ref (x + 1), .ref (x + 4), .ref (x + 7), .ref (x + 17), .ref (x + 18), .ref (x + 56), .ref (x + 57), .ref (x + 59), .ref (x + 61), .ref (x + 64), .ref (x + 68), .ref (x + 88)]))
/-- a field, whatever it holds -/
def xFa (S : xS) (a : Nat) : Prop := ∃ k f g, xFs S a k f g
theorem xFa.fr {S S1 : xS} {a : Nat} {A : Nat → Prop} (h : xFa S a) (hf : xfr S S1 A) (h0 : ∀ b, x3 a b → ¬ A b) : xFa S1 a := by
  obtain ⟨k, f, g, e⟩ := h
  exact ⟨k, f, g, e.fr hf h0⟩
theorem xFd.a {S : xS} {a : Nat} {F : xF} (h : xFd S a F) : xFa S a := by
  obtain ⟨-, f, g, e, -⟩ := h
  exact ⟨_, f, g, e⟩
/-- the marks -/
def xMk (S : xS) (x : Nat) (mk : Nat → Option xF) : Prop := (∃ f, S.1 (x + 7) = some (.inr (4, (3, .inr (.inr (.inr (.inr f)))))) ∧ ∀ j, j < 3 → f j = some (x + 8 + 3 * j)) ∧ (∃ f, S.1 (x + 17) = some (.inr (2, (3, .inl f))) ∧ ∀ j, j < 3 → f j = iI (if (mk j).isSome then 1 else 0)) ∧ ∀ j, j < 3 → xFa S (x + 8 + 3 * j) ∧ ∀ G, mk j = some G → xFd S (x + 8 + 3 * j) G
theorem xMk.fr {S S1 : xS} {x : Nat} {mk : Nat → Option xF} {A : Nat → Prop} (h : xMk S x mk) (hf : xfr S S1 A) (h0 : ∀ b, xrg (x + 7) 11 b → ¬ A b) : xMk S1 x mk := by
  obtain ⟨⟨f, e1, e2⟩, ⟨g, e3, e4⟩, e5⟩ := h
  refine ⟨⟨f, (hf.2 _ (h0 _ ⟨by omega, by omega⟩)).trans e1, e2⟩, ⟨g, (hf.2 _ (h0 _ ⟨by omega, by omega⟩)).trans e3, e4⟩, fun j hj => ⟨(e5 j hj).1.fr hf (fun b hb => h0 b ⟨by unfold x3 at hb; omega, by unfold x3 at hb; omega⟩), fun G hG => ((e5 j hj).2 G hG).fr hf (fun b hb => h0 b ⟨by unfold x3 at hb; omega, by unfold x3 at hb; omega⟩)⟩⟩
def xRe (S : xS) (x : Nat) : Prop := ∃ p q, S.1 (x + 56) = some (.inl (5, [.ref (x + 57), .int p, .int q]))
def xIa (S : xS) (a : Nat) : Prop := ∃ k W f, xIs S a k W f
theorem xIa.fr {S S1 : xS} {a : Nat} {A : Nat → Prop} (h : xIa S a) (hf : xfr S S1 A) (h0 : ∀ b, xrg a 2 b → ¬ A b) : xIa S1 a := by
  obtain ⟨k, W, f, e⟩ := h
  exact ⟨k, W, f, e.fr hf h0⟩
def xOa (S : xS) (a : Nat) : Prop := ∃ n f g, xOs S a n f g
theorem xOa.fr {S S1 : xS} {a : Nat} {A : Nat → Prop} (h : xOa S a) (hf : xfr S S1 A) (h0 : ∀ b, x3 a b → ¬ A b) : xOa S1 a := by
  obtain ⟨n, f, g, e⟩ := h
  exact ⟨n, f, g, e.fr hf h0⟩
def xPa (S : xS) (a : Nat) : Prop := ∃ kh kp, xPr S a kh kp
theorem xPr.fr {S S1 : xS} {a : Nat} {kh kp : Int} {A : Nat → Prop} (h : xPr S a kh kp) (hf : xfr S S1 A) (h0 : ∀ b, xrg a 4 b → ¬ A b) : xPr S1 a kh kp := by
  obtain ⟨⟨h, p, x, q, e⟩, e2⟩ := h
  exact ⟨⟨h, p, x, q, e.fr hf (h0 _ ⟨by omega, by omega⟩)⟩, xOa.fr (a := a + 1) e2 hf (fun b hb => h0 b ⟨by unfold x3 at hb; omega, by unfold x3 at hb; omega⟩)⟩
theorem xPa.fr {S S1 : xS} {a : Nat} {A : Nat → Prop} (h : xPa S a) (hf : xfr S S1 A) (h0 : ∀ b, xrg a 4 b → ¬ A b) : xPa S1 a := by
  obtain ⟨kh, kp, e⟩ := h
  exact ⟨kh, kp, e.fr hf h0⟩
/-- spans, whatever they hold -/
def xQa (S : xS) (a M : Nat) : Prop := ∃ n f g, xPq S a M n f g
theorem xQa.fr {S S1 : xS} {a M : Nat} {A : Nat → Prop} (h : xQa S a M) (hf : xfr S S1 A) (h0 : ∀ b, x3 a b → ¬ A b) : xQa S1 a M := by
  obtain ⟨n, f, g, e⟩ := h
  exact ⟨n, f, g, e.fr hf h0⟩
theorem xSp.a {S : xS} {a M n : Nat} {u v : Nat → Int} (h : xSp S a M n u v) : xQa S a M := by
  obtain ⟨-, f, g, e, -⟩ := h
  exact ⟨n, f, g, e⟩
/-- Vigil and what is behind it but for the two rows of spans of one -/
def xVa (S : xS) (a : Nat) : Prop := (∃ s1 s2 l1 l2 sc pt, xVo S a s1 s2 l1 l2 sc pt) ∧ xOa S (a + 1) ∧ xQa S (a + 4) 210 ∧ xQa S (a + 7) 210 ∧ xQa S (a + 10) 210 ∧ xQa S (a + 13) 1230 ∧ xQa S (a + 16) 1230 ∧ ∃ f, S.1 (a + 19) = some (.inr (1, (6, .inr (.inl f))))
theorem xVa.fr {S S1 : xS} {a : Nat} {A : Nat → Prop} (h : xVa S a) (hf : xfr S S1 A) (h0 : ∀ b, xrg a 20 b → ¬ A b) : xVa S1 a := by
  obtain ⟨⟨s1, s2, l1, l2, sc, pt, e0⟩, e1, e2, e3, e4, e5, e6, f, e7⟩ := h
  have k : ∀ d b, d + 2 < 20 → x3 (a + d) b → ¬ A b := fun d b hd hb => h0 b ⟨by unfold x3 at hb; omega, by unfold x3 at hb; omega⟩
  exact ⟨⟨s1, s2, l1, l2, sc, pt, e0.fr hf (h0 _ ⟨by omega, by omega⟩)⟩, e1.fr hf (fun b hb => k 1 b (by omega) hb), e2.fr hf (fun b hb => k 4 b (by omega) hb), e3.fr hf (fun b hb => k 7 b (by omega) hb), e4.fr hf (fun b hb => k 10 b (by omega) hb), e5.fr hf (fun b hb => k 13 b (by omega) hb), e6.fr hf (fun b hb => k 16 b (by omega) hb), f, (hf.2 _ (h0 _ ⟨by omega, by omega⟩)).trans e7⟩
def xWr (S : xS) (x : Nat) : Prop := ∃ p q r, S.1 (x + 88) = some (.inl (9, [.int p, .int q, .int r]))
/-- bytes -/
def xbm (b : Nat → Int32) : Nat → Int32 := fun i => b i &&& iI 255
def xCl (S : xS) (x : Nat) (A : xAb) : Prop := xC0 S x ∧ xFd S (x + 1) A.1 ∧ xFa S (x + 4) ∧ xMk S x A.2.2.1 ∧ xHi S (x + 18) A.2.1 ∧ xTp S (x + 57) A.2.2.2.1 (xbm A.2.2.2.2) ∧ xRe S x ∧ xIa S (x + 59) ∧ xOa S (x + 61) ∧ xPa S (x + 64) ∧ xVa S (x + 68) ∧ xWr S x
section CL
variable {P : Nat → Nat} {S : xS} {x : Nat} {A : xAb}
theorem xCl.o (h : xCl S x A) : xisO S x 10 = true := xisO_at h.1
theorem xCl.r0 (h : xCl S x A) : xfR S x 10 0 = some (x + 1) := xfR_at h.1 rfl
theorem xCl.r1 (h : xCl S x A) : xfR S x 10 1 = some (x + 4) := xfR_at h.1 rfl
theorem xCl.r2 (h : xCl S x A) : xfR S x 10 2 = some (x + 7) := xfR_at h.1 rfl
theorem xCl.r3 (h : xCl S x A) : xfR S x 10 3 = some (x + 17) := xfR_at h.1 rfl
theorem xCl.r4 (h : xCl S x A) : xfR S x 10 4 = some (x + 18) := xfR_at h.1 rfl
theorem xCl.r5 (h : xCl S x A) : xfR S x 10 6 = some (x + 57) := xfR_at h.1 rfl
theorem xCl.r6 (h : xCl S x A) : xfR S x 10 5 = some (x + 56) := xfR_at h.1 rfl
theorem xCl.r7 (h : xCl S x A) : xfR S x 10 7 = some (x + 59) := xfR_at h.1 rfl
theorem xCl.r8 (h : xCl S x A) : xfR S x 10 8 = some (x + 61) := xfR_at h.1 rfl
theorem xCl.r9 (h : xCl S x A) : xfR S x 10 9 = some (x + 64) := xfR_at h.1 rfl
theorem xCl.r10 (h : xCl S x A) : xfR S x 10 10 = some (x + 68) := xfR_at h.1 rfl
theorem xCl.r11 (h : xCl S x A) : xfR S x 10 11 = some (x + 88) := xfR_at h.1 rfl
/-- all of it stays but for some cells, each of whose owners is told anew -/
theorem xCl.fr {S1 : xS} {B : Nat → Prop} (h : xCl S x A) (hf : xfr S S1 B) (h0 : ∀ b, xrg x 89 b → ¬ B b) : xCl S1 x A := by
  obtain ⟨e0, e1, e2, e3, e4, e5, ⟨p, q, e6⟩, e7, e8, e9, e10, ⟨p', q', r', e11⟩⟩ := h
  have k : ∀ d n b, d + n ≤ 89 → xrg (x + d) n b → ¬ B b := fun d n b hd hb => h0 b ⟨by unfold xrg at hb; omega, by unfold xrg at hb; omega⟩
  have k3 : ∀ d b, d + 2 < 89 → x3 (x + d) b → ¬ B b := fun d b hd hb => h0 b ⟨by unfold x3 at hb; omega, by unfold x3 at hb; omega⟩
  exact ⟨(hf.2 _ (h0 _ ⟨by omega, by omega⟩)).trans e0, e1.fr hf (fun b => k3 1 b (by omega)), e2.fr hf (fun b => k3 4 b (by omega)), e3.fr hf (fun b => k 7 11 b (by omega)), e4.fr hf (fun b => k 18 38 b (by omega)), e5.fr hf (fun b => k 57 2 b (by omega)), ⟨p, q, (hf.2 _ (h0 _ ⟨by omega, by omega⟩)).trans e6⟩, e7.fr hf (fun b => k 59 2 b (by omega)), e8.fr hf (fun b => k3 61 b (by omega)), e9.fr hf (fun b => k 64 4 b (by omega)), e10.fr hf (fun b => k 68 20 b (by omega)), ⟨p', q', r', (hf.2 _ (h0 _ ⟨by omega, by omega⟩)).trans e11⟩⟩
/-- what cells are scratch: the trial, the reader, all behind the tape -/
def xsc (x : Nat) : Nat → Prop := fun b => (x + 4 ≤ b ∧ b < x + 7) ∨ b = x + 56 ∨ (x + 59 ≤ b ∧ b < x + 89)
theorem xCl.sc {S1 : xS} (h : xCl S x A) (hf : xfr S S1 (xsc x)) (e2 : xFa S1 (x + 4)) (e6 : xRe S1 x) (e7 : xIa S1 (x + 59)) (e8 : xOa S1 (x + 61)) (e9 : xPa S1 (x + 64)) (e10 : xVa S1 (x + 68)) (e11 : xWr S1 x) : xCl S1 x A := by
  obtain ⟨e0, e1, -, e3, e4, e5, -⟩ := h
  have n : ∀ b, ¬ xsc x b ↔ ¬ ((x + 4 ≤ b ∧ b < x + 7) ∨ b = x + 56 ∨ (x + 59 ≤ b ∧ b < x + 89)) := fun b => Iff.rfl
  exact ⟨(hf.2 _ ((n _).mpr (by omega))).trans e0, e1.fr hf (fun b hb => (n b).mpr (by unfold x3 at hb; omega)), e2, e3.fr hf (fun b hb => (n b).mpr (by unfold xrg at hb; omega)), e4.fr hf (fun b hb => (n b).mpr (by unfold xrg at hb; omega)), e5.fr hf (fun b hb => (n b).mpr (by unfold xrg at hb; omega)), e6, e7, e8, e9, e10, e11⟩
theorem xRe.fr {S1 : xS} {B : Nat → Prop} (h : xRe S x) (hf : xfr S S1 B) (h0 : ¬ B (x + 56)) : xRe S1 x := by
  obtain ⟨p, q, e⟩ := h
  exact ⟨p, q, (hf.2 _ h0).trans e⟩
theorem xWr.fr {S1 : xS} {B : Nat → Prop} (h : xWr S x) (hf : xfr S S1 B) (h0 : ¬ B (x + 88)) : xWr S1 x := by
  obtain ⟨p, q, r, e⟩ := h
  exact ⟨p, q, r, (hf.2 _ h0).trans e⟩
/-- the instant alone -/
theorem xCl.in {S1 : xS} (h : xCl S x A) (hf : xfr S S1 (xrg (x + 59) 2)) (e7 : xIa S1 (x + 59)) : xCl S1 x A ∧ xfr S S1 (xrg x 89) := by
  obtain ⟨-, -, e2, -, -, -, e6, -, e8, e9, e10, e11⟩ := id h
  have n : ∀ b, ¬ xrg (x + 59) 2 b ↔ ¬ (x + 59 ≤ b ∧ b < x + 59 + 2) := fun b => Iff.rfl
  exact ⟨h.sc (hf.mono (fun b hb => Or.inr (by unfold xrg at hb; omega))) (e2.fr hf (fun b hb => (n b).mpr (by unfold x3 at hb; omega))) (e6.fr hf ((n _).mpr (by omega))) e7 (e8.fr hf (fun b hb => (n b).mpr (by unfold x3 at hb; omega))) (e9.fr hf (fun b hb => (n b).mpr (by unfold xrg at hb; omega))) (e10.fr hf (fun b hb => (n b).mpr (by unfold xrg at hb; omega))) (e11.fr hf ((n _).mpr (by omega))), hf.mono (fun b hb => ⟨by unfold xrg at hb; omega, by unfold xrg at hb; omega⟩)⟩
/-- the others alone -/
theorem xCl.ot {S1 : xS} (h : xCl S x A) (hf : xfr S S1 (x3 (x + 61))) (e8 : xOa S1 (x + 61)) : xCl S1 x A ∧ xfr S S1 (xrg x 89) := by
  obtain ⟨-, -, e2, -, -, -, e6, e7, -, e9, e10, e11⟩ := id h
  have n : ∀ b, ¬ x3 (x + 61) b ↔ ¬ (x + 61 ≤ b ∧ b ≤ x + 61 + 2) := fun b => Iff.rfl
  exact ⟨h.sc (hf.mono (fun b hb => Or.inr (by unfold x3 at hb; omega))) (e2.fr hf (fun b hb => (n b).mpr (by unfold x3 at hb; omega))) (e6.fr hf ((n _).mpr (by omega))) (e7.fr hf (fun b hb => (n b).mpr (by unfold xrg at hb; omega))) e8 (e9.fr hf (fun b hb => (n b).mpr (by unfold xrg at hb; omega))) (e10.fr hf (fun b hb => (n b).mpr (by unfold xrg at hb; omega))) (e11.fr hf ((n _).mpr (by omega))), hf.mono (fun b hb => ⟨by unfold x3 at hb; omega, by unfold x3 at hb; omega⟩)⟩
/-- the peak alone -/
theorem xCl.pk {S1 : xS} (h : xCl S x A) (hf : xfr S S1 (xrg (x + 64) 4)) (e9 : xPa S1 (x + 64)) : xCl S1 x A ∧ xfr S S1 (xrg x 89) := by
  obtain ⟨-, -, e2, -, -, -, e6, e7, e8, -, e10, e11⟩ := id h
  have n : ∀ b, ¬ xrg (x + 64) 4 b ↔ ¬ (x + 64 ≤ b ∧ b < x + 64 + 4) := fun b => Iff.rfl
  exact ⟨h.sc (hf.mono (fun b hb => Or.inr (by unfold xrg at hb; omega))) (e2.fr hf (fun b hb => (n b).mpr (by unfold x3 at hb; omega))) (e6.fr hf ((n _).mpr (by omega))) (e7.fr hf (fun b hb => (n b).mpr (by unfold xrg at hb; omega))) (e8.fr hf (fun b hb => (n b).mpr (by unfold x3 at hb; omega))) e9 (e10.fr hf (fun b hb => (n b).mpr (by unfold xrg at hb; omega))) (e11.fr hf ((n _).mpr (by omega))), hf.mono (fun b hb => ⟨by unfold xrg at hb; omega, by unfold xrg at hb; omega⟩)⟩
/-- the trial and the peak -/
theorem xCl.tp {S1 : xS} (h : xCl S x A) (hf : xfr S S1 (fun b => x3 (x + 4) b ∨ xrg (x + 64) 4 b)) (e2 : xFa S1 (x + 4)) (e9 : xPa S1 (x + 64)) : xCl S1 x A ∧ xfr S S1 (xrg x 89) := by
  obtain ⟨-, -, -, -, -, -, e6, e7, e8, -, e10, e11⟩ := id h
  have n : ∀ b, ¬ (x3 (x + 4) b ∨ xrg (x + 64) 4 b) ↔ ¬ ((x + 4 ≤ b ∧ b ≤ x + 4 + 2) ∨ (x + 64 ≤ b ∧ b < x + 64 + 4)) := fun b => Iff.rfl
  exact ⟨h.sc (hf.mono (fun b hb => by unfold xsc; unfold x3 xrg at hb; omega)) e2 (e6.fr hf ((n _).mpr (by omega))) (e7.fr hf (fun b hb => (n b).mpr (by unfold xrg at hb; omega))) (e8.fr hf (fun b hb => (n b).mpr (by unfold x3 at hb; omega))) e9 (e10.fr hf (fun b hb => (n b).mpr (by unfold xrg at hb; omega))) (e11.fr hf ((n _).mpr (by omega))), hf.mono (fun b hb => by unfold x3 xrg at hb; unfold xrg; omega)⟩
/-- Vigil alone -/
theorem xCl.vi {S1 : xS} (h : xCl S x A) (hf : xfr S S1 (xrg (x + 68) 20)) (e10 : xVa S1 (x + 68)) : xCl S1 x A ∧ xfr S S1 (xrg x 89) := by
  obtain ⟨-, -, e2, -, -, -, e6, e7, e8, e9, -, e11⟩ := id h
  have n : ∀ b, ¬ xrg (x + 68) 20 b ↔ ¬ (x + 68 ≤ b ∧ b < x + 68 + 20) := fun b => Iff.rfl
  exact ⟨h.sc (hf.mono (fun b hb => Or.inr (by unfold xrg at hb; omega))) (e2.fr hf (fun b hb => (n b).mpr (by unfold x3 at hb; omega))) (e6.fr hf ((n _).mpr (by omega))) (e7.fr hf (fun b hb => (n b).mpr (by unfold xrg at hb; omega))) (e8.fr hf (fun b hb => (n b).mpr (by unfold x3 at hb; omega))) (e9.fr hf (fun b hb => (n b).mpr (by unfold xrg at hb; omega))) e10 (e11.fr hf ((n _).mpr (by omega))), hf.mono (fun b hb => ⟨by unfold xrg at hb; omega, by unfold xrg at hb; omega⟩)⟩
/-- Vigil and the writer -/
theorem xCl.wr {S1 : xS} (h : xCl S x A) (hf : xfr S S1 (fun b => b = x + 88)) (e11 : xWr S1 x) : xCl S1 x A ∧ xfr S S1 (xrg x 89) := by
  obtain ⟨-, -, e2, -, -, -, e6, e7, e8, e9, e10, -⟩ := id h
  exact ⟨h.sc (hf.mono (fun b hb => Or.inr (by omega))) (e2.fr hf (fun b hb => by unfold x3 at hb; omega)) (e6.fr hf (by omega)) (e7.fr hf (fun b hb => by unfold xrg at hb; omega)) (e8.fr hf (fun b hb => by unfold x3 at hb; omega)) (e9.fr hf (fun b hb => by unfold xrg at hb; omega)) (e10.fr hf (fun b hb => by unfold xrg at hb; omega)) e11, hf.mono (fun b hb => ⟨by omega, by omega⟩)⟩
/-! what is told of the arguments -/
theorem d_isTime {p q : Int} (p1 : -2147483648 ≤ p) (p2 : p < 2147483648) (q1 : -2147483648 ≤ q) (q2 : q < 2147483648) : xcI P m_X10_isTime [.int (iI p), .int (iI q)] S = some (iI (if 0 ≤ p ∧ p ≤ 9999 ∧ 1 ≤ q ∧ q ≤ 999 then 1 else 0), S) := by
  refine xcI_of ((e_X10_isTime_0 P (iI p) (iI q) S).trans ?_)
  simp (disch := omega) only [iI_0, iI_lt]
  repeat' split
  all_goals first | rfl | (exfalso; omega)
theorem d_isSpeed {v : Int} (v1 : -2147483648 ≤ v) (v2 : v < 2147483648) : xcI P m_X10_isSpeed [.int (iI v)] S = some (iI (if 0 ≤ v ∧ v ≤ 40 then 1 else 0), S) := by
  refine xcI_of ((e_X10_isSpeed_0 P (iI v) S).trans ?_)
  simp (disch := omega) only [iI_0, iI_lt, iI_le]
  repeat' split
  all_goals first | rfl | (exfalso; omega)
theorem d_isStart {v : Int} (v1 : -2147483648 ≤ v) (v2 : v < 2147483648) : xcI P m_X10_isStart [.int (iI v)] S = some (iI (if 0 ≤ v ∧ v ≤ 11 then 1 else 0), S) := by
  refine xcI_of ((e_X10_isStart_0 P (iI v) S).trans ?_)
  simp (disch := omega) only [iI_0, iI_lt, iI_le]
  repeat' split
  all_goals first | rfl | (exfalso; omega)
theorem d_isMark {v : Int} (v1 : -2147483648 ≤ v) (v2 : v < 2147483648) : xcI P m_X10_isMark [.int (iI v)] S = some (iI (if 0 ≤ v ∧ v ≤ 2 then 1 else 0), S) := by
  refine xcI_of ((e_X10_isMark_0 P (iI v) S).trans ?_)
  simp (disch := omega) only [iI_0, iI_lt, iI_le]
  repeat' split
  all_goals first | rfl | (exfalso; omega)
theorem d_isGrid {v : Int} (v1 : -2147483648 ≤ v) (v2 : v < 2147483648) : xcI P m_X10_isGrid [.int (iI v)] S = some (iI (if 1 ≤ v ∧ v ≤ 999 then 1 else 0), S) := by
  refine xcI_of ((e_X10_isGrid_0 P (iI v) S).trans ?_)
  simp (disch := omega) only [iI_0, iI_lt, iI_le]
  repeat' split
  all_goals first | rfl | (exfalso; omega)
theorem d_isBestPart {v : Int} (v1 : -2147483648 ≤ v) (v2 : v < 2147483648) : xcI P m_X10_isBestPart [.int (iI v)] S = some (iI (if 0 ≤ v ∧ v ≤ 3 then 1 else 0), S) := by
  refine xcI_of ((e_X10_isBestPart_0 P (iI v) S).trans ?_)
  simp (disch := omega) only [iI_0, iI_lt, iI_le]
  repeat' split
  all_goals first | rfl | (exfalso; omega)
end CL
