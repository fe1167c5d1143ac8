-- deps: 32.world
/-! the reference as it lies there, all of it -/
def xIr (S : xS) (a n : Nat) : Prop := ∃ f, S.1 a = some (.inr (0, (n, .inl f)))
def xJr (S : xS) (a n : Nat) : Prop := ∃ f, S.1 a = some (.inr (1, (n, .inr (.inl f))))
theorem xIr.fr {S S1 : xS} {a n : Nat} {B : Nat → Prop} (h : xIr S a n) (hf : xfr S S1 B) (h0 : ¬ B a) : xIr S1 a n := by
  obtain ⟨f, e⟩ := h
  exact ⟨f, (hf.2 _ h0).trans e⟩
theorem xJr.fr {S S1 : xS} {a n : Nat} {B : Nat → Prop} (h : xJr S a n) (hf : xfr S S1 B) (h0 : ¬ B a) : xJr S1 a n := by
  obtain ⟨f, e⟩ := h
  exact ⟨f, (hf.2 _ h0).trans e⟩
/-- the earlier rows: the oldest first -/
def xBf (S : xS) (a : Nat) (hs : List xF) : Prop := hs.length ≤ 12 ∧ ∃ f, S.1 a = some (.inr (0, (156, .inl f))) ∧ ∀ i (hi : i < hs.length), xFok hs[i] ∧ ∀ k, k < 13 → f (13 * (hs.length - 1 - i) + k) = iI (xrw hs[i] k)
theorem xBf.fr {S S1 : xS} {a : Nat} {hs : List xF} {B : Nat → Prop} (h : xBf S a hs) (hf : xfr S S1 B) (h0 : ¬ B a) : xBf S1 a hs := by
  obtain ⟨h1, f, e, h2⟩ := h
  exact ⟨h1, f, (hf.2 _ h0).trans e, h2⟩
/-- the marks' rows -/
def xMm (S : xS) (a : Nat) (mk : Nat → Option xF) : Prop := (∃ f, S.1 a = some (.inr (0, (39, .inl f))) ∧ ∀ j, j < 3 → ∀ G, mk j = some G → xFok G ∧ ∀ k, k < 13 → f (13 * j + k) = iI (xrw G k)) ∧ ∃ f, S.1 (a + 1) = some (.inr (2, (3, .inl f))) ∧ ∀ j, j < 3 → f j = iI (if (mk j).isSome then 1 else 0)
theorem xMm.fr {S S1 : xS} {a : Nat} {mk : Nat → Option xF} {B : Nat → Prop} (h : xMm S a mk) (hf : xfr S S1 B) (h0 : ¬ B a) (h1 : ¬ B (a + 1)) : xMm S1 a mk := by
  obtain ⟨⟨f, e1, e2⟩, g, e3, e4⟩ := h
  exact ⟨⟨f, (hf.2 _ h0).trans e1, e2⟩, g, (hf.2 _ h1).trans e3, e4⟩
/-- the tape -/
def xMt (S : xS) (a n : Nat) (b : Nat → Int32) : Prop := n ≤ 200 ∧ ∃ f, S.1 a = some (.inr (0, (200, .inl f))) ∧ ∀ i, i < n → f i = b i
theorem xMt.fr {S S1 : xS} {a n : Nat} {b : Nat → Int32} {B : Nat → Prop} (h : xMt S a n b) (hf : xfr S S1 B) (h0 : ¬ B a) : xMt S1 a n b := by
  obtain ⟨h1, f, e, h2⟩ := h
  exact ⟨h1, f, (hf.2 _ h0).trans e, h2⟩
/-- the words of a text -/
def xwds : List Int := [114, 117, 110, 0, 102, 114, 111, 109, 0, 98, 121, 0, 116, 111, 0, 104, 111, 117, 114, 115, 0, 97, 116, 0]
def xMw (S : xS) (a : Nat) : Prop := ∃ f, S.1 a = some (.inr (3, (24, .inl f))) ∧ ∀ i, i < 24 → f i = iI (xwds.getD i 0)
theorem xMw.fr {S S1 : xS} {a : Nat} {B : Nat → Prop} (h : xMw S a) (hf : xfr S S1 B) (h0 : ¬ B a) : xMw S1 a := by
  obtain ⟨f, e, h2⟩ := h
  exact ⟨f, (hf.2 _ h0).trans e, h2⟩
/-- the scratch rows -/
def xMs (S : xS) (m : Nat) : Prop := xIr S (m + 2) 13 ∧ xIr S (m + 3) 13 ∧ xIr S (m + 7) 6 ∧ xJr S (m + 8) 1300 ∧ xJr S (m + 9) 1300 ∧ xJr S (m + 10) 1300 ∧ xJr S (m + 11) 1300 ∧ xJr S (m + 12) 1300 ∧ xJr S (m + 13) 1300 ∧ xJr S (m + 14) 6 ∧ xJr S (m + 15) 6 ∧ xIr S (m + 16) 16000
def xMl (S : xS) (m : Nat) (A : xAb) : Prop := ∃ ob, xMo S m ob ∧ ob 5 = .int (iI A.2.1.length) ∧ ob 28 = .int (iI A.2.2.2.1) ∧ xRo S (m + 1) A.1 ∧ xBf S (m + 4) A.2.1 ∧ xMm S (m + 5) A.2.2.1 ∧ xMt S (m + 17) A.2.2.2.1 (xbm A.2.2.2.2) ∧ xMw S (m + 18) ∧ xMs S m
section ML
variable {S : xS} {m : Nat} {A : xAb}
theorem xMs.fr {S1 : xS} {B : Nat → Prop} (h : xMs S m) (hf : xfr S S1 B) (h0 : ∀ d, d = 2 ∨ d = 3 ∨ (7 ≤ d ∧ d ≤ 16) → ¬ B (m + d)) : xMs S1 m := by
  obtain ⟨e1, e2, e3, e4, e5, e6, e7, e8, e9, e10, e11, e12⟩ := h
  exact ⟨e1.fr hf (h0 2 (by omega)), e2.fr hf (h0 3 (by omega)), e3.fr hf (h0 7 (by omega)), e4.fr hf (h0 8 (by omega)), e5.fr hf (h0 9 (by omega)), e6.fr hf (h0 10 (by omega)), e7.fr hf (h0 11 (by omega)), e8.fr hf (h0 12 (by omega)), e9.fr hf (h0 13 (by omega)), e10.fr hf (h0 14 (by omega)), e11.fr hf (h0 15 (by omega)), e12.fr hf (h0 16 (by omega))⟩
theorem xMl.fr {S1 : xS} {B : Nat → Prop} (h : xMl S m A) (hf : xfr S S1 B) (h0 : ∀ b, xrg m 19 b → ¬ B b) : xMl S1 m A := by
  obtain ⟨ob, e0, e1, e2, e3, e4, e5, e6, e7, e8⟩ := h
  have k : ∀ d, d < 19 → ¬ B (m + d) := fun d hd => h0 _ ⟨by omega, by omega⟩
  exact ⟨ob, e0.fr hf (k 0 (by omega)), e1, e2, e3.fr hf (k 1 (by omega)), e4.fr hf (k 4 (by omega)), e5.fr hf (k 5 (by omega)) (k 6 (by omega)), e6.fr hf (k 17 (by omega)), e7.fr hf (k 18 (by omega)), e8.fr hf (fun d hd => k d (by omega))⟩
/-- the reference's scratch: fields and cells -/
def xmc (m : Nat) : Nat → Prop := fun b => b = m ∨ b = m + 2 ∨ b = m + 3 ∨ (m + 7 ≤ b ∧ b ≤ m + 16)
theorem xMl.sc {S1 : xS} {ob ob1 : Nat → Value} (e0 : xMo S m ob) (e1 : ob 5 = .int (iI A.2.1.length)) (e2 : ob 28 = .int (iI A.2.2.2.1)) (e3 : xRo S (m + 1) A.1) (e4 : xBf S (m + 4) A.2.1) (e5 : xMm S (m + 5) A.2.2.1) (e6 : xMt S (m + 17) A.2.2.2.1 (xbm A.2.2.2.2)) (e7 : xMw S (m + 18)) (hf : xfr S S1 (xmc m)) (f0 : xMo S1 m ob1) (f1 : ob1 5 = ob 5) (f2 : ob1 28 = ob 28) (f3 : xMs S1 m) : xMl S1 m A ∧ xfr S S1 (xrg m 19) := by
  have k : ∀ d, d = 1 ∨ d = 4 ∨ d = 5 ∨ d = 6 ∨ d = 17 ∨ d = 18 → ¬ xmc m (m + d) := fun d hd h => by unfold xmc at h; omega
  exact ⟨⟨ob1, f0, f1.trans e1, f2.trans e2, e3.fr hf (k 1 (by omega)), e4.fr hf (k 4 (by omega)), e5.fr hf (k 5 (by omega)) (k 6 (by omega)), e6.fr hf (k 17 (by omega)), e7.fr hf (k 18 (by omega)), f3⟩, hf.mono (fun b hb => by unfold xmc at hb; exact ⟨by omega, by omega⟩)⟩
end ML
/-! a call of the class, of the reference: its answer, what it stands for behind it -/
def xKI (P : Nat → Nat) (S : xS) (x : Nat) (f : Nat) (as : List Value) (v : Int32) (A : xAb) : Prop := ∃ S1, xcI P f (.ref x :: as) S = some (v, S1) ∧ xCl S1 x A ∧ xfr S S1 (xrg x 89)
def xKJ (P : Nat → Nat) (S : xS) (x : Nat) (f : Nat) (as : List Value) (v : Int64) (A : xAb) : Prop := ∃ S1, xcJ P f (.ref x :: as) S = some (v, S1) ∧ xCl S1 x A ∧ xfr S S1 (xrg x 89)
def xGI (P : Nat → Nat) (S : xS) (m : Nat) (f : Nat) (as : List Value) (v : Int32) (A : xAb) : Prop := ∃ S1, xcI P f (.ref m :: as) S = some (v, S1) ∧ xMl S1 m A ∧ xfr S S1 (xrg m 19)
def xGJ (P : Nat → Nat) (S : xS) (m : Nat) (f : Nat) (as : List Value) (v : Int64) (A : xAb) : Prop := ∃ S1, xcJ P f (.ref m :: as) S = some (v, S1) ∧ xMl S1 m A ∧ xfr S S1 (xrg m 19)
theorem t_10 : (iI 1 = 0) = False := by decide +kernel
theorem t_00 : (iI 0 = 0) = True := by decide +kernel
theorem t_11 : (iI 1 = iI 1) = True := by simp
theorem t_nz {a : Int} (h1 : -2147483648 ≤ a) (h2 : a < 2147483648) (h : a ≠ 0) : (iI a = 0) = False := by
  rw [iI_0, iI_eq h1 h2 (by omega) (by omega)]; simp [h]
theorem xb_01 (t : Bool) : iI (xb t) = if t then iI 1 else iI 0 := by cases t <;> rfl
/-- bits -/
def xbt (p : Nat → Bool) : Nat → Int32
  | 0 => iI 0
  | n + 1 => if p n then xbt p n ||| (iI 1 <<< (iI n &&& 31)) else xbt p n
theorem xbt_congr {p q : Nat → Bool} : ∀ n, (∀ r, r < n → p r = q r) → xbt p n = xbt q n := by
  intro n
  induction n with
  | zero => intro _; rfl
  | succ n ih =>
    intro h
    simp only [xbt]
    rw [ih (fun r hr => h r (by omega)), h n (by omega)]
theorem xct_congr {p q : Nat → Bool} : ∀ n, (∀ r, r < n → p r = q r) → xct p n = xct q n := by
  intro n
  induction n with
  | zero => intro _; rfl
  | succ n ih =>
    intro h
    simp only [xct]
    rw [ih (fun r hr => h r (by omega)), h n (by omega)]
