-- deps: 75.report
/-! reading: what a text says -/
/-- the byte at a place, -1 behind the last -/
def xgv (n : Nat) (b : Nat → Int32) (i : Nat) : Int := if i < n then (b i).toInt else -1
abbrev cB (z : Int) : Prop := z = 32 ∨ z = 10
abbrev cL (z : Int) : Prop := 97 ≤ z ∧ z ≤ 122
abbrev cD (z : Int) : Prop := 48 ≤ z ∧ z ≤ 57
/-- from i on to j -/
def xuo (c : Int → Prop) (g : Nat → Int) (i j : Nat) : Prop := i ≤ j ∧ (∀ k, i ≤ k → k < j → c (g k)) ∧ ¬ c (g j)
def xwrd (l : List Int) (g : Nat → Int) (a : Nat) : Prop := (∀ k, k < l.length → g (a + k) = l.getD k 0) ∧ ¬ cL (g (a + l.length))
/-- the number of the first two digits -/
def xvl (g : Nat → Int) (a d : Nat) : Int := if d = 0 then 0 else if d = 1 then g a - 48 else 10 * (g a - 48) + (g (a + 1) - 48)
def xnum (g : Nat → Int) (most : Int) (a a1 d : Nat) : Prop := a < a1 ∧ 1 ≤ d ∧ d ≤ 2 ∧ xvl g a1 d ≤ most
/-- the end of a run -/
def xEd (g : Nat → Int) (e : Nat) (v s : Int) (out : Nat ⊕ (Nat × Int × Int)) : Prop := (g e ≠ 59 ∧ out = .inl e) ∨ (g e = 59 ∧ out = .inr (e + 1, v, s))
def xSt (g : Nat → Int) (a3 : Nat) (v : Int) (out : Nat ⊕ (Nat × Int × Int)) : Prop := ∃ a4 d4, xuo cB g (a3 + 4) a4 ∧ xuo cD g a4 (a4 + d4) ∧ ((¬ xnum g 11 (a3 + 4) a4 d4 ∧ out = .inl a4) ∨ (xnum g 11 (a3 + 4) a4 d4 ∧ ∃ e, xuo cB g (a4 + d4) e ∧ xEd g e v (xvl g a4 d4) out))
def xFr (g : Nat → Int) (a2 : Nat) (v : Int) (out : Nat ⊕ (Nat × Int × Int)) : Prop := ∃ a3, xuo cB g a2 a3 ∧ ((cL (g a3) ∧ ¬ (a2 < a3 ∧ xwrd [102, 114, 111, 109] g a3) ∧ out = .inl a3) ∨ (cL (g a3) ∧ (a2 < a3 ∧ xwrd [102, 114, 111, 109] g a3) ∧ xSt g a3 v out) ∨ (¬ cL (g a3) ∧ xEd g a3 v 0 out))
/-- one run, from a on, so many read before -/
def xRn (g : Nat → Int) (a k : Nat) (out : Nat ⊕ (Nat × Int × Int)) : Prop := (¬ (xwrd [114, 117, 110] g a ∧ k < 6) ∧ out = .inl a) ∨ ((xwrd [114, 117, 110] g a ∧ k < 6) ∧ ∃ a1 d, xuo cB g (a + 3) a1 ∧ xuo cD g a1 (a1 + d) ∧ ((¬ xnum g 40 (a + 3) a1 d ∧ out = .inl a1) ∨ (xnum g 40 (a + 3) a1 d ∧ xFr g (a1 + d) (xvl g a1 d) out)))
section RD
variable {g : Nat → Int} {n : Nat}
/-- bytes alone, so many of them -/
def xGv (n : Nat) (g : Nat → Int) : Prop := ∀ i, (i < n → 0 ≤ g i ∧ g i ≤ 255) ∧ (n ≤ i → g i = -1)
theorem x_and255 (y : Int32) : 0 ≤ (y &&& iI 255).toInt ∧ (y &&& iI 255).toInt ≤ 255 := by
  have h1 : (y &&& iI 255).toBitVec.toNat ≤ 255 := by
    rw [Int32.toBitVec_and, BitVec.toNat_and]
    exact Nat.and_le_right
  have h2 : (y &&& iI 255).toInt = ((y &&& iI 255).toBitVec.toNat : Int) := by
    show (y &&& iI 255).toBitVec.toInt = _
    rw [BitVec.toInt_eq_toNat_of_lt (by omega)]
  omega
theorem xGv_of (n : Nat) (b : Nat → Int32) : xGv n (xgv n (xbm b)) := by
  intro i
  constructor
  · intro h
    unfold xgv xbm
    rw [if_pos h]
    exact x_and255 _
  · intro h
    unfold xgv
    rw [if_neg (by omega)]
theorem xGv.le (h : xGv n g) {i : Nat} (hi : g i ≠ -1) : i < n := by
  by_cases c : i < n
  · exact c
  · exact absurd ((h i).2 (by omega)) hi
theorem xGv.bd (h : xGv n g) (i : Nat) : -1 ≤ g i ∧ g i ≤ 255 := by
  have := h i
  by_cases c : i < n
  · have := this.1 c; omega
  · have := this.2 (by omega); omega
theorem xuo_ex (h : xGv n g) {c : Int → Prop} (hc : ¬ c (-1)) : ∀ (f i : Nat), i + f = n → ∃ j, xuo c g i j ∧ j ≤ n := by
  intro f
  induction f with
  | zero =>
    intro i hi
    exact ⟨i, ⟨Nat.le_refl _, fun k h1 h2 => by omega, by rw [(h i).2 (by omega)]; exact hc⟩, by omega⟩
  | succ f ih =>
    intro i hi
    by_cases d : c (g i)
    · obtain ⟨j, ⟨h1, h2, h3⟩, h4⟩ := ih (i + 1) (by omega)
      refine ⟨j, ⟨by omega, fun k k1 k2 => ?_, h3⟩, h4⟩
      by_cases e : k = i
      · rw [e]; exact d
      · exact h2 k (by omega) k2
    · exact ⟨i, ⟨Nat.le_refl _, fun k h1 h2 => by omega, d⟩, by omega⟩
theorem xuo_at (h : xGv n g) {c : Int → Prop} (hc : ¬ c (-1)) {i : Nat} (hi : i ≤ n) : ∃ j, xuo c g i j ∧ j ≤ n := xuo_ex h hc (n - i) i (by omega)
theorem xuo.uq {c : Int → Prop} {i j k : Nat} (h1 : xuo c g i j) (h2 : xuo c g i k) : j = k := by
  by_cases a : j < k
  · exact absurd (h2.2.1 j h1.1 a) h1.2.2
  · by_cases b : k < j
    · exact absurd (h1.2.1 k h2.1 b) h2.2.2
    · omega
theorem xuo.le (h : xGv n g) {c : Int → Prop} (hc : ¬ c (-1)) {i j : Nat} (hi : i ≤ n) (hx : xuo c g i j) : j ≤ n := by
  obtain ⟨k, h1, h2⟩ := xuo_at h hc hi
  rw [hx.uq h1]; exact h2
theorem nB : ¬ cB (-1) := by decide
theorem nL : ¬ cL (-1) := by decide
theorem nD : ¬ cD (-1) := by decide
theorem xwrd.le (h : xGv n g) {l : List Int} {a : Nat} (hw : xwrd l g a) (h0 : 0 < l.length) (hl : ∀ k, k < l.length → 0 ≤ l.getD k 0) : a + l.length ≤ n := by
  have := hw.1 (l.length - 1) (by omega)
  have b := hl (l.length - 1) (by omega)
  have := h.le (i := a + (l.length - 1)) (by omega)
  omega
theorem xEd_ex (g : Nat → Int) (e : Nat) (v s : Int) : ∃ out, xEd g e v s out := by
  by_cases c : g e = 59
  · exact ⟨_, Or.inr ⟨c, rfl⟩⟩
  · exact ⟨_, Or.inl ⟨c, rfl⟩⟩
theorem xRn_ex (h : xGv n g) (a k : Nat) : ∃ out, xRn g a k out := by
  by_cases c : xwrd [114, 117, 110] g a ∧ k < 6
  · have h1 := xwrd.le h c.1 (by decide) (by decide)
    obtain ⟨a1, x1, y1⟩ := xuo_at h nB (show a + 3 ≤ n from h1)
    obtain ⟨a2, x2, y2⟩ := xuo_at h nD y1
    obtain ⟨d, rfl⟩ : ∃ d, a2 = a1 + d := ⟨a2 - a1, by have := x2.1; omega⟩
    by_cases c1 : xnum g 40 (a + 3) a1 d
    · obtain ⟨a3, x3, y3⟩ := xuo_at h nB y2
      have fr : ∃ out, xFr g (a1 + d) (xvl g a1 d) out := by
        by_cases c2 : cL (g a3)
        · by_cases c3 : a1 + d < a3 ∧ xwrd [102, 114, 111, 109] g a3
          · have h4 := xwrd.le h c3.2 (by decide) (by decide)
            obtain ⟨a4, x4, y4⟩ := xuo_at h nB (show a3 + 4 ≤ n from h4)
            obtain ⟨a5, x5, y5⟩ := xuo_at h nD y4
            obtain ⟨d4, rfl⟩ : ∃ d, a5 = a4 + d := ⟨a5 - a4, by have := x5.1; omega⟩
            by_cases c4 : xnum g 11 (a3 + 4) a4 d4
            · obtain ⟨e, x6, y6⟩ := xuo_at h nB y5
              obtain ⟨out, ho⟩ := xEd_ex g e (xvl g a1 d) (xvl g a4 d4)
              exact ⟨out, a3, x3, Or.inr (Or.inl ⟨c2, c3, a4, d4, x4, x5, Or.inr ⟨c4, e, x6, ho⟩⟩)⟩
            · exact ⟨_, a3, x3, Or.inr (Or.inl ⟨c2, c3, a4, d4, x4, x5, Or.inl ⟨c4, rfl⟩⟩)⟩
          · exact ⟨_, a3, x3, Or.inl ⟨c2, c3, rfl⟩⟩
        · obtain ⟨out, ho⟩ := xEd_ex g a3 (xvl g a1 d) 0
          exact ⟨out, a3, x3, Or.inr (Or.inr ⟨c2, ho⟩)⟩
      obtain ⟨out, ho⟩ := fr
      exact ⟨out, Or.inr ⟨c, a1, d, x1, x2, Or.inr ⟨c1, ho⟩⟩⟩
    · exact ⟨_, Or.inr ⟨c, a1, d, x1, x2, Or.inl ⟨c1, rfl⟩⟩⟩
  · exact ⟨_, Or.inl ⟨c, rfl⟩⟩
/-- what a number says is not below 0 -/
theorem xvl_bd {a1 d : Nat} (h : xuo cD g a1 (a1 + d)) : 0 ≤ xvl g a1 d ∧ xvl g a1 d ≤ 99 := by
  unfold xvl
  by_cases c : d = 0
  · rw [if_pos c]; omega
  · rw [if_neg c]
    have h0 := h.2.1 a1 (Nat.le_refl _) (by omega)
    by_cases c1 : d = 1
    · rw [if_pos c1]; omega
    · rw [if_neg c1]
      have h1 := h.2.1 (a1 + 1) (by omega) (by omega)
      omega
/-- what comes of a run that can be read -/
theorem xRn.ok (h : xGv n g) {a k p : Nat} {v s : Int} (hr : xRn g a k (.inr (p, v, s))) : 0 ≤ v ∧ v ≤ 40 ∧ 0 ≤ s ∧ s ≤ 11 ∧ a < p ∧ p ≤ n ∧ k < 6 := by
  have ed : ∀ {e : Nat} {v' s' : Int}, xEd g e v' s' (.inr (p, v, s)) → v = v' ∧ s = s' ∧ p = e + 1 ∧ e < n := by
    intro e v' s' hE
    rcases hE with ⟨-, q⟩ | ⟨q1, q⟩
    · cases q
    · cases q
      exact ⟨rfl, rfl, rfl, h.le (by omega)⟩
  rcases hr with ⟨-, q⟩ | ⟨c, a1, d, x1, x2, ⟨-, q⟩ | ⟨c1, a3, x3, ⟨-, -, q⟩ | ⟨c2, c3, a4, d4, x4, x5, ⟨-, q⟩ | ⟨c4, e, x6, q⟩⟩ | ⟨-, q⟩⟩⟩
  · cases q
  · cases q
  · cases q
  · cases q
  · obtain ⟨rfl, rfl, rfl, q4⟩ := ed q
    have b1 := xvl_bd x2
    have b2 := xvl_bd x5
    have := x1.1
    have := x2.1
    have := x3.1
    have := x4.1
    have := x5.1
    have := x6.1
    exact ⟨b1.1, c1.2.2.2, b2.1, c4.2.2.2, by omega, by omega, c.2⟩
  · obtain ⟨rfl, rfl, rfl, q4⟩ := ed q
    have b1 := xvl_bd x2
    have := x1.1
    have := x2.1
    have := x3.1
    exact ⟨b1.1, c1.2.2.2, by omega, by omega, by omega, by omega, c.2⟩
end RD
