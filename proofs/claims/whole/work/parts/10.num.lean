-- deps: 08.lim
/-! ints and longs as whole numbers -/
theorem iI_toInt {z : Int} (h1 : -2147483648 ≤ z) (h2 : z < 2147483648) : (iI z).toInt = z := Int32.toInt_ofInt_of_le h1 h2
theorem jI_toInt {z : Int} (h1 : -9223372036854775808 ≤ z) (h2 : z < 9223372036854775808) : (jI z).toInt = z := Int64.toInt_ofInt_of_le h1 h2
theorem iI_of (x : Int32) : ∃ z : Int, x = iI z ∧ -2147483648 ≤ z ∧ z < 2147483648 := ⟨x.toInt, (Int32.ofInt_toInt x).symm, Int32.le_toInt x, Int32.toInt_lt x⟩
theorem jI_of (x : Int64) : ∃ z : Int, x = jI z ∧ -9223372036854775808 ≤ z ∧ z < 9223372036854775808 := ⟨x.toInt, (Int64.ofInt_toInt x).symm, Int64.le_toInt x, Int64.toInt_lt x⟩
theorem iI_0 : (0 : Int32) = iI 0 := by decide +kernel
theorem jI_0 : (0 : Int64) = jI 0 := by decide +kernel
theorem iI_add (a b : Int) : iI a + iI b = iI (a + b) := (Int32.ofInt_add a b).symm
theorem iI_sub (a b : Int) : iI a - iI b = iI (a - b) := (Int32.ofInt_sub a b).symm
theorem iI_mul (a b : Int) : iI a * iI b = iI (a * b) := (Int32.ofInt_mul a b).symm
theorem iI_neg (a : Int) : -iI a = iI (-a) := (Int32.ofInt_neg a).symm
theorem jI_add (a b : Int) : jI a + jI b = jI (a + b) := (Int64.ofInt_add a b).symm
theorem jI_sub (a b : Int) : jI a - jI b = jI (a - b) := (Int64.ofInt_sub a b).symm
theorem jI_mul (a b : Int) : jI a * jI b = jI (a * b) := (Int64.ofInt_mul a b).symm
theorem jI_neg (a : Int) : -jI a = jI (-a) := (Int64.ofInt_neg a).symm
theorem iI_lt {a b : Int} (a1 : -2147483648 ≤ a) (a2 : a < 2147483648) (b1 : -2147483648 ≤ b) (b2 : b < 2147483648) : iI a < iI b ↔ a < b := by rw [Int32.lt_iff_toInt_lt, iI_toInt a1 a2, iI_toInt b1 b2]
theorem iI_le {a b : Int} (a1 : -2147483648 ≤ a) (a2 : a < 2147483648) (b1 : -2147483648 ≤ b) (b2 : b < 2147483648) : iI a ≤ iI b ↔ a ≤ b := by rw [Int32.le_iff_toInt_le, iI_toInt a1 a2, iI_toInt b1 b2]
theorem iI_eq {a b : Int} (a1 : -2147483648 ≤ a) (a2 : a < 2147483648) (b1 : -2147483648 ≤ b) (b2 : b < 2147483648) : iI a = iI b ↔ a = b := by rw [← Int32.toInt_inj, iI_toInt a1 a2, iI_toInt b1 b2]
theorem jI_lt {a b : Int} (a1 : -9223372036854775808 ≤ a) (a2 : a < 9223372036854775808) (b1 : -9223372036854775808 ≤ b) (b2 : b < 9223372036854775808) : jI a < jI b ↔ a < b := by rw [Int64.lt_iff_toInt_lt, jI_toInt a1 a2, jI_toInt b1 b2]
theorem jI_le {a b : Int} (a1 : -9223372036854775808 ≤ a) (a2 : a < 9223372036854775808) (b1 : -9223372036854775808 ≤ b) (b2 : b < 9223372036854775808) : jI a ≤ jI b ↔ a ≤ b := by rw [Int64.le_iff_toInt_le, jI_toInt a1 a2, jI_toInt b1 b2]
theorem jI_eq {a b : Int} (a1 : -9223372036854775808 ≤ a) (a2 : a < 9223372036854775808) (b1 : -9223372036854775808 ≤ b) (b2 : b < 9223372036854775808) : jI a = jI b ↔ a = b := by rw [← Int64.toInt_inj, jI_toInt a1 a2, jI_toInt b1 b2]
theorem iI_ji {z : Int} (h1 : -2147483648 ≤ z) (h2 : z < 2147483648) : (iI z).toInt64 = jI z := Int32.toInt64_ofInt (by show -2147483648 ≤ z; exact h1) (by show z ≤ 2147483647; omega)
theorem jI_ij (z : Int) : (jI z).toInt32 = iI z := Int64.toInt32_ofInt
theorem iI_clamp {z : Int} (h1 : 0 ≤ z) (h2 : z < 2147483648) : (iI z).toNatClampNeg = z.toNat := by
  show (iI z).toInt.toNat = z.toNat
  rw [iI_toInt (by omega) h2]
theorem iI_div {a b : Int} (a1 : 0 ≤ a) (a2 : a < 2147483648) (b1 : 0 < b) (b2 : b < 2147483648) : iI a / iI b = iI (a / b) := by
  rw [← Int.tdiv_eq_ediv_of_nonneg a1]
  exact (Int32.ofInt_tdiv (by show -2147483648 ≤ a; omega) (by show a ≤ 2147483647; omega) (by show -2147483648 ≤ b; omega) (by show b ≤ 2147483647; omega)).symm
theorem iI_rem {a b : Int} (a1 : 0 ≤ a) (a2 : a < 2147483648) (b1 : 0 < b) (b2 : b < 2147483648) : iI a - iI a / iI b * iI b = iI (a % b) := by
  rw [iI_div a1 a2 b1 b2, iI_mul, iI_sub, Int.emod_def, Int.mul_comm]
theorem jI_div {a b : Int} (a1 : 0 ≤ a) (a2 : a < 9223372036854775808) (b1 : 0 < b) (b2 : b < 9223372036854775808) : jI a / jI b = jI (a / b) := by
  rw [← Int.tdiv_eq_ediv_of_nonneg a1]
  exact (Int64.ofInt_tdiv (by show -9223372036854775808 ≤ a; omega) (by show a ≤ 9223372036854775807; omega) (by show -9223372036854775808 ≤ b; omega) (by show b ≤ 9223372036854775807; omega)).symm
theorem jI_rem {a b : Int} (a1 : 0 ≤ a) (a2 : a < 9223372036854775808) (b1 : 0 < b) (b2 : b < 9223372036854775808) : jI a - jI a / jI b * jI b = jI (a % b) := by
  rw [jI_div a1 a2 b1 b2, jI_mul, jI_sub, Int.emod_def, Int.mul_comm]
theorem jI_cmp_lt {a b : Int} (a1 : -9223372036854775808 ≤ a) (a2 : a < 9223372036854775808) (b1 : -9223372036854775808 ≤ b) (b2 : b < 9223372036854775808) : lg_cmp (jI a) (jI b) = iI (if b < a then 1 else if a = b then 0 else -1) := by
  unfold lg_cmp
  simp only [gt_iff_lt, jI_lt b1 b2 a1 a2, jI_eq a1 a2 b1 b2]
  split
  · rfl
  · split <;> rfl
/-! the abstract heap: reads behind writes -/
theorem xob_some {α ρ : Type} (v : α) (bad : ρ) (f : α → ρ) : xob (some v) bad f = f v := rfl
theorem xob_none {α ρ : Type} (bad : ρ) (f : α → ρ) : xob none bad f = bad := rfl
theorem xpt_1 (S : xS) (a : Nat) (e : xC) (b : Nat) : (xpt S a e).1 b = if b = a then some e else S.1 b := rfl
theorem xpt_2 (S : xS) (a : Nat) (e : xC) : (xpt S a e).2 = S.2 := rfl
theorem xrdI_at {S : xS} {a n : Nat} {f : Nat → Int32} {i : Int} (h : S.1 a = some (.inr (0, (n, .inl f)))) (h0 : 0 ≤ i) (h1 : i < n) (h2 : n < 2147483648) : xrdI S a (iI i) = some (f i.toNat) := by
  unfold xrdI
  rw [h]
  have e : (iI i).toNatClampNeg = i.toNat := iI_clamp h0 (by omega)
  have e2 : ¬ (iI i < 0 ∨ n ≤ (iI i).toNatClampNeg) := by
    rw [e, iI_0, iI_lt (by omega) (by omega) (by omega) (by omega)]; omega
  dsimp only
  rw [if_pos ⟨Or.inl rfl, e2⟩, e]
theorem xrdI_at6 {S : xS} {a n : Nat} {f : Nat → Int32} {i : Int} (h : S.1 a = some (.inr (6, (n, .inl f)))) (h0 : 0 ≤ i) (h1 : i < n) (h2 : n < 2147483648) : xrdI S a (iI i) = some (f i.toNat) := by
  unfold xrdI
  rw [h]
  have e : (iI i).toNatClampNeg = i.toNat := iI_clamp h0 (by omega)
  have e2 : ¬ (iI i < 0 ∨ n ≤ (iI i).toNatClampNeg) := by
    rw [e, iI_0, iI_lt (by omega) (by omega) (by omega) (by omega)]; omega
  dsimp only
  rw [if_pos ⟨Or.inr rfl, e2⟩, e]
theorem xrdJ_at {S : xS} {a n : Nat} {f : Nat → Int64} {i : Int} (h : S.1 a = some (.inr (1, (n, .inr (.inl f))))) (h0 : 0 ≤ i) (h1 : i < n) (h2 : n < 2147483648) : xrdJ S a (iI i) = some (f i.toNat) := by
  unfold xrdJ
  rw [h]
  have e : (iI i).toNatClampNeg = i.toNat := iI_clamp h0 (by omega)
  have e2 : ¬ (iI i < 0 ∨ n ≤ (iI i).toNatClampNeg) := by
    rw [e, iI_0, iI_lt (by omega) (by omega) (by omega) (by omega)]; omega
  dsimp only
  rw [if_pos ⟨rfl, e2⟩, e]
theorem xrdR_at {S : xS} {a n : Nat} {f : Nat → Option Nat} {i : Int} (h : S.1 a = some (.inr (4, (n, .inr (.inr (.inr (.inr f))))))) (h0 : 0 ≤ i) (h1 : i < n) (h2 : n < 2147483648) : xrdR S a (iI i) = f i.toNat := by
  unfold xrdR
  rw [h]
  have e : (iI i).toNatClampNeg = i.toNat := iI_clamp h0 (by omega)
  have e2 : ¬ (iI i < 0 ∨ n ≤ (iI i).toNatClampNeg) := by
    rw [e, iI_0, iI_lt (by omega) (by omega) (by omega) (by omega)]; omega
  dsimp only
  rw [if_pos ⟨rfl, e2⟩, e]
theorem xwrI_at {S : xS} {a n : Nat} {f : Nat → Int32} {i : Int} {v : Int32} (h : S.1 a = some (.inr (0, (n, .inl f)))) (h0 : 0 ≤ i) (h1 : i < n) (h2 : n < 2147483648) : xwrI S a (iI i) v = some (xpt S a (.inr (0, (n, .inl (va_up f i.toNat v))))) := by
  unfold xwrI
  rw [h]
  have e : (iI i).toNatClampNeg = i.toNat := iI_clamp h0 (by omega)
  have e2 : ¬ (iI i < 0 ∨ n ≤ (iI i).toNatClampNeg) := by
    rw [e, iI_0, iI_lt (by omega) (by omega) (by omega) (by omega)]; omega
  dsimp only
  rw [if_pos ⟨rfl, e2⟩, e]
theorem xwrJ_at {S : xS} {a n : Nat} {f : Nat → Int64} {i : Int} {v : Int64} (h : S.1 a = some (.inr (1, (n, .inr (.inl f))))) (h0 : 0 ≤ i) (h1 : i < n) (h2 : n < 2147483648) : xwrJ S a (iI i) v = some (xpt S a (.inr (1, (n, .inr (.inl (va_up f i.toNat v)))))) := by
  unfold xwrJ
  rw [h]
  have e : (iI i).toNatClampNeg = i.toNat := iI_clamp h0 (by omega)
  have e2 : ¬ (iI i < 0 ∨ n ≤ (iI i).toNatClampNeg) := by
    rw [e, iI_0, iI_lt (by omega) (by omega) (by omega) (by omega)]; omega
  dsimp only
  rw [if_pos ⟨rfl, e2⟩, e]
/-- a field of an object -/
theorem xfI_at {S : xS} {a ci k : Nat} {fs : List Value} {v : Int32} (h : S.1 a = some (.inl (ci, fs))) (hk : fs[k]? = some (.int v)) : xfI S a ci k = some v := by
  simp [xfI, xfd, h, hk]
theorem xfJ_at {S : xS} {a ci k : Nat} {fs : List Value} {v : Int64} (h : S.1 a = some (.inl (ci, fs))) (hk : fs[k]? = some (.long v)) : xfJ S a ci k = some v := by
  simp [xfJ, xfd, h, hk]
theorem xfR_at {S : xS} {a ci k : Nat} {fs : List Value} {v : Nat} (h : S.1 a = some (.inl (ci, fs))) (hk : fs[k]? = some (.ref v)) : xfR S a ci k = some v := by
  simp [xfR, xfd, h, hk]
theorem xpf_at {S : xS} {a ci k : Nat} {fs : List Value} {tag : Int} {v : Value} (h : S.1 a = some (.inl (ci, fs))) (hk : k < fs.length) (hf : xfit tag v = true) : xpf S a ci k tag v = some (xpt S a (.inl (ci, fs.set k v))) := by
  have e : Nat.blt k fs.length = true := by rw [Nat.blt_eq]; exact hk
  simp [xpf, h, hf, e]
theorem xisO_at {S : xS} {a ci : Nat} {fs : List Value} (h : S.1 a = some (.inl (ci, fs))) : xisO S a ci = true := by simp [xisO, h]
/-- a call, by a run from the entry -/
theorem xcI_of {P : Nat → Nat} {m : Nat} {a : List Value} {S S1 : xS} {v : Int32} (h : xrun P m 0 (lv_args 0 a) [] S = some (some (.int v), S1)) : xcI P m a S = some (v, S1) := by
  unfold xcI xcall; rw [h]
theorem xcJ_of {P : Nat → Nat} {m : Nat} {a : List Value} {S S1 : xS} {v : Int64} (h : xrun P m 0 (lv_args 0 a) [] S = some (some (.long v), S1)) : xcJ P m a S = some (v, S1) := by
  unfold xcJ xcall; rw [h]
theorem xcR_of {P : Nat → Nat} {m : Nat} {a : List Value} {S S1 : xS} {v : Nat} (h : xrun P m 0 (lv_args 0 a) [] S = some (some (.ref v), S1)) : xcR P m a S = some (v, S1) := by
  unfold xcR xcall; rw [h]
theorem xcV_of {P : Nat → Nat} {m : Nat} {a : List Value} {S S1 : xS} (h : xrun P m 0 (lv_args 0 a) [] S = some (none, S1)) : xcV P m a S = some S1 := by
  unfold xcV xcall; rw [h]
