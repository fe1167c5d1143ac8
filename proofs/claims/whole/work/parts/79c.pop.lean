-- deps: 79b.text
/-! how many bits are set -/
section PO
theorem b_and {d y m M : Nat} (hd : d < 256) (hm : m < 256) : (d + 256 * y) &&& (m + 256 * M) = (d &&& m) + 256 * (y &&& M) := by
  have hdm : d &&& m < 2 ^ 8 := Nat.and_lt_two_pow d hm
  have e1 : d + 256 * y = 2 ^ 8 * y + d := by omega
  have e2 : m + 256 * M = 2 ^ 8 * M + m := by omega
  have e3 : (d &&& m) + 256 * (y &&& M) = 2 ^ 8 * (y &&& M) + (d &&& m) := by omega
  rw [e1, e2, e3]
  apply Nat.eq_of_testBit_eq
  intro i
  rw [Nat.testBit_and, Nat.testBit_two_pow_mul_add _ (show d < 2 ^ 8 from hd), Nat.testBit_two_pow_mul_add _ (show m < 2 ^ 8 from hm), Nat.testBit_two_pow_mul_add _ hdm, Nat.testBit_and, Nat.testBit_and]
  split <;> rfl
theorem b_s1 : ∀ d : Nat, d < 256 → ∀ e : Nat, e < 2 → (d / 2 + 128 * e) &&& 85 = (d / 2) &&& 85 := by decide +kernel
theorem b_s2 : ∀ d : Nat, d < 256 → ∀ e : Nat, e < 4 → (d / 4 + 64 * e) &&& 51 = (d / 4) &&& 51 := by decide +kernel
theorem b_h1 {d y M : Nat} (hd : d < 256) : ((d + 256 * y) / 2) &&& (85 + 256 * M) = ((d / 2) &&& 85) + 256 * ((y / 2) &&& M) := by
  rw [show (d + 256 * y) / 2 = (d / 2 + 128 * (y % 2)) + 256 * (y / 2) by omega, b_and (by omega) (by decide), b_s1 d hd _ (by omega)]
theorem b_h2 {d y M : Nat} (hd : d < 256) : ((d + 256 * y) / 4) &&& (51 + 256 * M) = ((d / 4) &&& 51) + 256 * ((y / 4) &&& M) := by
  rw [show (d + 256 * y) / 4 = (d / 4 + 64 * (y % 4)) + 256 * (y / 4) by omega, b_and (by omega) (by decide), b_s2 d hd _ (by omega)]
theorem b_h3 {d y M : Nat} (hd : d ≤ 68) (hy : y % 16 ≤ 4) : ((d + 256 * y) + (d + 256 * y) / 16) &&& (15 + 256 * M) = ((d + d / 16) &&& 15) + 256 * ((y + y / 16) &&& M) := by
  rw [show (d + 256 * y) + (d + 256 * y) / 16 = (d + d / 16 + 16 * (y % 16)) + 256 * (y + y / 16) by omega, b_and (by omega) (by decide)]
  have h15 : ∀ z : Nat, z &&& 15 = z % 16 := fun z => Nat.and_two_pow_sub_one_eq_mod z 4
  rw [h15, h15, show (d + d / 16 + 16 * (y % 16)) % 16 = (d + d / 16) % 16 by omega]
def w1 (x : Nat) : Nat := x - ((x / 2) &&& 6148914691236517205)
def w2 (x : Nat) : Nat := (x &&& 3689348814741910323) + ((x / 4) &&& 3689348814741910323)
def w3 (x : Nat) : Nat := (x + x / 16) &&& 1085102592571150095
def v1 (d : Nat) : Nat := d - ((d / 2) &&& 85)
def v2 (d : Nat) : Nat := (d &&& 51) + ((d / 4) &&& 51)
def v3 (d : Nat) : Nat := (d + d / 16) &&& 15
def cmb (a b c d e f : Nat) : Nat := a + 256 * (b + 256 * (c + 256 * (d + 256 * (e + 256 * (f + 256 * 0)))))
theorem v1_bd : ∀ d : Nat, d < 256 → (d / 2) &&& 85 ≤ d ∧ v1 d < 256 := by decide +kernel
theorem v2_bd : ∀ d : Nat, d < 256 → v2 (v1 d) ≤ 68 ∧ v2 (v1 d) % 16 ≤ 4 := by decide +kernel
theorem v3_bd : ∀ d : Nat, d < 256 → v3 (v2 (v1 d)) ≤ 8 ∧ v3 (v2 (v1 d)) = xct (fun i => d.testBit i) 8 := by decide +kernel
theorem w1_cmb {a b c d e f : Nat} (ha : a < 256) (hb : b < 256) (hc : c < 256) (hd : d < 256) (he : e < 256) (hf : f < 256) : w1 (cmb a b c d e f) = cmb (v1 a) (v1 b) (v1 c) (v1 d) (v1 e) (v1 f) := by
  have m : 6148914691236517205 = 85 + 256 * (85 + 256 * (85 + 256 * (85 + 256 * (85 + 256 * (85 + 256 * 21845))))) := by decide
  unfold w1 cmb
  rw [m, b_h1 ha, b_h1 hb, b_h1 hc, b_h1 hd, b_h1 he, b_h1 hf]
  have z : (0 / 2) &&& 21845 = 0 := by decide
  rw [z]
  have := (v1_bd a ha).1
  have := (v1_bd b hb).1
  have := (v1_bd c hc).1
  have := (v1_bd d hd).1
  have := (v1_bd e he).1
  have := (v1_bd f hf).1
  unfold v1
  omega
theorem w2_cmb {a b c d e f : Nat} (ha : a < 256) (hb : b < 256) (hc : c < 256) (hd : d < 256) (he : e < 256) (hf : f < 256) : w2 (cmb a b c d e f) = cmb (v2 a) (v2 b) (v2 c) (v2 d) (v2 e) (v2 f) := by
  have m : 3689348814741910323 = 51 + 256 * (51 + 256 * (51 + 256 * (51 + 256 * (51 + 256 * (51 + 256 * 13107))))) := by decide
  unfold w2 cmb
  rw [m, b_h2 ha, b_h2 hb, b_h2 hc, b_h2 hd, b_h2 he, b_h2 hf, b_and ha (by decide), b_and hb (by decide), b_and hc (by decide), b_and hd (by decide), b_and he (by decide), b_and hf (by decide)]
  have z : (0 / 4) &&& 13107 = 0 := by decide
  rw [z]
  unfold v2
  omega
theorem w3_cmb {a b c d e f : Nat} (ha : a ≤ 68 ∧ a % 16 ≤ 4) (hb : b ≤ 68 ∧ b % 16 ≤ 4) (hc : c ≤ 68 ∧ c % 16 ≤ 4) (hd : d ≤ 68 ∧ d % 16 ≤ 4) (he : e ≤ 68 ∧ e % 16 ≤ 4) (hf : f ≤ 68 ∧ f % 16 ≤ 4) : w3 (cmb a b c d e f) = cmb (v3 a) (v3 b) (v3 c) (v3 d) (v3 e) (v3 f) := by
  have m : 1085102592571150095 = 15 + 256 * (15 + 256 * (15 + 256 * (15 + 256 * (15 + 256 * (15 + 256 * 3855))))) := by decide
  unfold w3 cmb
  rw [m, b_h3 ha.1 (by omega), b_h3 hb.1 (by omega), b_h3 hc.1 (by omega), b_h3 hd.1 (by omega), b_h3 he.1 (by omega), b_h3 hf.1 (by omega)]
  have z : (0 + 0 / 16) &&& 3855 = 0 := by decide
  rw [z]
  rfl
theorem xct_add {p : Nat → Bool} (a : Nat) : ∀ n, xct p (a + n) = xct p a + xct (fun i => p (a + i)) n := by
  intro n
  induction n with
  | zero => rfl
  | succ n ih =>
    show xct p (a + n + 1) = _
    simp only [xct]
    rw [ih]
    omega
theorem xct_byte {d y : Nat} (hd : d < 256) (n : Nat) : xct (fun i => (d + 256 * y).testBit i) (8 + n) = xct (fun i => d.testBit i) 8 + xct (fun i => y.testBit i) n := by
  have e1 : d + 256 * y = 2 ^ 8 * y + d := by omega
  rw [xct_add, e1]
  congr 1
  · refine xct_congr 8 (fun r hr => ?_)
    rw [Nat.testBit_two_pow_mul_add _ (show d < 2 ^ 8 from hd), if_pos hr]
  · refine xct_congr n (fun r hr => ?_)
    rw [Nat.testBit_two_pow_mul_add _ (show d < 2 ^ 8 from hd), if_neg (by omega), show 8 + r - 8 = r by omega]
theorem x_bytes {x : Nat} (h : x < 281474976710656) : ∃ a b c d e f : Nat, a < 256 ∧ b < 256 ∧ c < 256 ∧ d < 256 ∧ e < 256 ∧ f < 256 ∧ x = cmb a b c d e f := by
  refine ⟨x % 256, x / 256 % 256, x / 65536 % 256, x / 16777216 % 256, x / 4294967296 % 256, x / 1099511627776 % 256, by omega, by omega, by omega, by omega, by omega, by omega, ?_⟩
  unfold cmb
  omega
theorem x_pop {x : Nat} (h : x < 281474976710656) : w1 x < 9223372036854775808 ∧ w1 x ≤ x ∧ w2 (w1 x) < 281474976710656 ∧ w3 (w2 (w1 x)) < 36028797018963968 ∧ ∀ c e f g, c = w3 (w2 (w1 x)) → e = c + c / 256 → f = e + e / 65536 → g = f + f / 4294967296 → g < 9223372036854775808 ∧ g % 128 = xct (fun i => x.testBit i) 48 := by
  obtain ⟨a, b, c, d, e, f, ha, hb, hc, hd, he, hf, rfl⟩ := x_bytes h
  rw [w1_cmb ha hb hc hd he hf]
  have a1 := v1_bd a ha
  have b1 := v1_bd b hb
  have c1 := v1_bd c hc
  have d1 := v1_bd d hd
  have e1 := v1_bd e he
  have f1 := v1_bd f hf
  rw [w2_cmb a1.2 b1.2 c1.2 d1.2 e1.2 f1.2]
  have a2 := v2_bd a ha
  have b2 := v2_bd b hb
  have c2 := v2_bd c hc
  have d2 := v2_bd d hd
  have e2 := v2_bd e he
  have f2 := v2_bd f hf
  rw [w3_cmb a2 b2 c2 d2 e2 f2]
  have a3 := v3_bd a ha
  have b3 := v3_bd b hb
  have c3 := v3_bd c hc
  have d3 := v3_bd d hd
  have e3 := v3_bd e he
  have f3 := v3_bd f hf
  have cnt : xct (fun i => (cmb a b c d e f).testBit i) 48 = xct (fun i => a.testBit i) 8 + (xct (fun i => b.testBit i) 8 + (xct (fun i => c.testBit i) 8 + (xct (fun i => d.testBit i) 8 + (xct (fun i => e.testBit i) 8 + (xct (fun i => f.testBit i) 8 + xct (fun i => (0 : Nat).testBit i) 0))))) := by
    unfold cmb
    rw [show 48 = 8 + 40 from rfl, xct_byte ha, show 40 = 8 + 32 from rfl, xct_byte hb, show 32 = 8 + 24 from rfl, xct_byte hc, show 24 = 8 + 16 from rfl, xct_byte hd, show 16 = 8 + 8 from rfl, xct_byte he]
    congr 5
  have z0 : xct (fun i => (0 : Nat).testBit i) 0 = 0 := rfl
  rw [cnt, z0, ← a3.2, ← b3.2, ← c3.2, ← d3.2, ← e3.2, ← f3.2]
  have le1 : v1 a ≤ a ∧ v1 b ≤ b ∧ v1 c ≤ c ∧ v1 d ≤ d ∧ v1 e ≤ e ∧ v1 f ≤ f := by
    unfold v1
    omega
  generalize v3 (v2 (v1 a)) = A at a3 ⊢
  generalize v3 (v2 (v1 b)) = B at b3 ⊢
  generalize v3 (v2 (v1 c)) = C at c3 ⊢
  generalize v3 (v2 (v1 d)) = D at d3 ⊢
  generalize v3 (v2 (v1 e)) = E at e3 ⊢
  generalize v3 (v2 (v1 f)) = G at f3 ⊢
  unfold cmb
  refine ⟨by omega, by omega, by omega, by omega, ?_⟩
  intro c' e' f' g' h1 h2 h3 h4
  have s1 : e' = (A + B) + 256 * ((B + C) + 256 * ((C + D) + 256 * ((D + E) + 256 * ((E + G) + 256 * G)))) := by omega
  have s2 : f' = (A + B + C + D) + 256 * ((B + C + D + E) + 256 * ((C + D + E + G) + 256 * ((D + E + G) + 256 * ((E + G) + 256 * G)))) := by omega
  have s3 : g' = (A + B + C + D + E + G) + 256 * ((B + C + D + E + G) + 256 * ((C + D + E + G) + 256 * ((D + E + G) + 256 * ((E + G) + 256 * G)))) := by omega
  omega
/-! the same over longs -/
theorem jb {z : Nat} (h : z < 9223372036854775808) : (jI z).toBitVec.toNat = z := by
  show (BitVec.ofInt 64 (z : Int)).toNat = z
  rw [BitVec.toNat_ofInt]
  omega
theorem je {w : Int64} {z : Nat} (h : z < 9223372036854775808) (e : w.toBitVec.toNat = z) : w = jI z := by
  apply Int64.toBitVec_inj.mp
  apply BitVec.eq_of_toNat_eq
  rw [e, jb h]
theorem j_and {a b : Nat} (ha : a < 9223372036854775808) (hb : b < 9223372036854775808) : jI a &&& jI b = jI ((a &&& b : Nat) : Int) := by
  have h1 : a &&& b ≤ a := Nat.and_le_left
  refine je (by omega) ?_
  rw [Int64.toBitVec_and, BitVec.toNat_and, jb ha, jb hb]
theorem j_or {a b : Nat} (ha : a < 281474976710656) (hb : b < 281474976710656) : jI a ||| jI b = jI ((a ||| b : Nat) : Int) := by
  have h1 : a ||| b < 2 ^ 48 := Nat.or_lt_two_pow (show a < 2 ^ 48 by omega) (show b < 2 ^ 48 by omega)
  refine je (by omega) ?_
  rw [Int64.toBitVec_or, BitVec.toNat_or, jb (by omega), jb (by omega)]
theorem j_shr {z k : Nat} (h : z < 9223372036854775808) {s : UInt64} (hs : s.toNat = k) (hk : k < 64) : ((jI z).toUInt64 >>> s).toInt64 = jI ((z / 2 ^ k : Nat) : Int) := by
  have h1 : z / 2 ^ k ≤ z := Nat.div_le_self _ _
  refine je (by omega) ?_
  show ((jI z).toUInt64 >>> s).toNat = _
  rw [UInt64.toNat_shiftRight, hs, Nat.mod_eq_of_lt hk, Nat.shiftRight_eq_div_pow]
  congr 1
  exact jb h
end PO
