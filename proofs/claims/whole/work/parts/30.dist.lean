-- deps: 18.seen
/-! how far apart two are: one number for the class and the reference -/
/-- of i and j at the time x by 12 e, over 12 e -/
def xdd (F : xF) (i j : Nat) (x e : Int) : Int := min (((F.2.1 j - F.2.1 i) * x + (F.2.2 j - F.2.2 i) * e) % (12 * e)) (12 * e - ((F.2.1 j - F.2.1 i) * x + (F.2.2 j - F.2.2 i) * e) % (12 * e))
theorem x_minneg (z : Int) {W : Int} (hW : 0 < W) : min ((-z) % W) (W - (-z) % W) = min (z % W) (W - z % W) := by
  have b0 := Int.emod_nonneg z (Int.ne_of_gt hW)
  have b1 := Int.emod_lt_of_pos z hW
  by_cases c : z % W = 0
  · have e : (-z) % W = 0 := Int.emod_eq_zero_of_dvd ((Int.dvd_neg).mpr (Int.dvd_of_emod_eq_zero c))
    rw [e, c]
  · have e : (-z) % W = W - z % W := by
      have h := Int.mul_ediv_add_emod z W
      rw [show -z = (W - z % W) + W * (-(z / W) - 1) by rw [Int.mul_sub, Int.mul_neg, Int.mul_one]; omega, Int.add_mul_emod_self_left, Int.emod_eq_of_lt (by omega) (by omega)]
    rw [e]
    omega
theorem x_minmod {y z W : Int} (h : ∃ c, y = z + W * c) : min (y % W) (W - y % W) = min (z % W) (W - z % W) := by
  obtain ⟨c, rfl⟩ := h
  rw [Int.add_mul_emod_self_left]
theorem xdd_sym (F : xF) (i j : Nat) {x e : Int} (he : 0 < e) : xdd F i j x e = xdd F j i x e := by
  unfold xdd
  rw [show (F.2.1 j - F.2.1 i) * x + (F.2.2 j - F.2.2 i) * e = -((F.2.1 i - F.2.1 j) * x + (F.2.2 i - F.2.2 j) * e) by simp only [Int.sub_mul]; omega]
  exact x_minneg _ (by omega)
theorem xdd_bd (F : xF) (i j : Nat) {x e : Int} (he : 0 < e) : 0 ≤ xdd F i j x e ∧ xdd F i j x e ≤ 6 * e := by
  have b0 := Int.emod_nonneg ((F.2.1 j - F.2.1 i) * x + (F.2.2 j - F.2.2 i) * e) (show 12 * e ≠ 0 by omega)
  have b1 := Int.emod_lt_of_pos ((F.2.1 j - F.2.1 i) * x + (F.2.2 j - F.2.2 i) * e) (show 0 < 12 * e by omega)
  unfold xdd
  omega
/-- the class: as Others sees it -/
theorem xa2_dd (F : xF) (i j : Nat) {x e : Int} (he : 0 < e) : xa2 (xog F i) (xol F i) x e j = xdd F i j x e := by
  unfold xa2 xdd xog xol
  by_cases c : F.2.1 j < F.2.1 i
  · rw [if_pos c]
    refine (x_minmod ⟨((-(F.2.2 j - F.2.2 i)) % 12 - (-(F.2.2 j - F.2.2 i))) / 12, ?_⟩).trans (x_minneg _ (by omega))
    have h := Int.mul_ediv_add_emod (-(F.2.2 j - F.2.2 i)) 12
    have h2 : ((-(F.2.2 j - F.2.2 i)) % 12 - (-(F.2.2 j - F.2.2 i))) / 12 = -((-(F.2.2 j - F.2.2 i)) / 12) := by omega
    rw [h2, show ((F.2.1 j - F.2.1 i).natAbs : Int) = -(F.2.1 j - F.2.1 i) by omega]
    generalize (-(F.2.2 j - F.2.2 i)) / 12 = d at *
    rw [show (-(F.2.2 j - F.2.2 i)) % 12 = -(F.2.2 j - F.2.2 i) - 12 * d by omega]
    simp only [Int.sub_mul, Int.neg_mul, Int.mul_neg, Int.mul_assoc, Int.mul_comm e d]
    omega
  · rw [if_neg c]
    refine x_minmod ⟨((F.2.2 j - F.2.2 i) % 12 - (F.2.2 j - F.2.2 i)) / 12, ?_⟩
    have h := Int.mul_ediv_add_emod (F.2.2 j - F.2.2 i) 12
    have h2 : ((F.2.2 j - F.2.2 i) % 12 - (F.2.2 j - F.2.2 i)) / 12 = -((F.2.2 j - F.2.2 i) / 12) := by omega
    rw [h2, show ((F.2.1 j - F.2.1 i).natAbs : Int) = F.2.1 j - F.2.1 i by omega]
    generalize (F.2.2 j - F.2.2 i) / 12 = d at *
    rw [show (F.2.2 j - F.2.2 i) % 12 = (F.2.2 j - F.2.2 i) - 12 * d by omega]
    simp only [Int.sub_mul, Int.mul_neg, Int.mul_assoc, Int.mul_comm e d]
    omega
/-- the class: as Instant sees it -/
theorem xap_dd (F : xF) (p q : Int) (hq : 0 < q) (i j : Nat) : xap (xplc F p q) (12 * q) i j = xdd F i j (12 * p) q := by
  unfold xap xwy xdd xplc
  have e : ((F.2.2 j * q + 12 * F.2.1 j * p) % (12 * q) - (F.2.2 i * q + 12 * F.2.1 i * p) % (12 * q)) % (12 * q) = ((F.2.1 j - F.2.1 i) * (12 * p) + (F.2.2 j - F.2.2 i) * q) % (12 * q) := by
    rw [← Int.sub_emod]
    congr 1
    simp only [Int.sub_mul, Int.mul_left_comm _ 12, Int.mul_assoc]
    omega
  rw [e]
/-- the reference: its apartTop -/
theorem xat_dd (F : xF) (p q : Int) (hq : 0 < q) (i j : Nat) : min ((12 * (F.2.1 i - F.2.1 j) * p + (F.2.2 i - F.2.2 j) * q) % (12 * q)) (12 * q - (12 * (F.2.1 i - F.2.1 j) * p + (F.2.2 i - F.2.2 j) * q) % (12 * q)) = xdd F i j (12 * p) q := by
  unfold xdd
  rw [show 12 * (F.2.1 i - F.2.1 j) * p + (F.2.2 i - F.2.2 j) * q = -((F.2.1 j - F.2.1 i) * (12 * p) + (F.2.2 j - F.2.2 i) * q) by simp only [Int.sub_mul, Int.mul_sub, Int.mul_left_comm _ 12, Int.mul_assoc]; omega]
  exact x_minneg _ (by omega)
/-- the nearest of i at the time x by 12 e, over 12 e -/
def xnr (F : xF) (i : Nat) (x e : Int) : Int := xlst (fun j => xdd F i j x e) i (6 * e) F.1
theorem xnr_bd (F : xF) (i : Nat) {x e : Int} (he : 0 < e) : 0 ≤ xnr F i x e ∧ xnr F i x e ≤ 6 * e := xlst_bd (by omega) F.1 (fun j _ => xdd_bd F i j he)
theorem xlst_congr {f g : Nat → Int} {i z : Int} : ∀ n, (∀ j, j < n → f j = g j) → xlst f i z n = xlst g i z n := by
  intro n
  induction n with
  | zero => intro _; rfl
  | succ n ih =>
    intro h
    simp only [xlst]
    rw [ih (fun j hj => h j (by omega)), h n (by omega)]
theorem xmn_congr {f g : Nat → Int} {z : Int} : ∀ n, (∀ j, j < n → f j = g j) → xmn f z n = xmn g z n := by
  intro n
  induction n with
  | zero => intro _; rfl
  | succ n ih =>
    intro h
    simp only [xmn]
    rw [ih (fun j hj => h j (by omega)), h n (by omega)]
theorem x_skip (f : Nat → Int) (i : Nat) (z : Int) : ∀ n, xmn (fun t => f (xsk i t)) z (xoc i n) = xlst f i z n := by
  intro n
  induction n with
  | zero => rfl
  | succ n ih =>
    simp only [xlst]
    by_cases c : n < i
    · rw [show xoc i (n + 1) = xoc i n + 1 by unfold xoc; rw [if_pos (by omega), if_pos (by omega)]]
      simp only [xmn]
      rw [ih, if_neg (by omega)]
      congr 1
      unfold xsk xoc
      rw [if_pos (show n ≤ i by omega), if_pos c]
    · by_cases c2 : n = i
      · rw [show xoc i (n + 1) = xoc i n by unfold xoc; rw [if_neg (by omega), if_pos (by omega)]; omega, ih, if_pos (by omega)]
      · rw [show xoc i (n + 1) = xoc i n + 1 by unfold xoc; rw [if_neg (by omega), if_neg (by omega)]; omega]
        simp only [xmn]
        rw [ih, if_neg (by omega)]
        congr 1
        unfold xsk xoc
        rw [if_neg (show ¬ n ≤ i by omega), if_neg (by omega)]
        congr 1
        omega
/-- the class: as Others sees it -/
theorem xNr_nr (F : xF) {i : Nat} (hi : i < F.1) {x e : Int} (he : 0 < e) : xmn (xa2 (fun t => xog F i (xsk i t)) (fun t => xol F i (xsk i t)) x e) (6 * e) (F.1 - 1) = xnr F i x e := by
  have h := x_skip (fun j => xdd F i j x e) i (6 * e) F.1
  rw [show xoc i F.1 = F.1 - 1 by unfold xoc; rw [if_neg (by omega)]] at h
  unfold xnr
  rw [← h]
  refine xmn_congr _ (fun t _ => ?_)
  show xa2 (xog F i) (xol F i) x e (xsk i t) = _
  exact xa2_dd F i (xsk i t) he
/-- the class: as Instant sees it -/
theorem xin_nr (F : xF) (i : Nat) {p q : Int} (hq : 0 < q) : xlst (xap (xplc F p q) (12 * q) i) i (12 * q / 2) F.1 = xnr F i (12 * p) q := by
  unfold xnr
  rw [show 12 * q / 2 = 6 * q by omega]
  exact xlst_congr _ (fun j _ => xap_dd F p q hq i j)
