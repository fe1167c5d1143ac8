-- deps: 30.dist 19.gcd
/-! the reference as it lies there: its fields, its arrays behind it -/
def xRf (k : Nat) : Nat := match k with
  | 1 => 1 | 2 => 2 | 3 => 3 | 4 => 4 | 6 => 5 | 7 => 6 | 8 => 7 | 13 => 8 | 14 => 9 | 16 => 10 | 17 => 11 | 18 => 12 | 19 => 13 | 23 => 14 | 24 => 15 | 25 => 16 | 27 => 17 | 29 => 18 | _ => 0
def xMo (S : xS) (m : Nat) (ob : Nat → Value) : Prop := S.1 m = some (.inl (11, (List.range 35).map ob)) ∧ ∀ k, xRf k ≠ 0 → ob k = .ref (m + xRf k)
/-- a row: how many, the speeds, the starts, 0 where none is -/
def xrw (F : xF) (k : Nat) : Int := if k = 0 then F.1 else if k < 7 then (if k - 1 < F.1 then F.2.1 (k - 1) else 0) else (if k - 7 < F.1 then F.2.2 (k - 7) else 0)
def xRo (S : xS) (a : Nat) (F : xF) : Prop := xFok F ∧ ∃ f, S.1 a = some (.inr (0, (13, .inl f))) ∧ ∀ k, k < 13 → f k = iI (xrw F k)
theorem xRo.fr {S S1 : xS} {a : Nat} {F : xF} {A : Nat → Prop} (h : xRo S a F) (hf : xfr S S1 A) (h0 : ¬ A a) : xRo S1 a F := by
  obtain ⟨h1, f, e, h2⟩ := h
  exact ⟨h1, f, (hf.2 _ h0).trans e, h2⟩
theorem xrw_0 (F : xF) : xrw F 0 = F.1 := rfl
theorem xrw_v (F : xF) {i : Nat} (hi : i < F.1) (hk : F.1 ≤ 6) : xrw F (1 + i) = F.2.1 i := by
  unfold xrw
  rw [if_neg (by omega), if_pos (by omega), show 1 + i - 1 = i by omega, if_pos hi]
theorem xrw_s (F : xF) {i : Nat} (hi : i < F.1) (hk : F.1 ≤ 6) : xrw F (7 + i) = F.2.2 i := by
  unfold xrw
  rw [if_neg (by omega), if_neg (by omega), show 7 + i - 7 = i by omega, if_pos hi]
theorem xrw_bd {F : xF} (h : xFok F) (k : Nat) : 0 ≤ xrw F k ∧ xrw F k ≤ 40 := by
  have hk := h.1
  unfold xrw
  split
  · omega
  · split
    · split
      · rename_i c; have := h.2 _ c; omega
      · omega
    · split
      · rename_i c; have := h.2 _ c; omega
      · omega
section MO
variable {P : Nat → Nat} {S : xS} {m a : Nat} {ob : Nat → Value} {F : xF}
theorem xMo.o (h : xMo S m ob) : xisO S m 11 = true := xisO_at h.1
theorem xob_k {k : Nat} (hk : k < 35) : ((List.range 35).map ob)[k]? = some (ob k) := by
  rw [List.getElem?_map, List.getElem?_range hk]; rfl
theorem xMo.r (h : xMo S m ob) (k : Nat) (hk : k < 35) (h0 : xRf k ≠ 0) : xfR S m 11 k = some (m + xRf k) := xfR_at h.1 ((xob_k hk).trans (congrArg some (h.2 k h0)))
theorem xMo.i (h : xMo S m ob) {k : Nat} {v : Int32} (hk : k < 35) (hv : ob k = .int v) : xfI S m 11 k = some v := xfI_at h.1 ((xob_k hk).trans (congrArg some hv))
theorem xMo.j (h : xMo S m ob) {k : Nat} {v : Int64} (hk : k < 35) (hv : ob k = .long v) : xfJ S m 11 k = some v := xfJ_at h.1 ((xob_k hk).trans (congrArg some hv))
theorem xMo.r1 (h : xMo S m ob) : xfR S m 11 1 = some (m + 1) := h.r 1 (by decide) (by decide)
theorem xMo.r2 (h : xMo S m ob) : xfR S m 11 2 = some (m + 2) := h.r 2 (by decide) (by decide)
theorem xMo.r3 (h : xMo S m ob) : xfR S m 11 3 = some (m + 3) := h.r 3 (by decide) (by decide)
theorem xMo.r4 (h : xMo S m ob) : xfR S m 11 4 = some (m + 4) := h.r 4 (by decide) (by decide)
theorem xMo.r6 (h : xMo S m ob) : xfR S m 11 6 = some (m + 5) := h.r 6 (by decide) (by decide)
theorem xMo.r7 (h : xMo S m ob) : xfR S m 11 7 = some (m + 6) := h.r 7 (by decide) (by decide)
theorem xMo.r8 (h : xMo S m ob) : xfR S m 11 8 = some (m + 7) := h.r 8 (by decide) (by decide)
theorem xMo.r13 (h : xMo S m ob) : xfR S m 11 13 = some (m + 8) := h.r 13 (by decide) (by decide)
theorem xMo.r14 (h : xMo S m ob) : xfR S m 11 14 = some (m + 9) := h.r 14 (by decide) (by decide)
theorem xMo.r16 (h : xMo S m ob) : xfR S m 11 16 = some (m + 10) := h.r 16 (by decide) (by decide)
theorem xMo.r17 (h : xMo S m ob) : xfR S m 11 17 = some (m + 11) := h.r 17 (by decide) (by decide)
theorem xMo.r18 (h : xMo S m ob) : xfR S m 11 18 = some (m + 12) := h.r 18 (by decide) (by decide)
theorem xMo.r19 (h : xMo S m ob) : xfR S m 11 19 = some (m + 13) := h.r 19 (by decide) (by decide)
theorem xMo.r23 (h : xMo S m ob) : xfR S m 11 23 = some (m + 14) := h.r 23 (by decide) (by decide)
theorem xMo.r24 (h : xMo S m ob) : xfR S m 11 24 = some (m + 15) := h.r 24 (by decide) (by decide)
theorem xMo.r25 (h : xMo S m ob) : xfR S m 11 25 = some (m + 16) := h.r 25 (by decide) (by decide)
theorem xMo.r27 (h : xMo S m ob) : xfR S m 11 27 = some (m + 17) := h.r 27 (by decide) (by decide)
theorem xMo.r29 (h : xMo S m ob) : xfR S m 11 29 = some (m + 18) := h.r 29 (by decide) (by decide)
theorem xMo.fr {S1 : xS} {A : Nat → Prop} (h : xMo S m ob) (hf : xfr S S1 A) (h0 : ¬ A m) : xMo S1 m ob := ⟨(hf.2 _ h0).trans h.1, h.2⟩
theorem xob_set {k : Nat} (hk : k < 35) (v : Value) : ((List.range 35).map ob).set k v = (List.range 35).map (va_up ob k v) := by
  apply List.ext_getElem?
  intro i
  rw [List.getElem?_set]
  by_cases c : i < 35
  · rw [xob_k c, xob_k c, va_up_at]
    by_cases e : k = i
    · rw [if_pos e, if_pos (by simp; omega), if_pos e.symm]
    · rw [if_neg e, if_neg (fun q => e q.symm)]
  · rw [if_neg (by omega)]
    simp [c]
/-- a number is written -/
theorem xMo.put (h : xMo S m ob) {k : Nat} (hk : k < 35) (h0 : xRf k = 0) {tag : Int} {v : Value} (hf : xfit tag v = true) : ∃ S1, xpf S m 11 k tag v = some S1 ∧ xMo S1 m (va_up ob k v) ∧ xfr S S1 (fun c => c = m) := by
  refine ⟨_, (xpf_at h.1 (by simp; exact hk) hf), ⟨?_, fun j hj => ?_⟩, xfr.pt rfl⟩
  · rw [xpt_1, if_pos rfl, xob_set hk]
  · rw [va_up_at, if_neg (fun e => by subst e; exact hj h0)]
    exact h.2 j hj
/-! what is told of the row at hand -/
theorem g_K (h : xRo S a F) : xrdI S a (iI 0) = some (iI F.1) := by
  obtain ⟨h1, f, e, h2⟩ := h
  rw [xrdI_at e (by omega) (by omega) (by omega), show (0 : Int).toNat = 0 from rfl, h2 0 (by omega), xrw_0]
theorem g_at (h : xRo S a F) {k : Nat} (hk : k < 13) : xrdI S a (iI k) = some (iI (xrw F k)) := by
  obtain ⟨h1, f, e, h2⟩ := h
  rw [xrdI_at e (by omega) (by omega) (by omega), Int.toNat_natCast, h2 k hk]
theorem g_isRunner (h : xMo S m ob) (hF : xRo S (m + 1) F) {i : Int} (i1 : -2147483648 ≤ i) (i2 : i < 2147483648) : xcI P m_X11_isRunner [.ref m, .int (iI i)] S = some (iI (if 0 ≤ i ∧ i < F.1 then 1 else 0), S) := by
  have hk := hF.1.1
  refine xcI_of ((e_X11_isRunner_0 P m (iI i) S).trans ?_)
  rw [h.r1, xob_some, g_K hF, xob_some, iI_sub, iI_ji i1 i2, iI_ji (by omega) (by omega), d_in (by omega) (by omega) (by omega) (by omega) (by omega) (by omega), xob_some]
  by_cases c : 0 ≤ i ∧ i < F.1
  · rw [if_pos (by omega), if_pos c]; rfl
  · rw [if_neg (by omega), if_neg c]; rfl
theorem g_speedOf (h : xMo S m ob) (hF : xRo S (m + 1) F) {i : Nat} (hi : i < F.1) : xcI P m_X11_speedOf [.ref m, .int (iI i)] S = some (iI (F.2.1 i), S) := by
  have hk := hF.1.1
  refine xcI_of ((e_X11_speedOf_0 P m (iI i) S).trans ?_)
  rw [h.r1, xob_some, iI_add, show (1 : Int) + i = ((1 + i : Nat) : Int) by omega, g_at hF (by omega), xob_some, xrw_v F hi hk]
theorem g_startOf (h : xMo S m ob) (hF : xRo S (m + 1) F) {i : Nat} (hi : i < F.1) : xcI P m_X11_startOf [.ref m, .int (iI i)] S = some (iI (F.2.2 i), S) := by
  have hk := hF.1.1
  refine xcI_of ((e_X11_startOf_0 P m (iI i) S).trans ?_)
  rw [h.r1, xob_some, iI_add, show (7 : Int) + i = ((7 + i : Nat) : Int) by omega, g_at hF (by omega), xob_some, xrw_s F hi hk]
theorem g_isSpeed {v : Int} (v1 : -2147483648 ≤ v) (v2 : v < 2147483648) : xcI P m_X11_isSpeed [.int (iI v)] S = some (iI (if 0 ≤ v ∧ v ≤ 40 then 1 else 0), S) := by
  refine xcI_of ((e_X11_isSpeed_0 P (iI v) S).trans ?_)
  rw [iI_ji v1 v2, d_in (by omega) (by omega) (by omega) (by omega) (by omega) (by omega), xob_some]
  split <;> rfl
theorem g_isStart {v : Int} (v1 : -2147483648 ≤ v) (v2 : v < 2147483648) : xcI P m_X11_isStart [.int (iI v)] S = some (iI (if 0 ≤ v ∧ v ≤ 11 then 1 else 0), S) := by
  refine xcI_of ((e_X11_isStart_0 P (iI v) S).trans ?_)
  rw [iI_ji v1 v2, d_in (by omega) (by omega) (by omega) (by omega) (by omega) (by omega), xob_some]
  split <;> rfl
theorem g_isPart {v : Int} (v1 : -2147483648 ≤ v) (v2 : v < 2147483648) : xcI P m_X11_isPart [.int (iI v)] S = some (iI (if 0 ≤ v ∧ v ≤ 3 then 1 else 0), S) := by
  refine xcI_of ((e_X11_isPart_0 P (iI v) S).trans ?_)
  rw [iI_ji v1 v2, d_in (by omega) (by omega) (by omega) (by omega) (by omega) (by omega), xob_some]
  split <;> rfl
theorem g_isTime {p q : Int} (p1 : -2147483648 ≤ p) (p2 : p < 2147483648) (q1 : -2147483648 ≤ q) (q2 : q < 2147483648) : xcI P m_X11_isTime [.int (iI p), .int (iI q)] S = some (iI (if 0 ≤ p ∧ p ≤ 9999 ∧ 1 ≤ q ∧ q ≤ 999 then 1 else 0), S) := by
  refine xcI_of ((e_X11_isTime_0 P (iI p) (iI q) S).trans ?_)
  simp (disch := omega) only [iI_ji, d_in, xob_some, iI_0, iI_eq]
  repeat' split
  all_goals first | rfl | (exfalso; omega)
theorem g_mul_bd {s p : Int} (s0 : -40 ≤ s) (s1 : s ≤ 40) (p0 : 0 ≤ p) (p1 : p ≤ 1000000000000) : -40000000000000 ≤ s * p ∧ s * p ≤ 40000000000000 := by
  have h1 := Int.mul_le_mul_of_nonneg_right s1 p0
  have h2 := Int.mul_le_mul_of_nonneg_right s0 p0
  rw [Int.neg_mul] at h2
  omega
theorem g_placeTop (h : xMo S m ob) (hF : xRo S (m + 1) F) {i : Nat} (hi : i < F.1) {p q : Int} (p0 : 0 ≤ p) (p1 : p ≤ 1000000000000) (q0 : 1 ≤ q) (q1 : q ≤ 1000000000000) : xcJ P m_X11_placeTop [.ref m, .int (iI i), .long (jI p), .long (jI q)] S = some (jI (xplc F p q i), S) := by
  have b := hF.1.2 i hi
  have b1 := g_mul_bd (s := F.2.1 i) (by omega) (by omega) p0 p1
  have b2 := g_mul_bd (s := F.2.2 i) (by omega) (by omega) (show 0 ≤ q by omega) q1
  have e : (12 * F.2.1 i) * p = 12 * (F.2.1 i * p) := Int.mul_assoc _ _ _
  refine xcJ_of ((e_X11_placeTop_0 P m (iI i) (jI p) (jI q) S).trans ?_)
  rw [h.o, cond_true, g_speedOf h hF hi, xob_some]
  dsimp only
  rw [h.o, cond_true, g_startOf h hF hi, xob_some, iI_mul]
  dsimp only
  rw [iI_ji (by omega) (by omega), iI_ji (by omega) (by omega), jI_mul, jI_mul, jI_mul, jI_add, d_ring (by omega) (by omega) (by omega) (by omega), xob_some]
  unfold xplc
  rw [Int.add_comm]
theorem g_apartTop (h : xMo S m ob) (hF : xRo S (m + 1) F) {i j : Nat} (hi : i < F.1) (hj : j < F.1) {p q : Int} (p0 : 0 ≤ p) (p1 : p ≤ 1000000000000) (q0 : 1 ≤ q) (q1 : q ≤ 1000000000000) : xcJ P m_X11_apartTop [.ref m, .int (iI i), .int (iI j), .long (jI p), .long (jI q)] S = some (jI (xdd F i j (12 * p) q), S) := by
  have b := hF.1.2 i hi
  have c := hF.1.2 j hj
  have b1 := g_mul_bd (s := F.2.1 i - F.2.1 j) (by omega) (by omega) p0 p1
  have b2 := g_mul_bd (s := F.2.2 i - F.2.2 j) (by omega) (by omega) (show 0 ≤ q by omega) q1
  have e : (12 * (F.2.1 i - F.2.1 j)) * p = 12 * ((F.2.1 i - F.2.1 j) * p) := Int.mul_assoc _ _ _
  have m0 := Int.emod_nonneg (12 * (F.2.1 i - F.2.1 j) * p + (F.2.2 i - F.2.2 j) * q) (show 12 * q ≠ 0 by omega)
  have m1 := Int.emod_lt_of_pos (12 * (F.2.1 i - F.2.1 j) * p + (F.2.2 i - F.2.2 j) * q) (show 0 < 12 * q by omega)
  refine xcJ_of ((e_X11_apartTop_0 P m (iI i) (iI j) (jI p) (jI q) S).trans ?_)
  simp only [h.o, cond_true, g_speedOf h hF hi, g_speedOf h hF hj, g_startOf h hF hi, g_startOf h hF hj, xob_some, iI_sub]
  rw [iI_ji (by omega) (by omega), iI_ji (by omega) (by omega), jI_mul, jI_mul, jI_mul, jI_mul, jI_add, d_ring (by omega) (by omega) (by omega) (by omega), xob_some]
  dsimp only
  rw [jI_sub, d_lesser (by omega) (by omega) (by omega) (by omega), xob_some, xat_dd F p q (by omega)]
theorem g_nearestTop (h : xMo S m ob) (hF : xRo S (m + 1) F) {i : Nat} (hi : i < F.1) {p q : Int} (p0 : 0 ≤ p) (p1 : p ≤ 1000000000000) (q0 : 1 ≤ q) (q1 : q ≤ 1000000000000) : xcJ P m_X11_nearestTop [.ref m, .int (iI i), .long (jI p), .long (jI q)] S = some (jI (xnr F i (12 * p) q), S) := by
  have hk := hF.1.1
  refine xcJ_of ((e_X11_nearestTop_0 P m (iI i) (jI p) (jI q) S).trans ?_)
  rw [jI_mul]
  refine (xsteps (fun r => xrun P m_X11_nearestTop 11 [(0, .ref m), (1, .int (iI i)), (2, .long (jI p)), (4, .long (jI q)), (6, .long (jI (xlst (fun j => xdd F i j (12 * p) q) i (6 * q) r))), (8, .int (iI r))] [] S) F.1 ?_).trans ?_
  · intro r hr
    try dsimp only
    have bd := xlst_bd (f := fun j => xdd F i j (12 * p) q) (i := i) (z := 6 * q) (A := 0) (B := 6 * q) (by omega) r (fun j _ => xdd_bd F i j (by omega))
    have b2 := xdd_bd F i r (x := 12 * p) (e := q) (by omega)
    rw [e_X11_nearestTop_11, h.r1, xob_some, g_K hF, xob_some]
    simp (disch := omega) only [iI_le, iI_eq, xlst, iI_suc]
    rw [if_neg (by omega)]
    by_cases c : (r : Int) = i
    · rw [if_pos c, if_pos c]
    · rw [if_neg c, if_neg c, h.o, cond_true, g_apartTop h hF hi (by omega) p0 p1 q0 q1, xob_some]
      dsimp only
      rw [d_lesser (by omega) (by omega) (by omega) (by omega), xob_some]
  · try dsimp only
    rw [e_X11_nearestTop_11, h.r1, xob_some, g_K hF, xob_some]
    simp (disch := omega) only [iI_le]
    rw [if_pos (by omega)]
    rfl
/-- far: u by w or more -/
def xfar (F : xF) (i : Nat) (u w x e : Int) : Prop := 12 * e * u ≤ xnr F i x e * w
theorem g_isFar (h : xMo S m ob) (hF : xRo S (m + 1) F) {i : Nat} (hi : i < F.1) {p q : Int} (p0 : 0 ≤ p) (p1 : p ≤ 1000000000000) (q0 : 1 ≤ q) (q1 : q ≤ 1000000000000) {u w : Int} (u0 : 0 ≤ u) (u1 : u ≤ 12) (w0 : 0 ≤ w) (w1 : w ≤ 12) [Decidable (xfar F i u w (12 * p) q)] : xcI P m_X11_isFar [.ref m, .int (iI i), .long (jI p), .long (jI q), .int (iI u), .int (iI w)] S = some (iI (if xfar F i u w (12 * p) q then 1 else 0), S) := by
  have b2 := xnr_bd F i (x := 12 * p) (e := q) (by omega)
  have b3 := x_mul_bd b2.1 b2.2 w0 w1
  have b4 := x_mul_bd (show 0 ≤ 12 * q by omega) (show 12 * q ≤ 12000000000000 by omega) u0 u1
  refine xcI_of ((e_X11_isFar_0 P m (iI i) (jI p) (jI q) (iI u) (iI w) S).trans ?_)
  rw [h.o, cond_true, g_nearestTop h hF hi p0 p1 q0 q1, xob_some]
  dsimp only
  rw [iI_ji (by omega) (by omega), iI_ji (by omega) (by omega), jI_mul, jI_mul, jI_mul]
  simp (disch := omega) only [lg_lt]
  by_cases c : xfar F i u w (12 * p) q
  · rw [if_pos c, if_neg (by unfold xfar at c; omega)]
  · rw [if_neg c, if_pos (by unfold xfar at c; omega)]
/-- lonely: 1 by K or more, or alone -/
def xlo (F : xF) (i : Nat) (x e : Int) : Bool := decide (F.1 = 1) || decide (12 * e ≤ xnr F i x e * F.1)
theorem g_isLonely (h : xMo S m ob) (hF : xRo S (m + 1) F) {i : Nat} (hi : i < F.1) {p q : Int} (p0 : 0 ≤ p) (p1 : p ≤ 1000000000000) (q0 : 1 ≤ q) (q1 : q ≤ 1000000000000) : xcI P m_X11_isLonely [.ref m, .int (iI i), .long (jI p), .long (jI q)] S = some (iI (if xlo F i (12 * p) q then 1 else 0), S) := by
  have hk := hF.1.1
  refine xcI_of ((e_X11_isLonely_0 P m (iI i) (jI p) (jI q) S).trans ?_)
  have e0 : xlo F i (12 * p) q = true ↔ F.1 = 1 ∨ 12 * q ≤ xnr F i (12 * p) q * F.1 := by unfold xlo; simp
  have e1 : xfar F i 1 F.1 (12 * p) q ↔ 12 * q ≤ xnr F i (12 * p) q * F.1 := by unfold xfar; rw [Int.mul_one]
  have dd : Decidable (xfar F i 1 F.1 (12 * p) q) := Classical.propDecidable _
  rw [h.r1, xob_some, g_K hF, xob_some]
  simp (disch := omega) only [iI_eq]
  by_cases c : F.1 = 1
  · rw [if_pos (by omega), if_pos (e0.mpr (Or.inl c))]
  · rw [if_neg (by omega), xob_some, g_K hF, xob_some, h.o, cond_true, g_isFar h hF hi p0 p1 q0 q1 (by omega) (by omega) (by omega) (by omega), xob_some]
    by_cases c2 : 12 * q ≤ xnr F i (12 * p) q * F.1
    · rw [if_pos (e1.mpr c2), if_pos (e0.mpr (Or.inr c2))]; rfl
    · rw [if_neg (fun z => c2 (e1.mp z)), if_neg (fun z => (e0.mp z).elim c c2)]; rfl
end MO
