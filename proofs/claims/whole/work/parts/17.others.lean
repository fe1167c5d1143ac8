-- deps: 16.inst
/-! Others: all other runners as one sees them -/
def xOs (S : xS) (a n : Nat) (f g : Nat → Int32) : Prop := S.1 a = some (.inl (3, [.ref (a + 1), .ref (a + 2), .int (iI n)])) ∧ S.1 (a + 1) = some (.inr (0, (6, .inl f))) ∧ S.1 (a + 2) = some (.inr (0, (6, .inl g)))
def xOt (S : xS) (a n : Nat) (gp ld : Nat → Int) : Prop := n ≤ 6 ∧ (∀ r, r < n → 0 ≤ gp r ∧ gp r ≤ 40 ∧ 0 ≤ ld r ∧ ld r < 12) ∧ ∃ f g, xOs S a n f g ∧ ∀ r, r < n → f r = iI (gp r) ∧ g r = iI (ld r)
theorem xOs.fr {S S1 : xS} {a n : Nat} {f g : Nat → Int32} {A : Nat → Prop} (h : xOs S a n f g) (hf : xfr S S1 A) (h0 : ∀ b, x3 a b → ¬ A b) : xOs S1 a n f g :=
  ⟨(hf.2 _ (h0 _ ⟨by omega, by omega⟩)).trans h.1, (hf.2 _ (h0 _ ⟨by omega, by omega⟩)).trans h.2.1, (hf.2 _ (h0 _ ⟨by omega, by omega⟩)).trans h.2.2⟩
theorem xOt.fr {S S1 : xS} {a n : Nat} {gp ld : Nat → Int} {A : Nat → Prop} (h : xOt S a n gp ld) (hf : xfr S S1 A) (h0 : ∀ b, x3 a b → ¬ A b) : xOt S1 a n gp ld := by
  obtain ⟨h1, h2, f, g, h3, h4⟩ := h
  exact ⟨h1, h2, f, g, h3.fr hf h0, h4⟩
/-- how much faster, how far ahead (mirrored, where slower) -/
def xog (F : xF) (i r : Nat) : Int := ((F.2.1 r - F.2.1 i).natAbs : Int)
def xol (F : xF) (i r : Nat) : Int := if F.2.1 r < F.2.1 i then (-(F.2.2 r - F.2.2 i)) % 12 else (F.2.2 r - F.2.2 i) % 12
def xsk (i t : Nat) : Nat := if t < i then t else t + 1
/-- how far off at the time x by 12 e -/
def xa2 (gp ld : Nat → Int) (x e : Int) (r : Nat) : Int := min ((gp r * x + ld r * e) % (12 * e)) (12 * e - (gp r * x + ld r * e) % (12 * e))
def xmn (f : Nat → Int) (z : Int) : Nat → Int
  | 0 => z
  | n + 1 => min (xmn f z n) (f n)
theorem xmn_le (f : Nat → Int) (z : Int) : ∀ n m, m ≤ n → xmn f z n ≤ xmn f z m := by
  intro n
  induction n with
  | zero => intro m hm; rw [show m = 0 by omega]; exact Int.le_refl _
  | succ n ih =>
    intro m hm
    by_cases c : m = n + 1
    · rw [c]; exact Int.le_refl _
    · have := ih m (by omega)
      simp only [xmn]
      omega
theorem xmn_bd {f : Nat → Int} {z A B : Int} (hz : A ≤ z ∧ z ≤ B) : ∀ n, (∀ j, j < n → A ≤ f j ∧ f j ≤ B) → A ≤ xmn f z n ∧ xmn f z n ≤ B := by
  intro n
  induction n with
  | zero => intro _; exact hz
  | succ n ih =>
    intro h
    have h1 := ih (fun j hj => h j (by omega))
    have h2 := h n (by omega)
    simp only [xmn]
    omega
theorem x_mul_bd {a b A B : Int} (a0 : 0 ≤ a) (a1 : a ≤ A) (b0 : 0 ≤ b) (b1 : b ≤ B) : 0 ≤ a * b ∧ a * b ≤ A * B :=
  ⟨Int.mul_nonneg a0 b0, Int.le_trans (Int.mul_le_mul_of_nonneg_right a1 b0) (Int.mul_le_mul_of_nonneg_left b1 (by omega))⟩
section OT
variable {P : Nat → Nat} {S : xS} {a n b : Nat} {gp ld : Nat → Int} {F : xF}
theorem xOt.o (h : xOt S a n gp ld) : xisO S a 3 = true := by
  obtain ⟨h1, h2, f, g, h3, h4⟩ := h
  exact xisO_at h3.1
theorem xOs.o {f g : Nat → Int32} (h : xOs S a n f g) : xisO S a 3 = true := xisO_at h.1
theorem xOt.z (h : xOt S a n gp ld) : xfI S a 3 2 = some (iI n) := by
  obtain ⟨h1, h2, f, g, h3, h4⟩ := h
  exact xfI_at h3.1 rfl
theorem d_osize (h : xOt S a n gp ld) : xcI P m_X3_size [.ref a] S = some (iI n, S) := by
  refine xcI_of ((e_X3_size_0 P a S).trans ?_)
  rw [h.z, xob_some]
theorem d_gapAt (h : xOt S a n gp ld) {r : Nat} (hr : r < n) : xcI P m_X3_gapAt [.ref a, .int (iI r)] S = some (iI (gp r), S) := by
  obtain ⟨h1, h2, f, g, h3, h4⟩ := h
  refine xcI_of ((e_X3_gapAt_0 P a (iI r) S).trans ?_)
  simp (disch := omega) only [xfI_at (k := 2) h3.1 rfl, xfR_at (k := 0) h3.1 rfl, xob_some, iI_0, iI_lt, iI_le, xrdI_at h3.2.1]
  rw [if_neg (by omega), if_neg (by omega), if_neg (by omega), Int.toNat_natCast, (h4 r hr).1]
theorem d_leadAt (h : xOt S a n gp ld) {r : Nat} (hr : r < n) : xcI P m_X3_leadAt [.ref a, .int (iI r)] S = some (iI (ld r), S) := by
  obtain ⟨h1, h2, f, g, h3, h4⟩ := h
  refine xcI_of ((e_X3_leadAt_0 P a (iI r) S).trans ?_)
  simp (disch := omega) only [xfI_at (k := 2) h3.1 rfl, xfR_at (k := 1) h3.1 rfl, xob_some, iI_0, iI_lt, iI_le, xrdI_at h3.2.2]
  rw [if_neg (by omega), if_neg (by omega), if_neg (by omega), Int.toNat_natCast, (h4 r hr).2]
theorem d_firstMeeting (h : xOt S a n gp ld) {r : Nat} (hr : r < n) : xcI P m_X3_firstMeeting [.ref a, .int (iI r)] S = some (iI ((-ld r) % 12), S) := by
  have b := h.2.1 r hr
  refine xcI_of ((e_X3_firstMeeting_0 P a (iI r) S).trans ?_)
  rw [h.o, cond_true, d_leadAt h hr, xob_some]
  dsimp only
  rw [iI_neg, c_floorMod (by omega) (by omega) (by omega) (by omega), xob_some]
theorem xa2_bd {x e : Int} (he : 0 < e) (r : Nat) : 0 ≤ xa2 gp ld x e r ∧ xa2 gp ld x e r ≤ 6 * e := by
  have h1 := Int.emod_nonneg (gp r * x + ld r * e) (b := 12 * e) (by omega)
  have h2 := Int.emod_lt_of_pos (gp r * x + ld r * e) (b := 12 * e) (by omega)
  unfold xa2
  omega
theorem d_apartBy (h : xOt S a n gp ld) {r : Nat} (hr : r < n) {x e : Int} (x0 : 0 ≤ x) (x1 : x ≤ 12000) (e0 : 1 ≤ e) (e1 : e ≤ 999) : xcI P m_X3_apartBy [.ref a, .int (iI r), .int (iI x), .int (iI e)] S = some (iI (xa2 gp ld x e r), S) := by
  have b := h.2.1 r hr
  have m1 := x_mul_bd b.1 b.2.1 x0 x1
  have m2 := x_mul_bd (a := ld r) (b := e) (A := 12) (B := 999) b.2.2.1 (by omega) (by omega) e1
  have h1 := Int.emod_nonneg (gp r * x + ld r * e) (b := 12 * e) (by omega)
  have h2 := Int.emod_lt_of_pos (gp r * x + ld r * e) (b := 12 * e) (by omega)
  refine xcI_of ((e_X3_apartBy_0 P a (iI r) (iI x) (iI e) S).trans ?_)
  rw [iI_mul, if_pos (by rw [iI_le (by omega) (by omega) (by omega) (by omega)]; omega), h.o, cond_true, d_gapAt h hr, xob_some]
  dsimp only
  rw [h.o, cond_true, d_leadAt h hr, xob_some]
  dsimp only
  rw [iI_mul, iI_mul, iI_add, c_floorMod (by omega) (by omega) (by omega) (by omega), xob_some]
  dsimp only
  rw [iI_sub, c_min (by omega) (by omega) (by omega) (by omega), xob_some]
  rfl
theorem l_nub (h : xOt S a n gp ld) {x e q : Int} (x0 : 0 ≤ x) (x1 : x ≤ 12000) (e0 : 1 ≤ e) (e1 : e ≤ 999) (q0 : -2147483648 ≤ q) (q1 : q < 2147483648) : ∀ d r, r + d = n → ∃ v, xrun P m_X3_nearestUnlessBelow 11 [(0, .ref a), (1, .int (iI x)), (2, .int (iI e)), (3, .int (iI q)), (4, .int (iI (xmn (xa2 gp ld x e) (6 * e) r))), (5, .int (iI r))] [] S = some (some (.int (iI v)), S) ∧ 0 ≤ v ∧ v ≤ 6 * e ∧ (q ≤ xmn (xa2 gp ld x e) (6 * e) n → v = xmn (xa2 gp ld x e) (6 * e) n) ∧ (xmn (xa2 gp ld x e) (6 * e) n < q → v < q) := by
  have hn := h.1
  intro d
  induction d with
  | zero =>
    intro r hr
    have bd := xmn_bd (f := xa2 gp ld x e) (z := 6 * e) (A := 0) (B := 6 * e) (by omega) r (fun j _ => xa2_bd (by omega) j)
    have e3 : r = n := by omega
    refine ⟨xmn (xa2 gp ld x e) (6 * e) r, ?_, bd.1, bd.2, fun _ => by rw [e3], fun z => by rw [e3]; exact z⟩
    rw [e_X3_nearestUnlessBelow_11, h.z, xob_some]
    simp (disch := omega) only [iI_le]
    rw [if_pos (by omega)]
  | succ d ih =>
    intro r hr
    have bd := xmn_bd (f := xa2 gp ld x e) (z := 6 * e) (A := 0) (B := 6 * e) (by omega) r (fun j _ => xa2_bd (by omega) j)
    have b2 := xa2_bd (gp := gp) (ld := ld) (x := x) (e := e) (by omega) r
    have le := xmn_le (xa2 gp ld x e) (6 * e) n r (by omega)
    by_cases c : xmn (xa2 gp ld x e) (6 * e) r < q
    · refine ⟨xmn (xa2 gp ld x e) (6 * e) r, ?_, bd.1, bd.2, fun z => by omega, fun _ => c⟩
      rw [e_X3_nearestUnlessBelow_11, h.z, xob_some]
      simp (disch := omega) only [iI_le, iI_lt]
      rw [if_neg (by omega), if_pos c]
    · obtain ⟨v, g1, g2⟩ := ih (r + 1) (by omega)
      refine ⟨v, ?_, g2⟩
      rw [e_X3_nearestUnlessBelow_11, h.z, xob_some]
      simp (disch := omega) only [iI_le, iI_lt]
      rw [if_neg (by omega), if_neg c, h.o, cond_true, d_apartBy h (by omega) x0 x1 e0 e1, xob_some]
      dsimp only
      rw [c_min (by omega) (by omega) (by omega) (by omega), xob_some]
      dsimp only
      rw [iI_suc]
      exact g1
theorem d_nub (h : xOt S a n gp ld) {x e q : Int} (x0 : 0 ≤ x) (x1 : x ≤ 12000) (e0 : 1 ≤ e) (e1 : e ≤ 999) (q0 : -2147483648 ≤ q) (q1 : q < 2147483648) : ∃ v, xcI P m_X3_nearestUnlessBelow [.ref a, .int (iI x), .int (iI e), .int (iI q)] S = some (iI v, S) ∧ 0 ≤ v ∧ v ≤ 6 * e ∧ (q ≤ xmn (xa2 gp ld x e) (6 * e) n → v = xmn (xa2 gp ld x e) (6 * e) n) ∧ (xmn (xa2 gp ld x e) (6 * e) n < q → v < q) := by
  obtain ⟨v, g1, g2⟩ := l_nub (P := P) h x0 x1 e0 e1 q0 q1 n 0 (by omega)
  refine ⟨v, xcI_of ((e_X3_nearestUnlessBelow_0 P a (iI x) (iI e) (iI q) S).trans ?_), g2⟩
  rw [iI_mul, iI_div (by omega) (by omega) (by omega) (by omega), show 12 * e / 2 = 6 * e by omega]
  exact g1
theorem d_nearestBy (h : xOt S a n gp ld) {x e : Int} (x0 : 0 ≤ x) (x1 : x ≤ 12000) (e0 : 1 ≤ e) (e1 : e ≤ 999) : xcI P m_X3_nearestBy [.ref a, .int (iI x), .int (iI e)] S = some (iI (xmn (xa2 gp ld x e) (6 * e) n), S) := by
  have bd := xmn_bd (f := xa2 gp ld x e) (z := 6 * e) (A := 0) (B := 6 * e) (by omega) n (fun j _ => xa2_bd (by omega) j)
  obtain ⟨v, g1, -, -, g2, -⟩ := d_nub (P := P) h x0 x1 e0 e1 (q := 0) (by omega) (by omega)
  refine xcI_of ((e_X3_nearestBy_0 P a (iI x) (iI e) S).trans ?_)
  rw [h.o, cond_true, g1, xob_some, g2 bd.1]
theorem xol_bd (F : xF) (i r : Nat) : 0 ≤ xol F i r ∧ xol F i r < 12 := by
  unfold xol
  split <;> omega
theorem d_oadd {f g : Nat → Int32} (h : xOs S a n f g) (hn : n < 6) (hF : xFd S b F) {i r : Nat} (hi : i < F.1) (hr : r < F.1) (hab : a + 2 < b ∨ b + 2 < a) : ∃ S1, xcV P m_X3_add [.ref a, .ref b, .int (iI i), .int (iI r)] S = some S1 ∧ xOs S1 a (n + 1) (va_up f n (iI (xog F i r))) (va_up g n (iI (xol F i r))) ∧ xfr S S1 (x3 a) := by
  have vi := hF.1.2 i hi
  have vr := hF.1.2 r hr
  let S1 : xS := xpt S (a + 1) (.inr (0, (6, .inl (va_up f n (iI (xog F i r))))))
  have a1 : S1.1 a = _ := (show S1.1 a = S.1 a by rw [xpt_1, if_neg (by omega)]).trans h.1
  have a2 : S1.1 (a + 2) = _ := (show S1.1 (a + 2) = S.1 (a + 2) by rw [xpt_1, if_neg (by omega)]).trans h.2.2
  have p1 : xwrI S (a + 1) (iI n) (iI (xog F i r)) = some S1 := by
    rw [xwrI_at h.2.1 (by omega) (by omega) (by decide), Int.toNat_natCast]
  let S2 : xS := xpt S1 (a + 2) (.inr (0, (6, .inl (va_up g n (iI (xol F i r))))))
  have p2 : xwrI S1 (a + 2) (iI n) (iI (xol F i r)) = some S2 := by
    rw [xwrI_at a2 (by omega) (by omega) (by decide), Int.toNat_natCast]
  have b1 : S2.1 a = _ := (show S2.1 a = S1.1 a by rw [xpt_1, if_neg (by omega)]).trans a1
  let S3 : xS := xpt S2 a (.inl (3, [.ref (a + 1), .ref (a + 2), .int (iI ((n + 1 : Nat) : Int))]))
  have p3 : xpf S2 a 3 2 0 (.int (iI ((n + 1 : Nat) : Int))) = some S3 := (xpf_at b1 (show 2 < 3 by decide) rfl).trans rfl
  have f1 : xfr S S1 (x3 a) := xfr.pt ⟨by omega, by omega⟩
  have f2 : xfr S1 S2 (x3 a) := xfr.pt ⟨by omega, by omega⟩
  have f3 : xfr S2 S3 (x3 a) := xfr.pt ⟨by omega, by omega⟩
  refine ⟨S3, xcV_of ((e_X3_add_0 P a b (iI i) (iI r) S).trans ?_), ⟨by rw [xpt_1, if_pos rfl], by rw [xpt_1, if_neg (by omega), xpt_1, if_neg (by omega), xpt_1, if_pos rfl], by rw [xpt_1, if_neg (by omega), xpt_1, if_pos rfl]⟩, (f1.tr f2).tr f3⟩
  simp (disch := omega) only [xfI_at (k := 2) h.1 rfl, xob_some, iI_0, iI_lt]
  rw [if_neg (by omega), if_pos (by omega)]
  simp only [hF.o, cond_true, d_speedAt (P := P) hF hr, d_speedAt (P := P) hF hi, d_startAt (P := P) hF hr, d_startAt (P := P) hF hi, xob_some, xfR_at (k := 0) h.1 rfl, xfI_at (k := 2) h.1 rfl, iI_sub]
  rw [c_abs (by omega) (by omega), xob_some]
  dsimp only
  rw [show (((F.2.1 r - F.2.1 i).natAbs : Nat) : Int) = xog F i r from rfl, p1, xob_some, xfR_at (k := 1) a1 rfl, xob_some, xfI_at (k := 2) a1 rfl, xob_some]
  simp (disch := omega) only [iI_le, iI_neg]
  by_cases c : F.2.1 r < F.2.1 i
  · rw [if_neg (by omega), c_floorMod (by omega) (by omega) (by omega) (by omega), xob_some]
    dsimp only
    rw [show (-(F.2.2 r - F.2.2 i)) % 12 = xol F i r by unfold xol; rw [if_pos c], p2, xob_some, xfI_at (k := 2) b1 rfl, xob_some, iI_suc, p3, xob_some]
  · rw [if_pos (by omega), c_floorMod (by omega) (by omega) (by omega) (by omega), xob_some]
    dsimp only
    rw [show (F.2.2 r - F.2.2 i) % 12 = xol F i r by unfold xol; rw [if_neg c], p2, xob_some, xfI_at (k := 2) b1 rfl, xob_some, iI_suc, p3, xob_some]
end OT
