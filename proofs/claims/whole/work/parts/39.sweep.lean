-- deps: 38.lays
/-! between two times that turn nothing changes; the stretches, one after the other -/
theorem xol_mr (F : xF) {i j : Nat} (h : F.2.1 i ≠ F.2.1 j) : xol F i j = xmr F i j % 12 ∧ xog F i j = xmg F i j := by
  unfold xol xmr xog xmg
  refine ⟨?_, by omega⟩
  by_cases c : F.2.1 i < F.2.1 j
  · rw [if_pos c, if_neg (by omega)]
  · rw [if_neg c, if_pos (by omega)]
    congr 1
    omega
/-- what is known of a scale -/
def xsg (F : xF) (i : Nat) (w pt pw p12 G sc : Int) : Prop := sc = pt * G ∧ pt = w * pw ∧ pt = 12 * p12 ∧ 0 < pt ∧ 0 < G ∧ ∀ j, j < F.1 → F.2.1 i ≠ F.2.1 j → xmg F i j ∣ G
theorem x_constJ {F : xF} {i j : Nat} {u w pt pw p12 G sc A B t t' : Int} (hg : xsg F i w pt pw p12 G sc) (hj : j < F.1) (w0 : 0 < w) (u0 : 0 < u) (A0 : 0 ≤ A) (B1 : B ≤ sc) (hno : ∀ Y, A < Y → Y < B → ¬ xcr F i j u w sc Y) (ht1 : 2 * A < t) (ht2 : t < 2 * B) (h1 : 2 * A ≤ t') (h2 : t' ≤ 2 * B)
    (h : 12 * (2 * sc) * u ≤ xdd F i j (12 * t) (2 * sc) * w) : 12 * (2 * sc) * u ≤ xdd F i j (12 * t') (2 * sc) * w := by
  obtain ⟨hsc, hp, hp2, p0, G0, hd⟩ := hg
  have sc0 : 0 < sc := by rw [hsc]; exact Int.mul_pos p0 G0
  by_cases c : F.2.1 i = F.2.1 j
  · have e : xdd F i j (12 * t') (2 * sc) = xdd F i j (12 * t) (2 * sc) := by
      unfold xdd
      rw [show F.2.1 j - F.2.1 i = 0 by omega, Int.zero_mul, Int.zero_mul]
    rw [e]
    exact h
  · obtain ⟨s, hs⟩ := hd j hj c
    have gb : 1 ≤ xmg F i j := by unfold xmg; omega
    have s0 : 0 < s := by
      by_cases k : 0 < s
      · exact k
      · have := Int.mul_le_mul_of_nonneg_left (show s ≤ 0 by omega) (show 0 ≤ xmg F i j by omega)
        omega
    obtain ⟨o1, o2⟩ := xol_mr F c
    have lb := xol_bd F i j
    have key : ∀ y : Int, 0 ≤ y → y ≤ 2 * sc → (12 * (2 * sc) * u ≤ xdd F i j (12 * y) (2 * sc) * w ↔ ∃ m : Nat, (m : Int) ≤ xog F i j ∧ 2 * ((m * pt + pw * u - p12 * xol F i j) * s) ≤ y ∧ y ≤ 2 * ((m * pt + pt - pw * u - p12 * xol F i j) * s)) := by
      intro y y0 y1
      have := x_single (gp := xog F i) (ld := xol F i) (r := j) (G := G) (u := u) (w := w) (t := y) s0 (by rw [o2]; exact hs) (by rw [o2]; exact gb) lb.1 lb.2 u0 w0 hp hp2 p0 hsc y0 y1
      unfold xfa at this
      rw [xa2_dd F i j (by omega)] at this
      exact this
    have dm := Int.mul_ediv_add_emod (xmr F i j) 12
    have e12 : xmr F i j = xol F i j + 12 * (xmr F i j / 12) := by rw [o1]; omega
    generalize hd12 : xmr F i j / 12 = d at e12
    have cr : ∀ z : Int, xcr F i j u w sc ((z * pt + pw * u - p12 * xol F i j) * s) ∧ xcr F i j u w sc ((z * pt + pt - pw * u - p12 * xol F i j) * s) := by
      intro z
      have f1 : z * pt * s * (12 * w * xmg F i j) = sc * (12 * w * z) := by rw [hsc, hs]; ac_rfl
      have f2 : pw * u * s * (12 * w * xmg F i j) = sc * (12 * u) := by rw [hsc, hs, hp]; ac_rfl
      have f3 : p12 * xol F i j * s * (12 * w * xmg F i j) = sc * (w * xol F i j) := by rw [hsc, hs, hp2]; ac_rfl
      have f4 : pt * s * (12 * w * xmg F i j) = sc * (12 * w) := by rw [hsc, hs]; ac_rfl
      have f5 : w * xmr F i j = w * xol F i j + 12 * w * d := by
        rw [e12, Int.mul_add]
        congr 1
        ac_rfl
      refine ⟨⟨c, 1, z + d, Or.inl rfl, ?_⟩, ⟨c, -1, z + 1 + d, Or.inr rfl, ?_⟩⟩
      · rw [Int.sub_mul, Int.add_mul, Int.sub_mul, Int.add_mul, f1, f2, f3, f5, ← Int.mul_add, ← Int.mul_sub, Int.mul_add (12 * w)]
        congr 1
        omega
      · simp only [Int.sub_mul, Int.add_mul, f1, f2, f3, f4, f5]
        rw [← Int.mul_add, ← Int.mul_sub, ← Int.mul_sub, Int.mul_add (12 * w), Int.mul_add (12 * w)]
        congr 1
        omega
    obtain ⟨m, m1, m2, m3⟩ := (key t (by omega) (by omega)).mp h
    obtain ⟨q1, q2⟩ := cr m
    have g1 : (m * pt + pw * u - p12 * xol F i j) * s ≤ A := by
      by_cases k : (m * pt + pw * u - p12 * xol F i j) * s ≤ A
      · exact k
      · exact absurd q1 (hno _ (by omega) (by omega))
    have g2 : B ≤ (m * pt + pt - pw * u - p12 * xol F i j) * s := by
      by_cases k : B ≤ (m * pt + pt - pw * u - p12 * xol F i j) * s
      · exact k
      · exact absurd q2 (hno _ (by omega) (by omega))
    exact (key t' (by omega) (by omega)).mpr ⟨m, m1, by omega, by omega⟩
theorem x_const {F : xF} {i : Nat} {u w pt pw p12 G sc A B t t' : Int} (hg : xsg F i w pt pw p12 G sc) (w0 : 0 < w) (u0 : 0 ≤ u) (A0 : 0 ≤ A) (B1 : B ≤ sc) (hno : ∀ Y, A < Y → Y < B → ∀ j, j < F.1 → j ≠ i → ¬ xcr F i j u w sc Y) (ht1 : 2 * A < t) (ht2 : t < 2 * B) (h1 : 2 * A ≤ t') (h2 : t' ≤ 2 * B) (h : xfar F i u w (12 * t) (2 * sc)) : xfar F i u w (12 * t') (2 * sc) := by
  have sc0 : 0 < sc := by rw [hg.1]; exact Int.mul_pos hg.2.2.2.1 hg.2.2.2.2.1
  rw [xfar_iff F i (by omega) w0] at h ⊢
  refine ⟨h.1, fun j hj hji => ?_⟩
  by_cases c : u = 0
  · have := (xdd_bd F i j (x := 12 * t') (e := 2 * sc) (by omega)).1
    have := Int.mul_nonneg this (show 0 ≤ w by omega)
    rw [c, Int.mul_zero]
    exact this
  · exact x_constJ hg hj w0 (by omega) A0 B1 (fun Y y1 y2 => hno Y y1 y2 j hj hji) ht1 ht2 h1 h2 (h.2 j hj hji)
/-- the scale does not matter -/
theorem xdd_scale (F : xF) (i j : Nat) {x e c : Int} (hc : 0 < c) : xdd F i j (x * c) (e * c) = xdd F i j x e * c := by
  unfold xdd
  rw [show (F.2.1 j - F.2.1 i) * (x * c) + (F.2.2 j - F.2.2 i) * (e * c) = ((F.2.1 j - F.2.1 i) * x + (F.2.2 j - F.2.2 i) * e) * c by rw [Int.add_mul, Int.mul_assoc, Int.mul_assoc], ← Int.mul_assoc, xmul_emod hc, ← Int.sub_mul, xmin_mul (by omega)]
theorem xlst_scale {f g : Nat → Int} {i z c : Int} (hc : 0 < c) (h : ∀ r, g r = f r * c) : ∀ n, xlst g i (z * c) n = xlst f i z n * c := by
  intro n
  induction n with
  | zero => rfl
  | succ n ih =>
    simp only [xlst]
    rw [ih, h n]
    split
    · rfl
    · rw [xmin_mul (by omega)]
theorem xnr_scale (F : xF) (i : Nat) {x e c : Int} (hc : 0 < c) : xnr F i (x * c) (e * c) = xnr F i x e * c := by
  unfold xnr
  rw [← Int.mul_assoc]
  exact xlst_scale hc (fun j => xdd_scale F i j hc) F.1
theorem xfar_scale (F : xF) (i : Nat) {u w x e c : Int} (hc : 0 < c) : xfar F i u w (x * c) (e * c) ↔ xfar F i u w x e := by
  unfold xfar
  rw [xnr_scale F i hc, show 12 * (e * c) * u = 12 * e * u * c by ac_rfl, show xnr F i x e * c * w = xnr F i x e * w * c by ac_rfl]
  exact Int.mul_le_mul_right hc
/-- a time p by q, in halves of a part -/
theorem xfar_at (F : xF) (i : Nat) {u w p q t sc : Int} (hq : 0 < q) (hs : 0 < sc) (h : p * (2 * sc) = t * q) : xfar F i u w (12 * p) q ↔ xfar F i u w (12 * t) (2 * sc) := by
  rw [← xfar_scale F i (c := 2 * sc) (by omega), ← xfar_scale F i (x := 12 * t) (c := q) hq, Int.mul_assoc, Int.mul_assoc, h, Int.mul_comm q]
theorem xlo_at {F : xF} {i : Nat} {p q t sc : Int} (hk : 1 ≤ F.1) (hq : 0 < q) (hs : 0 < sc) (h : p * (2 * sc) = t * q) : xlo F i (12 * p) q = xlo F i (12 * t) (2 * sc) := by
  have e := xfar_at F i (u := if F.1 = 1 then 0 else 1) (w := F.1) hq hs h
  rw [← xlo_iff hk hq, ← xlo_iff hk (by omega)] at e
  exact Bool.eq_iff_iff.mpr e
section SW
variable {P : Nat → Nat} {S : xS} {m n c : Nat} {ob : Nat → Value} {sc : Int} {T u v : Nat → Int} {F : xF}
/-- ends: over their lower parts; in parts of sc they are U -/
def xEn (S : xS) (a b n : Nat) (sc : Int) (U : Nat → Int) : Prop := ∃ (tt tb : Nat → Int) (f g : Nat → Int64), S.1 a = some (.inr (1, (1300, .inr (.inl f)))) ∧ S.1 b = some (.inr (1, (1300, .inr (.inl g)))) ∧ ∀ k, k < n → f k = jI (tt k) ∧ g k = jI (tb k) ∧ 1 ≤ tb k ∧ tb k ≤ 5760 ∧ tt k * sc = U k * tb k
theorem xEn.fr {S1 : xS} {a b : Nat} {U : Nat → Int} {B : Nat → Prop} (h : xEn S a b n sc U) (hf : xfr S S1 B) (ha : ¬ B a) (hb : ¬ B b) : xEn S1 a b n sc U := by
  obtain ⟨tt, tb, f, g, e1, e2, h3⟩ := h
  exact ⟨tt, tb, f, g, (hf.2 _ ha).trans e1, (hf.2 _ hb).trans e2, h3⟩
theorem xEn.put {a b : Nat} {U : Nat → Int} (h : xEn S a b c sc U) (hc : c < 1300) (hab : a ≠ b) {p q : Int} (q0 : 1 ≤ q) (q1 : q ≤ 5760) : ∃ S1 S2, xwrJ S a (iI c) (jI p) = some S1 ∧ xwrJ S1 b (iI c) (jI q) = some S2 ∧ xEn S2 a b c sc U ∧ (p * sc = U c * q → xEn S2 a b (c + 1) sc U) ∧ xfr S S1 (fun d => d = a) ∧ xfr S1 S2 (fun d => d = b) := by
  obtain ⟨tt, tb, f, g, e1, e2, h3⟩ := h
  obtain ⟨S1, k1, k2, k3⟩ := xwrJ_fr (v := jI p) e1 (i := c) (by omega) (by omega) (by omega)
  obtain ⟨S2, j1, j2, j3⟩ := xwrJ_fr (v := jI q) ((k3.2 _ (fun z => hab z.symm)).trans e2) (i := c) (by omega) (by omega) (by omega)
  rw [Int.toNat_natCast] at k2 j2
  have k2' : S2.1 a = _ := (j3.2 _ hab).trans k2
  refine ⟨S1, S2, k1, j1, ⟨tt, tb, _, _, k2', j2, fun k hk => ?_⟩, fun he => ⟨va_up tt c p, va_up tb c q, _, _, k2', j2, fun k hk => ?_⟩, k3, j3⟩
  · rw [va_up_at, va_up_at, if_neg (by omega), if_neg (by omega)]
    exact h3 k hk
  · simp only [va_up_at]
    by_cases d : k = c
    · simp only [if_pos d]
      exact ⟨trivial, trivial, q0, q1, by rw [d]; exact he⟩
    · simp only [if_neg d]
      exact h3 k (by omega)
theorem d_closes (hM : xMo S m ob) (ho : ob 20 = .int (iI c)) (hc : c < 1300) (h : xEn S (m + 12) (m + 13) c sc v) {p q : Int} (q0 : 1 ≤ q) (q1 : q ≤ 5760) : ∃ S1, xcV P m_X11_closes [.ref m, .long (jI p), .long (jI q)] S = some S1 ∧ xMo S1 m ob ∧ xEn S1 (m + 12) (m + 13) c sc v ∧ (p * sc = v c * q → xEn S1 (m + 12) (m + 13) (c + 1) sc v) ∧ xfr S S1 (fun d => d = m + 12 ∨ d = m + 13) := by
  obtain ⟨S1, S2, k1, k2, k3, k4, k5, k6⟩ := h.put hc (by omega) (p := p) q0 q1
  have hM1 := hM.fr k5 (by omega)
  have hM2 := hM1.fr k6 (by omega)
  refine ⟨S2, xcV_of ((e_X11_closes_0 P m (jI p) (jI q) S).trans ?_), hM2, k3, k4, (k5.mono (fun d h => Or.inl h)).tr (k6.mono (fun d h => Or.inr h))⟩
  rw [hM.r18, xob_some, hM.i (by omega) ho, xob_some, k1, xob_some, hM1.r19, xob_some, hM1.i (by omega) ho, xob_some, k2, xob_some]
theorem d_opens (hM : xMo S m ob) (ho : ob 20 = .int (iI c)) (hc : c < 1300) (h : xEn S (m + 12) (m + 13) c sc v) (h' : xEn S (m + 10) (m + 11) c sc u) {p q : Int} (q0 : 1 ≤ q) (q1 : q ≤ 5760) (hu : p * sc = u c * q) : ∃ S1, xcV P m_X11_opens [.ref m, .long (jI p), .long (jI q)] S = some S1 ∧ xMo S1 m ob ∧ xEn S1 (m + 12) (m + 13) c sc v ∧ xEn S1 (m + 10) (m + 11) (c + 1) sc u ∧ xfr S S1 (fun d => m + 10 ≤ d ∧ d ≤ m + 13) := by
  obtain ⟨S1, S2, k1, k2, k3, k4, k5, k6⟩ := h'.put hc (by omega) (p := p) q0 q1
  have hM1 := hM.fr k5 (by omega)
  have hM2 := hM1.fr k6 (by omega)
  have h2 := (h.fr k5 (by omega) (by omega)).fr k6 (by omega) (by omega)
  obtain ⟨S3, j1, j2, j3, j4, j5⟩ := d_closes (P := P) hM2 ho hc h2 (p := p) q0 q1
  refine ⟨S3, xcV_of ((e_X11_opens_0 P m (jI p) (jI q) S).trans ?_), j2, j3, (k4 hu).fr j5 (by omega) (by omega), ((k5.mono (fun d h => by omega)).tr (k6.mono (fun d h => by omega))).tr (j5.mono (fun d h => by omega))⟩
  rw [hM.r16, xob_some, hM.i (by omega) ho, xob_some, k1, xob_some, hM1.r17, xob_some, hM1.i (by omega) ho, xob_some, k2, xob_some, hM2.o, cond_true, j1, xob_some]
end SW
