-- deps: 35.vwatch
/-! Vigil: who is lonely when, for the class as a whole -/
/-- the scale: G holds the gaps, the ring's parts are a multiple of 12 and of w -/
def xsc2 (sc pt : Int) (G w : Nat) : Prop := pt = ((Nat.lcm 12 w : Nat) : Int) ∧ sc = ((Nat.lcm 12 w * G : Nat) : Int) ∧ G ∣ xLc ∧ 1 ≤ w ∧ w ≤ 12
theorem xsc2.use {sc pt : Int} {G w : Nat} (h : xsc2 sc pt G w) : sc = pt * G ∧ (∃ pw : Int, pt = w * pw) ∧ (∃ p12 : Int, pt = 12 * p12) ∧ 12 ≤ pt ∧ pt ≤ 132 ∧ 12 ≤ sc ∧ sc ≤ 705266952332342400 := by
  obtain ⟨h1, h2, h3, h4, h5⟩ := h
  have wl := x_lcm12 h4 h5
  have bG := xLc_le h3
  obtain ⟨c1, hc1⟩ := wl.1
  obtain ⟨c2, hc2⟩ := wl.2.1
  have b1 := Nat.mul_le_mul wl.2.2.2 bG.2
  have b2 := Nat.mul_le_mul wl.2.2.1 bG.1
  refine ⟨by rw [h1, h2, Int.natCast_mul], ⟨c2, by rw [h1, hc2, Int.natCast_mul]⟩, ⟨c1, by rw [h1, hc1, Int.natCast_mul]; rfl⟩, by omega, by omega, by omega, by omega⟩
/-- lonely -/
def xsl (F : xF) (i : Nat) (sc : Int) (n : Nat) (u v : Nat → Int) : Prop := ∀ t, xme n u v t ↔ 0 ≤ t ∧ t ≤ 2 * sc ∧ xlo F i (12 * t) (2 * sc) = true
theorem xlo_iff {F : xF} {i : Nat} {x e : Int} (hk : 1 ≤ F.1) (he : 0 < e) : xlo F i x e = true ↔ xfar F i (if F.1 = 1 then 0 else 1) F.1 x e := by
  have b := xnr_bd F i (x := x) he
  unfold xlo xfar
  by_cases c : F.1 = 1
  · rw [if_pos c, Int.mul_zero]
    have := Int.mul_nonneg b.1 (show (0 : Int) ≤ F.1 by omega)
    simp [c, b.1]
  · rw [if_neg c, Int.mul_one]
    simp [c]
section V2
variable {P : Nat → Nat} {S : xS} {a b s1 s2 l1 l2 : Nat} {sc pt : Int} {F : xF}
theorem d_watchLonely (H : xVw S a s1 s2 l1 l2 sc pt) (h0 : xOa S (a + 1)) (hF : xFd S b F) (hab : a + 13 ≤ b ∨ b + 2 < a) {i : Nat} (hi : i < F.1) {G : Nat} (hm : xsc2 sc pt G F.1) (hg : xhg F i F.1 G) :
    ∃ S1 s1' s2' n u' v', xcV P m_X8_watchLonely [.ref a, .ref b, .int (iI i)] S = some S1 ∧ xVw S1 a s1' s2' l1 l2 sc pt ∧ xOa S1 (a + 1) ∧ xSp S1 s1' 210 n u' v' ∧ n ≤ 201 ∧ xsl F i sc n u' v' ∧ xfr S S1 (xrg a 13) := by
  have hk := hF.1.1
  obtain ⟨m1, ⟨pw, m2⟩, ⟨p12, m3⟩, m4, m5, m6, m7⟩ := hm.use
  have go : ∀ uu : Int, uu = (if F.1 = 1 then 0 else 1) → ∃ S1 s1' s2' n u' v', xcV P m_X8_watch [.ref a, .ref b, .int (iI i), .int (iI uu), .int (iI F.1)] S = some S1 ∧ xVw S1 a s1' s2' l1 l2 sc pt ∧ xOa S1 (a + 1) ∧ xSp S1 s1' 210 n u' v' ∧ n ≤ 201 ∧ xsl F i sc n u' v' ∧ xfr S S1 (xrg a 13) := by
    intro uu hu
    have b0 : 0 ≤ uu ∧ uu ≤ 1 := by rw [hu]; split <;> omega
    obtain ⟨S1, s1', s2', n, u', v', k1, k2, k3, k4, k5, k6, k7⟩ := d_watch (P := P) H h0 hF hab hi hm.2.2.1 m1 m2 m3 m4 m5 b0.1 (by omega) (by omega) (by omega) hg
    refine ⟨S1, s1', s2', n, u', v', k1, k2, k3, k4, k5, fun t => ?_, k7⟩
    rw [k6 t]
    constructor
    · rintro ⟨h1, h2, h3⟩
      rw [hu] at h3
      exact ⟨h1, h2, (xlo_iff (by omega) (by omega)).mpr h3⟩
    · rintro ⟨h1, h2, h3⟩
      rw [hu]
      exact ⟨h1, h2, (xlo_iff (by omega) (by omega)).mp h3⟩
  by_cases c : F.1 = 1
  · obtain ⟨S1, s1', s2', n, u', v', k1, k2⟩ := go 0 (by rw [if_pos c])
    refine ⟨S1, s1', s2', n, u', v', xcV_of ((e_X8_watchLonely_0 P a b (iI i) S).trans ?_), k2⟩
    rw [hF.o, cond_true, d_size hF, xob_some, if_neg (by rw [c]; simp), hF.o, cond_true, d_size hF, xob_some, H.1.o, cond_true, k1, xob_some]
  · obtain ⟨S1, s1', s2', n, u', v', k1, k2⟩ := go 1 (by rw [if_neg c])
    refine ⟨S1, s1', s2', n, u', v', xcV_of ((e_X8_watchLonely_0 P a b (iI i) S).trans ?_), k2⟩
    rw [hF.o, cond_true, d_size hF, xob_some, if_pos (by rw [ne_eq, iI_eq (by omega) (by omega) (by omega) (by omega)]; omega), hF.o, cond_true, d_size hF, xob_some, H.1.o, cond_true, k1, xob_some]
theorem x_bit1 {i : Nat} (hi : i < 6) : ∀ r : Nat, r < 6 → ((iI 1 <<< (iI i &&& 31)) >>> (iI r &&& 31)) &&& iI 1 = iI (if decide (r = i) then 1 else 0) := by
  have key : ∀ i r : Fin 6, ((iI 1 <<< (iI (i.val : Int) &&& 31)) >>> (iI (r.val : Int) &&& 31)) &&& iI 1 = iI (if decide (r.val = i.val) then 1 else 0) := by decide +kernel
  exact fun r hr => key ⟨i, hi⟩ ⟨r, hr⟩
theorem x_bit2 {i j : Nat} (hi : i < 6) (hj : j < 6) : ∀ r : Nat, r < 6 → (((iI 1 <<< (iI i &&& 31)) ||| (iI 1 <<< (iI j &&& 31))) >>> (iI r &&& 31)) &&& iI 1 = iI (if decide (r = i ∨ r = j) then 1 else 0) := by
  have key : ∀ i j r : Fin 6, (((iI 1 <<< (iI (i.val : Int) &&& 31)) ||| (iI 1 <<< (iI (j.val : Int) &&& 31))) >>> (iI (r.val : Int) &&& 31)) &&& iI 1 = iI (if decide (r.val = i.val ∨ r.val = j.val) then 1 else 0) := by decide +kernel
  exact fun r hr => key ⟨i, hi⟩ ⟨j, hj⟩ ⟨r, hr⟩
theorem x_bit6 : ∀ r : Nat, r < 6 → (iI 63 >>> (iI r &&& 31)) &&& iI 1 = iI (if true then 1 else 0) := by
  have key : ∀ r : Fin 6, (iI 63 >>> (iI (r.val : Int) &&& 31)) &&& iI 1 = iI (if true then 1 else 0) := by decide +kernel
  exact fun r hr => key ⟨r, hr⟩
theorem x_ct1 {i : Nat} : ∀ n, xct (fun r => decide (r = i)) n = if i < n then 1 else 0 := by
  intro n
  induction n with
  | zero => rfl
  | succ n ih =>
    simp only [xct]
    rw [ih]
    by_cases c : n = i
    · rw [if_neg (by omega), if_pos (decide_eq_true c), if_pos (by omega)]
    · rw [if_neg (show ¬ decide (n = i) = true by simpa using c)]
      by_cases d : i < n
      · rw [if_pos d, if_pos (by omega)]
      · rw [if_neg d, if_neg (by omega)]
/-- of the class's own Vigil -/
theorem xVa.w (h : xVa S a) : ∃ s1 s2 l1 l2 sc pt, xVw S a s1 s2 l1 l2 sc pt ∧ xOa S (a + 1) := by
  obtain ⟨⟨s1, s2, l1, l2, sc, pt, e0⟩, e1, e2, e3, e4, -⟩ := h
  have hs := e0.2.1
  refine ⟨s1, s2, l1, l2, sc, pt, ⟨e0, e2, ?_, ?_⟩, e1⟩
  · rcases hs with ⟨h1, h2⟩ | ⟨h1, h2⟩
    · rw [h1]; exact e3
    · rw [h1]; exact e4
  · rcases hs with ⟨h1, h2⟩ | ⟨h1, h2⟩
    · rw [h2]; exact e4
    · rw [h2]; exact e3
theorem xVa.wb {S1 : xS} (h : xVa S a) (hf : xfr S S1 (xrg a 13)) {s1 s2 l1 l2 : Nat} {sc pt : Int} (w : xVw S1 a s1 s2 l1 l2 sc pt) (o : xOa S1 (a + 1)) : xVa S1 a := by
  obtain ⟨-, -, -, -, -, e5, e6, f, e7⟩ := h
  obtain ⟨e0, e2, e3, e4⟩ := w
  have hs := e0.2.1
  have k : ∀ b, ¬ xrg a 13 b ↔ ¬ (a ≤ b ∧ b < a + 13) := fun b => Iff.rfl
  refine ⟨⟨s1, s2, l1, l2, sc, pt, e0⟩, o, e2, ?_, ?_, e5.fr hf (fun b hb => (k b).mpr (by unfold x3 at hb; omega)), e6.fr hf (fun b hb => (k b).mpr (by unfold x3 at hb; omega)), f, (hf.2 _ ((k _).mpr (by omega))).trans e7⟩
  · rcases hs with ⟨h1, h2⟩ | ⟨h1, h2⟩
    · rw [← h1]; exact e3
    · rw [← h2]; exact e4
  · rcases hs with ⟨h1, h2⟩ | ⟨h1, h2⟩
    · rw [← h2]; exact e4
    · rw [← h1]; exact e3
theorem xVw.fr {S1 : xS} {B : Nat → Prop} (h : xVw S a s1 s2 l1 l2 sc pt) (hf : xfr S S1 B) (h0 : ¬ B a) (h1 : ∀ b, a + 4 ≤ b → b < a + 13 → ¬ B b) : xVw S1 a s1 s2 l1 l2 sc pt := by
  obtain ⟨e0, e2, e3, e4⟩ := h
  have hs := e0.2.1
  exact ⟨e0.fr hf h0, e2.fr hf (fun b hb => h1 b (by unfold x3 at hb; omega) (by unfold x3 at hb; omega)), e3.fr hf (fun b hb => h1 b (by unfold x3 at hb; omega) (by unfold x3 at hb; omega)), e4.fr hf (fun b hb => h1 b (by unfold x3 at hb; omega) (by unfold x3 at hb; omega))⟩
end V2
section VC
variable {P : Nat → Nat} {S : xS} {x : Nat} {A : xAb}
theorem xCl.va (H : xCl S x A) : xVa S (x + 68) := H.2.2.2.2.2.2.2.2.2.2.1
/-- one is watched -/
theorem d_watchOne (H : xCl S x A) {i : Nat} (hi : i < A.1.1) : ∃ S1 s1 s2 l1 l2 sc pt G n u v, xcV P m_X10_watchOne [.ref x, .int (iI i)] S = some S1 ∧ xCl S1 x A ∧ xfr S S1 (xrg x 89) ∧ xVw S1 (x + 68) s1 s2 l1 l2 sc pt ∧ xsc2 sc pt G A.1.1 ∧ G ≤ 102400000 ∧ xhg A.1 i A.1.1 G ∧ xSp S1 s1 210 n u v ∧ n ≤ 201 ∧ xsl A.1 i sc n u v := by
  have hF := H.2.1
  have hk := hF.1.1
  obtain ⟨s1, s2, l1, l2, sc, pt, hw, ho⟩ := H.va.w
  obtain ⟨T, G, k1, k2, k3, k4, k5, k6⟩ := d_measureFor (P := P) hw.1 hF (by omega) (x_bit1 (i := i) (by omega)) (w := A.1.1) (by omega) (by omega)
  rw [x_ct1, if_pos hi] at k5
  have hF1 := hF.fr k6 (fun b hb hz => by unfold x3 at hb; omega)
  have hw1 : xVw T (x + 68) s1 s2 l1 l2 ((Nat.lcm 12 A.1.1 * G : Nat) : Int) ((Nat.lcm 12 A.1.1 : Nat) : Int) := by
    obtain ⟨-, e2, e3, e4⟩ := hw
    have hs := k2.2.1
    exact ⟨k2, e2.fr k6 (fun b hb hz => by unfold x3 at hb; omega), e3.fr k6 (fun b hb hz => by unfold x3 at hb; omega), e4.fr k6 (fun b hb hz => by unfold x3 at hb; omega)⟩
  have ho1 := ho.fr k6 (fun b hb hz => by unfold x3 at hb; omega)
  have hm : xsc2 ((Nat.lcm 12 A.1.1 * G : Nat) : Int) ((Nat.lcm 12 A.1.1 : Nat) : Int) G A.1.1 := ⟨rfl, rfl, k3, by omega, by omega⟩
  have hg := k4 i hi (decide_eq_true rfl)
  obtain ⟨S1, s1', s2', n, u, v, m1, m2, m3, m4, m5, m6, m7⟩ := d_watchLonely (P := P) hw1 ho1 hF1 (by omega) hi hm hg
  have f1 : xfr S T (xrg (x + 68) 13) := k6.mono (fun c hc => ⟨by omega, by omega⟩)
  have f2 := f1.tr m7
  obtain ⟨c1, c2⟩ := H.vi (f2.mono (fun b hb => by unfold xrg at hb ⊢; omega)) (H.va.wb f2 m2 m3)
  refine ⟨S1, s1', s2', l1, l2, _, _, G, n, u, v, xcV_of ((e_X10_watchOne_0 P x (iI i) S).trans ?_), c1, c2, m2, hm, by simpa using k5, hg, m4, m5, m6⟩
  have r0 : xfR T x 10 0 = some (x + 1) := xfR_at ((k6.2 x (by omega)).trans H.1) rfl
  have r10 : xfR T x 10 10 = some (x + 68) := xfR_at ((k6.2 x (by omega)).trans H.1) rfl
  simp only [H.r10, H.r0, hF.o, d_size hF, hw.1.o, k1, r10, r0, k2.o, m1, xob_some, cond_true]
end VC
