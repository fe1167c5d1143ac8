-- deps: 33.mworld
/-! at a time: place, apart, nearest, lonely, alone, crowd, laps, between -/
section AT
variable {P : Nat → Nat} {S : xS} {x m : Nat} {A : xAb}
theorem xIn.a {a k : Nat} {W : Int} {pl : Nat → Int} (h : xIn S a k W pl) : xIa S a := by
  obtain ⟨-, -, -, -, f, e, -⟩ := h
  exact ⟨k, W, f, e⟩
theorem xCl.see (H : xCl S x A) {p q : Int} (ct : (0 ≤ p ∧ p ≤ 9999 ∧ 1 ≤ q ∧ q ≤ 999)) : ∃ T, xcV P m_X2_see [.ref (x + 59), .ref (x + 1), .int (iI p), .int (iI q)] S = some T ∧ xIn T (x + 59) A.1.1 (12 * q) (xplc A.1 p q) ∧ xCl T x A ∧ xfr S T (xrg x 89) := by
  obtain ⟨k0, W0, f0, e⟩ := H.2.2.2.2.2.2.2.1
  obtain ⟨T, k1, k2, k3⟩ := d_isee (P := P) e H.2.1 (by omega) (p := p) (q := q) (by omega) (by omega) (by omega) (by omega)
  obtain ⟨k4, k5⟩ := H.in k3 k2.a
  exact ⟨T, k1, k2, k4, k5⟩
theorem xCl.io (H : xCl S x A) : xisO S (x + 59) 2 = true := by
  obtain ⟨k0, W0, f0, e⟩ := H.2.2.2.2.2.2.2.1
  exact xisO_at e.1
theorem xpo_bd32 {u l : Int} {t : Bool} (u0 : 0 ≤ u) (u1 : u < 2147483648) (l0 : 0 < l) (l1 : l < 2147483648) : 0 ≤ xpo u l t ∧ xpo u l t < 2147483648 := by
  have := xpo_bd (t := t) u0 l0
  omega
/-- a runner, a time -/
def a_rt (F : xF) (i p q v : Int) : Int := if (0 ≤ i ∧ i < F.1) ∧ (0 ≤ p ∧ p ≤ 9999 ∧ 1 ≤ q ∧ q ≤ 999) then v else -1
theorem xplc_bd (F : xF) {p q : Int} (hq : 0 < q) (i : Nat) : 0 ≤ xplc F p q i ∧ xplc F p q i < 12 * q := ⟨Int.emod_nonneg _ (by omega), Int.emod_lt_of_pos _ (by omega)⟩
theorem k_place (H : xCl S x A) {i p q : Int} (i1 : -2147483648 ≤ i) (i2 : i < 2147483648) (p1 : -2147483648 ≤ p) (p2 : p < 2147483648) (q1 : -2147483648 ≤ q) (q2 : q < 2147483648) (t : Bool) : xKI P S x m_X10_place [.int (iI i), .int (iI p), .int (iI q), .int (iI (xb t))] (iI (a_rt A.1 i p q (xpo (xplc A.1 p q i.toNat) (12 * q) t))) A := by
  have hF := H.2.1
  have hk := hF.1.1
  by_cases ci : 0 ≤ i ∧ i < A.1.1
  · by_cases ct : (0 ≤ p ∧ p ≤ 9999 ∧ 1 ≤ q ∧ q ≤ 999)
    · obtain ⟨r, rfl⟩ : ∃ r : Nat, i = r := ⟨i.toNat, by omega⟩
      have b := xplc_bd A.1 (p := p) (q := q) (by omega) r
      obtain ⟨T, k1, k2, H1, fr⟩ := H.see (P := P) ct
      refine ⟨T, xcI_of ((e_X10_place_0 P x (iI r) (iI p) (iI q) (iI (xb t)) S).trans ?_), H1, fr⟩
      rw [a_rt, if_pos ⟨ci, ct⟩, Int.toNat_natCast]
      simp only [H.r0, H.r7, H.io, hF.o, d_has hF i1 i2, if_pos ci, d_isTime p1 p2 q1 q2, if_pos ct, k1, H1.r7, k2.o, d_placeAt k2 (show r < A.1.1 by omega), d_whole k2, xob_some, cond_true, t_10, t_00, ne_eq, not_true_eq_false, not_false_eq_true, if_true, if_false]
      rw [iI_ji (by omega) (by omega), iI_ji (by omega) (by omega), d_partOf (by omega) (by omega) (by omega) (by omega), xob_some, jI_ij]
    · refine ⟨S, xcI_of ((e_X10_place_0 P x (iI i) (iI p) (iI q) (iI (xb t)) S).trans ?_), H, xfr.rf⟩
      rw [a_rt, if_neg (fun z => ct z.2)]
      simp only [H.r0, hF.o, d_has hF i1 i2, if_pos ci, d_isTime p1 p2 q1 q2, if_neg ct, xob_some, cond_true, t_10, t_00, ne_eq, not_true_eq_false, not_false_eq_true, if_true, if_false]
  · refine ⟨S, xcI_of ((e_X10_place_0 P x (iI i) (iI p) (iI q) (iI (xb t)) S).trans ?_), H, xfr.rf⟩
    rw [a_rt, if_neg (fun z => ci z.1)]
    simp only [H.r0, hF.o, d_has hF i1 i2, if_neg ci, xob_some, cond_true, t_10, t_00, ne_eq, not_true_eq_false, not_false_eq_true, if_true, if_false]
theorem h_place (H : xMl S m A) {i p q : Int} (i1 : -2147483648 ≤ i) (i2 : i < 2147483648) (p1 : -2147483648 ≤ p) (p2 : p < 2147483648) (q1 : -2147483648 ≤ q) (q2 : q < 2147483648) (t : Bool) : xGI P S m m_X11_place [.int (iI i), .int (iI p), .int (iI q), .int (iI (xb t))] (iI (a_rt A.1 i p q (xpo (xplc A.1 p q i.toNat) (12 * q) t))) A := by
  obtain ⟨ob, e0, -, -, hF, -⟩ := id H
  have hk := hF.1.1
  refine ⟨S, xcI_of ((e_X11_place_0 P m (iI i) (iI p) (iI q) (iI (xb t)) S).trans ?_), H, xfr.rf⟩
  by_cases ci : 0 ≤ i ∧ i < A.1.1
  · by_cases ct : (0 ≤ p ∧ p ≤ 9999 ∧ 1 ≤ q ∧ q ≤ 999)
    · obtain ⟨r, rfl⟩ : ∃ r : Nat, i = r := ⟨i.toNat, by omega⟩
      have b := xplc_bd A.1 (p := p) (q := q) (by omega) r
      rw [a_rt, if_pos ⟨ci, ct⟩, Int.toNat_natCast]
      simp only [e0.o, g_isRunner e0 hF i1 i2, if_pos ci, g_isTime p1 p2 q1 q2, if_pos ct, iI_ji p1 p2, iI_ji q1 q2, g_placeTop e0 hF (show r < A.1.1 by omega) (show 0 ≤ p by omega) (show p ≤ 1000000000000 by omega) (show 1 ≤ q by omega) (show q ≤ 1000000000000 by omega), jI_mul, xob_some, cond_true, t_10, t_00, ne_eq, not_true_eq_false, not_false_eq_true, if_true, if_false]
      rw [d_part (by omega) (by omega) (by omega) (by omega), xob_some, jI_ij]
    · rw [a_rt, if_neg (fun z => ct z.2)]
      simp only [e0.o, g_isRunner e0 hF i1 i2, if_pos ci, g_isTime p1 p2 q1 q2, if_neg ct, xob_some, cond_true, t_10, t_00, ne_eq, not_true_eq_false, not_false_eq_true, if_true, if_false]
  · rw [a_rt, if_neg (fun z => ci z.1)]
    simp only [e0.o, g_isRunner e0 hF i1 i2, if_neg ci, xob_some, cond_true, t_10, t_00, ne_eq, not_true_eq_false, not_false_eq_true, if_true, if_false]
end AT
