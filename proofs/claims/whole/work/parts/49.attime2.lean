-- deps: 48.firsts
/-! at a time: apart, nearest, lonely, alone, crowd, laps, between -/
section AU
variable {P : Nat → Nat} {S : xS} {x m : Nat} {A : xAb}
theorem z_place (H : xCl S x A) {i p q : Int} (i1 : -2147483648 ≤ i) (i2 : i < 2147483648) (p1 : -2147483648 ≤ p) (p2 : p < 2147483648) (q1 : -2147483648 ≤ q) (q2 : q < 2147483648) (t : Bool) : ∃ v A', xKI P S x m_X10_place [.int (iI i), .int (iI p), .int (iI q), .int (iI (xb t))] v A' ∧ ∀ S', xMl S' m A → xGI P S' m m_X11_place [.int (iI i), .int (iI p), .int (iI q), .int (iI (xb t))] v A' :=
  ⟨_, A, k_place H i1 i2 p1 p2 q1 q2 t, fun S' M => h_place M i1 i2 p1 p2 q1 q2 t⟩
/-- the way to the next one -/
theorem xwn_0 {F : xF} {p q : Int} (hq : 0 < q) (i : Nat) : ∀ n, xwn (xplc F p q) (12 * q) i 0 n = xlst (fun j => (xplc F p q j - xplc F p q i) % (12 * q)) i (12 * q) n := by
  intro n
  induction n with
  | zero => rfl
  | succ n ih =>
    rw [xwn_suc, ih]
    simp only [xlst]
    have b0 := Int.emod_nonneg (xplc F p q n - xplc F p q i) (show 12 * q ≠ 0 by omega)
    by_cases c : (n : Int) = i
    · rw [if_pos c, if_pos c]
    · rw [if_neg c, if_neg c]
      unfold xwy
      rw [if_neg (by omega)]
      split <;> omega
theorem g_ahead {ob : Nat → Value} {F : xF} (h : xMo S m ob) (hF : xRo S (m + 1) F) {i : Nat} (hi : i < F.1) {p q : Int} (p0 : 0 ≤ p) (p1 : p ≤ 1000000000000) (q0 : 1 ≤ q) (q1 : q ≤ 1000000000000) : xcJ P m_X11_ahead [.ref m, .int (iI i), .long (jI p), .long (jI q)] S = some (jI (xlst (fun j => (xplc F p q j - xplc F p q i) % (12 * q)) i (12 * q) F.1), S) := by
  have hk := hF.1.1
  refine xcJ_of ((e_X11_ahead_0 P m (iI i) (jI p) (jI q) S).trans ?_)
  rw [jI_mul]
  refine (xsteps (fun r => xrun P m_X11_ahead 11 [(0, .ref m), (1, .int (iI i)), (2, .long (jI p)), (4, .long (jI q)), (6, .long (jI (xlst (fun j => (xplc F p q j - xplc F p q i) % (12 * q)) i (12 * q) r))), (8, .int (iI r))] [] S) F.1 ?_).trans ?_
  · intro r hr
    try dsimp only
    have bi := xplc_bd F (p := p) (q := q) (by omega) i
    have br := xplc_bd F (p := p) (q := q) (by omega) r
    have bd := xlst_bd (f := fun j => (xplc F p q j - xplc F p q i) % (12 * q)) (i := i) (z := 12 * q) (A := 0) (B := 12 * q) (by omega) r (fun j _ => ⟨Int.emod_nonneg _ (by omega), Int.le_of_lt (Int.emod_lt_of_pos _ (by omega))⟩)
    have b0 := Int.emod_nonneg (xplc F p q r - xplc F p q i) (show 12 * q ≠ 0 by omega)
    have b1 := Int.emod_lt_of_pos (xplc F p q r - xplc F p q i) (show 0 < 12 * q by omega)
    rw [e_X11_ahead_11, h.r1, xob_some, g_K hF, xob_some]
    simp (disch := omega) only [iI_le, iI_eq, xlst, iI_suc]
    rw [if_neg (by omega)]
    by_cases c : (r : Int) = i
    · rw [if_pos c, if_pos c]
    · rw [if_neg c, if_neg c, h.o, cond_true, g_placeTop h hF (by omega) p0 p1 q0 q1, xob_some]
      dsimp only
      rw [h.o, cond_true, g_placeTop h hF hi p0 p1 q0 q1, xob_some, jI_sub, jI_mul]
      dsimp only
      rw [d_ring (by omega) (by omega) (by omega) (by omega), xob_some]
      dsimp only
      rw [d_lesser (by omega) (by omega) (by omega) (by omega), xob_some]
  · try dsimp only
    rw [e_X11_ahead_11, h.r1, xob_some, g_K hF, xob_some]
    simp (disch := omega) only [iI_le]
    rw [if_pos (by omega)]
theorem z_apart (H : xCl S x A) {i j p q : Int} (i1 : -2147483648 ≤ i) (i2 : i < 2147483648) (j1 : -2147483648 ≤ j) (j2 : j < 2147483648) (p1 : -2147483648 ≤ p) (p2 : p < 2147483648) (q1 : -2147483648 ≤ q) (q2 : q < 2147483648) (t : Bool) : ∃ v A', xKI P S x m_X10_apart [.int (iI i), .int (iI j), .int (iI p), .int (iI q), .int (iI (xb t))] v A' ∧ ∀ S', xMl S' m A → xGI P S' m m_X11_apart [.int (iI i), .int (iI j), .int (iI p), .int (iI q), .int (iI (xb t))] v A' := by
  have hF := H.2.1
  have hk := hF.1.1
  have ee := iI_eq i1 i2 j1 j2
  by_cases cb : 0 ≤ i ∧ i < A.1.1 ∧ 0 ≤ j ∧ j < A.1.1 ∧ i ≠ j
  · obtain ⟨r, rfl⟩ : ∃ r : Nat, i = r := ⟨i.toNat, by omega⟩
    obtain ⟨o, rfl⟩ : ∃ o : Nat, j = o := ⟨j.toNat, by omega⟩
    have hr : r < A.1.1 := by omega
    have ho : o < A.1.1 := by omega
    have cr : 0 ≤ (r : Int) ∧ (r : Int) < A.1.1 := by omega
    have co : 0 ≤ (o : Int) ∧ (o : Int) < A.1.1 := by omega
    have ne : (iI (r : Int) = iI (o : Int)) = False := by rw [ee]; simp; omega
    by_cases ct : (0 ≤ p ∧ p ≤ 9999 ∧ 1 ≤ q ∧ q ≤ 999)
    · have b := xdd_bd A.1 r o (x := 12 * p) (e := q) (by omega)
      obtain ⟨T, k1, k2, H1, fr⟩ := H.see (P := P) ct
      refine ⟨iI (xpo (xdd A.1 r o (12 * p) q) (12 * q) t), A, ⟨T, xcI_of ((e_X10_apart_0 P x (iI r) (iI o) (iI p) (iI q) (iI (xb t)) S).trans ?_), H1, fr⟩, fun S' M => ?_⟩
      · simp only [H.r0, H.r7, H.io, hF.o, d_hasBoth hF i1 i2 j1 j2, if_pos cb, d_isTime p1 p2 q1 q2, if_pos ct, k1, H1.r7, k2.o, d_apartOf k2 hr ho, xap_dd A.1 p q (show 0 < q by omega), d_whole k2, xob_some, cond_true, t_10, t_00, ne_eq, not_true_eq_false, not_false_eq_true, if_true, if_false]
        rw [iI_ji (by omega) (by omega), iI_ji (by omega) (by omega), d_partOf (by omega) (by omega) (by omega) (by omega), xob_some, jI_ij]
      · obtain ⟨ob, e0, -, -, hR, -⟩ := id M
        refine ⟨S', xcI_of ((e_X11_apart_0 P m (iI r) (iI o) (iI p) (iI q) (iI (xb t)) S').trans ?_), M, xfr.rf⟩
        simp only [e0.o, g_isRunner e0 hR i1 i2, if_pos cr, g_isRunner e0 hR j1 j2, if_pos co, ne, g_isTime p1 p2 q1 q2, if_pos ct, iI_ji p1 p2, iI_ji q1 q2, g_apartTop e0 hR hr ho (show 0 ≤ p by omega) (show p ≤ 1000000000000 by omega) (show 1 ≤ q by omega) (show q ≤ 1000000000000 by omega), jI_mul, xob_some, cond_true, t_10, t_00, ne_eq, not_true_eq_false, not_false_eq_true, if_true, if_false]
        rw [d_part (by omega) (by omega) (by omega) (by omega), xob_some, jI_ij]
    · refine ⟨iI (-1), A, ⟨S, xcI_of ((e_X10_apart_0 P x (iI r) (iI o) (iI p) (iI q) (iI (xb t)) S).trans ?_), H, xfr.rf⟩, fun S' M => ?_⟩
      · simp only [H.r0, hF.o, d_hasBoth hF i1 i2 j1 j2, if_pos cb, d_isTime p1 p2 q1 q2, if_neg ct, xob_some, cond_true, t_10, t_00, ne_eq, not_true_eq_false, not_false_eq_true, if_true, if_false]
      · obtain ⟨ob, e0, -, -, hR, -⟩ := id M
        refine ⟨S', xcI_of ((e_X11_apart_0 P m (iI r) (iI o) (iI p) (iI q) (iI (xb t)) S').trans ?_), M, xfr.rf⟩
        simp only [e0.o, g_isRunner e0 hR i1 i2, if_pos cr, g_isRunner e0 hR j1 j2, if_pos co, ne, g_isTime p1 p2 q1 q2, if_neg ct, xob_some, cond_true, t_10, t_00, ne_eq, not_true_eq_false, not_false_eq_true, if_true, if_false]
  · refine ⟨iI (-1), A, ⟨S, xcI_of ((e_X10_apart_0 P x (iI i) (iI j) (iI p) (iI q) (iI (xb t)) S).trans ?_), H, xfr.rf⟩, fun S' M => ?_⟩
    · simp only [H.r0, hF.o, d_hasBoth hF i1 i2 j1 j2, if_neg cb, xob_some, cond_true, t_10, t_00, ne_eq, not_true_eq_false, not_false_eq_true, if_true, if_false]
    · obtain ⟨ob, e0, -, -, hR, -⟩ := id M
      refine ⟨S', xcI_of ((e_X11_apart_0 P m (iI i) (iI j) (iI p) (iI q) (iI (xb t)) S').trans ?_), M, xfr.rf⟩
      by_cases ci : 0 ≤ i ∧ i < A.1.1
      · by_cases cj : 0 ≤ j ∧ j < A.1.1
        · have eq : (iI i = iI j) = True := by rw [ee]; simp; omega
          simp only [e0.o, g_isRunner e0 hR i1 i2, if_pos ci, g_isRunner e0 hR j1 j2, if_pos cj, eq, xob_some, cond_true, t_10, t_00, ne_eq, not_true_eq_false, not_false_eq_true, if_true, if_false]
        · simp only [e0.o, g_isRunner e0 hR i1 i2, if_pos ci, g_isRunner e0 hR j1 j2, if_neg cj, xob_some, cond_true, t_10, t_00, ne_eq, not_true_eq_false, not_false_eq_true, if_true, if_false]
      · simp only [e0.o, g_isRunner e0 hR i1 i2, if_neg ci, xob_some, cond_true, t_10, t_00, ne_eq, not_true_eq_false, not_false_eq_true, if_true, if_false]
theorem z_nearest (H : xCl S x A) {i p q : Int} (i1 : -2147483648 ≤ i) (i2 : i < 2147483648) (p1 : -2147483648 ≤ p) (p2 : p < 2147483648) (q1 : -2147483648 ≤ q) (q2 : q < 2147483648) (t : Bool) : ∃ v A', xKI P S x m_X10_nearest [.int (iI i), .int (iI p), .int (iI q), .int (iI (xb t))] v A' ∧ ∀ S', xMl S' m A → xGI P S' m m_X11_nearest [.int (iI i), .int (iI p), .int (iI q), .int (iI (xb t))] v A' := by
  have hF := H.2.1
  have hk := hF.1.1
  by_cases ci : 0 ≤ i ∧ i < A.1.1
  · obtain ⟨r, rfl⟩ : ∃ r : Nat, i = r := ⟨i.toNat, by omega⟩
    have hr : r < A.1.1 := by omega
    by_cases ct : (0 ≤ p ∧ p ≤ 9999 ∧ 1 ≤ q ∧ q ≤ 999)
    · have b := xnr_bd A.1 r (x := 12 * p) (e := q) (by omega)
      obtain ⟨T, k1, k2, H1, fr⟩ := H.see (P := P) ct
      refine ⟨iI (xpo (xnr A.1 r (12 * p) q) (12 * q) t), A, ⟨T, xcI_of ((e_X10_nearest_0 P x (iI r) (iI p) (iI q) (iI (xb t)) S).trans ?_), H1, fr⟩, fun S' M => ?_⟩
      · simp only [H.r0, H.r7, H.io, hF.o, d_has hF i1 i2, if_pos ci, d_isTime p1 p2 q1 q2, if_pos ct, k1, H1.r7, k2.o, d_nearestOf k2 hr, xin_nr A.1 r (p := p) (show 0 < q by omega), d_whole k2, xob_some, cond_true, t_10, t_00, ne_eq, not_true_eq_false, not_false_eq_true, if_true, if_false]
        rw [iI_ji (by omega) (by omega), iI_ji (by omega) (by omega), d_partOf (by omega) (by omega) (by omega) (by omega), xob_some, jI_ij]
      · obtain ⟨ob, e0, -, -, hR, -⟩ := id M
        refine ⟨S', xcI_of ((e_X11_nearest_0 P m (iI r) (iI p) (iI q) (iI (xb t)) S').trans ?_), M, xfr.rf⟩
        simp only [e0.o, g_isRunner e0 hR i1 i2, if_pos ci, g_isTime p1 p2 q1 q2, if_pos ct, iI_ji p1 p2, iI_ji q1 q2, g_nearestTop e0 hR hr (show 0 ≤ p by omega) (show p ≤ 1000000000000 by omega) (show 1 ≤ q by omega) (show q ≤ 1000000000000 by omega), jI_mul, xob_some, cond_true, t_10, t_00, ne_eq, not_true_eq_false, not_false_eq_true, if_true, if_false]
        rw [d_part (by omega) (by omega) (by omega) (by omega), xob_some, jI_ij]
    · refine ⟨iI (-1), A, ⟨S, xcI_of ((e_X10_nearest_0 P x (iI r) (iI p) (iI q) (iI (xb t)) S).trans ?_), H, xfr.rf⟩, fun S' M => ?_⟩
      · simp only [H.r0, hF.o, d_has hF i1 i2, if_pos ci, d_isTime p1 p2 q1 q2, if_neg ct, xob_some, cond_true, t_10, t_00, ne_eq, not_true_eq_false, not_false_eq_true, if_true, if_false]
      · obtain ⟨ob, e0, -, -, hR, -⟩ := id M
        refine ⟨S', xcI_of ((e_X11_nearest_0 P m (iI r) (iI p) (iI q) (iI (xb t)) S').trans ?_), M, xfr.rf⟩
        simp only [e0.o, g_isRunner e0 hR i1 i2, if_pos ci, g_isTime p1 p2 q1 q2, if_neg ct, xob_some, cond_true, t_10, t_00, ne_eq, not_true_eq_false, not_false_eq_true, if_true, if_false]
  · refine ⟨iI (-1), A, ⟨S, xcI_of ((e_X10_nearest_0 P x (iI i) (iI p) (iI q) (iI (xb t)) S).trans ?_), H, xfr.rf⟩, fun S' M => ?_⟩
    · simp only [H.r0, hF.o, d_has hF i1 i2, if_neg ci, xob_some, cond_true, t_10, t_00, ne_eq, not_true_eq_false, not_false_eq_true, if_true, if_false]
    · obtain ⟨ob, e0, -, -, hR, -⟩ := id M
      refine ⟨S', xcI_of ((e_X11_nearest_0 P m (iI i) (iI p) (iI q) (iI (xb t)) S').trans ?_), M, xfr.rf⟩
      simp only [e0.o, g_isRunner e0 hR i1 i2, if_neg ci, xob_some, cond_true, t_10, t_00, ne_eq, not_true_eq_false, not_false_eq_true, if_true, if_false]
theorem z_between (H : xCl S x A) {i p q : Int} (i1 : -2147483648 ≤ i) (i2 : i < 2147483648) (p1 : -2147483648 ≤ p) (p2 : p < 2147483648) (q1 : -2147483648 ≤ q) (q2 : q < 2147483648) (t : Bool) : ∃ v A', xKI P S x m_X10_between [.int (iI i), .int (iI p), .int (iI q), .int (iI (xb t))] v A' ∧ ∀ S', xMl S' m A → xGI P S' m m_X11_between [.int (iI i), .int (iI p), .int (iI q), .int (iI (xb t))] v A' := by
  have hF := H.2.1
  have hk := hF.1.1
  by_cases ci : 0 ≤ i ∧ i < A.1.1
  · obtain ⟨r, rfl⟩ : ∃ r : Nat, i = r := ⟨i.toNat, by omega⟩
    have hr : r < A.1.1 := by omega
    by_cases ct : (0 ≤ p ∧ p ≤ 9999 ∧ 1 ≤ q ∧ q ≤ 999)
    · have b := xlst_bd (f := fun j => (xplc A.1 p q j - xplc A.1 p q r) % (12 * q)) (i := r) (z := 12 * q) (A := 0) (B := 12 * q) (by omega) A.1.1 (fun j _ => ⟨Int.emod_nonneg _ (by omega), Int.le_of_lt (Int.emod_lt_of_pos _ (by omega))⟩)
      obtain ⟨T, k1, k2, H1, fr⟩ := H.see (P := P) ct
      refine ⟨iI (xpo (xlst (fun j => (xplc A.1 p q j - xplc A.1 p q r) % (12 * q)) r (12 * q) A.1.1) (12 * q) t), A, ⟨T, xcI_of ((e_X10_between_0 P x (iI r) (iI p) (iI q) (iI (xb t)) S).trans ?_), H1, fr⟩, fun S' M => ?_⟩
      · simp only [H.r0, H.r7, H.io, hF.o, d_has hF i1 i2, if_pos ci, d_isTime p1 p2 q1 q2, if_pos ct, k1, H1.r7, k2.o, d_wayToNext k2 hr (z := 0) (Int.le_refl _) (by decide), xwn_0 (F := A.1) (p := p) (q := q) (by omega) r, d_whole k2, xob_some, cond_true, t_10, t_00, ne_eq, not_true_eq_false, not_false_eq_true, if_true, if_false]
        rw [iI_ji (by omega) (by omega), iI_ji (by omega) (by omega), d_partOf (by omega) (by omega) (by omega) (by omega), xob_some, jI_ij]
      · obtain ⟨ob, e0, -, -, hR, -⟩ := id M
        refine ⟨S', xcI_of ((e_X11_between_0 P m (iI r) (iI p) (iI q) (iI (xb t)) S').trans ?_), M, xfr.rf⟩
        simp only [e0.o, g_isRunner e0 hR i1 i2, if_pos ci, g_isTime p1 p2 q1 q2, if_pos ct, iI_ji p1 p2, iI_ji q1 q2, g_ahead e0 hR hr (show 0 ≤ p by omega) (show p ≤ 1000000000000 by omega) (show 1 ≤ q by omega) (show q ≤ 1000000000000 by omega), jI_mul, xob_some, cond_true, t_10, t_00, ne_eq, not_true_eq_false, not_false_eq_true, if_true, if_false]
        rw [d_part (by omega) (by omega) (by omega) (by omega), xob_some, jI_ij]
    · refine ⟨iI (-1), A, ⟨S, xcI_of ((e_X10_between_0 P x (iI r) (iI p) (iI q) (iI (xb t)) S).trans ?_), H, xfr.rf⟩, fun S' M => ?_⟩
      · simp only [H.r0, hF.o, d_has hF i1 i2, if_pos ci, d_isTime p1 p2 q1 q2, if_neg ct, xob_some, cond_true, t_10, t_00, ne_eq, not_true_eq_false, not_false_eq_true, if_true, if_false]
      · obtain ⟨ob, e0, -, -, hR, -⟩ := id M
        refine ⟨S', xcI_of ((e_X11_between_0 P m (iI r) (iI p) (iI q) (iI (xb t)) S').trans ?_), M, xfr.rf⟩
        simp only [e0.o, g_isRunner e0 hR i1 i2, if_pos ci, g_isTime p1 p2 q1 q2, if_neg ct, xob_some, cond_true, t_10, t_00, ne_eq, not_true_eq_false, not_false_eq_true, if_true, if_false]
  · refine ⟨iI (-1), A, ⟨S, xcI_of ((e_X10_between_0 P x (iI i) (iI p) (iI q) (iI (xb t)) S).trans ?_), H, xfr.rf⟩, fun S' M => ?_⟩
    · simp only [H.r0, hF.o, d_has hF i1 i2, if_neg ci, xob_some, cond_true, t_10, t_00, ne_eq, not_true_eq_false, not_false_eq_true, if_true, if_false]
    · obtain ⟨ob, e0, -, -, hR, -⟩ := id M
      refine ⟨S', xcI_of ((e_X11_between_0 P m (iI i) (iI p) (iI q) (iI (xb t)) S').trans ?_), M, xfr.rf⟩
      simp only [e0.o, g_isRunner e0 hR i1 i2, if_neg ci, xob_some, cond_true, t_10, t_00, ne_eq, not_true_eq_false, not_false_eq_true, if_true, if_false]
theorem d_isLonely {F : xF} {i : Nat} {p q : Int} (hk : F.1 ≤ 6) (q0 : 1 ≤ q) (q1 : q ≤ 999) : xcI P m_X10_isLonely [.int (iI (xnr F i (12 * p) q)), .int (iI (12 * q)), .int (iI F.1)] S = some (iI (if xlo F i (12 * p) q = true then 1 else 0), S) := by
  have b := xnr_bd F i (x := 12 * p) (e := q) (by omega)
  have mb := x_mul_bd b.1 b.2 (show (0 : Int) ≤ F.1 by omega) (show (F.1 : Int) ≤ 6 by omega)
  refine xcI_of ((e_X10_isLonely_0 P (iI (xnr F i (12 * p) q)) (iI (12 * q)) (iI F.1) S).trans ?_)
  have e0 : xlo F i (12 * p) q = true ↔ F.1 = 1 ∨ 12 * q ≤ xnr F i (12 * p) q * F.1 := by unfold xlo; simp
  simp (disch := omega) only [iI_eq, iI_mul, iI_lt]
  by_cases c : F.1 = 1
  · rw [if_pos (by omega), if_pos (e0.mpr (Or.inl c))]
  · rw [if_neg (by omega)]
    by_cases d : 12 * q ≤ xnr F i (12 * p) q * F.1
    · rw [if_neg (by omega), if_pos (e0.mpr (Or.inr d))]
    · rw [if_pos (by omega), if_neg (fun z => (e0.mp z).elim c d)]
theorem z_lonely (H : xCl S x A) {p q : Int} (p1 : -2147483648 ≤ p) (p2 : p < 2147483648) (q1 : -2147483648 ≤ q) (q2 : q < 2147483648) : ∃ v A', xKI P S x m_X10_lonely [.int (iI p), .int (iI q)] v A' ∧ ∀ S', xMl S' m A → xGI P S' m m_X11_lonely [.int (iI p), .int (iI q)] v A' := by
  have hF := H.2.1
  have hk := hF.1.1
  by_cases ct : (0 ≤ p ∧ p ≤ 9999 ∧ 1 ≤ q ∧ q ≤ 999)
  · obtain ⟨T, k1, k2, H1, fr⟩ := H.see (P := P) ct
    have hF1 := H1.2.1
    refine ⟨xbt (fun r => xlo A.1 r (12 * p) q) A.1.1, A, ⟨T, xcI_of ((e_X10_lonely_0 P x (iI p) (iI q) S).trans ?_), H1, fr⟩, fun S' M => ?_⟩
    · simp only [H.r0, H.r7, H.io, d_isTime p1 p2 q1 q2, if_pos ct, k1, xob_some, cond_true, t_10, t_00, ne_eq, not_true_eq_false, not_false_eq_true, if_true, if_false]
      refine (xsteps (fun r => xrun P m_X10_lonely 28 [(0, .ref x), (3, .int (xbt (fun r => xlo A.1 r (12 * p) q) r)), (4, .int (iI r))] [] T) A.1.1 ?_).trans ?_
      · intro r hr
        try dsimp only
        have b := xnr_bd A.1 r (x := 12 * p) (e := q) (by omega)
        rw [e_X10_lonely_28, H1.r0, xob_some, hF1.o, cond_true, d_size hF1, xob_some, if_neg (by rw [iI_le (by omega) (by omega) (by omega) (by omega)]; omega)]
        simp only [H1.r7, H1.r0, k2.o, hF1.o, d_size hF1, d_nearestOf k2 hr, xin_nr A.1 r (p := p) (show 0 < q by omega), d_whole k2, d_isLonely hk ct.2.2.1 ct.2.2.2, iI_suc, xob_some, cond_true, xbt]
        by_cases c : xlo A.1 r (12 * p) q = true
        · simp only [c, if_true, t_10, if_false]
        · simp only [c, if_false, t_00, if_true, Bool.false_eq_true]
      · try dsimp only
        rw [e_X10_lonely_28, H1.r0, xob_some, hF1.o, cond_true, d_size hF1, xob_some, if_pos (by rw [iI_le (by omega) (by omega) (by omega) (by omega)]; omega)]
    · obtain ⟨ob, e0, -, -, hR, -⟩ := id M
      refine ⟨S', xcI_of ((e_X11_lonely_0 P m (iI p) (iI q) S').trans ?_), M, xfr.rf⟩
      simp only [g_isTime p1 p2 q1 q2, if_pos ct, xob_some, cond_true, t_10, t_00, ne_eq, not_true_eq_false, not_false_eq_true, if_true, if_false]
      refine (xsteps (fun r => xrun P m_X11_lonely 15 [(0, .ref m), (1, .int (iI p)), (2, .int (iI q)), (3, .int (xbt (fun r => xlo A.1 r (12 * p) q) r)), (4, .int (iI r))] [] S') A.1.1 ?_).trans ?_
      · intro r hr
        try dsimp only
        rw [e_X11_lonely_15, e0.r1, xob_some, g_K hR, xob_some, if_neg (by rw [iI_le (by omega) (by omega) (by omega) (by omega)]; omega)]
        simp only [e0.o, iI_ji p1 p2, iI_ji q1 q2, g_isLonely e0 hR hr (show 0 ≤ p by omega) (show p ≤ 1000000000000 by omega) (show 1 ≤ q by omega) (show q ≤ 1000000000000 by omega), iI_suc, xob_some, cond_true, xbt]
        by_cases c : xlo A.1 r (12 * p) q = true
        · simp only [c, if_true, t_10, if_false]
        · simp only [c, if_false, t_00, if_true, Bool.false_eq_true]
      · try dsimp only
        rw [e_X11_lonely_15, e0.r1, xob_some, g_K hR, xob_some, if_pos (by rw [iI_le (by omega) (by omega) (by omega) (by omega)]; omega)]
  · refine ⟨iI (-1), A, ⟨S, xcI_of ((e_X10_lonely_0 P x (iI p) (iI q) S).trans ?_), H, xfr.rf⟩, fun S' M => ⟨S', xcI_of ((e_X11_lonely_0 P m (iI p) (iI q) S').trans ?_), M, xfr.rf⟩⟩
    · simp only [d_isTime p1 p2 q1 q2, if_neg ct, xob_some, cond_true, t_10, t_00, ne_eq, not_true_eq_false, not_false_eq_true, if_true, if_false]
    · simp only [g_isTime p1 p2 q1 q2, if_neg ct, xob_some, cond_true, t_10, t_00, ne_eq, not_true_eq_false, not_false_eq_true, if_true, if_false]
/-- no other one is there -/
theorem x_alone {F : xF} {p q : Int} (hq : 0 < q) (i : Nat) : ∀ n, (xlst (fun j => (xplc F p q j - xplc F p q i) % (12 * q)) i (12 * q) n ≤ 0 ↔ ∃ j, j < n ∧ j ≠ i ∧ xplc F p q j = xplc F p q i) := by
  intro n
  induction n with
  | zero =>
    simp only [xlst]
    exact ⟨fun h => by omega, fun ⟨j, hj, _⟩ => by omega⟩
  | succ n ih =>
    simp only [xlst]
    have bi := xplc_bd F (p := p) hq i
    have bn := xplc_bd F (p := p) hq n
    have m0 := Int.emod_nonneg (xplc F p q n - xplc F p q i) (show 12 * q ≠ 0 by omega)
    have ez : (xplc F p q n - xplc F p q i) % (12 * q) ≤ 0 ↔ xplc F p q n = xplc F p q i := by
      constructor
      · intro h
        have := Int.dvd_of_emod_eq_zero (show (xplc F p q n - xplc F p q i) % (12 * q) = 0 by omega)
        obtain ⟨c, hc⟩ := this
        have c0 : c = 0 := by
          by_cases d : c = 0
          · exact d
          · by_cases d2 : 0 < c
            · have := Int.mul_le_mul_of_nonneg_left (show 1 ≤ c by omega) (show 0 ≤ 12 * q by omega)
              omega
            · have := Int.mul_le_mul_of_nonneg_left (show c ≤ -1 by omega) (show 0 ≤ 12 * q by omega)
              omega
        rw [c0, Int.mul_zero] at hc
        omega
      · intro h
        rw [h, Int.sub_self, Int.zero_emod]
        exact Int.le_refl _
    by_cases c : (n : Int) = i
    · rw [if_pos c, ih]
      constructor
      · rintro ⟨j, hj, h⟩
        exact ⟨j, by omega, h⟩
      · rintro ⟨j, hj, h1, h2⟩
        exact ⟨j, by omega, h1, h2⟩
    · rw [if_neg c]
      have e : min (xlst (fun j => (xplc F p q j - xplc F p q i) % (12 * q)) i (12 * q) n) ((xplc F p q n - xplc F p q i) % (12 * q)) ≤ 0 ↔ xlst (fun j => (xplc F p q j - xplc F p q i) % (12 * q)) i (12 * q) n ≤ 0 ∨ (xplc F p q n - xplc F p q i) % (12 * q) ≤ 0 := by omega
      rw [e, ih, ez]
      constructor
      · rintro (⟨j, hj, h⟩ | h)
        · exact ⟨j, by omega, h⟩
        · exact ⟨n, by omega, fun z => c (by omega), h⟩
      · rintro ⟨j, hj, h1, h2⟩
        by_cases d : j = n
        · subst d; exact Or.inr h2
        · exact Or.inl ⟨j, by omega, h1, h2⟩
theorem x_ct_one {pl : Nat → Int} {i : Nat} : ∀ n, (xct (fun j => decide (pl j = pl i)) n = (if i < n then 1 else 0) ↔ ∀ j, j < n → j ≠ i → pl j ≠ pl i) ∧ (if i < n then 1 else 0) ≤ xct (fun j => decide (pl j = pl i)) n := by
  intro n
  induction n with
  | zero => exact ⟨⟨fun _ j hj => by omega, fun _ => rfl⟩, Nat.le_refl _⟩
  | succ n ih =>
    obtain ⟨ih1, ih2⟩ := ih
    simp only [xct]
    by_cases c : n = i
    · subst c
      rw [if_neg (by omega)] at ih1 ih2
      rw [if_pos (by simp), if_pos (by omega)]
      refine ⟨⟨fun h j hj hji => ih1.mp (by omega) j (by omega) hji, fun h => ?_⟩, by omega⟩
      have := ih1.mpr (fun j hj hji => h j (by omega) hji)
      omega
    · have e : (if i < n + 1 then 1 else 0) = (if i < n then 1 else 0) := by
        by_cases d : i < n
        · rw [if_pos d, if_pos (by omega)]
        · rw [if_neg d, if_neg (by omega)]
      rw [e]
      by_cases d : pl n = pl i
      · rw [if_pos (by simpa using d)]
        exact ⟨⟨fun h => by omega, fun h => absurd d (h n (by omega) c)⟩, by omega⟩
      · rw [if_neg (by simpa using d)]
        refine ⟨⟨fun h j hj hji => ?_, fun h => ?_⟩, by omega⟩
        · by_cases f : j = n
          · subst f; exact d
          · exact ih1.mp (by omega) j (by omega) hji
        · have := ih1.mpr (fun j hj hji => h j (by omega) hji)
          omega
theorem z_alone (H : xCl S x A) {p q : Int} (p1 : -2147483648 ≤ p) (p2 : p < 2147483648) (q1 : -2147483648 ≤ q) (q2 : q < 2147483648) : ∃ v A', xKI P S x m_X10_alone [.int (iI p), .int (iI q)] v A' ∧ ∀ S', xMl S' m A → xGI P S' m m_X11_alone [.int (iI p), .int (iI q)] v A' := by
  have hF := H.2.1
  have hk := hF.1.1
  by_cases ct : (0 ≤ p ∧ p ≤ 9999 ∧ 1 ≤ q ∧ q ≤ 999)
  · obtain ⟨T, k1, k2, H1, fr⟩ := H.see (P := P) ct
    have hF1 := H1.2.1
    refine ⟨xbt (fun r => decide (xct (fun j => decide (xplc A.1 p q j = xplc A.1 p q r)) A.1.1 = 1)) A.1.1, A, ⟨T, xcI_of ((e_X10_alone_0 P x (iI p) (iI q) S).trans ?_), H1, fr⟩, fun S' M => ?_⟩
    · simp only [H.r0, H.r7, H.io, d_isTime p1 p2 q1 q2, if_pos ct, k1, xob_some, cond_true, t_10, t_00, ne_eq, not_true_eq_false, not_false_eq_true, if_true, if_false]
      refine (xsteps (fun r => xrun P m_X10_alone 28 [(0, .ref x), (3, .int (xbt (fun r => decide (xct (fun j => decide (xplc A.1 p q j = xplc A.1 p q r)) A.1.1 = 1)) r)), (4, .int (iI r))] [] T) A.1.1 ?_).trans ?_
      · intro r hr
        try dsimp only
        have b := xct_le (fun j => decide (xplc A.1 p q j = xplc A.1 p q r)) A.1.1
        rw [e_X10_alone_28, H1.r0, xob_some, hF1.o, cond_true, d_size hF1, xob_some, if_neg (by rw [iI_le (by omega) (by omega) (by omega) (by omega)]; omega)]
        simp only [H1.r7, k2.o, d_atPlaceOf k2 hr, iI_suc, xob_some, cond_true, xbt]
        have ec : (iI ((xct (fun j => decide (xplc A.1 p q j = xplc A.1 p q r)) A.1.1 : Nat) : Int) = iI 1) ↔ xct (fun j => decide (xplc A.1 p q j = xplc A.1 p q r)) A.1.1 = 1 := by rw [iI_eq (by omega) (by omega) (by omega) (by omega)]; omega
        by_cases c : xct (fun j => decide (xplc A.1 p q j = xplc A.1 p q r)) A.1.1 = 1
        · rw [if_neg (fun z => z (ec.mpr c)), if_pos (decide_eq_true c)]
        · rw [if_pos (fun z => c (ec.mp z)), if_neg (by simpa using c)]
      · try dsimp only
        rw [e_X10_alone_28, H1.r0, xob_some, hF1.o, cond_true, d_size hF1, xob_some, if_pos (by rw [iI_le (by omega) (by omega) (by omega) (by omega)]; omega)]
    · obtain ⟨ob, e0, -, -, hR, -⟩ := id M
      refine ⟨S', xcI_of ((e_X11_alone_0 P m (iI p) (iI q) S').trans ?_), M, xfr.rf⟩
      simp only [g_isTime p1 p2 q1 q2, if_pos ct, xob_some, cond_true, t_10, t_00, ne_eq, not_true_eq_false, not_false_eq_true, if_true, if_false]
      refine (xsteps (fun r => xrun P m_X11_alone 15 [(0, .ref m), (1, .int (iI p)), (2, .int (iI q)), (3, .int (xbt (fun r => decide (xct (fun j => decide (xplc A.1 p q j = xplc A.1 p q r)) A.1.1 = 1)) r)), (4, .int (iI r))] [] S') A.1.1 ?_).trans ?_
      · intro r hr
        try dsimp only
        have b := xct_le (fun j => decide (xplc A.1 p q j = xplc A.1 p q r)) A.1.1
        have bl := xlst_bd (f := fun j => (xplc A.1 p q j - xplc A.1 p q r) % (12 * q)) (i := r) (z := 12 * q) (A := 0) (B := 12 * q) (by omega) A.1.1 (fun j _ => ⟨Int.emod_nonneg _ (by omega), Int.le_of_lt (Int.emod_lt_of_pos _ (by omega))⟩)
        have xa := x_alone (F := A.1) (p := p) (q := q) (by omega) r A.1.1
        have xo := (x_ct_one (pl := xplc A.1 p q) (i := r) A.1.1).1
        rw [if_pos hr] at xo
        rw [e_X11_alone_15, e0.r1, xob_some, g_K hR, xob_some, if_neg (by rw [iI_le (by omega) (by omega) (by omega) (by omega)]; omega)]
        simp only [e0.o, iI_ji p1 p2, iI_ji q1 q2, g_ahead e0 hR hr (show 0 ≤ p by omega) (show p ≤ 1000000000000 by omega) (show 1 ≤ q by omega) (show q ≤ 1000000000000 by omega), iI_suc, xob_some, cond_true, xbt]
        by_cases c : xct (fun j => decide (xplc A.1 p q j = xplc A.1 p q r)) A.1.1 = 1
        · rw [if_neg (by
            rw [lg_le (by omega) (by omega) (by omega) (by omega), xa]
            rintro ⟨j, hj, hji, h⟩
            exact xo.mp c j hj hji h), if_pos (decide_eq_true c)]
        · rw [if_pos (by
            rw [lg_le (by omega) (by omega) (by omega) (by omega), xa]
            have nx : ¬ ∀ j, j < A.1.1 → j ≠ r → xplc A.1 p q j ≠ xplc A.1 p q r := fun z => c (xo.mpr z)
            exact Classical.byContradiction (fun z => nx (fun j hj hji h => z ⟨j, hj, hji, h⟩))), if_neg (by simpa using c)]
      · try dsimp only
        rw [e_X11_alone_15, e0.r1, xob_some, g_K hR, xob_some, if_pos (by rw [iI_le (by omega) (by omega) (by omega) (by omega)]; omega)]
  · refine ⟨iI (-1), A, ⟨S, xcI_of ((e_X10_alone_0 P x (iI p) (iI q) S).trans ?_), H, xfr.rf⟩, fun S' M => ⟨S', xcI_of ((e_X11_alone_0 P m (iI p) (iI q) S').trans ?_), M, xfr.rf⟩⟩
    · simp only [d_isTime p1 p2 q1 q2, if_neg ct, xob_some, cond_true, t_10, t_00, ne_eq, not_true_eq_false, not_false_eq_true, if_true, if_false]
    · simp only [g_isTime p1 p2 q1 q2, if_neg ct, xob_some, cond_true, t_10, t_00, ne_eq, not_true_eq_false, not_false_eq_true, if_true, if_false]
theorem z_laps (H : xCl S x A) {i p q : Int} (i1 : -2147483648 ≤ i) (i2 : i < 2147483648) (p1 : -2147483648 ≤ p) (p2 : p < 2147483648) (q1 : -2147483648 ≤ q) (q2 : q < 2147483648) : ∃ v A', xKI P S x m_X10_laps [.int (iI i), .int (iI p), .int (iI q)] v A' ∧ ∀ S', xMl S' m A → xGI P S' m m_X11_laps [.int (iI i), .int (iI p), .int (iI q)] v A' := by
  have hF := H.2.1
  have hk := hF.1.1
  by_cases ci : 0 ≤ i ∧ i < A.1.1
  · obtain ⟨r, rfl⟩ : ∃ r : Nat, i = r := ⟨i.toNat, by omega⟩
    have hr : r < A.1.1 := by omega
    by_cases ct : (0 ≤ p ∧ p ≤ 9999 ∧ 1 ≤ q ∧ q ≤ 999)
    · have b := hF.1.2 r hr
      have q1' := x_mul_bd b.2.2.1 (show A.1.2.2 r ≤ 11 by omega) (show 0 ≤ q by omega) ct.2.2.2
      have q2' := x_mul_bd b.1 b.2.1 ct.1 ct.2.1
      have e12 : 12 * A.1.2.1 r * p = 12 * (A.1.2.1 r * p) := Int.mul_assoc _ _ _
      have n1 : (iI (12 * q) = 0) = False := t_nz (by omega) (by omega) (by omega)
      have n2 : (jI (12 * q) = 0) = False := by rw [jI_0, jI_eq (by omega) (by omega) (by omega) (by omega)]; simp; omega
      refine ⟨iI ((A.1.2.2 r * q + 12 * A.1.2.1 r * p) / (12 * q)), A, ⟨S, xcI_of ((e_X10_laps_0 P x (iI r) (iI p) (iI q) S).trans ?_), H, xfr.rf⟩, fun S' M => ?_⟩
      · simp only [H.r0, hF.o, d_has hF i1 i2, if_pos ci, d_isTime p1 p2 q1 q2, if_pos ct, d_startAt hF hr, d_speedAt hF hr, iI_mul, iI_add, n1, xob_some, cond_true, t_10, t_00, ne_eq, not_true_eq_false, not_false_eq_true, if_true, if_false]
        rw [iI_div (by omega) (by omega) (by omega) (by omega)]
      · obtain ⟨ob, e0, -, -, hR, -⟩ := id M
        refine ⟨S', xcI_of ((e_X11_laps_0 P m (iI r) (iI p) (iI q) S').trans ?_), M, xfr.rf⟩
        simp only [e0.o, g_isRunner e0 hR i1 i2, if_pos ci, g_isTime p1 p2 q1 q2, if_pos ct, g_speedOf e0 hR hr, g_startOf e0 hR hr, iI_ji p1 p2, iI_ji q1 q2, xob_some, cond_true, t_10, t_00, ne_eq, not_true_eq_false, not_false_eq_true, if_true, if_false]
        rw [iI_ji (by omega) (by omega), iI_ji (by omega) (by omega)]
        simp only [jI_mul, jI_add, n2, if_false]
        rw [jI_div (by omega) (by omega) (by omega) (by omega), jI_ij, Int.add_comm (12 * A.1.2.1 r * p)]
    · refine ⟨iI (-1), A, ⟨S, xcI_of ((e_X10_laps_0 P x (iI r) (iI p) (iI q) S).trans ?_), H, xfr.rf⟩, fun S' M => ?_⟩
      · simp only [H.r0, hF.o, d_has hF i1 i2, if_pos ci, d_isTime p1 p2 q1 q2, if_neg ct, xob_some, cond_true, t_10, t_00, ne_eq, not_true_eq_false, not_false_eq_true, if_true, if_false]
      · obtain ⟨ob, e0, -, -, hR, -⟩ := id M
        refine ⟨S', xcI_of ((e_X11_laps_0 P m (iI r) (iI p) (iI q) S').trans ?_), M, xfr.rf⟩
        simp only [e0.o, g_isRunner e0 hR i1 i2, if_pos ci, g_isTime p1 p2 q1 q2, if_neg ct, xob_some, cond_true, t_10, t_00, ne_eq, not_true_eq_false, not_false_eq_true, if_true, if_false]
  · refine ⟨iI (-1), A, ⟨S, xcI_of ((e_X10_laps_0 P x (iI i) (iI p) (iI q) S).trans ?_), H, xfr.rf⟩, fun S' M => ?_⟩
    · simp only [H.r0, hF.o, d_has hF i1 i2, if_neg ci, xob_some, cond_true, t_10, t_00, ne_eq, not_true_eq_false, not_false_eq_true, if_true, if_false]
    · obtain ⟨ob, e0, -, -, hR, -⟩ := id M
      refine ⟨S', xcI_of ((e_X11_laps_0 P m (iI i) (iI p) (iI q) S').trans ?_), M, xfr.rf⟩
      simp only [e0.o, g_isRunner e0 hR i1 i2, if_neg ci, xob_some, cond_true, t_10, t_00, ne_eq, not_true_eq_false, not_false_eq_true, if_true, if_false]
end AU
