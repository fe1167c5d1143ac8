-- deps: 51.ranks
/-! meetings: meets, meeting, meetsNext, passed, meetings, period, gather -/
section CM
theorem x_cge {a b : Int} (a1 : -9223372036854775808 ≤ a) (a2 : a < 9223372036854775808) (b1 : -9223372036854775808 ≤ b) (b2 : b < 9223372036854775808) : 0 ≤ lg_cmp (jI a) (jI b) ↔ b ≤ a := by
  rw [jI_cmp_lt a1 a2 b1 b2, iI_0, iI_le (by decide) (by decide) (by split <;> (try split) <;> omega) (by split <;> (try split) <;> omega)]
  split
  · omega
  · split <;> omega
theorem x_cle {a b : Int} (a1 : -9223372036854775808 ≤ a) (a2 : a < 9223372036854775808) (b1 : -9223372036854775808 ≤ b) (b2 : b < 9223372036854775808) : lg_cmp (jI a) (jI b) ≤ 0 ↔ a ≤ b := by
  rw [jI_cmp_lt a1 a2 b1 b2, iI_0, iI_le (by split <;> (try split) <;> omega) (by split <;> (try split) <;> omega) (by decide) (by decide)]
  split
  · omega
  · split <;> omega
theorem x_clt {a b : Int} (a1 : -9223372036854775808 ≤ a) (a2 : a < 9223372036854775808) (b1 : -9223372036854775808 ≤ b) (b2 : b < 9223372036854775808) : lg_cmp (jI a) (jI b) < 0 ↔ a < b := by
  rw [jI_cmp_lt a1 a2 b1 b2, iI_0, iI_lt (by split <;> (try split) <;> omega) (by split <;> (try split) <;> omega) (by decide) (by decide)]
  split
  · omega
  · split <;> omega
theorem x_ceq {a b : Int} (a1 : -9223372036854775808 ≤ a) (a2 : a < 9223372036854775808) (b1 : -9223372036854775808 ≤ b) (b2 : b < 9223372036854775808) : lg_cmp (jI a) (jI b) = 0 ↔ a = b := by
  rw [jI_cmp_lt a1 a2 b1 b2, iI_0, iI_eq (by split <;> (try split) <;> omega) (by split <;> (try split) <;> omega) (by decide) (by decide)]
  split
  · omega
  · split <;> omega
end CM
section ME
variable {P : Nat → Nat} {S : xS} {x m : Nat} {A : xAb} {ob : Nat → Value} {F : xF}
theorem xOt.a {a n : Nat} {gp ld : Nat → Int} (h : xOt S a n gp ld) : xOa S a := by
  obtain ⟨-, -, f, g, e, -⟩ := h
  exact ⟨n, f, g, e⟩
theorem xCl.oo (H : xCl S x A) : xisO S (x + 61) 3 = true := by
  obtain ⟨n, f, g, e⟩ := H.2.2.2.2.2.2.2.2.1
  exact e.o
theorem xCl.one (H : xCl S x A) {i j : Nat} (hi : i < A.1.1) (hj : j < A.1.1) : ∃ T, xcV P m_X3_seeOne [.ref (x + 61), .ref (x + 1), .int (iI i), .int (iI j)] S = some T ∧ xOt T (x + 61) 1 (fun _ => xog A.1 i j) (fun _ => xol A.1 i j) ∧ xCl T x A ∧ xfr S T (xrg x 89) := by
  obtain ⟨n, f, g, e⟩ := H.2.2.2.2.2.2.2.2.1
  obtain ⟨T, k1, k2, k3⟩ := d_seeOne (P := P) e H.2.1 (by omega) hi hj
  obtain ⟨k4, k5⟩ := H.ot k3 k2.a
  exact ⟨T, k1, k2, k4, k5⟩
theorem xCl.al (H : xCl S x A) {i : Nat} (hi : i < A.1.1) : ∃ T, xcV P m_X3_see [.ref (x + 61), .ref (x + 1), .int (iI i)] S = some T ∧ xOt T (x + 61) (A.1.1 - 1) (fun t => xog A.1 i (xsk i t)) (fun t => xol A.1 i (xsk i t)) ∧ xCl T x A ∧ xfr S T (xrg x 89) := by
  obtain ⟨n, f, g, e⟩ := H.2.2.2.2.2.2.2.2.1
  obtain ⟨T, k1, k2, k3⟩ := d_osee (P := P) e H.2.1 (by omega) hi
  obtain ⟨k4, k5⟩ := H.ot k3 k2.a
  exact ⟨T, k1, k2, k4, k5⟩
/-- how often they meet within an hour -/
def xmee (F : xF) (i j : Nat) : Int := if xog F i j = 0 then (if xol F i j = 0 then -2 else 0) else xog F i j
def xfm (F : xF) (i j : Nat) : Int := (-(xol F i j)) % 12
theorem xfm_bd (F : xF) (i j : Nat) : 0 ≤ xfm F i j ∧ xfm F i j < 12 := by unfold xfm; omega
theorem g_meetsOf (h : xMo S m ob) (hF : xRo S (m + 1) F) {i j : Nat} (hi : i < F.1) (hj : j < F.1) : xcI P m_X11_meetsOf [.ref m, .int (iI i), .int (iI j)] S = some (iI (xmee F i j), S) := by
  have b1 := hF.1.2 i hi
  have b2 := hF.1.2 j hj
  refine xcI_of ((e_X11_meetsOf_0 P m (iI i) (iI j) S).trans ?_)
  have eg : ((F.2.1 i - F.2.1 j).natAbs : Int) = xog F i j := by unfold xog; omega
  simp only [h.o, g_speedOf h hF hi, g_speedOf h hF hj, g_startOf h hF hi, g_startOf h hF hj, iI_sub, xob_some, cond_true]
  rw [d_size11 (by omega) (by omega), xob_some, eg]
  have bg := xog_bd hF.1 hi hj
  dsimp only
  by_cases c : xog F i j = 0
  · rw [if_pos (by rw [iI_0, iI_le (by omega) (by omega) (by omega) (by omega)]; omega)]
    simp only [h.o, g_startOf h hF hi, g_startOf h hF hj, xob_some, cond_true]
    have el : xol F i j = 0 ↔ F.2.2 i = F.2.2 j := by
      unfold xog at c
      unfold xol
      split <;> omega
    have e3 : (iI (F.2.2 i) ≠ iI (F.2.2 j)) ↔ F.2.2 i ≠ F.2.2 j := by rw [ne_eq, iI_eq (by omega) (by omega) (by omega) (by omega)]
    by_cases d : F.2.2 i = F.2.2 j
    · rw [if_neg (by rw [e3]; omega), xmee, if_pos c, if_pos (el.mpr d)]
    · rw [if_pos (by rw [e3]; exact d), xmee, if_pos c, if_neg (fun z => d (el.mp z))]
  · rw [if_neg (by rw [iI_0, iI_le (by omega) (by omega) (by omega) (by omega)]; omega), xmee, if_neg c]
theorem xmee_bd (h : xFok F) {i j : Nat} (hi : i < F.1) (hj : j < F.1) : -2 ≤ xmee F i j ∧ xmee F i j ≤ 40 := by
  have := xog_bd h hi hj
  unfold xmee
  split
  · split <;> omega
  · omega
theorem g_meetingTop (h : xMo S m ob) (hF : xRo S (m + 1) F) {i j : Nat} (hi : i < F.1) (hj : j < F.1) (hg : xog F i j ≠ 0) {k : Int} (k0 : 0 ≤ k) (k1 : k ≤ 1000) : xcJ P m_X11_meetingTop [.ref m, .int (iI i), .int (iI j), .int (iI k)] S = some (jI (xfm F i j + 12 * k), S) := by
  have b1 := hF.1.2 i hi
  have b2 := hF.1.2 j hj
  refine xcJ_of ((e_X11_meetingTop_0 P m (iI i) (iI j) (iI k) S).trans ?_)
  simp only [h.o, g_speedOf h hF hi, g_speedOf h hF hj, g_startOf h hF hi, g_startOf h hF hj, iI_sub, iI_neg, xob_some, cond_true]
  rw [iI_ji (show -2147483648 ≤ k by omega) (by omega), jI_mul]
  unfold xog at hg
  by_cases c : 0 ≤ F.2.1 i - F.2.1 j
  · rw [if_pos (by rw [iI_0, iI_le (by omega) (by omega) (by omega) (by omega)]; exact c), iI_ji (by omega) (by omega), d_ring (by omega) (by omega) (by omega) (by omega), xob_some]
    dsimp only
    rw [jI_add]
    have : (-(F.2.2 i - F.2.2 j)) % 12 = xfm F i j := by
      unfold xfm xol
      rw [if_pos (by omega)]
      omega
    rw [this]
  · rw [if_neg (by rw [iI_0, iI_le (by omega) (by omega) (by omega) (by omega)]; exact c), iI_ji (by omega) (by omega), d_ring (by omega) (by omega) (by omega) (by omega), xob_some]
    dsimp only
    rw [jI_add]
    have : (F.2.2 i - F.2.2 j) % 12 = xfm F i j := by
      unfold xfm xol
      rw [if_neg (by omega)]
      omega
    rw [this]
/-- the meetings up to a time: T is 12 gap p - first q -/
def xmg2 (T q : Int) (t : Bool) : Int := if 0 ≤ T then (if t then T / (12 * q) + 1 else if T ≤ T / (12 * q) * 12 * q then T / (12 * q) else T / (12 * q) + 1) else 0
theorem xT_bd {g f p q : Int} (g0 : 0 ≤ g) (g1 : g ≤ 40) (f0 : 0 ≤ f) (f1 : f < 12) (p0 : 0 ≤ p) (p1 : p ≤ 9999) (q0 : 1 ≤ q) (q1 : q ≤ 999) : 0 ≤ 12 * g * p ∧ 12 * g * p ≤ 4799520 ∧ 0 ≤ f * q ∧ f * q ≤ 11988 := by
  have a := x_mul_bd (a := 12 * g) (b := p) (A := 480) (B := 9999) (by omega) (by omega) p0 p1
  have b := x_mul_bd (a := f) (b := q) (A := 12) (B := 999) f0 (by omega) (by omega) q1
  omega
theorem g_meetingsTo (h : xMo S m ob) (hF : xRo S (m + 1) F) {i j : Nat} (hi : i < F.1) (hj : j < F.1) (hg : xog F i j ≠ 0) {p q : Int} (p0 : 0 ≤ p) (p1 : p ≤ 9999) (q0 : 1 ≤ q) (q1 : q ≤ 999) (t : Bool) : xcJ P m_X11_meetingsTo [.ref m, .int (iI i), .int (iI j), .long (jI p), .long (jI q), .int (iI (xb t))] S = some (jI (xmg2 (12 * xog F i j * p - xfm F i j * q) q t), S) := by
  have b1 := hF.1.2 i hi
  have b2 := hF.1.2 j hj
  have bg := xog_bd hF.1 hi hj
  have bf := xfm_bd F i j
  have bT := xT_bd bg.1 bg.2 bf.1 bf.2 p0 p1 q0 q1
  have eg : ((F.2.1 i - F.2.1 j).natAbs : Int) = xog F i j := by unfold xog; omega
  have mt := g_meetingTop (P := P) h hF hi hj hg (k := 0) (by omega) (by omega)
  rw [show xfm F i j + 12 * 0 = xfm F i j by omega] at mt
  refine xcJ_of ((e_X11_meetingsTo_0 P m (iI i) (iI j) (jI p) (jI q) (iI (xb t)) S).trans ?_)
  simp only [h.o, g_speedOf h hF hi, g_speedOf h hF hj, iI_sub, mt, xob_some, cond_true]
  rw [d_size11 (by omega) (by omega), xob_some, eg]
  dsimp only
  rw [h.o, cond_true, mt, xob_some]
  dsimp only
  rw [iI_ji (by omega) (by omega), jI_mul, jI_mul, jI_mul, jI_sub, jI_mul]
  generalize hT : 12 * xog F i j * p - xfm F i j * q = T
  have hT1 : -11988 ≤ T ∧ T ≤ 4799520 := by omega
  have nz : (jI (12 * q) = 0) = False := by rw [jI_0, jI_eq (by omega) (by omega) (by omega) (by omega)]; simp; omega
  by_cases c : 0 ≤ T
  · have d0 := Int.ediv_nonneg c (show 0 ≤ 12 * q by omega)
    have d1 : T / (12 * q) ≤ T := Int.ediv_le_self _ c
    have d2 := Int.ediv_mul_le T (show 12 * q ≠ 0 by omega)
    have d3 : T / (12 * q) * 12 * q = T / (12 * q) * (12 * q) := by rw [Int.mul_assoc]
    have d4 := Int.mul_nonneg d0 (show 0 ≤ 12 * q by omega)
    rw [if_pos (by rw [x_cge (by omega) (by omega) (by decide) (by decide)]; exact c), if_neg (show ¬ jI (12 * q) = 0 by rw [nz]; exact fun z => z), jI_div (by omega) (by omega) (by omega) (by omega), jI_mul, jI_mul, jI_add, xmg2, if_pos c]
    cases t
    · rw [if_neg (show ¬ iI (xb false) ≠ 0 by decide +kernel), if_neg (show ¬ false = true by decide)]
      by_cases d : T ≤ T / (12 * q) * 12 * q
      · rw [if_pos (by rw [x_cge (by omega) (by omega) (by omega) (by omega)]; exact d), if_pos d]
      · rw [if_neg (by rw [x_cge (by omega) (by omega) (by omega) (by omega)]; exact d), if_neg d]
    · rw [if_pos (show iI (xb true) ≠ 0 by decide +kernel), if_pos rfl]
  · rw [if_neg (by rw [x_cge (by omega) (by omega) (by decide) (by decide)]; exact c), xmg2, if_neg c]
/-! the calls -/
theorem z_meets (H : xCl S x A) {i j : Int} (i1 : -2147483648 ≤ i) (i2 : i < 2147483648) (j1 : -2147483648 ≤ j) (j2 : j < 2147483648) : ∃ v A', xKI P S x m_X10_meets [.int (iI i), .int (iI j)] v A' ∧ ∀ S', xMl S' m A → xGI P S' m m_X11_meets [.int (iI i), .int (iI j)] v A' := by
  have hF := H.2.1
  have hk := hF.1.1
  by_cases cb : 0 ≤ i ∧ i < A.1.1 ∧ 0 ≤ j ∧ j < A.1.1 ∧ i ≠ j
  · obtain ⟨r, rfl⟩ : ∃ r : Nat, i = r := ⟨i.toNat, by omega⟩
    obtain ⟨o, rfl⟩ : ∃ o : Nat, j = o := ⟨j.toNat, by omega⟩
    have hr : r < A.1.1 := by omega
    have ho : o < A.1.1 := by omega
    obtain ⟨T, k1, k2, H1, fr⟩ := H.one (P := P) hr ho
    have bg := xog_bd hF.1 hr ho
    have bl := xol_bd A.1 r o
    have ga : xcI P m_X3_gapAt [.ref (x + 61), .int (iI 0)] T = some (iI (xog A.1 r o), T) := d_gapAt k2 (r := 0) (by decide)
    have la : xcI P m_X3_leadAt [.ref (x + 61), .int (iI 0)] T = some (iI (xol A.1 r o), T) := d_leadAt k2 (r := 0) (by decide)
    refine ⟨iI (xmee A.1 r o), A, ⟨T, xcI_of ((e_X10_meets_0 P x (iI r) (iI o) S).trans ?_), H1, fr⟩, fun S' M => ?_⟩
    · simp only [H.r0, H.r8, H.oo, hF.o, d_hasBoth hF i1 i2 j1 j2, if_pos cb, k1, H1.r8, k2.o, ga, la, xob_some, cond_true, t_10, t_00, ne_eq, not_true_eq_false, not_false_eq_true, if_true, if_false]
      unfold xmee
      by_cases c : xog A.1 r o = 0
      · rw [if_neg (show ¬ ¬ iI (xog A.1 r o) = 0 by rw [c]; decide +kernel), if_pos c]
        by_cases d : xol A.1 r o = 0
        · rw [if_neg (show ¬ ¬ iI (xol A.1 r o) = 0 by rw [d]; decide +kernel), if_pos d]
        · rw [if_pos (show ¬ iI (xol A.1 r o) = 0 by rw [iI_0, iI_eq (by omega) (by omega) (by omega) (by omega)]; exact d), if_neg d, c]
      · rw [if_pos (show ¬ iI (xog A.1 r o) = 0 by rw [iI_0, iI_eq (by omega) (by omega) (by omega) (by omega)]; exact c), if_neg c]
    · obtain ⟨ob, e0, -, -, hR, -⟩ := id M
      refine ⟨S', xcI_of ((e_X11_meets_0 P m (iI r) (iI o) S').trans ?_), M, xfr.rf⟩
      simp only [e0.o, g_areTwo e0 hR i1 i2 j1 j2, if_pos cb, g_meetsOf e0 hR hr ho, xob_some, cond_true, t_10, t_00, ne_eq, not_true_eq_false, not_false_eq_true, if_true, if_false]
  · refine ⟨iI (-1), A, ⟨S, xcI_of ((e_X10_meets_0 P x (iI i) (iI j) S).trans ?_), H, xfr.rf⟩, fun S' M => ?_⟩
    · simp only [H.r0, hF.o, d_hasBoth hF i1 i2 j1 j2, if_neg cb, xob_some, cond_true, t_10, t_00, ne_eq, not_true_eq_false, not_false_eq_true, if_true, if_false]
    · obtain ⟨ob, e0, -, -, hR, -⟩ := id M
      refine ⟨S', xcI_of ((e_X11_meets_0 P m (iI i) (iI j) S').trans ?_), M, xfr.rf⟩
      simp only [e0.o, g_areTwo e0 hR i1 i2 j1 j2, if_neg cb, xob_some, cond_true, t_10, t_00, ne_eq, not_true_eq_false, not_false_eq_true, if_true, if_false]
theorem z_meeting (H : xCl S x A) {i j k : Int} (i1 : -2147483648 ≤ i) (i2 : i < 2147483648) (j1 : -2147483648 ≤ j) (j2 : j < 2147483648) (k1 : -2147483648 ≤ k) (k2 : k < 2147483648) (t : Bool) : ∃ v A', xKI P S x m_X10_meeting [.int (iI i), .int (iI j), .int (iI k), .int (iI (xb t))] v A' ∧ ∀ S', xMl S' m A → xGI P S' m m_X11_meeting [.int (iI i), .int (iI j), .int (iI k), .int (iI (xb t))] v A' := by
  have hF := H.2.1
  have hk := hF.1.1
  by_cases cb : 0 ≤ i ∧ i < A.1.1 ∧ 0 ≤ j ∧ j < A.1.1 ∧ i ≠ j
  · obtain ⟨r, rfl⟩ : ∃ r : Nat, i = r := ⟨i.toNat, by omega⟩
    obtain ⟨o, rfl⟩ : ∃ o : Nat, j = o := ⟨j.toNat, by omega⟩
    have hr : r < A.1.1 := by omega
    have ho : o < A.1.1 := by omega
    have bg := xog_bd hF.1 hr ho
    by_cases ck : 0 ≤ k
    · have kt : (0 ≤ iI k) = True := eq_true (by rw [iI_0, iI_le (by omega) (by omega) k1 k2]; exact ck)
      obtain ⟨T, m1, m2, H1, fr⟩ := H.one (P := P) hr ho
      have ga : xcI P m_X3_gapAt [.ref (x + 61), .int (iI 0)] T = some (iI (xog A.1 r o), T) := d_gapAt m2 (r := 0) (by decide)
      have fa : xcI P m_X3_firstMeeting [.ref (x + 61), .int (iI 0)] T = some (iI (xfm A.1 r o), T) := d_firstMeeting m2 (r := 0) (by decide)
      have bf := xfm_bd A.1 r o
      have bm := xmee_bd hF.1 hr ho
      by_cases c : k < xog A.1 r o
      · have l1 : (iI k < iI (xog A.1 r o)) = True := eq_true (by rw [iI_lt k1 k2 (by omega) (by omega)]; exact c)
        have em : xmee A.1 r o = xog A.1 r o := by unfold xmee; rw [if_neg (by omega)]
        refine ⟨iI (xpo (xfm A.1 r o + 12 * k) (12 * xog A.1 r o) t), A, ⟨T, xcI_of ((e_X10_meeting_0 P x (iI r) (iI o) (iI k) (iI (xb t)) S).trans ?_), H1, fr⟩, fun S' M => ?_⟩
        · simp only [H.r0, H.r8, H.oo, hF.o, d_hasBoth hF i1 i2 j1 j2, if_pos cb, kt, m1, H1.r8, m2.o, ga, fa, l1, iI_mul, iI_add, xob_some, cond_true, t_10, t_00, ne_eq, not_true_eq_false, not_false_eq_true, if_true, if_false]
          rw [iI_ji (by omega) (by omega), iI_ji (by omega) (by omega), d_partOf (by omega) (by omega) (by omega) (by omega), xob_some, jI_ij]
        · obtain ⟨ob, e0, -, -, hR, -⟩ := id M
          refine ⟨S', xcI_of ((e_X11_meeting_0 P m (iI r) (iI o) (iI k) (iI (xb t)) S').trans ?_), M, xfr.rf⟩
          simp only [e0.o, g_areTwo e0 hR i1 i2 j1 j2, if_pos cb, kt, g_meetsOf e0 hR hr ho, em, l1, g_meetingTop e0 hR hr ho (show xog A.1 r o ≠ 0 by omega) ck (show k ≤ 1000 by omega), xob_some, cond_true, t_10, t_00, ne_eq, not_true_eq_false, not_false_eq_true, if_true, if_false]
          rw [iI_ji (by omega) (by omega), jI_mul, d_part (by omega) (by omega) (by omega) (by omega), xob_some, jI_ij]
      · have l1 : (iI k < iI (xog A.1 r o)) = False := eq_false (by rw [iI_lt k1 k2 (by omega) (by omega)]; exact c)
        have l2 : (iI k < iI (xmee A.1 r o)) = False := eq_false (by
          rw [iI_lt k1 k2 (by omega) (by omega)]
          unfold xmee
          split
          · split <;> omega
          · exact c)
        refine ⟨iI (-2), A, ⟨T, xcI_of ((e_X10_meeting_0 P x (iI r) (iI o) (iI k) (iI (xb t)) S).trans ?_), H1, fr⟩, fun S' M => ?_⟩
        · simp only [H.r0, H.r8, H.oo, hF.o, d_hasBoth hF i1 i2 j1 j2, if_pos cb, kt, m1, H1.r8, m2.o, ga, l1, xob_some, cond_true, t_10, t_00, ne_eq, not_true_eq_false, not_false_eq_true, if_true, if_false]
        · obtain ⟨ob, e0, -, -, hR, -⟩ := id M
          refine ⟨S', xcI_of ((e_X11_meeting_0 P m (iI r) (iI o) (iI k) (iI (xb t)) S').trans ?_), M, xfr.rf⟩
          simp only [e0.o, g_areTwo e0 hR i1 i2 j1 j2, if_pos cb, kt, g_meetsOf e0 hR hr ho, l2, xob_some, cond_true, t_10, t_00, ne_eq, not_true_eq_false, not_false_eq_true, if_true, if_false]
    · have kt : (0 ≤ iI k) = False := eq_false (by rw [iI_0, iI_le (by omega) (by omega) k1 k2]; exact ck)
      refine ⟨iI (-1), A, ⟨S, xcI_of ((e_X10_meeting_0 P x (iI r) (iI o) (iI k) (iI (xb t)) S).trans ?_), H, xfr.rf⟩, fun S' M => ?_⟩
      · simp only [H.r0, hF.o, d_hasBoth hF i1 i2 j1 j2, if_pos cb, kt, xob_some, cond_true, t_10, t_00, ne_eq, not_true_eq_false, not_false_eq_true, if_true, if_false]
      · obtain ⟨ob, e0, -, -, hR, -⟩ := id M
        refine ⟨S', xcI_of ((e_X11_meeting_0 P m (iI r) (iI o) (iI k) (iI (xb t)) S').trans ?_), M, xfr.rf⟩
        simp only [e0.o, g_areTwo e0 hR i1 i2 j1 j2, if_pos cb, kt, xob_some, cond_true, t_10, t_00, ne_eq, not_true_eq_false, not_false_eq_true, if_true, if_false]
  · refine ⟨iI (-1), A, ⟨S, xcI_of ((e_X10_meeting_0 P x (iI i) (iI j) (iI k) (iI (xb t)) S).trans ?_), H, xfr.rf⟩, fun S' M => ?_⟩
    · simp only [H.r0, hF.o, d_hasBoth hF i1 i2 j1 j2, if_neg cb, xob_some, cond_true, t_10, t_00, ne_eq, not_true_eq_false, not_false_eq_true, if_true, if_false]
    · obtain ⟨ob, e0, -, -, hR, -⟩ := id M
      refine ⟨S', xcI_of ((e_X11_meeting_0 P m (iI i) (iI j) (iI k) (iI (xb t)) S').trans ?_), M, xfr.rf⟩
      simp only [e0.o, g_areTwo e0 hR i1 i2 j1 j2, if_neg cb, xob_some, cond_true, t_10, t_00, ne_eq, not_true_eq_false, not_false_eq_true, if_true, if_false]
end ME
