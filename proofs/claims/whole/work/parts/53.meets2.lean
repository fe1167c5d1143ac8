-- deps: 52.meets
/-! meetsNext, passed, meetings, period, gather -/
theorem x_lt_of {a b W : Int} (hW : 0 < W) (h : a * W < b * W) : a < b := Int.lt_of_mul_lt_mul_right h (Int.le_of_lt hW)
theorem x_nextmeet {g l f p q : Int} (g0 : 0 ≤ g) (l0 : 0 ≤ l) (l1 : l < 12) (hf : f = (-l) % 12) (p0 : 0 ≤ p) (q0 : 1 ≤ q) : 12 * (-((-(12 * g * p + l * q)) / (12 * q))) - l = f + 12 * xmg2 (12 * g * p - f * q) q false := by
  have e0 : 0 ≤ 12 * g * p := Int.mul_nonneg (by omega) p0
  have lq : l = 0 ∨ q ≤ l * q := by
    by_cases c : l = 0
    · exact Or.inl c
    · right
      have := Int.mul_le_mul_of_nonneg_right (show 1 ≤ l by omega) (show 0 ≤ q by omega)
      omega
  have lq0 : 0 ≤ l * q := Int.mul_nonneg l0 (by omega)
  obtain ⟨e, he, hfe⟩ : ∃ e : Int, (e = 0 ∧ l = 0 ∨ e = 1 ∧ l ≠ 0) ∧ f = 12 * e - l := by
    by_cases c : l = 0
    · exact ⟨0, Or.inl ⟨rfl, c⟩, by rw [hf]; omega⟩
    · exact ⟨1, Or.inr ⟨rfl, c⟩, by rw [hf]; omega⟩
  have ef : f * q = e * (12 * q) - l * q := by
    rw [hfe, Int.sub_mul]
    rw [show 12 * e * q = e * (12 * q) by rw [Int.mul_comm 12 e, Int.mul_assoc]]
  generalize hX : 12 * g * p + l * q = X
  have hT : 12 * g * p - f * q = X - e * (12 * q) := by rw [ef]; omega
  rw [hT]
  generalize hW : 12 * q = W
  have W0 : 0 < W := by omega
  have X0 : 0 ≤ X := by omega
  have c1 := Int.ediv_mul_le (-X) (show W ≠ 0 by omega)
  have c2 := Int.lt_ediv_add_one_mul_self (-X) W0
  have d1 := Int.ediv_mul_le (X - e * W) (show W ≠ 0 by omega)
  have d2 := Int.lt_ediv_add_one_mul_self (X - e * W) W0
  generalize hc : (-X) / W = c at c1 c2 ⊢
  rw [Int.add_mul] at c2
  by_cases t : 0 ≤ X - e * W
  · unfold xmg2
    rw [if_pos t, if_neg (by decide), show 12 * q = W from hW]
    generalize hd : (X - e * W) / W = d at d1 d2 ⊢
    rw [show d * 12 * q = d * W by rw [← hW, Int.mul_assoc]]
    have u1 : (-c - e) * W = -(c * W) - e * W := by rw [Int.sub_mul, Int.neg_mul]
    have u2 : (-c - e - 1) * W = -(c * W) - e * W - W := by rw [Int.sub_mul, u1, Int.one_mul]
    have u3 : (d + 1) * W = d * W + W := by rw [Int.add_mul, Int.one_mul]
    rw [u3] at d2
    rw [Int.one_mul] at c2
    by_cases s : X - e * W ≤ d * W
    · rw [if_pos s]
      have : -c - e - 1 < d := x_lt_of W0 (by omega)
      have : d < -c - e + 1 := x_lt_of W0 (by rw [Int.add_mul, u1]; omega)
      omega
    · rw [if_neg s]
      have : -c - e - 1 < d + 1 := x_lt_of W0 (by omega)
      have : d < -c - e := x_lt_of W0 (by omega)
      omega
  · unfold xmg2
    rw [if_neg t]
    rcases he with ⟨h1, h2⟩ | ⟨h1, h2⟩
    · rw [h1, Int.zero_mul] at t; omega
    · rw [h1, Int.one_mul] at t
      have : 0 < X := by
        rcases lq with h | h
        · exact absurd h h2
        · omega
      have : c < 0 := x_lt_of W0 (by omega)
      have : -2 < c := x_lt_of W0 (by omega)
      omega
theorem x_passed {g l f p q : Int} (g0 : 0 ≤ g) (l0 : 0 ≤ l) (l1 : l < 12) (hf : f = (-l) % 12) (p0 : 0 ≤ p) (q0 : 1 ≤ q) : (if l = 0 then (12 * g * p + l * q) / (12 * q) + 1 else (12 * g * p + l * q) / (12 * q)) = xmg2 (12 * g * p - f * q) q true := by
  have e0 : 0 ≤ 12 * g * p := Int.mul_nonneg (by omega) p0
  have lq0 : 0 ≤ l * q := Int.mul_nonneg l0 (by omega)
  by_cases c : l = 0
  · subst c
    have : f = 0 := by rw [hf]; decide
    subst this
    unfold xmg2
    rw [if_pos rfl, Int.zero_mul, Int.add_zero, Int.sub_zero, if_pos e0, if_pos rfl]
  · have ef : f * q = 12 * q - l * q := by
      rw [show f = 12 - l by rw [hf]; omega, Int.sub_mul]
    rw [if_neg c, ef]
    generalize hX : 12 * g * p + l * q = X
    rw [show 12 * g * p - (12 * q - l * q) = X - 12 * q by omega]
    unfold xmg2
    by_cases t : 0 ≤ X - 12 * q
    · rw [if_pos t, if_pos rfl]
      have h := Int.add_mul_ediv_right X (-1) (show 12 * q ≠ 0 by omega)
      rw [show X + -1 * (12 * q) = X - 12 * q by omega] at h
      omega
    · rw [if_neg t]
      exact Int.ediv_eq_zero_of_lt (by omega) (by omega)
section ME
variable {P : Nat → Nat} {S : xS} {x m : Nat} {A : xAb} {ob : Nat → Value} {F : xF}
theorem xmee_0 {i j : Nat} (h : xog F i j ≠ 0) : xmee F i j = xog F i j := by unfold xmee; rw [if_neg h]
theorem z_meetsNext (H : xCl S x A) {i j p q : Int} (i1 : -2147483648 ≤ i) (i2 : i < 2147483648) (j1 : -2147483648 ≤ j) (j2 : j < 2147483648) (p1 : -2147483648 ≤ p) (p2 : p < 2147483648) (q1 : -2147483648 ≤ q) (q2 : q < 2147483648) (t : Bool) : ∃ v A', xKJ P S x m_X10_meetsNext [.int (iI i), .int (iI j), .int (iI p), .int (iI q), .int (iI (xb t))] v A' ∧ ∀ S', xMl S' m A → xGJ P S' m m_X11_meetsNext [.int (iI i), .int (iI j), .int (iI p), .int (iI q), .int (iI (xb t))] v A' := by
  have hF := H.2.1
  have hk := hF.1.1
  by_cases cb : 0 ≤ i ∧ i < A.1.1 ∧ 0 ≤ j ∧ j < A.1.1 ∧ i ≠ j
  · obtain ⟨r, rfl⟩ : ∃ r : Nat, i = r := ⟨i.toNat, by omega⟩
    obtain ⟨o, rfl⟩ : ∃ o : Nat, j = o := ⟨j.toNat, by omega⟩
    have hr : r < A.1.1 := by omega
    have ho : o < A.1.1 := by omega
    have bg := xog_bd hF.1 hr ho
    have bl := xol_bd A.1 r o
    have bf := xfm_bd A.1 r o
    by_cases ct : (0 ≤ p ∧ p ≤ 9999 ∧ 1 ≤ q ∧ q ≤ 999)
    · obtain ⟨T, m1, m2, H1, fr⟩ := H.one (P := P) hr ho
      have ga : xcI P m_X3_gapAt [.ref (x + 61), .int (iI 0)] T = some (iI (xog A.1 r o), T) := d_gapAt m2 (r := 0) (by decide)
      have la : xcI P m_X3_leadAt [.ref (x + 61), .int (iI 0)] T = some (iI (xol A.1 r o), T) := d_leadAt m2 (r := 0) (by decide)
      have bT := xT_bd bg.1 bg.2 bf.1 bf.2 ct.1 ct.2.1 ct.2.2.1 ct.2.2.2
      have bT2 := xT_bd bg.1 bg.2 bl.1 bl.2 ct.1 ct.2.1 ct.2.2.1 ct.2.2.2
      by_cases c : xog A.1 r o = 0
      · have g0 : (iI (xog A.1 r o) = 0) = True := by rw [c]; decide +kernel
        by_cases d : xol A.1 r o = 0
        · have l0 : (iI (xol A.1 r o) = 0) = True := by rw [d]; decide +kernel
          have em : xmee A.1 r o = -2 := by unfold xmee; rw [if_pos c, if_pos d]
          refine ⟨jI (xpo p q t), A, ⟨T, xcJ_of ((e_X10_meetsNext_0 P x (iI r) (iI o) (iI p) (iI q) (iI (xb t)) S).trans ?_), H1, fr⟩, fun S' M => ?_⟩
          · simp only [H.r0, H.r8, H.oo, hF.o, d_hasBoth hF i1 i2 j1 j2, if_pos cb, d_isTime p1 p2 q1 q2, if_pos ct, m1, H1.r8, m2.o, ga, la, g0, l0, xob_some, cond_true, t_10, t_00, ne_eq, not_true_eq_false, not_false_eq_true, if_true, if_false]
            rw [iI_ji (by omega) (by omega), iI_ji (by omega) (by omega), d_partOf (by omega) (by omega) (by omega) (by omega), xob_some]
          · obtain ⟨ob, e0, -, -, hR, -⟩ := id M
            refine ⟨S', xcJ_of ((e_X11_meetsNext_0 P m (iI r) (iI o) (iI p) (iI q) (iI (xb t)) S').trans ?_), M, xfr.rf⟩
            have n1 : (iI (-2) = 0) = False := by decide +kernel
            have n2 : (0 ≤ iI (-2)) = False := by decide +kernel
            simp only [e0.o, g_areTwo e0 hR i1 i2 j1 j2, if_pos cb, g_isTime p1 p2 q1 q2, if_pos ct, g_meetsOf e0 hR hr ho, em, n1, n2, xob_some, cond_true, t_10, t_00, ne_eq, not_true_eq_false, not_false_eq_true, if_true, if_false]
            rw [iI_ji (by omega) (by omega), iI_ji (by omega) (by omega), d_part (by omega) (by omega) (by omega) (by omega), xob_some]
        · have l0 : (iI (xol A.1 r o) = 0) = False := t_nz (by omega) (by omega) d
          have em : xmee A.1 r o = 0 := by unfold xmee; rw [if_pos c, if_neg d]
          refine ⟨jI (-2), A, ⟨T, xcJ_of ((e_X10_meetsNext_0 P x (iI r) (iI o) (iI p) (iI q) (iI (xb t)) S).trans ?_), H1, fr⟩, fun S' M => ?_⟩
          · simp only [H.r0, H.r8, H.oo, hF.o, d_hasBoth hF i1 i2 j1 j2, if_pos cb, d_isTime p1 p2 q1 q2, if_pos ct, m1, H1.r8, m2.o, ga, la, g0, l0, xob_some, cond_true, t_10, t_00, ne_eq, not_true_eq_false, not_false_eq_true, if_true, if_false]
          · obtain ⟨ob, e0, -, -, hR, -⟩ := id M
            refine ⟨S', xcJ_of ((e_X11_meetsNext_0 P m (iI r) (iI o) (iI p) (iI q) (iI (xb t)) S').trans ?_), M, xfr.rf⟩
            simp only [e0.o, g_areTwo e0 hR i1 i2 j1 j2, if_pos cb, g_isTime p1 p2 q1 q2, if_pos ct, g_meetsOf e0 hR hr ho, em, xob_some, cond_true, t_10, t_00, ne_eq, not_true_eq_false, not_false_eq_true, if_true, if_false]
      · have g0 : (iI (xog A.1 r o) = 0) = False := t_nz (by omega) (by omega) c
        have g1 : (0 ≤ iI (xog A.1 r o)) = True := eq_true (by rw [iI_0, iI_le (by omega) (by omega) (by omega) (by omega)]; omega)
        have key := x_nextmeet bg.1 bl.1 bl.2 (f := xfm A.1 r o) rfl ct.1 ct.2.2.1
        have W0 : 0 < 12 * q := by omega
        have nb : -4811508 ≤ (-(12 * xog A.1 r o * p + xol A.1 r o * q)) / (12 * q) ∧ (-(12 * xog A.1 r o * p + xol A.1 r o * q)) / (12 * q) ≤ 0 := by
          constructor
          · apply Int.le_ediv_of_mul_le W0
            have := Int.mul_le_mul_of_nonneg_left (show (1 : Int) ≤ 12 * q by omega) (show (0 : Int) ≤ 4811508 by decide)
            omega
          · have := Int.ediv_le_ediv W0 (show -(12 * xog A.1 r o * p + xol A.1 r o * q) ≤ 0 by omega)
            rw [Int.zero_ediv] at this
            exact this
        generalize hN : (-(12 * xog A.1 r o * p + xol A.1 r o * q)) / (12 * q) = N at key nb
        have top0 : 0 ≤ 12 * (-N) - xol A.1 r o := by
          rw [key]
          have : 0 ≤ xmg2 (12 * xog A.1 r o * p - xfm A.1 r o * q) q false := by
            unfold xmg2
            split
            · rename_i h
              have := Int.ediv_nonneg h (show 0 ≤ 12 * q by omega)
              split
              · omega
              · split <;> omega
            · omega
          omega
        refine ⟨jI (xpo (12 * (-N) - xol A.1 r o) (12 * xog A.1 r o) t), A, ⟨T, xcJ_of ((e_X10_meetsNext_0 P x (iI r) (iI o) (iI p) (iI q) (iI (xb t)) S).trans ?_), H1, fr⟩, fun S' M => ?_⟩
        · simp only [H.r0, H.r8, H.oo, hF.o, d_hasBoth hF i1 i2 j1 j2, if_pos cb, d_isTime p1 p2 q1 q2, if_pos ct, m1, H1.r8, m2.o, ga, la, g0, iI_mul, iI_add, iI_neg, xob_some, cond_true, t_10, t_00, ne_eq, not_true_eq_false, not_false_eq_true, if_true, if_false]
          rw [c_floorDiv (by omega) (by omega) (by omega) (by omega), xob_some, hN]
          dsimp only
          rw [iI_neg, iI_mul, iI_sub, iI_ji (by omega) (by omega), iI_ji (by omega) (by omega), d_partOf top0 (by omega) (by omega) (by omega), xob_some]
        · obtain ⟨ob, e0, -, -, hR, -⟩ := id M
          refine ⟨S', xcJ_of ((e_X11_meetsNext_0 P m (iI r) (iI o) (iI p) (iI q) (iI (xb t)) S').trans ?_), M, xfr.rf⟩
          have mt := g_meetingTop (P := P) e0 hR hr ho c (k := 0) (by omega) (by omega)
          rw [show xfm A.1 r o + 12 * 0 = xfm A.1 r o by omega] at mt
          have mg := g_meetingsTo (P := P) e0 hR hr ho c ct.1 ct.2.1 ct.2.2.1 ct.2.2.2 false
          simp only [xb, Bool.false_eq_true, if_false] at mg
          simp only [e0.o, g_areTwo e0 hR i1 i2 j1 j2, if_pos cb, g_isTime p1 p2 q1 q2, if_pos ct, g_meetsOf e0 hR hr ho, xmee_0 c, g0, g1, mt, iI_ji p1 p2, iI_ji q1 q2, mg, jI_mul, jI_add, ← key, xob_some, cond_true, t_10, t_00, ne_eq, not_true_eq_false, not_false_eq_true, if_true, if_false]
          rw [iI_ji (by omega) (by omega), jI_mul, d_part top0 (by omega) (by omega) (by omega), xob_some]
    · refine ⟨jI (-1), A, ⟨S, xcJ_of ((e_X10_meetsNext_0 P x (iI r) (iI o) (iI p) (iI q) (iI (xb t)) S).trans ?_), H, xfr.rf⟩, fun S' M => ?_⟩
      · simp only [H.r0, hF.o, d_hasBoth hF i1 i2 j1 j2, if_pos cb, d_isTime p1 p2 q1 q2, if_neg ct, xob_some, cond_true, t_10, t_00, ne_eq, not_true_eq_false, not_false_eq_true, if_true, if_false]
      · obtain ⟨ob, e0, -, -, hR, -⟩ := id M
        refine ⟨S', xcJ_of ((e_X11_meetsNext_0 P m (iI r) (iI o) (iI p) (iI q) (iI (xb t)) S').trans ?_), M, xfr.rf⟩
        simp only [e0.o, g_areTwo e0 hR i1 i2 j1 j2, if_pos cb, g_isTime p1 p2 q1 q2, if_neg ct, xob_some, cond_true, t_10, t_00, ne_eq, not_true_eq_false, not_false_eq_true, if_true, if_false]
  · refine ⟨jI (-1), A, ⟨S, xcJ_of ((e_X10_meetsNext_0 P x (iI i) (iI j) (iI p) (iI q) (iI (xb t)) S).trans ?_), H, xfr.rf⟩, fun S' M => ?_⟩
    · simp only [H.r0, hF.o, d_hasBoth hF i1 i2 j1 j2, if_neg cb, xob_some, cond_true, t_10, t_00, ne_eq, not_true_eq_false, not_false_eq_true, if_true, if_false]
    · obtain ⟨ob, e0, -, -, hR, -⟩ := id M
      refine ⟨S', xcJ_of ((e_X11_meetsNext_0 P m (iI i) (iI j) (iI p) (iI q) (iI (xb t)) S').trans ?_), M, xfr.rf⟩
      simp only [e0.o, g_areTwo e0 hR i1 i2 j1 j2, if_neg cb, xob_some, cond_true, t_10, t_00, ne_eq, not_true_eq_false, not_false_eq_true, if_true, if_false]
theorem z_passed (H : xCl S x A) {i j p q : Int} (i1 : -2147483648 ≤ i) (i2 : i < 2147483648) (j1 : -2147483648 ≤ j) (j2 : j < 2147483648) (p1 : -2147483648 ≤ p) (p2 : p < 2147483648) (q1 : -2147483648 ≤ q) (q2 : q < 2147483648) : ∃ v A', xKI P S x m_X10_passed [.int (iI i), .int (iI j), .int (iI p), .int (iI q)] v A' ∧ ∀ S', xMl S' m A → xGI P S' m m_X11_passed [.int (iI i), .int (iI j), .int (iI p), .int (iI q)] v A' := by
  have hF := H.2.1
  have hk := hF.1.1
  by_cases cb : 0 ≤ i ∧ i < A.1.1 ∧ 0 ≤ j ∧ j < A.1.1 ∧ i ≠ j
  · obtain ⟨r, rfl⟩ : ∃ r : Nat, i = r := ⟨i.toNat, by omega⟩
    obtain ⟨o, rfl⟩ : ∃ o : Nat, j = o := ⟨j.toNat, by omega⟩
    have hr : r < A.1.1 := by omega
    have ho : o < A.1.1 := by omega
    have bg := xog_bd hF.1 hr ho
    have bl := xol_bd A.1 r o
    have bf := xfm_bd A.1 r o
    by_cases ct : (0 ≤ p ∧ p ≤ 9999 ∧ 1 ≤ q ∧ q ≤ 999)
    · obtain ⟨T, m1, m2, H1, fr⟩ := H.one (P := P) hr ho
      have ga : xcI P m_X3_gapAt [.ref (x + 61), .int (iI 0)] T = some (iI (xog A.1 r o), T) := d_gapAt m2 (r := 0) (by decide)
      have la : xcI P m_X3_leadAt [.ref (x + 61), .int (iI 0)] T = some (iI (xol A.1 r o), T) := d_leadAt m2 (r := 0) (by decide)
      have bT2 := xT_bd bg.1 bg.2 bl.1 bl.2 ct.1 ct.2.1 ct.2.2.1 ct.2.2.2
      by_cases c : xog A.1 r o = 0
      · have g0 : (iI (xog A.1 r o) = 0) = True := by rw [c]; decide +kernel
        have bm : xmee A.1 r o = 0 ∨ xmee A.1 r o = -2 := by unfold xmee; rw [if_pos c]; split <;> omega
        have le : (iI (xmee A.1 r o) ≤ 0) = True := eq_true (by rw [iI_0, iI_le (by omega) (by omega) (by omega) (by omega)]; omega)
        refine ⟨iI (xmee A.1 r o), A, ⟨T, xcI_of ((e_X10_passed_0 P x (iI r) (iI o) (iI p) (iI q) S).trans ?_), H1, fr⟩, fun S' M => ?_⟩
        · simp only [H.r0, H.r8, H.oo, hF.o, d_hasBoth hF i1 i2 j1 j2, if_pos cb, d_isTime p1 p2 q1 q2, if_pos ct, m1, H1.r8, m2.o, ga, la, g0, xob_some, cond_true, t_10, t_00, ne_eq, not_true_eq_false, not_false_eq_true, if_true, if_false]
          unfold xmee
          rw [if_pos c]
          by_cases d : xol A.1 r o = 0
          · rw [if_pos d, if_neg (by rw [d]; decide +kernel)]
          · rw [if_neg d, if_pos (by rw [t_nz (by omega) (by omega) d]; exact fun z => z)]
        · obtain ⟨ob, e0, -, -, hR, -⟩ := id M
          refine ⟨S', xcI_of ((e_X11_passed_0 P m (iI r) (iI o) (iI p) (iI q) S').trans ?_), M, xfr.rf⟩
          simp only [e0.o, g_areTwo e0 hR i1 i2 j1 j2, if_pos cb, g_isTime p1 p2 q1 q2, if_pos ct, g_meetsOf e0 hR hr ho, le, xob_some, cond_true, t_10, t_00, ne_eq, not_true_eq_false, not_false_eq_true, if_true, if_false]
      · have g0 : (iI (xog A.1 r o) = 0) = False := t_nz (by omega) (by omega) c
        have le : (iI (xog A.1 r o) ≤ 0) = False := eq_false (by rw [iI_0, iI_le (by omega) (by omega) (by omega) (by omega)]; omega)
        have q0 : (iI (12 * q) = 0) = False := t_nz (by omega) (by omega) (by omega)
        have key := x_passed bg.1 bl.1 bl.2 (f := xfm A.1 r o) rfl ct.1 ct.2.2.1
        refine ⟨iI (xmg2 (12 * xog A.1 r o * p - xfm A.1 r o * q) q true), A, ⟨T, xcI_of ((e_X10_passed_0 P x (iI r) (iI o) (iI p) (iI q) S).trans ?_), H1, fr⟩, fun S' M => ?_⟩
        · simp only [H.r0, H.r8, H.oo, hF.o, d_hasBoth hF i1 i2 j1 j2, if_pos cb, d_isTime p1 p2 q1 q2, if_pos ct, m1, H1.r8, m2.o, ga, la, g0, q0, iI_mul, iI_add, xob_some, cond_true, t_10, t_00, ne_eq, not_true_eq_false, not_false_eq_true, if_true, if_false]
          rw [iI_div (by omega) (by omega) (by omega) (by omega), iI_add, ← key]
          by_cases d : xol A.1 r o = 0
          · rw [if_pos d, if_neg (by rw [d]; decide +kernel)]
          · rw [if_neg d, if_pos (by rw [t_nz (by omega) (by omega) d]; exact fun z => z)]
        · obtain ⟨ob, e0, -, -, hR, -⟩ := id M
          refine ⟨S', xcI_of ((e_X11_passed_0 P m (iI r) (iI o) (iI p) (iI q) S').trans ?_), M, xfr.rf⟩
          have mg := g_meetingsTo (P := P) e0 hR hr ho c ct.1 ct.2.1 ct.2.2.1 ct.2.2.2 true
          simp only [xb, if_true] at mg
          simp only [e0.o, g_areTwo e0 hR i1 i2 j1 j2, if_pos cb, g_isTime p1 p2 q1 q2, if_pos ct, g_meetsOf e0 hR hr ho, xmee_0 c, le, iI_ji p1 p2, iI_ji q1 q2, mg, jI_ij, xob_some, cond_true, t_10, t_00, ne_eq, not_true_eq_false, not_false_eq_true, if_true, if_false]
    · refine ⟨iI (-1), A, ⟨S, xcI_of ((e_X10_passed_0 P x (iI r) (iI o) (iI p) (iI q) S).trans ?_), H, xfr.rf⟩, fun S' M => ?_⟩
      · simp only [H.r0, hF.o, d_hasBoth hF i1 i2 j1 j2, if_pos cb, d_isTime p1 p2 q1 q2, if_neg ct, xob_some, cond_true, t_10, t_00, ne_eq, not_true_eq_false, not_false_eq_true, if_true, if_false]
      · obtain ⟨ob, e0, -, -, hR, -⟩ := id M
        refine ⟨S', xcI_of ((e_X11_passed_0 P m (iI r) (iI o) (iI p) (iI q) S').trans ?_), M, xfr.rf⟩
        simp only [e0.o, g_areTwo e0 hR i1 i2 j1 j2, if_pos cb, g_isTime p1 p2 q1 q2, if_neg ct, xob_some, cond_true, t_10, t_00, ne_eq, not_true_eq_false, not_false_eq_true, if_true, if_false]
  · refine ⟨iI (-1), A, ⟨S, xcI_of ((e_X10_passed_0 P x (iI i) (iI j) (iI p) (iI q) S).trans ?_), H, xfr.rf⟩, fun S' M => ?_⟩
    · simp only [H.r0, hF.o, d_hasBoth hF i1 i2 j1 j2, if_neg cb, xob_some, cond_true, t_10, t_00, ne_eq, not_true_eq_false, not_false_eq_true, if_true, if_false]
    · obtain ⟨ob, e0, -, -, hR, -⟩ := id M
      refine ⟨S', xcI_of ((e_X11_passed_0 P m (iI i) (iI j) (iI p) (iI q) S').trans ?_), M, xfr.rf⟩
      simp only [e0.o, g_areTwo e0 hR i1 i2 j1 j2, if_neg cb, xob_some, cond_true, t_10, t_00, ne_eq, not_true_eq_false, not_false_eq_true, if_true, if_false]
end ME
