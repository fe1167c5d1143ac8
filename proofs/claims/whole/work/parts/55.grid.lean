-- deps: 54.meets3
/-! grid, dense, divided, mates, rests -/
theorem d_in32 {P : Nat → Nat} {S : xS} {v : Int} (v1 : -2147483648 ≤ v) (v2 : v < 2147483648) {a b : Int} (a0 : -9223372036854775808 ≤ a) (a1 : a < 9223372036854775808) (b0 : -9223372036854775808 ≤ b) (b1 : b < 9223372036854775808) : xcI P m_X11_in [.long (iI v).toInt64, .long (jI a), .long (jI b)] S = some (iI (if a ≤ v ∧ v ≤ b then 1 else 0), S) := by
  rw [iI_ji v1 v2]
  exact d_in (by omega) (by omega) a0 a1 b0 b1
/-- the best of a grid so far -/
def xgr (F : xF) (i : Nat) (e : Int) : Nat → Int × Int := xfo (fun a s => if xnr F i (12 * a) e ≤ s.1 then s else (xnr F i (12 * a) e, (a : Int))) (-1, 0)
theorem xgr_suc (F : xF) (i : Nat) (e : Int) (n : Nat) : xgr F i e (n + 1) = if xnr F i (12 * n) e ≤ (xgr F i e n).1 then xgr F i e n else (xnr F i (12 * n) e, (n : Int)) := rfl
theorem xgr_bd (F : xF) (i : Nat) {e : Int} (he : 0 < e) : ∀ n, -1 ≤ (xgr F i e n).1 ∧ (xgr F i e n).1 ≤ 6 * e ∧ (0 < n → 0 ≤ (xgr F i e n).1) := by
  intro n
  induction n with
  | zero => exact ⟨Int.le_refl _, by show (-1 : Int) ≤ 6 * e; omega, fun h => by omega⟩
  | succ n ih =>
    have b := xnr_bd F i (x := 12 * n) he
    rw [xgr_suc]
    split
    · rename_i h
      exact ⟨ih.1, ih.2.1, fun _ => by omega⟩
    · exact ⟨by dsimp only; omega, by dsimp only; omega, fun _ => b.1⟩
section GR
variable {P : Nat → Nat} {S : xS} {x m : Nat} {A : xAb} {ob : Nat → Value} {F : xF}
theorem d_isGridB {v : Int} (v1 : -2147483648 ≤ v) (v2 : v < 2147483648) : xcI P m_X10_isGrid [.int (iI v)] S = some (iI (if 1 ≤ v ∧ v ≤ 999 then 1 else 0), S) := d_isGrid v1 v2
theorem z_grid (H : xCl S x A) {i n w : Int} (i1 : -2147483648 ≤ i) (i2 : i < 2147483648) (n1 : -2147483648 ≤ n) (n2 : n < 2147483648) (w1 : -2147483648 ≤ w) (w2 : w < 2147483648) : ∃ v A', xKI P S x m_X10_grid [.int (iI i), .int (iI n), .int (iI w)] v A' ∧ ∀ S', xMl S' m A → xGI P S' m m_X11_grid [.int (iI i), .int (iI n), .int (iI w)] v A' := by
  have hF := H.2.1
  have hk := hF.1.1
  have e0w : (iI w < 0) ↔ w < 0 := by rw [iI_0, iI_lt w1 w2 (by decide) (by decide)]
  have e2w : (iI w ≤ iI 2) ↔ w ≤ 2 := iI_le w1 w2 (by decide) (by decide)
  by_cases ci : 0 ≤ i ∧ i < A.1.1
  · obtain ⟨r, rfl⟩ : ∃ r : Nat, i = r := ⟨i.toNat, by omega⟩
    have hr : r < A.1.1 := by omega
    by_cases cn : 1 ≤ n ∧ n ≤ 999
    · by_cases cw : 0 ≤ w ∧ w ≤ 2
      · have f1 : (iI w < 0) = False := eq_false (by rw [e0w]; omega)
        have f2 : (iI w ≤ iI 2) = True := eq_true (by rw [e2w]; omega)
        obtain ⟨T, m1, m2, H1, fr⟩ := H.al (P := P) hr
        obtain ⟨nn, rfl⟩ : ∃ nn : Nat, n = nn := ⟨n.toNat, by omega⟩
        have gb := xgr_bd A.1 r (e := (nn : Int)) (by omega) nn
        have z2 : (iI w = iI 2) ↔ w = 2 := iI_eq w1 w2 (by decide) (by decide)
        have z1 : (iI w = iI 1) ↔ w = 1 := iI_eq w1 w2 (by decide) (by decide)
        refine ⟨iI (if w = 2 then (xgr A.1 r nn nn).2 else xpo (xgr A.1 r nn nn).1 (12 * nn) (decide (w = 1))), A, ⟨T, xcI_of ((e_X10_grid_0 P x (iI r) (iI nn) (iI w) S).trans ?_), H1, fr⟩, fun S' M => ?_⟩
        · simp only [H.r0, H.r8, H.oo, hF.o, d_has hF i1 i2, if_pos ci, d_isGridB n1 n2, if_pos cn, f1, f2, m1, xob_some, cond_true, t_10, t_00, ne_eq, not_true_eq_false, not_false_eq_true, if_true, if_false]
          refine (xsteps (fun a => xrun P m_X10_grid 50 [(0, .ref x), (2, .int (iI nn)), (3, .int (iI w)), (4, .int (iI (xgr A.1 r nn a).1)), (5, .int (iI (xgr A.1 r nn a).2)), (6, .int (iI a))] [] T) nn ?_).trans ?_
          · intro a ha
            try dsimp only
            have ga := xgr_bd A.1 r (e := (nn : Int)) (by omega) a
            have b := xnr_bd A.1 r (x := 12 * a) (e := (nn : Int)) (by omega)
            have nb := d_nearestBy (P := P) m2 (x := 12 * a) (e := (nn : Int)) (by omega) (by omega) (by omega) (by omega)
            rw [xNr_nr A.1 hr (by omega)] at nb
            rw [e_X10_grid_50, if_neg (by rw [iI_le (by omega) (by omega) (by omega) (by omega)]; omega), H1.r8, xob_some, H1.oo, cond_true, iI_mul, nb, xob_some]
            dsimp only
            rw [xgr_suc, iI_suc]
            by_cases c : xnr A.1 r (12 * a) nn ≤ (xgr A.1 r nn a).1
            · rw [if_pos (by rw [iI_le (by omega) (by omega) (by omega) (by omega)]; exact c), if_pos c]
            · rw [if_neg (by rw [iI_le (by omega) (by omega) (by omega) (by omega)]; exact c), if_neg c]
          · try dsimp only
            rw [e_X10_grid_50, if_pos (by rw [iI_le (by omega) (by omega) (by omega) (by omega)]; omega)]
            by_cases d : w = 2
            · rw [if_neg (show ¬ iI w ≠ iI 2 by rw [ne_eq, z2]; omega), if_pos d]
            · have dp := fun t => d_partOf (P := P) (S := T) (u := (xgr A.1 r nn nn).1) (l := 12 * nn) (by omega) (by omega) (by omega) (by omega) t
              have f0 := dp false
              have f1 := dp true
              simp only [xb, Bool.false_eq_true, if_false, if_true] at f0 f1
              rw [if_pos (show iI w ≠ iI 2 by rw [ne_eq, z2]; omega), if_neg d, iI_mul, iI_ji (by omega) (by omega), iI_ji (by omega) (by omega)]
              by_cases c : w = 1
              · rw [if_neg (show ¬ iI w ≠ iI 1 by rw [ne_eq, z1]; omega), f1, xob_some, jI_ij, decide_eq_true c]
              · rw [if_pos (show iI w ≠ iI 1 by rw [ne_eq, z1]; omega), f0, xob_some, jI_ij, decide_eq_false c]
        · obtain ⟨ob, e0, -, -, hR, -⟩ := id M
          refine ⟨S', xcI_of ((e_X11_grid_0 P m (iI r) (iI nn) (iI w) S').trans ?_), M, xfr.rf⟩
          simp (disch := decide) only [e0.o, g_isRunner e0 hR i1 i2, if_pos ci, d_in32 n1 n2, if_pos cn, d_in32 w1 w2, if_pos cw, xob_some, cond_true, t_10, t_00, ne_eq, not_true_eq_false, not_false_eq_true, if_true, if_false]
          refine (xsteps (fun a => xrun P m_X11_grid 45 [(0, .ref m), (1, .int (iI r)), (2, .int (iI nn)), (3, .int (iI w)), (4, .long (jI (xgr A.1 r nn a).1)), (6, .int (iI (xgr A.1 r nn a).2)), (7, .int (iI a))] [] S') nn ?_).trans ?_
          · intro a ha
            try dsimp only
            have ga := xgr_bd A.1 r (e := (nn : Int)) (by omega) a
            have b := xnr_bd A.1 r (x := 12 * a) (e := (nn : Int)) (by omega)
            rw [e_X11_grid_45, if_neg (by rw [iI_le (by omega) (by omega) (by omega) (by omega)]; omega), e0.o, cond_true, iI_ji (by omega) (by omega), iI_ji (by omega) (by omega), g_nearestTop e0 hR hr (by omega) (by omega) (by omega) (by omega), xob_some]
            dsimp only
            rw [jI_cmp_lt (by omega) (by omega) (by omega) (by omega), xgr_suc, iI_suc]
            by_cases c : xnr A.1 r (12 * a) nn ≤ (xgr A.1 r nn a).1
            · rw [if_neg (show ¬ (xgr A.1 r nn a).1 < xnr A.1 r (12 * a) nn by omega), if_neg (by split <;> decide +kernel), if_pos c]
            · rw [if_pos (show (xgr A.1 r nn a).1 < xnr A.1 r (12 * a) nn by omega), if_pos (by decide +kernel), if_neg c]
          · try dsimp only
            rw [e_X11_grid_45, if_pos (by rw [iI_le (by omega) (by omega) (by omega) (by omega)]; omega)]
            by_cases d : w = 2
            · rw [if_neg (show ¬ iI w ≠ iI 2 by rw [ne_eq, z2]; omega), if_pos d]
            · have dp := fun t => d_part (P := P) (S := S') (u := (xgr A.1 r nn nn).1) (l := 12 * nn) (by omega) (by omega) (by omega) (by omega) t
              have f0 := dp false
              have f1 := dp true
              simp only [xb, Bool.false_eq_true, if_false, if_true] at f0 f1
              rw [if_pos (show iI w ≠ iI 2 by rw [ne_eq, z2]; omega), if_neg d, iI_ji (by omega) (by omega), jI_mul]
              by_cases c : w = 1
              · rw [if_neg (show ¬ iI w ≠ iI 1 by rw [ne_eq, z1]; omega), f1, xob_some, jI_ij, decide_eq_true c]
              · rw [if_pos (show iI w ≠ iI 1 by rw [ne_eq, z1]; omega), f0, xob_some, jI_ij, decide_eq_false c]
      · refine ⟨iI (-1), A, ⟨S, xcI_of ((e_X10_grid_0 P x (iI r) (iI n) (iI w) S).trans ?_), H, xfr.rf⟩, fun S' M => ?_⟩
        · simp only [H.r0, hF.o, d_has hF i1 i2, if_pos ci, d_isGridB n1 n2, if_pos cn, xob_some, cond_true, t_10, t_00, ne_eq, not_true_eq_false, not_false_eq_true, if_true, if_false]
          by_cases c : w < 0
          · rw [if_pos (by rw [e0w]; exact c)]
          · rw [if_neg (by rw [e0w]; exact c), if_neg (by rw [e2w]; omega)]
        · obtain ⟨ob, e0, -, -, hR, -⟩ := id M
          refine ⟨S', xcI_of ((e_X11_grid_0 P m (iI r) (iI n) (iI w) S').trans ?_), M, xfr.rf⟩
          simp (disch := decide) only [e0.o, g_isRunner e0 hR i1 i2, if_pos ci, d_in32 n1 n2, if_pos cn, d_in32 w1 w2, if_neg cw, xob_some, cond_true, t_10, t_00, ne_eq, not_true_eq_false, not_false_eq_true, if_true, if_false]
    · refine ⟨iI (-1), A, ⟨S, xcI_of ((e_X10_grid_0 P x (iI r) (iI n) (iI w) S).trans ?_), H, xfr.rf⟩, fun S' M => ?_⟩
      · simp only [H.r0, hF.o, d_has hF i1 i2, if_pos ci, d_isGridB n1 n2, if_neg cn, xob_some, cond_true, t_10, t_00, ne_eq, not_true_eq_false, not_false_eq_true, if_true, if_false]
      · obtain ⟨ob, e0, -, -, hR, -⟩ := id M
        refine ⟨S', xcI_of ((e_X11_grid_0 P m (iI r) (iI n) (iI w) S').trans ?_), M, xfr.rf⟩
        simp (disch := decide) only [e0.o, g_isRunner e0 hR i1 i2, if_pos ci, d_in32 n1 n2, if_neg cn, xob_some, cond_true, t_10, t_00, ne_eq, not_true_eq_false, not_false_eq_true, if_true, if_false]
  · refine ⟨iI (-1), A, ⟨S, xcI_of ((e_X10_grid_0 P x (iI i) (iI n) (iI w) S).trans ?_), H, xfr.rf⟩, fun S' M => ?_⟩
    · simp only [H.r0, hF.o, d_has hF i1 i2, if_neg ci, xob_some, cond_true, t_10, t_00, ne_eq, not_true_eq_false, not_false_eq_true, if_true, if_false]
    · obtain ⟨ob, e0, -, -, hR, -⟩ := id M
      refine ⟨S', xcI_of ((e_X11_grid_0 P m (iI i) (iI n) (iI w) S').trans ?_), M, xfr.rf⟩
      simp only [e0.o, g_isRunner e0 hR i1 i2, if_neg ci, xob_some, cond_true, t_10, t_00, ne_eq, not_true_eq_false, not_false_eq_true, if_true, if_false]
theorem z_dense (H : xCl S x A) {i n : Int} (i1 : -2147483648 ≤ i) (i2 : i < 2147483648) (n1 : -2147483648 ≤ n) (n2 : n < 2147483648) : ∃ v A', xKI P S x m_X10_dense [.int (iI i), .int (iI n)] v A' ∧ ∀ S', xMl S' m A → xGI P S' m m_X11_dense [.int (iI i), .int (iI n)] v A' := by
  have hF := H.2.1
  have hk := hF.1.1
  by_cases ci : 0 ≤ i ∧ i < A.1.1
  · obtain ⟨r, rfl⟩ : ∃ r : Nat, i = r := ⟨i.toNat, by omega⟩
    have hr : r < A.1.1 := by omega
    by_cases cn : 1 ≤ n ∧ n ≤ 999
    · obtain ⟨T, m1, m2, H1, fr⟩ := H.al (P := P) hr
      have hF1 := H1.2.1
      obtain ⟨nn, rfl⟩ : ∃ nn : Nat, n = nn := ⟨n.toNat, by omega⟩
      refine ⟨iI (xct (fun a => xlo A.1 r (12 * a) nn) nn : Nat), A, ⟨T, xcI_of ((e_X10_dense_0 P x (iI r) (iI nn) S).trans ?_), H1, fr⟩, fun S' M => ?_⟩
      · simp only [H.r0, H.r8, H.oo, hF.o, d_has hF i1 i2, if_pos ci, d_isGridB n1 n2, if_pos cn, m1, xob_some, cond_true, t_10, t_00, ne_eq, not_true_eq_false, not_false_eq_true, if_true, if_false]
        refine (xsteps (fun a => xrun P m_X10_dense 37 [(0, .ref x), (2, .int (iI nn)), (3, .int (iI (xct (fun a => xlo A.1 r (12 * a) nn) a : Nat))), (4, .int (iI a))] [] T) nn ?_).trans ?_
        · intro a ha
          try dsimp only
          have nb := d_nearestBy (P := P) m2 (x := 12 * a) (e := (nn : Int)) (by omega) (by omega) (by omega) (by omega)
          rw [xNr_nr A.1 hr (by omega)] at nb
          rw [e_X10_dense_37, if_neg (by rw [iI_le (by omega) (by omega) (by omega) (by omega)]; omega), H1.r8, xob_some, H1.oo, cond_true, iI_mul, nb, xob_some]
          dsimp only
          simp only [H1.r0, hF1.o, d_size hF1, iI_mul, d_isLonely (P := P) (p := (a : Int)) hk cn.1 cn.2, xob_some, cond_true, iI_suc, xct]
          by_cases c : xlo A.1 r (12 * a) nn = true
          · simp only [c, if_true]
            rw [if_neg (by decide +kernel)]
          · simp only [c, if_false, Bool.false_eq_true]
            rw [if_pos (by decide +kernel)]
            rfl
        · try dsimp only
          rw [e_X10_dense_37, if_pos (by rw [iI_le (by omega) (by omega) (by omega) (by omega)]; omega)]
      · obtain ⟨ob, e0, -, -, hR, -⟩ := id M
        refine ⟨S', xcI_of ((e_X11_dense_0 P m (iI r) (iI nn) S').trans ?_), M, xfr.rf⟩
        simp (disch := decide) only [e0.o, g_isRunner e0 hR i1 i2, if_pos ci, d_in32 n1 n2, if_pos cn, xob_some, cond_true, t_10, t_00, ne_eq, not_true_eq_false, not_false_eq_true, if_true, if_false]
        refine (xsteps (fun a => xrun P m_X11_dense 27 [(0, .ref m), (1, .int (iI r)), (2, .int (iI nn)), (3, .int (iI (xct (fun a => xlo A.1 r (12 * a) nn) a : Nat))), (4, .int (iI a))] [] S') nn ?_).trans ?_
        · intro a ha
          try dsimp only
          rw [e_X11_dense_27, if_neg (by rw [iI_le (by omega) (by omega) (by omega) (by omega)]; omega), e0.o, cond_true, iI_ji (by omega) (by omega), iI_ji (by omega) (by omega), g_isLonely e0 hR hr (by omega) (by omega) (by omega) (by omega), xob_some]
          simp only [iI_suc, xct]
          by_cases c : xlo A.1 r (12 * a) nn = true
          · simp only [c, if_true]
            rw [if_neg (by decide +kernel)]
          · simp only [c, if_false, Bool.false_eq_true]
            rw [if_pos (by decide +kernel)]
            rfl
        · try dsimp only
          rw [e_X11_dense_27, if_pos (by rw [iI_le (by omega) (by omega) (by omega) (by omega)]; omega)]
    · refine ⟨iI (-1), A, ⟨S, xcI_of ((e_X10_dense_0 P x (iI r) (iI n) S).trans ?_), H, xfr.rf⟩, fun S' M => ?_⟩
      · simp only [H.r0, hF.o, d_has hF i1 i2, if_pos ci, d_isGridB n1 n2, if_neg cn, xob_some, cond_true, t_10, t_00, ne_eq, not_true_eq_false, not_false_eq_true, if_true, if_false]
      · obtain ⟨ob, e0, -, -, hR, -⟩ := id M
        refine ⟨S', xcI_of ((e_X11_dense_0 P m (iI r) (iI n) S').trans ?_), M, xfr.rf⟩
        simp (disch := decide) only [e0.o, g_isRunner e0 hR i1 i2, if_pos ci, d_in32 n1 n2, if_neg cn, xob_some, cond_true, t_10, t_00, ne_eq, not_true_eq_false, not_false_eq_true, if_true, if_false]
  · refine ⟨iI (-1), A, ⟨S, xcI_of ((e_X10_dense_0 P x (iI i) (iI n) S).trans ?_), H, xfr.rf⟩, fun S' M => ?_⟩
    · simp only [H.r0, hF.o, d_has hF i1 i2, if_neg ci, xob_some, cond_true, t_10, t_00, ne_eq, not_true_eq_false, not_false_eq_true, if_true, if_false]
    · obtain ⟨ob, e0, -, -, hR, -⟩ := id M
      refine ⟨S', xcI_of ((e_X11_dense_0 P m (iI i) (iI n) S').trans ?_), M, xfr.rf⟩
      simp only [e0.o, g_isRunner e0 hR i1 i2, if_neg ci, xob_some, cond_true, t_10, t_00, ne_eq, not_true_eq_false, not_false_eq_true, if_true, if_false]
/-- the greatest divisor of all gaps -/
def xgd (F : xF) (i : Nat) : Nat → Nat
  | 0 => 0
  | n + 1 => Nat.gcd (xgd F i n) (F.2.1 n - F.2.1 i).natAbs
theorem xgd_bd (h : xFok F) {i : Nat} (hi : i < F.1) : ∀ n, n ≤ F.1 → xgd F i n ≤ 40 := by
  have bi := h.2 i hi
  intro n
  induction n with
  | zero => intro _; exact Nat.zero_le _
  | succ n ih =>
    intro hn
    have a := ih (by omega)
    have b := h.2 n (by omega)
    simp only [xgd]
    by_cases c : xgd F i n = 0
    · rw [c, Nat.gcd_zero_left]; omega
    · have := Nat.gcd_le_left (F.2.1 n - F.2.1 i).natAbs (show 0 < xgd F i n by omega)
      omega
theorem z_divided (H : xCl S x A) {i : Int} (i1 : -2147483648 ≤ i) (i2 : i < 2147483648) : ∃ v A', xKI P S x m_X10_divided [.int (iI i)] v A' ∧ ∀ S', xMl S' m A → xGI P S' m m_X11_divided [.int (iI i)] v A' := by
  have hF := H.2.1
  have hk := hF.1.1
  by_cases ci : 0 ≤ i ∧ i < A.1.1
  · obtain ⟨r, rfl⟩ : ∃ r : Nat, i = r := ⟨i.toNat, by omega⟩
    have hr : r < A.1.1 := by omega
    have bi := hF.1.2 r hr
    refine ⟨iI (xgd A.1 r A.1.1 : Nat), A, ⟨S, xcI_of ((e_X10_divided_0 P x (iI r) S).trans ?_), H, xfr.rf⟩, fun S' M => ?_⟩
    · simp only [H.r0, hF.o, d_has hF i1 i2, if_pos ci, xob_some, cond_true, t_10, t_00, ne_eq, not_true_eq_false, not_false_eq_true, if_true, if_false]
      refine (xsteps (fun n => xrun P m_X10_divided 18 [(0, .ref x), (1, .int (iI r)), (2, .long (jI (xgd A.1 r n : Nat))), (4, .int (iI n))] [] S) A.1.1 ?_).trans ?_
      · intro n hn
        try dsimp only
        have b1 := xgd_bd hF.1 hr n (by omega)
        have b2 := hF.1.2 n hn
        rw [e_X10_divided_18, H.r0, xob_some, hF.o, cond_true, d_size hF, xob_some, if_neg (by rw [iI_le (by omega) (by omega) (by omega) (by omega)]; omega)]
        simp only [H.r0, hF.o, d_speedAt hF hr, d_speedAt hF hn, iI_sub, iI_suc, xob_some, cond_true]
        rw [c_abs (by omega) (by omega), xob_some]
        dsimp only
        rw [iI_ji (by omega) (by omega), d_cd (by omega) (by omega) (by omega) (by omega), xob_some]
        rfl
      · try dsimp only
        rw [e_X10_divided_18, H.r0, xob_some, hF.o, cond_true, d_size hF, xob_some, if_pos (by rw [iI_le (by omega) (by omega) (by omega) (by omega)]; omega), jI_ij]
    · obtain ⟨ob, e0, -, -, hR, -⟩ := id M
      refine ⟨S', xcI_of ((e_X11_divided_0 P m (iI r) S').trans ?_), M, xfr.rf⟩
      simp only [e0.o, g_isRunner e0 hR i1 i2, if_pos ci, xob_some, cond_true, t_10, t_00, ne_eq, not_true_eq_false, not_false_eq_true, if_true, if_false]
      refine (xsteps (fun n => xrun P m_X11_divided 15 [(0, .ref m), (1, .int (iI r)), (2, .long (jI (xgd A.1 r n : Nat))), (4, .int (iI n))] [] S') A.1.1 ?_).trans ?_
      · intro n hn
        try dsimp only
        have b1 := xgd_bd hF.1 hr n (by omega)
        have b2 := hF.1.2 n hn
        rw [e_X11_divided_15, e0.r1, xob_some, g_K hR, xob_some, if_neg (by rw [iI_le (by omega) (by omega) (by omega) (by omega)]; omega)]
        simp only [e0.o, g_speedOf e0 hR hr, g_speedOf e0 hR hn, iI_sub, iI_suc, xob_some, cond_true]
        rw [iI_ji (by omega) (by omega), d_common (by omega) (by omega) (by omega) (by omega), xob_some]
        rfl
      · try dsimp only
        rw [e_X11_divided_15, e0.r1, xob_some, g_K hR, xob_some, if_pos (by rw [iI_le (by omega) (by omega) (by omega) (by omega)]; omega), jI_ij]
  · refine ⟨iI (-1), A, ⟨S, xcI_of ((e_X10_divided_0 P x (iI i) S).trans ?_), H, xfr.rf⟩, fun S' M => ?_⟩
    · simp only [H.r0, hF.o, d_has hF i1 i2, if_neg ci, xob_some, cond_true, t_10, t_00, ne_eq, not_true_eq_false, not_false_eq_true, if_true, if_false]
    · obtain ⟨ob, e0, -, -, hR, -⟩ := id M
      refine ⟨S', xcI_of ((e_X11_divided_0 P m (iI i) S').trans ?_), M, xfr.rf⟩
      simp only [e0.o, g_isRunner e0 hR i1 i2, if_neg ci, xob_some, cond_true, t_10, t_00, ne_eq, not_true_eq_false, not_false_eq_true, if_true, if_false]
def xmts (F : xF) (i : Nat) : Nat → Int32 := xfo (fun j s => if (j : Int) = i then s else if F.2.1 j ≠ F.2.1 i then s else s ||| (iI 1 <<< (iI j &&& 31))) (iI 0)
theorem z_mates (H : xCl S x A) {i : Int} (i1 : -2147483648 ≤ i) (i2 : i < 2147483648) : ∃ v A', xKI P S x m_X10_mates [.int (iI i)] v A' ∧ ∀ S', xMl S' m A → xGI P S' m m_X11_mates [.int (iI i)] v A' := by
  have hF := H.2.1
  have hk := hF.1.1
  by_cases ci : 0 ≤ i ∧ i < A.1.1
  · obtain ⟨r, rfl⟩ : ∃ r : Nat, i = r := ⟨i.toNat, by omega⟩
    have hr : r < A.1.1 := by omega
    have bi := hF.1.2 r hr
    refine ⟨xmts A.1 r A.1.1, A, ⟨S, xcI_of ((e_X10_mates_0 P x (iI r) S).trans ?_), H, xfr.rf⟩, fun S' M => ?_⟩
    · simp only [H.r0, hF.o, d_has hF i1 i2, if_pos ci, xob_some, cond_true, t_10, t_00, ne_eq, not_true_eq_false, not_false_eq_true, if_true, if_false]
      refine (xsteps (fun n => xrun P m_X10_mates 17 [(0, .ref x), (1, .int (iI r)), (2, .int (xmts A.1 r n)), (3, .int (iI n))] [] S) A.1.1 ?_).trans ?_
      · intro n hn
        try dsimp only
        have b2 := hF.1.2 n hn
        rw [e_X10_mates_17, H.r0, xob_some, hF.o, cond_true, d_size hF, xob_some, if_neg (by rw [iI_le (by omega) (by omega) (by omega) (by omega)]; omega)]
        simp only [H.r0, hF.o, d_speedAt hF hr, d_speedAt hF hn, iI_suc, xob_some, cond_true]
        simp (disch := omega) only [iI_eq, ne_eq]
        simp only [xmts, xfo]
        by_cases c : (n : Int) = r
        · rw [if_pos c, if_pos c]
        · rw [if_neg c, if_neg c]
          by_cases d : A.1.2.1 n = A.1.2.1 r
          · rw [if_neg (not_not_intro d), if_neg (not_not_intro d)]
          · rw [if_pos d, if_pos d]
      · try dsimp only
        rw [e_X10_mates_17, H.r0, xob_some, hF.o, cond_true, d_size hF, xob_some, if_pos (by rw [iI_le (by omega) (by omega) (by omega) (by omega)]; omega)]
    · obtain ⟨ob, e0, -, -, hR, -⟩ := id M
      refine ⟨S', xcI_of ((e_X11_mates_0 P m (iI r) S').trans ?_), M, xfr.rf⟩
      simp only [e0.o, g_isRunner e0 hR i1 i2, if_pos ci, xob_some, cond_true, t_10, t_00, ne_eq, not_true_eq_false, not_false_eq_true, if_true, if_false]
      refine (xsteps (fun n => xrun P m_X11_mates 14 [(0, .ref m), (1, .int (iI r)), (2, .int (xmts A.1 r n)), (3, .int (iI n))] [] S') A.1.1 ?_).trans ?_
      · intro n hn
        try dsimp only
        have b2 := hF.1.2 n hn
        rw [e_X11_mates_14, e0.r1, xob_some, g_K hR, xob_some, if_neg (by rw [iI_le (by omega) (by omega) (by omega) (by omega)]; omega)]
        simp only [e0.o, g_speedOf e0 hR hr, g_speedOf e0 hR hn, iI_suc, xob_some, cond_true]
        simp (disch := omega) only [iI_eq, ne_eq]
        simp only [xmts, xfo]
        by_cases c : (n : Int) = r
        · rw [if_pos c, if_pos c]
        · rw [if_neg c, if_neg c]
          by_cases d : A.1.2.1 n = A.1.2.1 r
          · rw [if_neg (not_not_intro d), if_neg (not_not_intro d)]
          · rw [if_pos d, if_pos d]
      · try dsimp only
        rw [e_X11_mates_14, e0.r1, xob_some, g_K hR, xob_some, if_pos (by rw [iI_le (by omega) (by omega) (by omega) (by omega)]; omega)]
  · refine ⟨iI (-1), A, ⟨S, xcI_of ((e_X10_mates_0 P x (iI i) S).trans ?_), H, xfr.rf⟩, fun S' M => ?_⟩
    · simp only [H.r0, hF.o, d_has hF i1 i2, if_neg ci, xob_some, cond_true, t_10, t_00, ne_eq, not_true_eq_false, not_false_eq_true, if_true, if_false]
    · obtain ⟨ob, e0, -, -, hR, -⟩ := id M
      refine ⟨S', xcI_of ((e_X11_mates_0 P m (iI i) S').trans ?_), M, xfr.rf⟩
      simp only [e0.o, g_isRunner e0 hR i1 i2, if_neg ci, xob_some, cond_true, t_10, t_00, ne_eq, not_true_eq_false, not_false_eq_true, if_true, if_false]
def xrst (F : xF) (i : Nat) (b : Int) : Nat → Int32 := xfo (fun j s => if (j : Int) = i then s else s ||| (iI 1 <<< (iI ((F.2.1 j - F.2.1 i) % b) &&& 31))) (iI 0)
theorem z_rests (H : xCl S x A) {i b : Int} (i1 : -2147483648 ≤ i) (i2 : i < 2147483648) (b1 : -2147483648 ≤ b) (b2 : b < 2147483648) : ∃ v A', xKI P S x m_X10_rests [.int (iI i), .int (iI b)] v A' ∧ ∀ S', xMl S' m A → xGI P S' m m_X11_rests [.int (iI i), .int (iI b)] v A' := by
  have hF := H.2.1
  have hk := hF.1.1
  have e1 : (iI b < iI 1) ↔ b < 1 := iI_lt b1 b2 (by decide) (by decide)
  have e2 : (iI b ≤ iI 30) ↔ b ≤ 30 := iI_le b1 b2 (by decide) (by decide)
  by_cases ci : 0 ≤ i ∧ i < A.1.1
  · obtain ⟨r, rfl⟩ : ∃ r : Nat, i = r := ⟨i.toNat, by omega⟩
    have hr : r < A.1.1 := by omega
    have bi := hF.1.2 r hr
    by_cases cb : 1 ≤ b ∧ b ≤ 30
    · have f1 : (iI b < iI 1) = False := eq_false (by rw [e1]; omega)
      have f2 : (iI b ≤ iI 30) = True := eq_true (by rw [e2]; omega)
      refine ⟨xrst A.1 r b A.1.1, A, ⟨S, xcI_of ((e_X10_rests_0 P x (iI r) (iI b) S).trans ?_), H, xfr.rf⟩, fun S' M => ?_⟩
      · simp only [H.r0, hF.o, d_has hF i1 i2, if_pos ci, f1, f2, xob_some, cond_true, t_10, t_00, ne_eq, not_true_eq_false, not_false_eq_true, if_true, if_false]
        refine (xsteps (fun n => xrun P m_X10_rests 29 [(0, .ref x), (1, .int (iI r)), (2, .int (iI b)), (3, .int (xrst A.1 r b n)), (4, .int (iI n))] [] S) A.1.1 ?_).trans ?_
        · intro n hn
          try dsimp only
          have b2 := hF.1.2 n hn
          have en : (iI n = iI r) ↔ (n : Int) = r := iI_eq (by omega) (by omega) (by omega) (by omega)
          rw [e_X10_rests_29, H.r0, xob_some, hF.o, cond_true, d_size hF, xob_some, if_neg (by rw [iI_le (by omega) (by omega) (by omega) (by omega)]; omega)]
          simp only [H.r0, hF.o, d_speedAt hF hr, d_speedAt hF hn, iI_sub, iI_suc, xob_some, cond_true, xrst, xfo]
          by_cases c : (n : Int) = r
          · rw [if_pos (en.mpr c), if_pos c]
          · rw [if_neg (fun z => c (en.mp z)), if_neg c, c_floorMod (by omega) (by omega) (by omega) (by omega), xob_some]
        · try dsimp only
          rw [e_X10_rests_29, H.r0, xob_some, hF.o, cond_true, d_size hF, xob_some, if_pos (by rw [iI_le (by omega) (by omega) (by omega) (by omega)]; omega)]
      · obtain ⟨ob, e0, -, -, hR, -⟩ := id M
        refine ⟨S', xcI_of ((e_X11_rests_0 P m (iI r) (iI b) S').trans ?_), M, xfr.rf⟩
        simp (disch := decide) only [e0.o, g_isRunner e0 hR i1 i2, if_pos ci, d_in32 b1 b2, if_pos cb, xob_some, cond_true, t_10, t_00, ne_eq, not_true_eq_false, not_false_eq_true, if_true, if_false]
        refine (xsteps (fun n => xrun P m_X11_rests 27 [(0, .ref m), (1, .int (iI r)), (2, .int (iI b)), (3, .int (xrst A.1 r b n)), (4, .int (iI n))] [] S') A.1.1 ?_).trans ?_
        · intro n hn
          try dsimp only
          have b2' := hF.1.2 n hn
          have en : (iI n = iI r) ↔ (n : Int) = r := iI_eq (by omega) (by omega) (by omega) (by omega)
          rw [e_X11_rests_27, e0.r1, xob_some, g_K hR, xob_some, if_neg (by rw [iI_le (by omega) (by omega) (by omega) (by omega)]; omega)]
          simp only [e0.o, g_speedOf e0 hR hr, g_speedOf e0 hR hn, iI_sub, iI_suc, xob_some, cond_true, xrst, xfo]
          by_cases c : (n : Int) = r
          · rw [if_pos (en.mpr c), if_pos c]
          · rw [if_neg (fun z => c (en.mp z)), if_neg c, iI_ji (by omega) (by omega), iI_ji b1 b2, d_ring (by omega) (by omega) (by omega) (by omega), xob_some]
            dsimp only
            rw [jI_ij]
        · try dsimp only
          rw [e_X11_rests_27, e0.r1, xob_some, g_K hR, xob_some, if_pos (by rw [iI_le (by omega) (by omega) (by omega) (by omega)]; omega)]
    · refine ⟨iI (-1), A, ⟨S, xcI_of ((e_X10_rests_0 P x (iI r) (iI b) S).trans ?_), H, xfr.rf⟩, fun S' M => ?_⟩
      · simp only [H.r0, hF.o, d_has hF i1 i2, if_pos ci, xob_some, cond_true, t_10, t_00, ne_eq, not_true_eq_false, not_false_eq_true, if_true, if_false]
        by_cases c : b < 1
        · rw [if_pos (by rw [e1]; exact c)]
        · rw [if_neg (by rw [e1]; exact c), if_neg (by rw [e2]; omega)]
      · obtain ⟨ob, e0, -, -, hR, -⟩ := id M
        refine ⟨S', xcI_of ((e_X11_rests_0 P m (iI r) (iI b) S').trans ?_), M, xfr.rf⟩
        simp (disch := decide) only [e0.o, g_isRunner e0 hR i1 i2, if_pos ci, d_in32 b1 b2, if_neg cb, xob_some, cond_true, t_10, t_00, ne_eq, not_true_eq_false, not_false_eq_true, if_true, if_false]
  · refine ⟨iI (-1), A, ⟨S, xcI_of ((e_X10_rests_0 P x (iI i) (iI b) S).trans ?_), H, xfr.rf⟩, fun S' M => ?_⟩
    · simp only [H.r0, hF.o, d_has hF i1 i2, if_neg ci, xob_some, cond_true, t_10, t_00, ne_eq, not_true_eq_false, not_false_eq_true, if_true, if_false]
    · obtain ⟨ob, e0, -, -, hR, -⟩ := id M
      refine ⟨S', xcI_of ((e_X11_rests_0 P m (iI i) (iI b) S').trans ?_), M, xfr.rf⟩
      simp only [e0.o, g_isRunner e0 hR i1 i2, if_neg ci, xob_some, cond_true, t_10, t_00, ne_eq, not_true_eq_false, not_false_eq_true, if_true, if_false]
end GR
