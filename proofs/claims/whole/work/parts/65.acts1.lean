-- deps: 64.keeps
/-! run, drop, speed, start, swap, keep, take, undo -/
section A1
variable {P : Nat → Nat} {S T : xS} {x m : Nat} {A : xAb} {ob ob0 : Nat → Value} {F : xF}
theorem d_full {a : Nat} (h : xFd S a F) : xcI P m_X0_isFull [.ref a] S = some (iI (if F.1 < 6 then 0 else 1), S) := by
  obtain ⟨-, f, g, e, -⟩ := h
  exact c_X0_isFull e
theorem t_e {a b : Int} (a1 : -2147483648 ≤ a) (a2 : a < 2147483648) (b1 : -2147483648 ≤ b) (b2 : b < 2147483648) (h : a ≠ b) : (iI a = iI b) = False := by
  rw [iI_eq a1 a2 b1 b2]; simp [h]
theorem z_run (H : xCl S x A) {i j : Int} (i1 : -2147483648 ≤ i) (i2 : i < 2147483648) (j1 : -2147483648 ≤ j) (j2 : j < 2147483648) : ∃ z A', xKI P S x m_X10_run [.int (iI i), .int (iI j)] z A' ∧ ∀ S', xMl S' m A → xGI P S' m m_X11_run [.int (iI i), .int (iI j)] z A' := by
  have hF := H.2.1
  have hk := hF.1.1
  have full := d_full (P := P) hF
  by_cases c1 : 0 ≤ i ∧ i ≤ 40
  · by_cases c2 : 0 ≤ j ∧ j ≤ 11
    · by_cases c3 : A.1.1 < 6
      · rw [if_pos c3] at full
        refine ⟨iI (A.1.1 : Int), xac A (A.1.1 + 1, va_up A.1.2.1 A.1.1 i, va_up A.1.2.2 A.1.1 j), ?_, fun S' M => ?_⟩
        · obtain ⟨T1, a1, H1, -, f1⟩ := H.push (P := P)
          have hF1 : xFd T1 (x + 1) A.1 := H1.2.1
          obtain ⟨T2, b1, b2, b3⟩ := d_add (P := P) hF1 c3 c1.1 c1.2 c2.1 (show j < 12 by omega)
          obtain ⟨H2, f2⟩ := H1.now b3 b2
          refine ⟨T2, xcI_of ((e_X10_run_0 P x (iI i) (iI j) S).trans ?_), H2, f1.tr f2⟩
          simp only [d_isSpeed i1 i2, if_pos c1, d_isStart j1 j2, if_pos c2, H.r0, H.r4, hF.o, full, H.ho, a1, H1.r0, hF1.o, b1, H2.r0, b2.o, d_size b2, iI_pre, xob_some, cond_true, t_10, t_00, ne_eq, not_true_eq_false, not_false_eq_true, if_true, if_false]
        · obtain ⟨ob, e0, h5, h28, hR, -⟩ := id M
          obtain ⟨T1, a1, M1, f1, f1'⟩ := M.keeps (P := P)
          obtain ⟨ob1, e1, -, -, hR1', -⟩ := id M1
          have hR1 : xRo T1 (m + 1) A.1 := hR1'
          obtain ⟨T2, T3, T4, w1, w2, w3, k1, k2, R4, g1, g2, g3⟩ := hR1.add c3 c1.1 c1.2 c2.1 (show j < 12 by omega)
          have E2 := e1.fr g1 (by omega)
          have E3 := E2.fr g2 (by omega)
          have E4 := E3.fr g3 (by omega)
          obtain ⟨M4, f4⟩ := M1.row ((g1.tr g2).tr g3) R4
          refine ⟨T4, xcI_of ((e_X11_run_0 P m (iI i) (iI j) S').trans ?_), M4, f1'.tr f4⟩
          have x1 : iI 1 + iI (A.1.1 : Int) = iI ((1 + A.1.1 : Nat) : Int) := by rw [iI_add]; congr 1
          have x7 : iI 7 + iI (A.1.1 : Int) = iI ((7 + A.1.1 : Nat) : Int) := by rw [iI_add]; congr 1
          simp only [g_isSpeed i1 i2, if_pos c1, g_isStart j1 j2, if_pos c2, e0.r1, g_K hR, t_e (a := (A.1.1 : Int)) (b := 6) (by omega) (by omega) (by omega) (by omega) (by omega), e0.o, a1, e1.r1, g_K hR1, x1, w1, E2.r1, k1, x7, w2, E3.r1, k2, iI_suc, w3, E4.r1, g_K R4, iI_pre, xob_some, cond_true, t_10, t_00, ne_eq, not_true_eq_false, not_false_eq_true, if_true, if_false]
      · rw [if_neg c3] at full
        refine ⟨iI (-1), A, ⟨S, xcI_of ((e_X10_run_0 P x (iI i) (iI j) S).trans ?_), H, xfr.rf⟩, fun S' M => ?_⟩
        · simp only [d_isSpeed i1 i2, if_pos c1, d_isStart j1 j2, if_pos c2, H.r0, hF.o, full, xob_some, cond_true, t_10, t_00, ne_eq, not_true_eq_false, not_false_eq_true, if_true, if_false]
        · obtain ⟨ob, e0, h5, h28, hR, -⟩ := id M
          refine ⟨S', xcI_of ((e_X11_run_0 P m (iI i) (iI j) S').trans ?_), M, xfr.rf⟩
          simp only [g_isSpeed i1 i2, if_pos c1, g_isStart j1 j2, if_pos c2, e0.r1, g_K hR, show ((A.1.1 : Nat) : Int) = 6 by omega, xob_some, cond_true, t_10, t_00, ne_eq, not_true_eq_false, not_false_eq_true, if_true, if_false]
    · refine ⟨iI (-1), A, ⟨S, xcI_of ((e_X10_run_0 P x (iI i) (iI j) S).trans ?_), H, xfr.rf⟩, fun S' M => ?_⟩
      · simp only [d_isSpeed i1 i2, if_pos c1, d_isStart j1 j2, if_neg c2, xob_some, cond_true, t_10, t_00, ne_eq, not_true_eq_false, not_false_eq_true, if_true, if_false]
      · refine ⟨S', xcI_of ((e_X11_run_0 P m (iI i) (iI j) S').trans ?_), M, xfr.rf⟩
        simp only [g_isSpeed i1 i2, if_pos c1, g_isStart j1 j2, if_neg c2, xob_some, cond_true, t_10, t_00, ne_eq, not_true_eq_false, not_false_eq_true, if_true, if_false]
  · refine ⟨iI (-1), A, ⟨S, xcI_of ((e_X10_run_0 P x (iI i) (iI j) S).trans ?_), H, xfr.rf⟩, fun S' M => ?_⟩
    · simp only [d_isSpeed i1 i2, if_neg c1, xob_some, cond_true, t_10, t_00, ne_eq, not_true_eq_false, not_false_eq_true, if_true, if_false]
    · refine ⟨S', xcI_of ((e_X11_run_0 P m (iI i) (iI j) S').trans ?_), M, xfr.rf⟩
      simp only [g_isSpeed i1 i2, if_neg c1, xob_some, cond_true, t_10, t_00, ne_eq, not_true_eq_false, not_false_eq_true, if_true, if_false]
theorem z_drop (H : xCl S x A) {i : Int} (i1 : -2147483648 ≤ i) (i2 : i < 2147483648) : ∃ z A', xKI P S x m_X10_drop [.int (iI i)] z A' ∧ ∀ S', xMl S' m A → xGI P S' m m_X11_drop [.int (iI i)] z A' := by
  have hF := H.2.1
  have hk := hF.1.1
  by_cases ci : 0 ≤ i ∧ i < A.1.1
  · obtain ⟨r, rfl⟩ : ∃ r : Nat, i = r := ⟨i.toNat, by omega⟩
    have hr : r < A.1.1 := by omega
    refine ⟨iI 1, xac A (xout A.1 r), ?_, fun S' M => ?_⟩
    · obtain ⟨T1, a1, H1, -, f1⟩ := H.push (P := P)
      have hF1 : xFd T1 (x + 1) A.1 := H1.2.1
      obtain ⟨T2, b1, b2, b3⟩ := d_remove (P := P) hF1 hr
      obtain ⟨H2, f2⟩ := H1.now b3 b2
      refine ⟨T2, xcI_of ((e_X10_drop_0 P x (iI r) S).trans ?_), H2, f1.tr f2⟩
      simp only [H.r0, H.r4, hF.o, d_has hF i1 i2, if_pos ci, H.ho, a1, H1.r0, hF1.o, b1, xob_some, cond_true, t_10, t_00, ne_eq, not_true_eq_false, not_false_eq_true, if_true, if_false]
    · obtain ⟨ob, e0, h5, h28, hR, -⟩ := id M
      obtain ⟨T1, a1, M1, f1, f1'⟩ := M.keeps (P := P)
      obtain ⟨ob1, e1, -, -, hR1', -⟩ := id M1
      have hR1 : xRo T1 (m + 1) A.1 := hR1'
      obtain ⟨T2, b1, b2, b3⟩ := g_takesOut (P := P) e1 hR1 hr
      obtain ⟨M2, f2⟩ := M1.row b3 b2
      refine ⟨T2, xcI_of ((e_X11_drop_0 P m (iI r) S').trans ?_), M2, f1'.tr f2⟩
      simp only [e0.o, g_isRunner e0 hR i1 i2, if_pos ci, a1, e1.o, b1, xob_some, cond_true, t_10, t_00, ne_eq, not_true_eq_false, not_false_eq_true, if_true, if_false]
  · refine ⟨iI 0, A, ⟨S, xcI_of ((e_X10_drop_0 P x (iI i) S).trans ?_), H, xfr.rf⟩, fun S' M => ?_⟩
    · simp only [H.r0, hF.o, d_has hF i1 i2, if_neg ci, xob_some, cond_true, t_10, t_00, ne_eq, not_true_eq_false, not_false_eq_true, if_true, if_false]
    · obtain ⟨ob, e0, h5, h28, hR, -⟩ := id M
      refine ⟨S', xcI_of ((e_X11_drop_0 P m (iI i) S').trans ?_), M, xfr.rf⟩
      simp only [e0.o, g_isRunner e0 hR i1 i2, if_neg ci, xob_some, cond_true, t_10, t_00, ne_eq, not_true_eq_false, not_false_eq_true, if_true, if_false]
/-- one number of the row becomes another one -/
theorem xMl.becomes (M : xMl S m A) {b : Bool} {j : Nat} (hj : j < A.1.1) {v : Int} (v0 : 0 ≤ v) (v1 : v ≤ xmxv b) : ∃ T, xcI P m_X11_becomes [.ref m, .int (iI (xix b j : Nat)), .int (iI v)] S = some (iI (if xcur A.1 b j = v then -1 else xcur A.1 b j), T) ∧ xMl T m (if xcur A.1 b j = v then A else xac A (xse A.1 b j v)) ∧ xfr S T (xrg m 19) := by
  obtain ⟨ob, e0, h5, h28, hR, -⟩ := id M
  have cu := xcur_bd hR.1 (b := b) hj
  have mx : xmxv b ≤ 40 := by unfold xmxv; cases b <;> decide
  by_cases c : xcur A.1 b j = v
  · refine ⟨S, xcI_of ((e_X11_becomes_0 P m (iI (xix b j : Nat)) (iI v) S).trans ?_), by rw [if_pos c]; exact M, xfr.rf⟩
    simp only [e0.r1, g_se hR hj, c, xob_some, cond_true, t_10, t_00, ne_eq, not_true_eq_false, not_false_eq_true, if_true, if_false]
  · obtain ⟨T1, a1, M1, f1, f1'⟩ := M.keeps (P := P)
    obtain ⟨ob1, e1, -, -, hR1', -⟩ := id M1
    have hR1 : xRo T1 (m + 1) A.1 := hR1'
    obtain ⟨T2, w1, R2, f2⟩ := hR1.se (b := b) hj v0 v1
    obtain ⟨M2, f2'⟩ := M1.row f2 R2
    refine ⟨T2, xcI_of ((e_X11_becomes_0 P m (iI (xix b j : Nat)) (iI v) S).trans ?_), by rw [if_neg c]; exact M2, f1'.tr f2'⟩
    simp only [e0.r1, g_se hR hj, t_e (a := xcur A.1 b j) (b := v) (by omega) (by omega) (by omega) (by omega) c, e0.o, a1, e1.r1, g_se hR1 hj, w1, if_neg c, xob_some, cond_true, t_10, t_00, ne_eq, not_true_eq_false, not_false_eq_true, if_true, if_false]
theorem z_speed (H : xCl S x A) {i j : Int} (i1 : -2147483648 ≤ i) (i2 : i < 2147483648) (j1 : -2147483648 ≤ j) (j2 : j < 2147483648) : ∃ z A', xKI P S x m_X10_speed [.int (iI i), .int (iI j)] z A' ∧ ∀ S', xMl S' m A → xGI P S' m m_X11_speed [.int (iI i), .int (iI j)] z A' := by
  have hF := H.2.1
  have hk := hF.1.1
  by_cases ci : 0 ≤ i ∧ i < A.1.1
  · obtain ⟨r, rfl⟩ : ∃ r : Nat, i = r := ⟨i.toNat, by omega⟩
    have hr : r < A.1.1 := by omega
    have bb := hF.1.2 r hr
    by_cases c1 : 0 ≤ j ∧ j ≤ 40
    · refine ⟨iI (if xcur A.1 false r = j then -1 else xcur A.1 false r), if xcur A.1 false r = j then A else xac A (xse A.1 false r j), ?_, fun S' M => ?_⟩
      · by_cases c : xcur A.1 false r = j
        · rw [if_pos c, if_pos c]
          refine ⟨S, xcI_of ((e_X10_speed_0 P x (iI r) (iI j) S).trans ?_), H, xfr.rf⟩
          have c' : A.1.2.1 r = j := c
          simp only [H.r0, hF.o, d_has hF i1 i2, if_pos ci, d_isSpeed j1 j2, if_pos c1, d_speedAt hF hr, c', xob_some, cond_true, t_10, t_00, ne_eq, not_true_eq_false, not_false_eq_true, if_true, if_false]
        · rw [if_neg c, if_neg c]
          obtain ⟨T1, a1, H1, -, f1⟩ := H.push (P := P)
          have hF1 : xFd T1 (x + 1) A.1 := H1.2.1
          obtain ⟨T2, b1, b2, b3⟩ := d_setSpeed (P := P) hF1 hr c1.1 c1.2
          obtain ⟨H2, f2⟩ := H1.now b3 b2
          refine ⟨T2, xcI_of ((e_X10_speed_0 P x (iI r) (iI j) S).trans ?_), H2, f1.tr f2⟩
          have c' : A.1.2.1 r ≠ j := c
          simp only [H.r0, H.r4, hF.o, d_has hF i1 i2, if_pos ci, d_isSpeed j1 j2, if_pos c1, d_speedAt hF hr, t_e (a := A.1.2.1 r) (b := j) (by omega) (by omega) (by omega) (by omega) c', H.ho, a1, H1.r0, hF1.o, b1, xob_some, cond_true, t_10, t_00, ne_eq, not_true_eq_false, not_false_eq_true, if_true, if_false]
          rfl
      · obtain ⟨ob, e0, h5, h28, hR, -⟩ := id M
        obtain ⟨T1, a1, M1, f1⟩ := M.becomes (P := P) (b := false) hr c1.1 (show j ≤ 40 from c1.2)
        refine ⟨T1, xcI_of ((e_X11_speed_0 P m (iI r) (iI j) S').trans ?_), M1, f1⟩
        have ei : iI 1 + iI (r : Int) = iI (xix false r : Nat) := by rw [iI_add]; rfl
        simp only [e0.o, g_isRunner e0 hR i1 i2, if_pos ci, g_isSpeed j1 j2, if_pos c1, ei, a1, xob_some, cond_true, t_10, t_00, ne_eq, not_true_eq_false, not_false_eq_true, if_true, if_false]
    · refine ⟨iI (-1), A, ⟨S, xcI_of ((e_X10_speed_0 P x (iI r) (iI j) S).trans ?_), H, xfr.rf⟩, fun S' M => ?_⟩
      · simp only [H.r0, hF.o, d_has hF i1 i2, if_pos ci, d_isSpeed j1 j2, if_neg c1, xob_some, cond_true, t_10, t_00, ne_eq, not_true_eq_false, not_false_eq_true, if_true, if_false]
      · obtain ⟨ob, e0, h5, h28, hR, -⟩ := id M
        refine ⟨S', xcI_of ((e_X11_speed_0 P m (iI r) (iI j) S').trans ?_), M, xfr.rf⟩
        simp only [e0.o, g_isRunner e0 hR i1 i2, if_pos ci, g_isSpeed j1 j2, if_neg c1, xob_some, cond_true, t_10, t_00, ne_eq, not_true_eq_false, not_false_eq_true, if_true, if_false]
  · refine ⟨iI (-1), A, ⟨S, xcI_of ((e_X10_speed_0 P x (iI i) (iI j) S).trans ?_), H, xfr.rf⟩, fun S' M => ?_⟩
    · simp only [H.r0, hF.o, d_has hF i1 i2, if_neg ci, xob_some, cond_true, t_10, t_00, ne_eq, not_true_eq_false, not_false_eq_true, if_true, if_false]
    · obtain ⟨ob, e0, h5, h28, hR, -⟩ := id M
      refine ⟨S', xcI_of ((e_X11_speed_0 P m (iI i) (iI j) S').trans ?_), M, xfr.rf⟩
      simp only [e0.o, g_isRunner e0 hR i1 i2, if_neg ci, xob_some, cond_true, t_10, t_00, ne_eq, not_true_eq_false, not_false_eq_true, if_true, if_false]
theorem z_start (H : xCl S x A) {i j : Int} (i1 : -2147483648 ≤ i) (i2 : i < 2147483648) (j1 : -2147483648 ≤ j) (j2 : j < 2147483648) : ∃ z A', xKI P S x m_X10_start [.int (iI i), .int (iI j)] z A' ∧ ∀ S', xMl S' m A → xGI P S' m m_X11_start [.int (iI i), .int (iI j)] z A' := by
  have hF := H.2.1
  have hk := hF.1.1
  by_cases ci : 0 ≤ i ∧ i < A.1.1
  · obtain ⟨r, rfl⟩ : ∃ r : Nat, i = r := ⟨i.toNat, by omega⟩
    have hr : r < A.1.1 := by omega
    have bb := hF.1.2 r hr
    by_cases c1 : 0 ≤ j ∧ j ≤ 11
    · refine ⟨iI (if xcur A.1 true r = j then -1 else xcur A.1 true r), if xcur A.1 true r = j then A else xac A (xse A.1 true r j), ?_, fun S' M => ?_⟩
      · by_cases c : xcur A.1 true r = j
        · rw [if_pos c, if_pos c]
          refine ⟨S, xcI_of ((e_X10_start_0 P x (iI r) (iI j) S).trans ?_), H, xfr.rf⟩
          have c' : A.1.2.2 r = j := c
          simp only [H.r0, hF.o, d_has hF i1 i2, if_pos ci, d_isStart j1 j2, if_pos c1, d_startAt hF hr, c', xob_some, cond_true, t_10, t_00, ne_eq, not_true_eq_false, not_false_eq_true, if_true, if_false]
        · rw [if_neg c, if_neg c]
          obtain ⟨T1, a1, H1, -, f1⟩ := H.push (P := P)
          have hF1 : xFd T1 (x + 1) A.1 := H1.2.1
          obtain ⟨T2, b1, b2, b3⟩ := d_setStart (P := P) hF1 hr c1.1 (show j < 12 by omega)
          obtain ⟨H2, f2⟩ := H1.now b3 b2
          refine ⟨T2, xcI_of ((e_X10_start_0 P x (iI r) (iI j) S).trans ?_), H2, f1.tr f2⟩
          have c' : A.1.2.2 r ≠ j := c
          simp only [H.r0, H.r4, hF.o, d_has hF i1 i2, if_pos ci, d_isStart j1 j2, if_pos c1, d_startAt hF hr, t_e (a := A.1.2.2 r) (b := j) (by omega) (by omega) (by omega) (by omega) c', H.ho, a1, H1.r0, hF1.o, b1, xob_some, cond_true, t_10, t_00, ne_eq, not_true_eq_false, not_false_eq_true, if_true, if_false]
          rfl
      · obtain ⟨ob, e0, h5, h28, hR, -⟩ := id M
        obtain ⟨T1, a1, M1, f1⟩ := M.becomes (P := P) (b := true) hr c1.1 (show j ≤ 11 from c1.2)
        refine ⟨T1, xcI_of ((e_X11_start_0 P m (iI r) (iI j) S').trans ?_), M1, f1⟩
        have ei : iI 7 + iI (r : Int) = iI (xix true r : Nat) := by rw [iI_add]; rfl
        simp only [e0.o, g_isRunner e0 hR i1 i2, if_pos ci, g_isStart j1 j2, if_pos c1, ei, a1, xob_some, cond_true, t_10, t_00, ne_eq, not_true_eq_false, not_false_eq_true, if_true, if_false]
    · refine ⟨iI (-1), A, ⟨S, xcI_of ((e_X10_start_0 P x (iI r) (iI j) S).trans ?_), H, xfr.rf⟩, fun S' M => ?_⟩
      · simp only [H.r0, hF.o, d_has hF i1 i2, if_pos ci, d_isStart j1 j2, if_neg c1, xob_some, cond_true, t_10, t_00, ne_eq, not_true_eq_false, not_false_eq_true, if_true, if_false]
      · obtain ⟨ob, e0, h5, h28, hR, -⟩ := id M
        refine ⟨S', xcI_of ((e_X11_start_0 P m (iI r) (iI j) S').trans ?_), M, xfr.rf⟩
        simp only [e0.o, g_isRunner e0 hR i1 i2, if_pos ci, g_isStart j1 j2, if_neg c1, xob_some, cond_true, t_10, t_00, ne_eq, not_true_eq_false, not_false_eq_true, if_true, if_false]
  · refine ⟨iI (-1), A, ⟨S, xcI_of ((e_X10_start_0 P x (iI i) (iI j) S).trans ?_), H, xfr.rf⟩, fun S' M => ?_⟩
    · simp only [H.r0, hF.o, d_has hF i1 i2, if_neg ci, xob_some, cond_true, t_10, t_00, ne_eq, not_true_eq_false, not_false_eq_true, if_true, if_false]
    · obtain ⟨ob, e0, h5, h28, hR, -⟩ := id M
      refine ⟨S', xcI_of ((e_X11_start_0 P m (iI i) (iI j) S').trans ?_), M, xfr.rf⟩
      simp only [e0.o, g_isRunner e0 hR i1 i2, if_neg ci, xob_some, cond_true, t_10, t_00, ne_eq, not_true_eq_false, not_false_eq_true, if_true, if_false]
theorem z_swap (H : xCl S x A) {i j : Int} (i1 : -2147483648 ≤ i) (i2 : i < 2147483648) (j1 : -2147483648 ≤ j) (j2 : j < 2147483648) : ∃ z A', xKI P S x m_X10_swap [.int (iI i), .int (iI j)] z A' ∧ ∀ S', xMl S' m A → xGI P S' m m_X11_swap [.int (iI i), .int (iI j)] z A' := by
  have hF := H.2.1
  have hk := hF.1.1
  by_cases cb : 0 ≤ i ∧ i < A.1.1 ∧ 0 ≤ j ∧ j < A.1.1 ∧ i ≠ j
  · obtain ⟨r, rfl⟩ : ∃ r : Nat, i = r := ⟨i.toNat, by omega⟩
    obtain ⟨o, rfl⟩ : ∃ o : Nat, j = o := ⟨j.toNat, by omega⟩
    have hr : r < A.1.1 := by omega
    have ho : o < A.1.1 := by omega
    have br := hF.1.2 r hr
    have bo := hF.1.2 o ho
    refine ⟨iI 1, xac A (A.1.1, xex r o A.1.2.1, xex r o A.1.2.2), ?_, fun S' M => ?_⟩
    · obtain ⟨T1, a1, H1, -, f1⟩ := H.push (P := P)
      have hF1 : xFd T1 (x + 1) A.1 := H1.2.1
      obtain ⟨T2, b1, b2, b3⟩ := d_exchange (P := P) hF1 hr ho (by omega)
      obtain ⟨H2, f2⟩ := H1.now b3 b2
      refine ⟨T2, xcI_of ((e_X10_swap_0 P x (iI r) (iI o) S).trans ?_), H2, f1.tr f2⟩
      simp only [H.r0, H.r4, hF.o, d_hasBoth hF i1 i2 j1 j2, if_pos cb, H.ho, a1, H1.r0, hF1.o, b1, xob_some, cond_true, t_10, t_00, ne_eq, not_true_eq_false, not_false_eq_true, if_true, if_false]
    · obtain ⟨ob, e0, h5, h28, hR, -⟩ := id M
      obtain ⟨T1, a1, M1, f1, f1'⟩ := M.keeps (P := P)
      obtain ⟨ob1, e1, -, -, hR1', -⟩ := id M1
      have hR1 : xRo T1 (m + 1) A.1 := hR1'
      obtain ⟨T2, w2, R2, g2⟩ := hR1.se (b := false) hr (v := A.1.2.1 o) (by omega) (show A.1.2.1 o ≤ 40 by omega)
      have E2 := e1.fr g2 (by omega)
      obtain ⟨T3, w3, R3, g3⟩ := R2.se (b := true) (j := r) hr (v := A.1.2.2 o) (by omega) (show A.1.2.2 o ≤ 11 by omega)
      have E3 := E2.fr g3 (by omega)
      obtain ⟨T4, w4, R4, g4⟩ := R3.se (b := false) (j := o) ho (v := A.1.2.1 r) (by omega) (show A.1.2.1 r ≤ 40 by omega)
      have E4 := E3.fr g4 (by omega)
      obtain ⟨T5, w5, R5, g5⟩ := R4.se (b := true) (j := o) ho (v := A.1.2.2 r) (by omega) (show A.1.2.2 r ≤ 11 by omega)
      obtain ⟨M5, f5⟩ := M1.row (((g2.tr g3).tr g4).tr g5) R5
      refine ⟨T5, xcI_of ((e_X11_swap_0 P m (iI r) (iI o) S').trans ?_), M5, f1'.tr f5⟩
      have x1 : ∀ r : Nat, iI 1 + iI (r : Int) = iI (xix false r : Nat) := fun r => by rw [iI_add]; rfl
      have x7 : ∀ r : Nat, iI 7 + iI (r : Int) = iI (xix true r : Nat) := fun r => by rw [iI_add]; rfl
      have q2 := g_speedOf (P := P) E2 R2 (i := o) ho
      have s1 := g_startOf (P := P) E2 R2 (i := o) ho
      have s2 : (xse A.1 false r (A.1.2.1 o)).2.2 o = A.1.2.2 o := rfl
      rw [s2] at s1
      simp only [e0.o, g_isRunner e0 hR i1 i2, if_pos (show 0 ≤ (r : Int) ∧ (r : Int) < A.1.1 by omega), g_isRunner e0 hR j1 j2, if_pos (show 0 ≤ (o : Int) ∧ (o : Int) < A.1.1 by omega), t_e (a := (r : Int)) (b := (o : Int)) (by omega) (by omega) (by omega) (by omega) (by omega), a1, e1.o, g_speedOf e1 hR1 hr, g_startOf e1 hR1 hr, g_speedOf e1 hR1 ho, x1, x7, e1.r1, w2, E2.r1, E2.o, s1, w3, E3.r1, w4, E4.r1, w5, xob_some, cond_true, t_10, t_00, ne_eq, not_true_eq_false, not_false_eq_true, if_true, if_false]
  · refine ⟨iI 0, A, ⟨S, xcI_of ((e_X10_swap_0 P x (iI i) (iI j) S).trans ?_), H, xfr.rf⟩, fun S' M => ?_⟩
    · simp only [H.r0, hF.o, d_hasBoth hF i1 i2 j1 j2, if_neg cb, xob_some, cond_true, t_10, t_00, ne_eq, not_true_eq_false, not_false_eq_true, if_true, if_false]
    · obtain ⟨ob, e0, h5, h28, hR, -⟩ := id M
      refine ⟨S', xcI_of ((e_X11_swap_0 P m (iI i) (iI j) S').trans ?_), M, xfr.rf⟩
      by_cases c1 : 0 ≤ i ∧ i < A.1.1
      · by_cases c2 : 0 ≤ j ∧ j < A.1.1
        · have c3 : i = j := by omega
          simp only [e0.o, g_isRunner e0 hR i1 i2, if_pos c1, g_isRunner e0 hR j1 j2, if_pos c2, c3, xob_some, cond_true, t_10, t_00, ne_eq, not_true_eq_false, not_false_eq_true, if_true, if_false]
        · simp only [e0.o, g_isRunner e0 hR i1 i2, if_pos c1, g_isRunner e0 hR j1 j2, if_neg c2, xob_some, cond_true, t_10, t_00, ne_eq, not_true_eq_false, not_false_eq_true, if_true, if_false]
      · simp only [e0.o, g_isRunner e0 hR i1 i2, if_neg c1, xob_some, cond_true, t_10, t_00, ne_eq, not_true_eq_false, not_false_eq_true, if_true, if_false]
end A1
