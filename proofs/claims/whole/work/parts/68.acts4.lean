-- deps: 67.pace
/-! onward, turn, gate, mirror -/
/-- what a row of changes answers, brings -/
def xca (A : xAb) (G : xF) : Int := if xun A.1 G A.1.1 = 0 then -1 else (xun A.1 G A.1.1 : Nat)
def xcA (A : xAb) (G : xF) : xAb := if xun A.1 G A.1.1 = 0 then A else xac A G
section A4
variable {P : Nat → Nat} {S T : xS} {x m : Nat} {A : xAb} {ob ob0 : Nat → Value} {F : xF}
theorem x_start_rem {F : xF} (h : xFok F) {r : Nat} (hr : r < F.1) {n : Int} (n0 : 0 ≤ n) (n1 : n ≤ 9999) : iI (F.2.2 r + F.2.1 r * n) - iI (F.2.2 r + F.2.1 r * n) / iI 12 * iI 12 = iI ((F.2.2 r + F.2.1 r * n) % 12) := by
  have b := h.2 r hr
  have m1 := x_mul_bd b.1 b.2.1 n0 n1
  exact iI_rem (by omega) (by omega) (by omega) (by omega)
theorem k_onward (H : xCl S x A) {n : Int} (n1 : -2147483648 ≤ n) (n2 : n < 2147483648) (hn : 1 ≤ n ∧ n ≤ 9999) : xKI P S x m_X10_onward [.int (iI n)] (iI (xca A (xlay A.1 A.1.2.1 (fun t => (A.1.2.2 t + A.1.2.1 t * n) % 12) A.1.1))) (xcA A (xlay A.1 A.1.2.1 (fun t => (A.1.2.2 t + A.1.2.1 t * n) % 12) A.1.1)) := by
  have hF := H.2.1
  have hk := hF.1.1
  obtain ⟨T1, a1, a2, H1, -, f1⟩ := H.try (P := P)
  have key := xloopQ (run := fun v (Z : xS) => xrun P m_X10_onward 27 [(0, .ref x), (1, .int (iI n)), (2, .int (iI v))] [] Z)
    (Inv := fun v Z => xCl Z x A ∧ xfr S Z (xrg x 89) ∧ xFd Z (x + 4) (xlay A.1 A.1.2.1 (fun t => (A.1.2.2 t + A.1.2.1 t * n) % 12) v))
    (fun res => ∃ T, res = some (some (.int (iI (xca A (xlay A.1 A.1.2.1 (fun t => (A.1.2.2 t + A.1.2.1 t * n) % 12) A.1.1)))), T) ∧ xCl T x (xcA A (xlay A.1 A.1.2.1 (fun t => (A.1.2.2 t + A.1.2.1 t * n) % 12) A.1.1)) ∧ xfr S T (xrg x 89)) 0 A.1.1 (by omega) (by
      rintro v Z - hv ⟨HZ, fZ, hT⟩
      right
      have hZ : xFd Z (x + 1) A.1 := HZ.2.1
      obtain ⟨T2, b1, b2, H2, -, f2⟩ := HZ.tsta (P := P) hT (j := v) hv (v := (A.1.2.2 v + A.1.2.1 v * n) % 12) (Int.emod_nonneg _ (by decide)) (Int.emod_lt_of_pos _ (by decide))
      have e := xlay_s A.1 (fun t => (A.1.2.2 t + A.1.2.1 t * n) % 12) v
      rw [e] at b2
      refine ⟨T2, ?_, H2, fZ.tr f2, b2⟩
      rw [e_X10_onward_27, HZ.r0, xob_some, hZ.o, cond_true, d_size hZ, xob_some, if_neg (by rw [iI_le (by omega) (by omega) (by omega) (by omega)]; omega)]
      simp only [HZ.r0, HZ.r1, hZ.o, d_startAt hZ hv, d_speedAt hZ hv, iI_mul (A.1.2.1 v) n, iI_add (A.1.2.2 v) (A.1.2.1 v * n), x_start_rem hF.1 hv (show 0 ≤ n by omega) hn.2, hT.o, b1, iI_suc, xob_some, cond_true, t_10, t_00, ne_eq, not_true_eq_false, not_false_eq_true, if_true, if_false]) (by
      rintro Z ⟨HZ, fZ, hT⟩
      have hZ : xFd Z (x + 1) A.1 := HZ.2.1
      obtain ⟨T2, b1, H2, f2⟩ := HZ.settleC (P := P) hT rfl
      refine ⟨T2, ?_, H2, fZ.tr f2⟩
      rw [e_X10_onward_27, HZ.r0, xob_some, hZ.o, cond_true, d_size hZ, xob_some, if_pos (by rw [iI_le (by omega) (by omega) (by omega) (by omega)]; omega), HZ.o, cond_true, b1, xob_some]
      rfl) (s := T1) ⟨H1, f1, by rw [xlay_0]; exact a2⟩
  obtain ⟨T, t1, t2, t3⟩ := key
  refine ⟨T, xcI_of ((e_X10_onward_0 P x (iI n) S).trans ?_), t2, t3⟩
  rw [if_neg (by rw [iI_lt (by omega) (by omega) (by omega) (by omega)]; omega), if_pos (by rw [iI_le (by omega) (by omega) (by omega) (by omega)]; omega)]
  simp only [H.r0, H.r1, H.to, a1, xob_some, cond_true, t_10, t_00, ne_eq, not_true_eq_false, not_false_eq_true, if_true, if_false]
  exact t1
theorem h_onward (M : xMl S m A) {n : Int} (n1 : -2147483648 ≤ n) (n2 : n < 2147483648) (hn : 1 ≤ n ∧ n ≤ 9999) : xGI P S m m_X11_onward [.int (iI n)] (iI (xca A (xlay A.1 A.1.2.1 (fun t => (A.1.2.2 t + A.1.2.1 t * n) % 12) A.1.1))) (xcA A (xlay A.1 A.1.2.1 (fun t => (A.1.2.2 t + A.1.2.1 t * n) % 12) A.1.1)) := by
  obtain ⟨ob, e0, h5, h28, hR, -⟩ := id M
  have hk := hR.1.1
  obtain ⟨T1, a1, RL, f1⟩ := g_copyRow (P := P) (show m + 1 ≠ m + 3 by omega) hR M.i3
  have key := xloopQ (run := fun v (Z : xS) => xrun P m_X11_onward 27 [(0, .ref m), (1, .int (iI n)), (2, .int (iI v))] [] Z)
    (Inv := fun v Z => xfr S Z (fun c => c = m + 3) ∧ xRo Z (m + 3) (xlay A.1 A.1.2.1 (fun t => (A.1.2.2 t + A.1.2.1 t * n) % 12) v))
    (fun res => ∃ T, res = some (some (.int (iI (xca A (xlay A.1 A.1.2.1 (fun t => (A.1.2.2 t + A.1.2.1 t * n) % 12) A.1.1)))), T) ∧ xMl T m (xcA A (xlay A.1 A.1.2.1 (fun t => (A.1.2.2 t + A.1.2.1 t * n) % 12) A.1.1)) ∧ xfr S T (xrg m 19)) 0 A.1.1 (by omega) (by
      rintro v Z - hv ⟨fZ, RZ⟩
      right
      have MZ := e0.fr fZ (by omega)
      have hZ := hR.fr fZ (by omega)
      obtain ⟨Z1, w1, R1, w3⟩ := RZ.se (b := true) (j := v) hv (v := (A.1.2.2 v + A.1.2.1 v * n) % 12) (Int.emod_nonneg _ (by decide)) (Int.le_of_lt_add_one (Int.emod_lt_of_pos _ (by decide)))
      have e := xlay_s A.1 (fun t => (A.1.2.2 t + A.1.2.1 t * n) % 12) v
      rw [e] at R1
      refine ⟨Z1, ?_, fZ.tr w3, R1⟩
      have ei : iI 7 + iI (v : Int) = iI (xix true v : Nat) := by rw [iI_add]; rfl
      rw [e_X11_onward_27, MZ.r1, xob_some, g_K hZ, xob_some, if_neg (by rw [iI_le (by omega) (by omega) (by omega) (by omega)]; omega)]
      simp only [MZ.r3, MZ.o, g_startOf MZ hZ hv, g_speedOf MZ hZ hv, ei, iI_mul (A.1.2.1 v) n, iI_add (A.1.2.2 v) (A.1.2.1 v * n), x_start_rem hR.1 hv (show 0 ≤ n by omega) hn.2, w1, iI_suc, xob_some, cond_true, t_10, t_00, ne_eq, not_true_eq_false, not_false_eq_true, if_true, if_false]) (by
      rintro Z ⟨fZ, RZ⟩
      have MZ := e0.fr fZ (by omega)
      have hZ := hR.fr fZ (by omega)
      obtain ⟨M1, f1'⟩ := M.laid fZ RZ.ir
      obtain ⟨T2, b1, M2, f2⟩ := M1.changed (P := P) RZ rfl
      refine ⟨T2, ?_, M2, f1'.tr f2⟩
      rw [e_X11_onward_27, MZ.r1, xob_some, g_K hZ, xob_some, if_pos (by rw [iI_le (by omega) (by omega) (by omega) (by omega)]; omega), MZ.o, cond_true, b1, xob_some]
      rfl) (s := T1) ⟨f1, by rw [xlay_0]; exact RL⟩
  obtain ⟨T, t1, t2, t3⟩ := key
  refine ⟨T, xcI_of ((e_X11_onward_0 P m (iI n) S).trans ?_), t2, t3⟩
  simp only [g_inM n1 n2 (show -2147483648 ≤ 1 by decide) (show 1 < 2147483648 by decide) (show -2147483648 ≤ 9999 by decide) (show 9999 < 2147483648 by decide), if_pos hn, e0.r1, e0.r3, a1, xob_some, cond_true, t_10, t_00, ne_eq, not_true_eq_false, not_false_eq_true, if_true, if_false]
  exact t1
theorem z_onward (H : xCl S x A) {i : Int} (i1 : -2147483648 ≤ i) (i2 : i < 2147483648) : ∃ z A', xKI P S x m_X10_onward [.int (iI i)] z A' ∧ ∀ S', xMl S' m A → xGI P S' m m_X11_onward [.int (iI i)] z A' := by
  by_cases c : 1 ≤ i ∧ i ≤ 9999
  · exact ⟨_, _, k_onward H i1 i2 c, fun S' M => h_onward M i1 i2 c⟩
  · refine ⟨iI (-1), A, ⟨S, xcI_of ((e_X10_onward_0 P x (iI i) S).trans ?_), H, xfr.rf⟩, fun S' M => ?_⟩
    · by_cases d : i < 1
      · rw [if_pos (by rw [iI_lt (by omega) (by omega) (by omega) (by omega)]; omega)]
      · rw [if_neg (by rw [iI_lt (by omega) (by omega) (by omega) (by omega)]; omega), if_neg (by rw [iI_le (by omega) (by omega) (by omega) (by omega)]; omega)]
    · refine ⟨S', xcI_of ((e_X11_onward_0 P m (iI i) S').trans ?_), M, xfr.rf⟩
      simp only [g_inM i1 i2 (show -2147483648 ≤ 1 by decide) (show 1 < 2147483648 by decide) (show -2147483648 ≤ 9999 by decide) (show 9999 < 2147483648 by decide), if_neg c, xob_some, cond_true, t_10, t_00, ne_eq, not_true_eq_false, not_false_eq_true, if_true, if_false]
theorem z_turn (H : xCl S x A) {i : Int} (i1 : -2147483648 ≤ i) (i2 : i < 2147483648) : ∃ z A', xKI P S x m_X10_turn [.int (iI i)] z A' ∧ ∀ S', xMl S' m A → xGI P S' m m_X11_turn [.int (iI i)] z A' := by
  have hF := H.2.1
  have hk := hF.1.1
  have in11 : ∀ S' : xS, xcI P m_X11_in [.long (iI i).toInt64, .long (jI 1), .long (jI 11)] S' = some (iI (if 1 ≤ i ∧ i ≤ 11 then 1 else 0), S') := fun S' => g_inM i1 i2 (by decide) (by decide) (by decide) (by decide)
  by_cases c : 1 ≤ i ∧ i ≤ 11
  · have cs : 0 ≤ i ∧ i ≤ 11 := by omega
    by_cases c2 : A.1.1 = 0
    · refine ⟨iI (-1), A, ⟨S, xcI_of ((e_X10_turn_0 P x (iI i) S).trans ?_), H, xfr.rf⟩, fun S' M => ?_⟩
      · rw [if_neg (by rw [iI_lt (by omega) (by omega) (by omega) (by omega)]; omega)]
        have sz := d_size (P := P) hF
        rw [c2] at sz
        have sz' : xcI P m_X0_size [.ref (x + 1)] S = some (iI 0, S) := sz
        simp only [d_isStart i1 i2, if_pos cs, H.r0, hF.o, sz', xob_some, cond_true, t_10, t_00, ne_eq, not_true_eq_false, not_false_eq_true, if_true, if_false]
      · obtain ⟨ob, e0, h5, h28, hR, -⟩ := id M
        refine ⟨S', xcI_of ((e_X11_turn_0 P m (iI i) S').trans ?_), M, xfr.rf⟩
        have sz := g_K hR
        rw [c2] at sz
        have sz' : xrdI S' (m + 1) (iI 0) = some (iI 0) := sz
        simp only [in11, if_pos c, e0.r1, sz', xob_some, cond_true, t_10, t_00, ne_eq, not_true_eq_false, not_false_eq_true, if_true, if_false]
    · have nz : (iI ((A.1.1 : Nat) : Int) = 0) = False := t_nz (by omega) (by omega) (by omega)
      have rem : ∀ v, v < A.1.1 → iI (A.1.2.2 v + i) - iI (A.1.2.2 v + i) / iI 12 * iI 12 = iI ((A.1.2.2 v + i) % 12) := fun v hv => by
        have b := hF.1.2 v hv
        exact iI_rem (by omega) (by omega) (by omega) (by omega)
      refine ⟨iI (A.1.1 : Int), xac A (xlay A.1 A.1.2.1 (fun t => (A.1.2.2 t + i) % 12) A.1.1), ?_, fun S' M => ?_⟩
      · obtain ⟨T1, a1, a2, H1, -, f1⟩ := H.try (P := P)
        have key := xloopQ (run := fun v (Z : xS) => xrun P m_X10_turn 37 [(0, .ref x), (1, .int (iI i)), (2, .int (iI v))] [] Z)
          (Inv := fun v Z => xCl Z x A ∧ xfr S Z (xrg x 89) ∧ xFd Z (x + 4) (xlay A.1 A.1.2.1 (fun t => (A.1.2.2 t + i) % 12) v))
          (fun res => ∃ T, res = some (some (.int (iI (A.1.1 : Int))), T) ∧ xCl T x (xac A (xlay A.1 A.1.2.1 (fun t => (A.1.2.2 t + i) % 12) A.1.1)) ∧ xfr S T (xrg x 89)) 0 A.1.1 (by omega) (by
            rintro v Z - hv ⟨HZ, fZ, hT⟩
            right
            have hZ : xFd Z (x + 1) A.1 := HZ.2.1
            obtain ⟨T2, b1, b2, H2, -, f2⟩ := HZ.tsta (P := P) hT (j := v) hv (v := (A.1.2.2 v + i) % 12) (Int.emod_nonneg _ (by decide)) (Int.emod_lt_of_pos _ (by decide))
            have e := xlay_s A.1 (fun t => (A.1.2.2 t + i) % 12) v
            rw [e] at b2
            refine ⟨T2, ?_, H2, fZ.tr f2, b2⟩
            rw [e_X10_turn_37, HZ.r0, xob_some, hZ.o, cond_true, d_size hZ, xob_some, if_neg (by rw [iI_le (by omega) (by omega) (by omega) (by omega)]; omega)]
            simp only [HZ.r0, HZ.r1, hZ.o, d_startAt hZ hv, iI_add (A.1.2.2 v) i, rem v hv, hT.o, b1, iI_suc, xob_some, cond_true, t_10, t_00, ne_eq, not_true_eq_false, not_false_eq_true, if_true, if_false]) (by
            rintro Z ⟨HZ, fZ, hT⟩
            have hZ : xFd Z (x + 1) A.1 := HZ.2.1
            obtain ⟨T2, b1, H2, f2⟩ := HZ.settle (P := P) hT
            have hF2 : xFd T2 (x + 1) (xlay A.1 A.1.2.1 (fun t => (A.1.2.2 t + i) % 12) A.1.1) := H2.2.1
            refine ⟨T2, ?_, H2, fZ.tr f2⟩
            rw [e_X10_turn_37, HZ.r0, xob_some, hZ.o, cond_true, d_size hZ, xob_some, if_pos (by rw [iI_le (by omega) (by omega) (by omega) (by omega)]; omega)]
            simp only [HZ.o, b1, H2.r0, hF2.o, d_size hF2, xob_some, cond_true]
            rfl) (s := T1) ⟨H1, f1, by rw [xlay_0]; exact a2⟩
        obtain ⟨T, t1, t2, t3⟩ := key
        refine ⟨T, xcI_of ((e_X10_turn_0 P x (iI i) S).trans ?_), t2, t3⟩
        rw [if_neg (by rw [iI_lt (by omega) (by omega) (by omega) (by omega)]; omega)]
        simp only [d_isStart i1 i2, if_pos cs, H.r0, H.r1, hF.o, d_size hF, nz, H.to, a1, xob_some, cond_true, t_10, t_00, ne_eq, not_true_eq_false, not_false_eq_true, if_true, if_false]
        exact t1
      · obtain ⟨ob, e0, h5, h28, hR, -⟩ := id M
        obtain ⟨T1, a1, M1, f1, f1'⟩ := M.keeps (P := P)
        obtain ⟨ob1, e1, -, -, hR1', -⟩ := id M1
        have hR1 : xRo T1 (m + 1) A.1 := hR1'
        have key := xloopQ (run := fun v (Z : xS) => xrun P m_X11_turn 29 [(0, .ref m), (1, .int (iI i)), (2, .int (iI v))] [] Z)
          (Inv := fun v Z => xfr T1 Z (fun c => c = m + 1) ∧ xRo Z (m + 1) (xlay A.1 A.1.2.1 (fun t => (A.1.2.2 t + i) % 12) v))
          (fun res => ∃ T, res = some (some (.int (iI (A.1.1 : Int))), T) ∧ xMl T m (xac A (xlay A.1 A.1.2.1 (fun t => (A.1.2.2 t + i) % 12) A.1.1)) ∧ xfr T1 T (xrg m 19)) 0 A.1.1 (by omega) (by
            rintro v Z - hv ⟨fZ, RZ⟩
            right
            have MZ := e1.fr fZ (by omega)
            have gk : xrdI Z (m + 1) (iI 0) = some (iI (A.1.1 : Int)) := by have g := g_K RZ; exact g
            obtain ⟨Z1, w1, R1, w3⟩ := RZ.se (b := true) (j := v) hv (v := (A.1.2.2 v + i) % 12) (Int.emod_nonneg _ (by decide)) (Int.le_of_lt_add_one (Int.emod_lt_of_pos _ (by decide)))
            have e := xlay_s A.1 (fun t => (A.1.2.2 t + i) % 12) v
            rw [e] at R1
            have so := g_startOf (P := P) MZ RZ (i := v) hv
            rw [xlay_sr] at so
            refine ⟨Z1, ?_, fZ.tr w3, R1⟩
            have ei : iI 7 + iI (v : Int) = iI (xix true v : Nat) := by rw [iI_add]; rfl
            rw [e_X11_turn_29, MZ.r1, xob_some, gk, xob_some, if_neg (by rw [iI_le (by omega) (by omega) (by omega) (by omega)]; omega)]
            simp only [MZ.r1, MZ.o, so, ei, iI_add (A.1.2.2 v) i, rem v hv, w1, iI_suc, xob_some, cond_true, t_10, t_00, ne_eq, not_true_eq_false, not_false_eq_true, if_true, if_false]) (by
            rintro Z ⟨fZ, RZ⟩
            have MZ := e1.fr fZ (by omega)
            have gk : xrdI Z (m + 1) (iI 0) = some (iI (A.1.1 : Int)) := by have g := g_K RZ; exact g
            obtain ⟨M2, f2⟩ := M1.row fZ RZ
            refine ⟨Z, ?_, M2, f2⟩
            rw [e_X11_turn_29, MZ.r1, xob_some, gk, xob_some, if_pos (by rw [iI_le (by omega) (by omega) (by omega) (by omega)]; omega)]
            simp only [MZ.r1, gk, xob_some]) (s := T1) ⟨xfr.rf, by rw [xlay_0]; exact hR1⟩
        obtain ⟨T, t1, t2, t3⟩ := key
        refine ⟨T, xcI_of ((e_X11_turn_0 P m (iI i) S').trans ?_), t2, f1'.tr t3⟩
        simp only [in11, if_pos c, e0.r1, g_K hR, nz, e0.o, a1, xob_some, cond_true, t_10, t_00, ne_eq, not_true_eq_false, not_false_eq_true, if_true, if_false]
        exact t1
  · refine ⟨iI (-1), A, ⟨S, xcI_of ((e_X10_turn_0 P x (iI i) S).trans ?_), H, xfr.rf⟩, fun S' M => ?_⟩
    · by_cases d : i < 1
      · rw [if_pos (by rw [iI_lt (by omega) (by omega) (by omega) (by omega)]; omega)]
      · rw [if_neg (by rw [iI_lt (by omega) (by omega) (by omega) (by omega)]; omega)]
        simp only [d_isStart i1 i2, if_neg (show ¬ (0 ≤ i ∧ i ≤ 11) by omega), xob_some, cond_true, t_10, t_00, ne_eq, not_true_eq_false, not_false_eq_true, if_true, if_false]
    · refine ⟨S', xcI_of ((e_X11_turn_0 P m (iI i) S').trans ?_), M, xfr.rf⟩
      simp only [in11, if_neg c, xob_some, cond_true, t_10, t_00, ne_eq, not_true_eq_false, not_false_eq_true, if_true, if_false]
theorem xRo.z7 {a r : Nat} {g : Nat → Int} (h : xRo S a (xlay F F.2.1 g r)) (hr : r < 6) (hg : g r = 0) : ∃ S1, xwrI S a (iI (7 + r : Nat)) (iI 0) = some S1 ∧ xRo S1 a (xlay F F.2.1 g (r + 1)) ∧ xfr S S1 (fun c => c = a) := by
  by_cases c : r < F.1
  · obtain ⟨Z1, w1, R1, w3⟩ := h.se (b := true) (j := r) c (v := g r) (by omega) (show g r ≤ 11 by omega)
    rw [xlay_s] at R1
    rw [hg] at w1
    exact ⟨Z1, w1, R1, w3⟩
  · obtain ⟨ok, f, hf, hf2⟩ := h
    obtain ⟨S1, w1, w2, w3⟩ := xwrI_fr (v := iI 0) hf (i := (7 + r : Nat)) (by omega) (by omega) (by omega)
    rw [Int.toNat_natCast] at w2
    have R1 : xRo S1 a (xlay F F.2.1 g r) := ⟨ok, _, w2, fun k hk => by
      rw [va_up_at]
      by_cases d : k = 7 + r
      · rw [if_pos d, d]
        unfold xrw
        rw [if_neg (by omega), if_neg (by omega), if_neg (by show ¬ 7 + r - 7 < F.1; omega)]
      · rw [if_neg d]
        exact hf2 k hk⟩
    refine ⟨S1, w1, R1.eqv rfl (fun i hi => ?_), w3⟩
    have hi' : i < F.1 := hi
    show (if i < r + 1 then F.2.1 i else F.2.1 i) = (if i < r then F.2.1 i else F.2.1 i) ∧ (if i < r + 1 then g i else F.2.2 i) = (if i < r then g i else F.2.2 i)
    rw [if_pos (by omega), if_pos (by omega), if_pos (by omega), if_pos (by omega)]
    exact ⟨rfl, rfl⟩
theorem z_gate (H : xCl S x A) : ∃ z A', xKI P S x m_X10_gate [] z A' ∧ ∀ S', xMl S' m A → xGI P S' m m_X11_gate [] z A' := by
  have hF := H.2.1
  have hk := hF.1.1
  refine ⟨iI (xca A (xlay A.1 A.1.2.1 (fun _ => 0) A.1.1)), xcA A (xlay A.1 A.1.2.1 (fun _ => 0) A.1.1), ?_, fun S' M => ?_⟩
  · obtain ⟨T1, a1, a2, H1, -, f1⟩ := H.try (P := P)
    have key := xloopQ (run := fun v (Z : xS) => xrun P m_X10_gate 13 [(0, .ref x), (1, .int (iI v))] [] Z)
      (Inv := fun v Z => xCl Z x A ∧ xfr S Z (xrg x 89) ∧ xFd Z (x + 4) (xlay A.1 A.1.2.1 (fun _ => 0) v))
      (fun res => ∃ T, res = some (some (.int (iI (xca A (xlay A.1 A.1.2.1 (fun _ => 0) A.1.1)))), T) ∧ xCl T x (xcA A (xlay A.1 A.1.2.1 (fun _ => 0) A.1.1)) ∧ xfr S T (xrg x 89)) 0 A.1.1 (by omega) (by
        rintro v Z - hv ⟨HZ, fZ, hT⟩
        right
        have hZ : xFd Z (x + 1) A.1 := HZ.2.1
        obtain ⟨T2, b1, b2, H2, -, f2⟩ := HZ.tsta (P := P) hT (j := v) hv (v := 0) (by decide) (by decide)
        have e := xlay_s A.1 (fun _ => 0) v
        rw [e] at b2
        refine ⟨T2, ?_, H2, fZ.tr f2, b2⟩
        rw [e_X10_gate_13, HZ.r0, xob_some, hZ.o, cond_true, d_size hZ, xob_some, if_neg (by rw [iI_le (by omega) (by omega) (by omega) (by omega)]; omega)]
        simp only [HZ.r1, hT.o, b1, iI_suc, xob_some, cond_true, t_10, t_00, ne_eq, not_true_eq_false, not_false_eq_true, if_true, if_false]) (by
        rintro Z ⟨HZ, fZ, hT⟩
        have hZ : xFd Z (x + 1) A.1 := HZ.2.1
        obtain ⟨T2, b1, H2, f2⟩ := HZ.settleC (P := P) hT rfl
        refine ⟨T2, ?_, H2, fZ.tr f2⟩
        rw [e_X10_gate_13, HZ.r0, xob_some, hZ.o, cond_true, d_size hZ, xob_some, if_pos (by rw [iI_le (by omega) (by omega) (by omega) (by omega)]; omega), HZ.o, cond_true, b1, xob_some]
        rfl) (s := T1) ⟨H1, f1, by rw [xlay_0]; exact a2⟩
    obtain ⟨T, t1, t2, t3⟩ := key
    refine ⟨T, xcI_of ((e_X10_gate_0 P x S).trans ?_), t2, t3⟩
    simp only [H.r0, H.r1, H.to, a1, xob_some, cond_true, t_10, t_00, ne_eq, not_true_eq_false, not_false_eq_true, if_true, if_false]
    exact t1
  · obtain ⟨ob, e0, h5, h28, hR, -⟩ := id M
    obtain ⟨T1, a1, RL, f1⟩ := g_copyRow (P := P) (show m + 1 ≠ m + 3 by omega) hR M.i3
    have key := xloopQ (run := fun v (Z : xS) => xrun P m_X11_gate 13 [(0, .ref m), (1, .int (iI v))] [] Z)
      (Inv := fun v Z => xfr S' Z (fun c => c = m + 3) ∧ xRo Z (m + 3) (xlay A.1 A.1.2.1 (fun _ => 0) v))
      (fun res => ∃ T, res = some (some (.int (iI (xca A (xlay A.1 A.1.2.1 (fun _ => 0) A.1.1)))), T) ∧ xMl T m (xcA A (xlay A.1 A.1.2.1 (fun _ => 0) A.1.1)) ∧ xfr S' T (xrg m 19)) 0 6 (by omega) (by
        rintro v Z - hv ⟨fZ, RZ⟩
        right
        have MZ := e0.fr fZ (by omega)
        obtain ⟨Z1, w1, R1, w3⟩ := RZ.z7 hv rfl
        refine ⟨Z1, ?_, fZ.tr w3, R1⟩
        have ei : iI 7 + iI (v : Int) = iI ((7 + v : Nat) : Int) := by rw [iI_add]; congr 1
        rw [e_X11_gate_13, if_neg (by rw [iI_le (by omega) (by omega) (by omega) (by omega)]; omega)]
        simp only [MZ.r3, ei, w1, iI_suc, xob_some]) (by
        rintro Z ⟨fZ, RZ⟩
        have MZ := e0.fr fZ (by omega)
        obtain ⟨M1, f1'⟩ := M.laid fZ RZ.ir
        have RZ2 : xRo Z (m + 3) (xlay A.1 A.1.2.1 (fun _ => 0) A.1.1) := RZ.eqv rfl (fun i hi => by
          have hi' : i < A.1.1 := hi
          show (if i < A.1.1 then A.1.2.1 i else A.1.2.1 i) = (if i < 6 then A.1.2.1 i else A.1.2.1 i) ∧ (if i < A.1.1 then (0 : Int) else A.1.2.2 i) = (if i < 6 then 0 else A.1.2.2 i)
          rw [if_pos (by omega), if_pos (by omega), if_pos (by omega), if_pos (by omega)]
          exact ⟨rfl, rfl⟩)
        obtain ⟨T2, b1, M2, f2⟩ := M1.changed (P := P) RZ2 rfl
        refine ⟨T2, ?_, M2, f1'.tr f2⟩
        rw [e_X11_gate_13, if_pos (by decide +kernel), MZ.o, cond_true, b1, xob_some]
        rfl) (s := T1) ⟨f1, by rw [xlay_0]; exact RL⟩
    obtain ⟨T, t1, t2, t3⟩ := key
    refine ⟨T, xcI_of ((e_X11_gate_0 P m S').trans ?_), t2, t3⟩
    simp only [e0.r1, e0.r3, a1, xob_some, cond_true, t_10, t_00, ne_eq, not_true_eq_false, not_false_eq_true, if_true, if_false]
    exact t1
theorem z_mirror (H : xCl S x A) : ∃ z A', xKI P S x m_X10_mirror [] z A' ∧ ∀ S', xMl S' m A → xGI P S' m m_X11_mirror [] z A' := by
  have hF := H.2.1
  have hk := hF.1.1
  have mb := xmx_bd (v := A.1.2.1) (M := 40) (by omega) A.1.1 (fun i hi => ⟨(hF.1.2 i hi).1, (hF.1.2 i hi).2.1⟩)
  have rem : ∀ v, v < A.1.1 → iI (12 - A.1.2.2 v) - iI (12 - A.1.2.2 v) / iI 12 * iI 12 = iI ((12 - A.1.2.2 v) % 12) := fun v hv => by
    have b := hF.1.2 v hv
    exact iI_rem (by omega) (by omega) (by omega) (by omega)
  refine ⟨iI (xca A (xlay A.1 (fun t => xmx A.1.2.1 A.1.1 - A.1.2.1 t) (fun t => (12 - A.1.2.2 t) % 12) A.1.1)), xcA A (xlay A.1 (fun t => xmx A.1.2.1 A.1.1 - A.1.2.1 t) (fun t => (12 - A.1.2.2 t) % 12) A.1.1), ?_, fun S' M => ?_⟩
  · obtain ⟨T1, a1, a2, H1, -, f1⟩ := H.try (P := P)
    have key := xloopQ (run := fun v (Z : xS) => xrun P m_X10_mirror 21 [(0, .ref x), (1, .int (iI (xmx A.1.2.1 A.1.1))), (2, .int (iI v))] [] Z)
      (Inv := fun v Z => xCl Z x A ∧ xfr S Z (xrg x 89) ∧ xFd Z (x + 4) (xlay A.1 (fun t => xmx A.1.2.1 A.1.1 - A.1.2.1 t) (fun t => (12 - A.1.2.2 t) % 12) v))
      (fun res => ∃ T, res = some (some (.int (iI (xca A (xlay A.1 (fun t => xmx A.1.2.1 A.1.1 - A.1.2.1 t) (fun t => (12 - A.1.2.2 t) % 12) A.1.1)))), T) ∧ xCl T x (xcA A (xlay A.1 (fun t => xmx A.1.2.1 A.1.1 - A.1.2.1 t) (fun t => (12 - A.1.2.2 t) % 12) A.1.1)) ∧ xfr S T (xrg x 89)) 0 A.1.1 (by omega) (by
        rintro v Z - hv ⟨HZ, fZ, hT⟩
        right
        have hZ : xFd Z (x + 1) A.1 := HZ.2.1
        have bv := hF.1.2 v hv
        have gv := xmx_ge (v := A.1.2.1) A.1.1 v hv
        obtain ⟨T2, b1, b2, H2, -, f2⟩ := HZ.tset (P := P) hT (j := v) hv (v := xmx A.1.2.1 A.1.1 - A.1.2.1 v) (by omega) (by omega)
        have hZ2 : xFd T2 (x + 1) A.1 := H2.2.1
        obtain ⟨T3, c1, c2, H3, -, f3⟩ := H2.tsta (P := P) b2 (j := v) hv (v := (12 - A.1.2.2 v) % 12) (Int.emod_nonneg _ (by decide)) (Int.emod_lt_of_pos _ (by decide))
        have e := xlay_vs A.1 (fun t => xmx A.1.2.1 A.1.1 - A.1.2.1 t) (fun t => (12 - A.1.2.2 t) % 12) v
        rw [e] at c2
        refine ⟨T3, ?_, H3, (fZ.tr f2).tr f3, c2⟩
        rw [e_X10_mirror_21, HZ.r0, xob_some, hZ.o, cond_true, d_size hZ, xob_some, if_neg (by rw [iI_le (by omega) (by omega) (by omega) (by omega)]; omega)]
        simp only [HZ.r0, HZ.r1, hZ.o, d_speedAt hZ hv, iI_sub (xmx A.1.2.1 A.1.1) (A.1.2.1 v), hT.o, b1, H2.r0, H2.r1, hZ2.o, d_startAt hZ2 hv, iI_sub 12 (A.1.2.2 v), rem v hv, b2.o, c1, iI_suc, xob_some, cond_true, t_10, t_00, ne_eq, not_true_eq_false, not_false_eq_true, if_true, if_false]) (by
        rintro Z ⟨HZ, fZ, hT⟩
        have hZ : xFd Z (x + 1) A.1 := HZ.2.1
        obtain ⟨T2, b1, H2, f2⟩ := HZ.settleC (P := P) hT rfl
        refine ⟨T2, ?_, H2, fZ.tr f2⟩
        rw [e_X10_mirror_21, HZ.r0, xob_some, hZ.o, cond_true, d_size hZ, xob_some, if_pos (by rw [iI_le (by omega) (by omega) (by omega) (by omega)]; omega), HZ.o, cond_true, b1, xob_some]
        rfl) (s := T1) ⟨H1, f1, by rw [xlay_0]; exact a2⟩
    obtain ⟨T, t1, t2, t3⟩ := key
    refine ⟨T, xcI_of ((e_X10_mirror_0 P x S).trans ?_), t2, t3⟩
    simp only [H.r0, H.r1, hF.o, d_greatestSpeed hF, H.to, a1, xob_some, cond_true, t_10, t_00, ne_eq, not_true_eq_false, not_false_eq_true, if_true, if_false]
    exact t1
  · obtain ⟨ob, e0, h5, h28, hR, -⟩ := id M
    obtain ⟨T1, a1, RL, f1⟩ := g_copyRow (P := P) (show m + 1 ≠ m + 3 by omega) hR M.i3
    have key := xloopQ (run := fun v (Z : xS) => xrun P m_X11_mirror 13 [(0, .ref m), (1, .int (iI v))] [] Z)
      (Inv := fun v Z => xfr S' Z (fun c => c = m + 3) ∧ xRo Z (m + 3) (xlay A.1 (fun t => xmx A.1.2.1 A.1.1 - A.1.2.1 t) (fun t => (12 - A.1.2.2 t) % 12) v))
      (fun res => ∃ T, res = some (some (.int (iI (xca A (xlay A.1 (fun t => xmx A.1.2.1 A.1.1 - A.1.2.1 t) (fun t => (12 - A.1.2.2 t) % 12) A.1.1)))), T) ∧ xMl T m (xcA A (xlay A.1 (fun t => xmx A.1.2.1 A.1.1 - A.1.2.1 t) (fun t => (12 - A.1.2.2 t) % 12) A.1.1)) ∧ xfr S' T (xrg m 19)) 0 A.1.1 (by omega) (by
        rintro v Z - hv ⟨fZ, RZ⟩
        right
        have MZ := e0.fr fZ (by omega)
        have hZ := hR.fr fZ (by omega)
        have bv := hF.1.2 v hv
        have gv := xmx_ge (v := A.1.2.1) A.1.1 v hv
        obtain ⟨Z1, w1, R1, w3⟩ := RZ.se (b := false) (j := v) hv (v := xmx A.1.2.1 A.1.1 - A.1.2.1 v) (by omega) (show xmx A.1.2.1 A.1.1 - A.1.2.1 v ≤ 40 by omega)
        have MZ1 := MZ.fr w3 (by omega)
        have hZ1 := hZ.fr w3 (by omega)
        obtain ⟨Z2, y1, R2, y3⟩ := R1.se (b := true) (j := v) hv (v := (12 - A.1.2.2 v) % 12) (Int.emod_nonneg _ (by decide)) (Int.le_of_lt_add_one (Int.emod_lt_of_pos _ (by decide)))
        have e := xlay_vs A.1 (fun t => xmx A.1.2.1 A.1.1 - A.1.2.1 t) (fun t => (12 - A.1.2.2 t) % 12) v
        rw [e] at R2
        refine ⟨Z2, ?_, (fZ.tr w3).tr y3, R2⟩
        have e7 : iI 7 + iI (v : Int) = iI (xix true v : Nat) := by rw [iI_add]; rfl
        have e1 : iI 1 + iI (v : Int) = iI (xix false v : Nat) := by rw [iI_add]; rfl
        rw [e_X11_mirror_13, MZ.r1, xob_some, g_K hZ, xob_some, if_neg (by rw [iI_le (by omega) (by omega) (by omega) (by omega)]; omega)]
        simp only [MZ.r3, MZ.o, g_fastest MZ hZ, g_speedOf MZ hZ hv, e1, e7, iI_sub (xmx A.1.2.1 A.1.1) (A.1.2.1 v), w1, MZ1.r3, MZ1.o, g_startOf MZ1 hZ1 hv, iI_sub 12 (A.1.2.2 v), rem v hv, y1, iI_suc, xob_some, cond_true, t_10, t_00, ne_eq, not_true_eq_false, not_false_eq_true, if_true, if_false]) (by
        rintro Z ⟨fZ, RZ⟩
        have MZ := e0.fr fZ (by omega)
        have hZ := hR.fr fZ (by omega)
        obtain ⟨M1, f1'⟩ := M.laid fZ RZ.ir
        obtain ⟨T2, b1, M2, f2⟩ := M1.changed (P := P) RZ rfl
        refine ⟨T2, ?_, M2, f1'.tr f2⟩
        rw [e_X11_mirror_13, MZ.r1, xob_some, g_K hZ, xob_some, if_pos (by rw [iI_le (by omega) (by omega) (by omega) (by omega)]; omega), MZ.o, cond_true, b1, xob_some]
        rfl) (s := T1) ⟨f1, by rw [xlay_0]; exact RL⟩
    obtain ⟨T, t1, t2, t3⟩ := key
    refine ⟨T, xcI_of ((e_X11_mirror_0 P m S').trans ?_), t2, t3⟩
    simp only [e0.r1, e0.r3, a1, xob_some, cond_true, t_10, t_00, ne_eq, not_true_eq_false, not_false_eq_true, if_true, if_false]
    exact t1
end A4
