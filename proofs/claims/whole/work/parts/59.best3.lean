-- deps: 58.best2
/-! best, tight, tights, never, were, harsh, kindest, kindestStart, loneliest -/
section B3
variable {P : Nat → Nat} {S : xS} {x m : Nat} {A : xAb} {ob ob0 : Nat → Value} {F : xF}
theorem xCl.px (H : xCl S x A) : ∃ kh kp, xPr S (x + 64) kh kp := H.2.2.2.2.2.2.2.2.2.1
theorem xPr.o {a : Nat} {kh kp : Int} (h : xPr S a kh kp) : xisO S a 4 = true := by
  obtain ⟨⟨_, _, _, _, z⟩, -⟩ := h
  exact z.o
theorem d_isPartB {v : Int} (v1 : -2147483648 ≤ v) (v2 : v < 2147483648) : xcI P m_X10_isBestPart [.int (iI v)] S = some (iI (if 0 ≤ v ∧ v ≤ 3 then 1 else 0), S) := d_isBestPart v1 v2
theorem z_best (H : xCl S x A) {i w : Int} (i1 : -2147483648 ≤ i) (i2 : i < 2147483648) (w1 : -2147483648 ≤ w) (w2 : w < 2147483648) : ∃ v A', xKI P S x m_X10_best [.int (iI i), .int (iI w)] v A' ∧ ∀ S', xMl S' m A → xGI P S' m m_X11_best [.int (iI i), .int (iI w)] v A' := by
  have hF := H.2.1
  have hk := hF.1.1
  by_cases ci : 0 ≤ i ∧ i < A.1.1
  · obtain ⟨r, rfl⟩ : ∃ r : Nat, i = r := ⟨i.toNat, by omega⟩
    have hr : r < A.1.1 := by omega
    by_cases cw : 0 ≤ w ∧ w ≤ 3
    · obtain ⟨kh, kp, hP⟩ := H.px
      obtain ⟨T, u, e, s1, -, -, -, -, s2, s3, H1, -, fr, -, s4, -⟩ := H.seek (P := P) hF (Or.inl rfl) hr hP
      refine ⟨iI (xTell A.1 r w), A, ⟨T, xcI_of ((e_X10_best_0 P x (iI r) (iI w) S).trans ?_), H1, fr⟩, fun S' M => ?_⟩
      · simp only [H.r0, H.r9, hP.o, hF.o, d_has hF i1 i2, if_pos ci, d_isPartB w1 w2, if_pos cw, s1, H1.r9, s3.o, s4 w cw.1 cw.2, xob_some, cond_true, t_10, t_00, ne_eq, not_true_eq_false, not_false_eq_true, if_true, if_false]
      · obtain ⟨ob, e0, h5, h28, hR, -⟩ := id M
        obtain ⟨T', k1, k2⟩ := g_looks (P := P) e0 hR hr
        obtain ⟨N, q, ob1, M2, -, -, -, -, -, -, -, hk2, hf, tell⟩ := k2.use (P := P) hk
        obtain ⟨M3, fr3⟩ := M.num (hf.mono (fun b hb => Or.inl hb)) M2 (hR.fr hf (by omega)) ((hk2 5 (by decide) (by decide) (by decide) (by decide)).trans h5) ((hk2 28 (by decide) (by decide) (by decide) (by decide)).trans h28)
        refine ⟨T', xcI_of ((e_X11_best_0 P m (iI r) (iI w) S').trans ?_), M3, fr3⟩
        simp only [e0.o, g_isRunner e0 hR i1 i2, if_pos ci, g_isPart w1 w2, if_pos cw, k1, M2.o, tell T' w cw.1 cw.2 M2, xob_some, cond_true, t_10, t_00, ne_eq, not_true_eq_false, not_false_eq_true, if_true, if_false]
    · refine ⟨iI (-1), A, ⟨S, xcI_of ((e_X10_best_0 P x (iI r) (iI w) S).trans ?_), H, xfr.rf⟩, fun S' M => ?_⟩
      · simp only [H.r0, hF.o, d_has hF i1 i2, if_pos ci, d_isPartB w1 w2, if_neg cw, xob_some, cond_true, t_10, t_00, ne_eq, not_true_eq_false, not_false_eq_true, if_true, if_false]
      · obtain ⟨ob, e0, h5, h28, hR, -⟩ := id M
        refine ⟨S', xcI_of ((e_X11_best_0 P m (iI r) (iI w) S').trans ?_), M, xfr.rf⟩
        simp only [e0.o, g_isRunner e0 hR i1 i2, if_pos ci, g_isPart w1 w2, if_neg cw, xob_some, cond_true, t_10, t_00, ne_eq, not_true_eq_false, not_false_eq_true, if_true, if_false]
  · refine ⟨iI (-1), A, ⟨S, xcI_of ((e_X10_best_0 P x (iI i) (iI w) S).trans ?_), H, xfr.rf⟩, fun S' M => ?_⟩
    · simp only [H.r0, hF.o, d_has hF i1 i2, if_neg ci, xob_some, cond_true, t_10, t_00, ne_eq, not_true_eq_false, not_false_eq_true, if_true, if_false]
    · obtain ⟨ob, e0, h5, h28, hR, -⟩ := id M
      refine ⟨S', xcI_of ((e_X11_best_0 P m (iI i) (iI w) S').trans ?_), M, xfr.rf⟩
      simp only [e0.o, g_isRunner e0 hR i1 i2, if_neg ci, xob_some, cond_true, t_10, t_00, ne_eq, not_true_eq_false, not_false_eq_true, if_true, if_false]
theorem k_tight (H : xCl S x A) {r : Nat} (hr : r < A.1.1) : xKI P S x m_X10_tight [.int (iI r)] (iI (xTg A.1 r)) A := by
  have hF := H.2.1
  have hk := hF.1.1
  have ci : 0 ≤ (r : Int) ∧ (r : Int) < A.1.1 := by omega
  obtain ⟨kh, kp, hP⟩ := H.px
  obtain ⟨T, u, e, s1, -, -, -, -, s2, s3, H1, -, fr, -, -, s5⟩ := H.seek (P := P) hF (Or.inl rfl) hr hP
  have hF1 := H1.2.1
  refine ⟨T, xcI_of ((e_X10_tight_0 P x (iI r) S).trans ?_), H1, fr⟩
  simp only [H.r0, H.r9, hP.o, hF.o, d_has hF (show -2147483648 ≤ (r : Int) by omega) (show (r : Int) < 2147483648 by omega), if_pos ci, s1, H1.r0, H1.r9, s3.o, hF1.o, d_size hF1, s5, iI_add, xob_some, cond_true, t_10, t_00, ne_eq, not_true_eq_false, not_false_eq_true, if_true, if_false]
  have e1 : (iI A.1.1 = iI 1) ↔ A.1.1 = 1 := by rw [iI_eq (by omega) (by omega) (by decide) (by decide)]; omega
  by_cases c : A.1.1 = 1
  · rw [if_neg (fun z => z (e1.mpr c)), xTg, if_pos c]
  · rw [if_pos (fun z => c (e1.mp z)), xTg, if_neg c]
theorem h_tight (M : xMl S m A) {r : Nat} (hr : r < A.1.1) : xGI P S m m_X11_tightness [.int (iI r)] (iI (xTg A.1 r)) A := by
  obtain ⟨ob, e0, h5, h28, hR, -⟩ := id M
  obtain ⟨T, ob1, k1, M2, hk2, hf⟩ := g_tightness (P := P) e0 hR hr
  obtain ⟨M3, fr3⟩ := M.num (hf.mono (fun b hb => Or.inl hb)) M2 (hR.fr hf (by omega)) ((hk2 5 (by decide) (by decide) (by decide) (by decide)).trans h5) ((hk2 28 (by decide) (by decide) (by decide) (by decide)).trans h28)
  exact ⟨T, k1, M3, fr3⟩
theorem z_tight (H : xCl S x A) {i : Int} (i1 : -2147483648 ≤ i) (i2 : i < 2147483648) : ∃ v A', xKI P S x m_X10_tight [.int (iI i)] v A' ∧ ∀ S', xMl S' m A → xGI P S' m m_X11_tight [.int (iI i)] v A' := by
  have hF := H.2.1
  have hk := hF.1.1
  by_cases ci : 0 ≤ i ∧ i < A.1.1
  · obtain ⟨r, rfl⟩ : ∃ r : Nat, i = r := ⟨i.toNat, by omega⟩
    have hr : r < A.1.1 := by omega
    refine ⟨_, A, k_tight H hr, fun S' M => ?_⟩
    obtain ⟨T, k1, M3, fr⟩ := h_tight (P := P) M hr
    obtain ⟨ob, e0, h5, h28, hR, -⟩ := id M
    refine ⟨T, xcI_of ((e_X11_tight_0 P m (iI r) S').trans ?_), M3, fr⟩
    simp only [e0.o, g_isRunner e0 hR i1 i2, if_pos ci, k1, xob_some, cond_true, t_10, t_00, ne_eq, not_true_eq_false, not_false_eq_true, if_true, if_false]
  · refine ⟨iI (-1), A, ⟨S, xcI_of ((e_X10_tight_0 P x (iI i) S).trans ?_), H, xfr.rf⟩, fun S' M => ?_⟩
    · simp only [H.r0, hF.o, d_has hF i1 i2, if_neg ci, xob_some, cond_true, t_10, t_00, ne_eq, not_true_eq_false, not_false_eq_true, if_true, if_false]
    · obtain ⟨ob, e0, h5, h28, hR, -⟩ := id M
      refine ⟨S', xcI_of ((e_X11_tight_0 P m (iI i) S').trans ?_), M, xfr.rf⟩
      simp only [e0.o, g_isRunner e0 hR i1 i2, if_neg ci, xob_some, cond_true, t_10, t_00, ne_eq, not_true_eq_false, not_false_eq_true, if_true, if_false]
noncomputable def xtms (F : xF) (w : Int) : Nat → Int32 := xfo (fun r s => if xTg F r = w then s ||| (iI 1 <<< (iI r &&& 31)) else s) (iI 0)
theorem xtms_suc (F : xF) (w : Int) (r : Nat) : xtms F w (r + 1) = if xTg F r = w then xtms F w r ||| (iI 1 <<< (iI r &&& 31)) else xtms F w r := rfl
theorem z_tights (H : xCl S x A) : ∃ v A', xKI P S x m_X10_tights [] v A' ∧ ∀ S', xMl S' m A → xGI P S' m m_X11_tights [] v A' := by
  have hk := H.2.1.1.1
  refine ⟨xtms A.1 1 A.1.1, A, ?_, fun S' M => ?_⟩
  · have key := xloopQ (run := fun r (Z : xS) => xrun P m_X10_tights 4 [(0, .ref x), (1, .int (xtms A.1 1 r)), (2, .int (iI r))] [] Z)
      (Inv := fun _ Z => xCl Z x A ∧ xfr S Z (xrg x 89)) (fun res => ∃ T, res = some (some (.int (xtms A.1 1 A.1.1)), T) ∧ xCl T x A ∧ xfr S T (xrg x 89)) 0 A.1.1 (Nat.zero_le _) (by
        rintro r Z - hr ⟨HZ, fZ⟩
        right
        have hF := HZ.2.1
        obtain ⟨Z1, k1, H1, f1⟩ := k_tight (P := P) HZ hr
        have tb := xTg_bd A.1 r
        refine ⟨Z1, ?_, H1, fZ.tr f1⟩
        rw [e_X10_tights_4, HZ.r0, xob_some, hF.o, cond_true, d_size hF, xob_some, if_neg (by rw [iI_le (by omega) (by omega) (by omega) (by omega)]; omega)]
        dsimp only
        rw [HZ.o, cond_true, k1, xob_some, iI_suc]
        have e1 : (iI (xTg A.1 r) ≠ iI 1) ↔ xTg A.1 r ≠ 1 := by rw [ne_eq, iI_eq (by omega) (by omega) (by decide) (by decide)]
        rw [xtms_suc]
        by_cases c : xTg A.1 r = 1
        · rw [if_neg (by rw [e1]; omega), if_pos c]
        · rw [if_pos (by rw [e1]; omega), if_neg c]) (by
        rintro Z ⟨HZ, fZ⟩
        have hF := HZ.2.1
        refine ⟨Z, ?_, HZ, fZ⟩
        rw [e_X10_tights_4, HZ.r0, xob_some, hF.o, cond_true, d_size hF, xob_some, if_pos (by rw [iI_le (by omega) (by omega) (by omega) (by omega)]; omega)]) (s := S) ⟨H, xfr.rf⟩
    obtain ⟨T, k1, k2, k3⟩ := key
    exact ⟨T, xcI_of ((e_X10_tights_0 P x S).trans k1), k2, k3⟩
  · have key := xloopQ (run := fun r (Z : xS) => xrun P m_X11_tights 4 [(0, .ref m), (1, .int (xtms A.1 1 r)), (2, .int (iI r))] [] Z)
      (Inv := fun _ Z => xMl Z m A ∧ xfr S' Z (xrg m 19)) (fun res => ∃ T, res = some (some (.int (xtms A.1 1 A.1.1)), T) ∧ xMl T m A ∧ xfr S' T (xrg m 19)) 0 A.1.1 (Nat.zero_le _) (by
        rintro r Z - hr ⟨MZ, fZ⟩
        right
        obtain ⟨ob, e0, h5, h28, hR, -⟩ := id MZ
        obtain ⟨Z1, k1, H1, f1⟩ := h_tight (P := P) MZ hr
        have tb := xTg_bd A.1 r
        refine ⟨Z1, ?_, H1, fZ.tr f1⟩
        rw [e_X11_tights_4, e0.r1, xob_some, g_K hR, xob_some, if_neg (by rw [iI_le (by omega) (by omega) (by omega) (by omega)]; omega), e0.o, cond_true, k1, xob_some, iI_suc]
        have e1 : (iI (xTg A.1 r) ≠ iI 1) ↔ xTg A.1 r ≠ 1 := by rw [ne_eq, iI_eq (by omega) (by omega) (by decide) (by decide)]
        rw [xtms_suc]
        by_cases c : xTg A.1 r = 1
        · rw [if_neg (by rw [e1]; omega), if_pos c]
        · rw [if_pos (by rw [e1]; omega), if_neg c]) (by
        rintro Z ⟨MZ, fZ⟩
        obtain ⟨ob, e0, h5, h28, hR, -⟩ := id MZ
        refine ⟨Z, ?_, MZ, fZ⟩
        rw [e_X11_tights_4, e0.r1, xob_some, g_K hR, xob_some, if_pos (by rw [iI_le (by omega) (by omega) (by omega) (by omega)]; omega)]) (s := S') ⟨M, xfr.rf⟩
    obtain ⟨T, k1, k2, k3⟩ := key
    exact ⟨T, xcI_of ((e_X11_tights_0 P m S').trans k1), k2, k3⟩
theorem z_never (H : xCl S x A) : ∃ v A', xKI P S x m_X10_never [] v A' ∧ ∀ S', xMl S' m A → xGI P S' m m_X11_never [] v A' := by
  have hk := H.2.1.1.1
  refine ⟨xtms A.1 0 A.1.1, A, ?_, fun S' M => ?_⟩
  · have key := xloopQ (run := fun r (Z : xS) => xrun P m_X10_never 4 [(0, .ref x), (1, .int (xtms A.1 0 r)), (2, .int (iI r))] [] Z)
      (Inv := fun _ Z => xCl Z x A ∧ xfr S Z (xrg x 89)) (fun res => ∃ T, res = some (some (.int (xtms A.1 0 A.1.1)), T) ∧ xCl T x A ∧ xfr S T (xrg x 89)) 0 A.1.1 (Nat.zero_le _) (by
        rintro r Z - hr ⟨HZ, fZ⟩
        right
        have hF := HZ.2.1
        obtain ⟨Z1, k1, H1, f1⟩ := k_tight (P := P) HZ hr
        have tb := xTg_bd A.1 r
        refine ⟨Z1, ?_, H1, fZ.tr f1⟩
        rw [e_X10_never_4, HZ.r0, xob_some, hF.o, cond_true, d_size hF, xob_some, if_neg (by rw [iI_le (by omega) (by omega) (by omega) (by omega)]; omega)]
        dsimp only
        rw [HZ.o, cond_true, k1, xob_some, iI_suc]
        have e1 : (iI (xTg A.1 r) ≠ 0) ↔ xTg A.1 r ≠ 0 := by rw [ne_eq, iI_0, iI_eq (by omega) (by omega) (by decide) (by decide)]
        rw [xtms_suc]
        by_cases c : xTg A.1 r = 0
        · rw [if_neg (by rw [e1]; omega), if_pos c]
        · rw [if_pos (by rw [e1]; omega), if_neg c]) (by
        rintro Z ⟨HZ, fZ⟩
        have hF := HZ.2.1
        refine ⟨Z, ?_, HZ, fZ⟩
        rw [e_X10_never_4, HZ.r0, xob_some, hF.o, cond_true, d_size hF, xob_some, if_pos (by rw [iI_le (by omega) (by omega) (by omega) (by omega)]; omega)]) (s := S) ⟨H, xfr.rf⟩
    obtain ⟨T, k1, k2, k3⟩ := key
    exact ⟨T, xcI_of ((e_X10_never_0 P x S).trans k1), k2, k3⟩
  · have key := xloopQ (run := fun r (Z : xS) => xrun P m_X11_never 4 [(0, .ref m), (1, .int (xtms A.1 0 r)), (2, .int (iI r))] [] Z)
      (Inv := fun _ Z => xMl Z m A ∧ xfr S' Z (xrg m 19)) (fun res => ∃ T, res = some (some (.int (xtms A.1 0 A.1.1)), T) ∧ xMl T m A ∧ xfr S' T (xrg m 19)) 0 A.1.1 (Nat.zero_le _) (by
        rintro r Z - hr ⟨MZ, fZ⟩
        right
        obtain ⟨ob, e0, h5, h28, hR, -⟩ := id MZ
        obtain ⟨Z1, k1, H1, f1⟩ := h_tight (P := P) MZ hr
        have tb := xTg_bd A.1 r
        refine ⟨Z1, ?_, H1, fZ.tr f1⟩
        rw [e_X11_never_4, e0.r1, xob_some, g_K hR, xob_some, if_neg (by rw [iI_le (by omega) (by omega) (by omega) (by omega)]; omega), e0.o, cond_true, k1, xob_some, iI_suc]
        have e1 : (iI (xTg A.1 r) ≠ 0) ↔ xTg A.1 r ≠ 0 := by rw [ne_eq, iI_0, iI_eq (by omega) (by omega) (by decide) (by decide)]
        rw [xtms_suc]
        by_cases c : xTg A.1 r = 0
        · rw [if_neg (by rw [e1]; omega), if_pos c]
        · rw [if_pos (by rw [e1]; omega), if_neg c]) (by
        rintro Z ⟨MZ, fZ⟩
        obtain ⟨ob, e0, h5, h28, hR, -⟩ := id MZ
        refine ⟨Z, ?_, MZ, fZ⟩
        rw [e_X11_never_4, e0.r1, xob_some, g_K hR, xob_some, if_pos (by rw [iI_le (by omega) (by omega) (by omega) (by omega)]; omega)]) (s := S') ⟨M, xfr.rf⟩
    obtain ⟨T, k1, k2, k3⟩ := key
    exact ⟨T, xcI_of ((e_X11_never_0 P m S').trans k1), k2, k3⟩
/-! one number of the row is another -/
def xse (F : xF) (b : Bool) (j : Nat) (v : Int) : xF := if b then (F.1, F.2.1, va_up F.2.2 j v) else (F.1, va_up F.2.1 j v, F.2.2)
def xmxv (b : Bool) : Int := if b then 11 else 40
def xix (b : Bool) (j : Nat) : Nat := (if b then 7 else 1) + j
def xcur (F : xF) (b : Bool) (j : Nat) : Int := if b then F.2.2 j else F.2.1 j
theorem va_up_up {f : Nat → Int} {j : Nat} {v w : Int} : va_up (va_up f j v) j w = va_up f j w := by
  funext k
  rw [va_up_at, va_up_at, va_up_at]
  split <;> rfl
theorem va_up_id {f : Nat → Int} {j : Nat} : va_up f j (f j) = f := by
  funext k
  rw [va_up_at]
  split
  · rename_i h; rw [h]
  · rfl
theorem xse_1 (F : xF) (b : Bool) (j : Nat) (v : Int) : (xse F b j v).1 = F.1 := by unfold xse; cases b <;> rfl
theorem xse_se (F : xF) (b : Bool) (j : Nat) (v w : Int) : xse (xse F b j v) b j w = xse F b j w := by
  unfold xse
  cases b
  · simp only [Bool.false_eq_true, if_false]; rw [va_up_up]
  · simp only [if_true]; rw [va_up_up]
theorem xse_id (F : xF) (b : Bool) (j : Nat) : xse F b j (xcur F b j) = F := by
  unfold xse xcur
  cases b
  · simp only [Bool.false_eq_true, if_false]; rw [va_up_id]
  · simp only [if_true]; rw [va_up_id]
theorem xse_ok (h : xFok F) {b : Bool} {j : Nat} {v : Int} (v0 : 0 ≤ v) (v1 : v ≤ xmxv b) : xFok (xse F b j v) := by
  unfold xse xmxv at *
  cases b
  · simp only [Bool.false_eq_true, if_false] at *
    refine ⟨h.1, fun i hi => ?_⟩
    have := h.2 i hi
    show 0 ≤ va_up F.2.1 j v i ∧ va_up F.2.1 j v i ≤ 40 ∧ 0 ≤ F.2.2 i ∧ F.2.2 i < 12
    rw [va_up_at]
    split <;> omega
  · simp only [if_true] at *
    refine ⟨h.1, fun i hi => ?_⟩
    have := h.2 i hi
    show 0 ≤ F.2.1 i ∧ F.2.1 i ≤ 40 ∧ 0 ≤ va_up F.2.2 j v i ∧ va_up F.2.2 j v i < 12
    rw [va_up_at]
    split <;> omega
theorem xcur_bd (h : xFok F) {b : Bool} {j : Nat} (hj : j < F.1) : 0 ≤ xcur F b j ∧ xcur F b j ≤ xmxv b := by
  have := h.2 j hj
  unfold xcur xmxv
  cases b
  · simp only [Bool.false_eq_true, if_false]; omega
  · simp only [if_true]; omega
theorem xrw_se (hk : F.1 ≤ 6) {b : Bool} {j : Nat} (hj : j < F.1) {v : Int} {k : Nat} (h13 : k < 13) : xrw (xse F b j v) k = if k = xix b j then v else xrw F k := by
  unfold xse xix
  cases b
  · simp only [Bool.false_eq_true, if_false]
    unfold xrw
    dsimp only
    by_cases c : k = 0
    · rw [if_pos c, if_pos c, if_neg (by omega)]
    · rw [if_neg c, if_neg c]
      by_cases d : k < 7
      · rw [if_pos d, if_pos d, va_up_at]
        by_cases e : k = 1 + j
        · rw [if_pos e, if_pos (by omega), if_pos (by omega)]
        · rw [if_neg e]
          by_cases f : k - 1 < F.1
          · rw [if_pos f, if_pos f, if_neg (by omega)]
          · rw [if_neg f, if_neg f]
      · rw [if_neg d, if_neg d, if_neg (show ¬ k = 1 + j by omega)]
  · simp only [if_true]
    unfold xrw
    dsimp only
    by_cases c : k = 0
    · rw [if_pos c, if_pos c, if_neg (by omega)]
    · rw [if_neg c, if_neg c]
      by_cases d : k < 7
      · rw [if_pos d, if_pos d, if_neg (show ¬ k = 7 + j by omega)]
      · rw [if_neg d, if_neg d, va_up_at]
        by_cases e : k = 7 + j
        · rw [if_pos e, if_pos (by omega), if_pos (by omega)]
        · rw [if_neg e]
          by_cases f : k - 7 < F.1
          · rw [if_pos f, if_pos f, if_neg (by omega)]
          · rw [if_neg f, if_neg f]
theorem xix_bd (hk : F.1 ≤ 6) {b : Bool} {j : Nat} (hj : j < F.1) : xix b j < 13 := by unfold xix; cases b <;> simp <;> omega
theorem xRo.se {a : Nat} (h : xRo S a F) {b : Bool} {j : Nat} (hj : j < F.1) {v : Int} (v0 : 0 ≤ v) (v1 : v ≤ xmxv b) : ∃ S1, xwrI S a (iI (xix b j : Nat)) (iI v) = some S1 ∧ xRo S1 a (xse F b j v) ∧ xfr S S1 (fun c => c = a) := by
  obtain ⟨ok, f, hf, hf2⟩ := h
  have ib := xix_bd ok.1 (b := b) hj
  obtain ⟨S1, w1, w2, w3⟩ := xwrI_fr (v := iI v) hf (i := (xix b j : Nat)) (by omega) (by omega) (by omega)
  refine ⟨S1, w1, ⟨xse_ok ok v0 v1, _, w2, fun k hk => ?_⟩, w3⟩
  rw [xrw_se ok.1 hj hk]
  show va_up f (xix b j) (iI v) k = _
  rw [va_up_at]
  split
  · rfl
  · exact hf2 k hk
theorem g_se {a : Nat} (h : xRo S a F) {b : Bool} {j : Nat} (hj : j < F.1) : xrdI S a (iI (xix b j : Nat)) = some (iI (xcur F b j)) := by
  have ib := xix_bd h.1.1 (b := b) hj
  have hk := h.1.1
  rw [g_at h ib]
  unfold xix xcur
  cases b
  · simp only [Bool.false_eq_true, if_false]
    rw [xrw_v F hj hk]
  · simp only [if_true]
    rw [xrw_s F hj hk]
/-- the class's trial -/
theorem xCl.try (H : xCl S x A) : ∃ T, xcV P m_X0_become [.ref (x + 4), .ref (x + 1)] S = some T ∧ xFd T (x + 4) A.1 ∧ xCl T x A ∧ xfr S T (x3 (x + 4)) ∧ xfr S T (xrg x 89) := by
  obtain ⟨k0, f, g, e⟩ := H.2.2.1
  obtain ⟨T, k1, k2, k3⟩ := d_become (P := P) (show x + 4 + 2 < x + 1 ∨ x + 1 + 2 < x + 4 by omega) e H.2.1
  obtain ⟨c1, c2⟩ := H.tp (k3.mono (fun b hb => Or.inl hb)) k2.a (H.2.2.2.2.2.2.2.2.2.1.fr k3 (fun b hb => by unfold xrg at hb; unfold x3; omega))
  exact ⟨T, k1, k2, c1, k3, c2⟩
theorem xCl.tset (H : xCl S x A) (hF : xFd S (x + 4) F) {j : Nat} (hj : j < F.1) {v : Int} (v0 : 0 ≤ v) (v1 : v ≤ 40) : ∃ T, xcV P m_X0_setSpeed [.ref (x + 4), .int (iI j), .int (iI v)] S = some T ∧ xFd T (x + 4) (xse F false j v) ∧ xCl T x A ∧ xfr S T (x3 (x + 4)) ∧ xfr S T (xrg x 89) := by
  obtain ⟨T, k1, k2, k3⟩ := d_setSpeed (P := P) hF hj v0 v1
  obtain ⟨c1, c2⟩ := H.tp (k3.mono (fun b hb => Or.inl hb)) k2.a (H.2.2.2.2.2.2.2.2.2.1.fr k3 (fun b hb => by unfold xrg at hb; unfold x3; omega))
  exact ⟨T, k1, k2, c1, k3, c2⟩
theorem xCl.tsta (H : xCl S x A) (hF : xFd S (x + 4) F) {j : Nat} (hj : j < F.1) {v : Int} (v0 : 0 ≤ v) (v1 : v < 12) : ∃ T, xcV P m_X0_setStart [.ref (x + 4), .int (iI j), .int (iI v)] S = some T ∧ xFd T (x + 4) (xse F true j v) ∧ xCl T x A ∧ xfr S T (x3 (x + 4)) ∧ xfr S T (xrg x 89) := by
  obtain ⟨T, k1, k2, k3⟩ := d_setStart (P := P) hF hj v0 v1
  obtain ⟨c1, c2⟩ := H.tp (k3.mono (fun b hb => Or.inl hb)) k2.a (H.2.2.2.2.2.2.2.2.2.1.fr k3 (fun b hb => by unfold xrg at hb; unfold x3; omega))
  exact ⟨T, k1, k2, c1, k3, c2⟩
theorem z_were (H : xCl S x A) {i j v w : Int} (i1 : -2147483648 ≤ i) (i2 : i < 2147483648) (j1 : -2147483648 ≤ j) (j2 : j < 2147483648) (v1 : -2147483648 ≤ v) (v2 : v < 2147483648) (w1 : -2147483648 ≤ w) (w2 : w < 2147483648) : ∃ z A', xKI P S x m_X10_were [.int (iI i), .int (iI j), .int (iI v), .int (iI w)] z A' ∧ ∀ S', xMl S' m A → xGI P S' m m_X11_were [.int (iI i), .int (iI j), .int (iI v), .int (iI w)] z A' := by
  have hF := H.2.1
  have hk := hF.1.1
  by_cases ca : (0 ≤ i ∧ i < A.1.1) ∧ (0 ≤ j ∧ j < A.1.1) ∧ (0 ≤ v ∧ v ≤ 40) ∧ (0 ≤ w ∧ w ≤ 3)
  · obtain ⟨ci, cj, cv, cw⟩ := ca
    obtain ⟨r, rfl⟩ : ∃ r : Nat, i = r := ⟨i.toNat, by omega⟩
    obtain ⟨o, rfl⟩ : ∃ o : Nat, j = o := ⟨j.toNat, by omega⟩
    have hr : r < A.1.1 := by omega
    have ho : o < A.1.1 := by omega
    obtain ⟨T1, a1, a2, H1, -, f1⟩ := H.try (P := P)
    obtain ⟨T2, b1, b2, H2, -, f2⟩ := H1.tset (P := P) a2 ho cv.1 cv.2
    obtain ⟨kh, kp, hP⟩ := H2.px
    obtain ⟨T3, u, e, s1, -, -, -, -, s2, s3, H3, -, f3, -, s4, -⟩ := H2.seek (P := P) b2 (Or.inr rfl) (by rw [xse_1]; exact hr) hP
    have ot : xisO S (x + 4) 0 = true := by
      obtain ⟨k0, f, g, z⟩ := H.2.2.1
      exact xisO_at z.2.1
    refine ⟨iI (xTell (xse A.1 false o v) r w), A, ⟨T3, xcI_of ((e_X10_were_0 P x (iI r) (iI o) (iI v) (iI w) S).trans ?_), H3, (f1.tr f2).tr f3⟩, fun S' M => ?_⟩
    · simp only [H.r0, H.r1, hF.o, d_has hF i1 i2, if_pos ci, d_has hF j1 j2, if_pos cj, d_isSpeed v1 v2, if_pos cv, d_isPartB w1 w2, if_pos cw, ot, a1, H1.r1, a2.o, b1, H2.r9, H2.r1, hP.o, s1, H3.r9, s3.o, s4 w cw.1 cw.2, xob_some, cond_true, t_10, t_00, ne_eq, not_true_eq_false, not_false_eq_true, if_true, if_false]
    · obtain ⟨ob, e0, h5, h28, hR, -⟩ := id M
      obtain ⟨Y1, w1', RY1, fY1⟩ := hR.se (b := false) ho cv.1 cv.2
      have eY1 := e0.fr fY1 (by omega)
      obtain ⟨Y2, k1, k2⟩ := g_looks (P := P) eY1 RY1 (i := r) (by rw [xse_1]; exact hr)
      obtain ⟨N, q, ob1, M2, -, -, -, -, -, -, -, hk2, hf2, tell⟩ := k2.use (P := P) (by rw [xse_1]; exact hk)
      have RY2 := RY1.fr hf2 (by omega)
      have cb := xcur_bd hF.1 (b := false) ho
      obtain ⟨Y3, w3', RY3, fY3⟩ := RY2.se (b := false) (j := o) (by rw [xse_1]; exact ho) cb.1 cb.2
      rw [xse_se, xse_id] at RY3
      have M3 := M2.fr fY3 (by omega)
      obtain ⟨MM, ff⟩ := M.num (((fY1.mono (fun b hb => Or.inr hb)).tr (hf2.mono (fun b hb => Or.inl hb))).tr (fY3.mono (fun b hb => Or.inr hb))) M3 RY3 ((hk2 5 (by decide) (by decide) (by decide) (by decide)).trans h5) ((hk2 28 (by decide) (by decide) (by decide) (by decide)).trans h28)
      refine ⟨Y3, xcI_of ((e_X11_were_0 P m (iI r) (iI o) (iI v) (iI w) S').trans ?_), MM, ff⟩
      have ei : iI 1 + iI (o : Int) = iI (xix false o : Nat) := by rw [iI_add]; rfl
      have ec : A.1.2.1 o = xcur A.1 false o := rfl
      simp only [e0.o, g_isRunner e0 hR i1 i2, if_pos ci, g_isRunner e0 hR j1 j2, if_pos cj, g_isSpeed v1 v2, if_pos cv, g_isPart w1 w2, if_pos cw, g_speedOf e0 hR ho, e0.r1, ei, w1', eY1.o, k1, M2.r1, ec, w3', M3.o, tell Y3 w cw.1 cw.2 M3, xob_some, cond_true, t_10, t_00, ne_eq, not_true_eq_false, not_false_eq_true, if_true, if_false]
  · refine ⟨iI (-1), A, ⟨S, xcI_of ((e_X10_were_0 P x (iI i) (iI j) (iI v) (iI w) S).trans ?_), H, xfr.rf⟩, fun S' M => ?_⟩
    · by_cases ci : 0 ≤ i ∧ i < A.1.1
      · by_cases cj : 0 ≤ j ∧ j < A.1.1
        · by_cases cv : 0 ≤ v ∧ v ≤ 40
          · have cw : ¬ (0 ≤ w ∧ w ≤ 3) := fun z => ca ⟨ci, cj, cv, z⟩
            simp only [H.r0, hF.o, d_has hF i1 i2, if_pos ci, d_has hF j1 j2, if_pos cj, d_isSpeed v1 v2, if_pos cv, d_isPartB w1 w2, if_neg cw, xob_some, cond_true, t_10, t_00, ne_eq, not_true_eq_false, not_false_eq_true, if_true, if_false]
          · simp only [H.r0, hF.o, d_has hF i1 i2, if_pos ci, d_has hF j1 j2, if_pos cj, d_isSpeed v1 v2, if_neg cv, xob_some, cond_true, t_10, t_00, ne_eq, not_true_eq_false, not_false_eq_true, if_true, if_false]
        · simp only [H.r0, hF.o, d_has hF i1 i2, if_pos ci, d_has hF j1 j2, if_neg cj, xob_some, cond_true, t_10, t_00, ne_eq, not_true_eq_false, not_false_eq_true, if_true, if_false]
      · simp only [H.r0, hF.o, d_has hF i1 i2, if_neg ci, xob_some, cond_true, t_10, t_00, ne_eq, not_true_eq_false, not_false_eq_true, if_true, if_false]
    · obtain ⟨ob, e0, h5, h28, hR, -⟩ := id M
      refine ⟨S', xcI_of ((e_X11_were_0 P m (iI i) (iI j) (iI v) (iI w) S').trans ?_), M, xfr.rf⟩
      by_cases ci : 0 ≤ i ∧ i < A.1.1
      · by_cases cj : 0 ≤ j ∧ j < A.1.1
        · by_cases cv : 0 ≤ v ∧ v ≤ 40
          · have cw : ¬ (0 ≤ w ∧ w ≤ 3) := fun z => ca ⟨ci, cj, cv, z⟩
            simp only [e0.o, g_isRunner e0 hR i1 i2, if_pos ci, g_isRunner e0 hR j1 j2, if_pos cj, g_isSpeed v1 v2, if_pos cv, g_isPart w1 w2, if_neg cw, xob_some, cond_true, t_10, t_00, ne_eq, not_true_eq_false, not_false_eq_true, if_true, if_false]
          · simp only [e0.o, g_isRunner e0 hR i1 i2, if_pos ci, g_isRunner e0 hR j1 j2, if_pos cj, g_isSpeed v1 v2, if_neg cv, xob_some, cond_true, t_10, t_00, ne_eq, not_true_eq_false, not_false_eq_true, if_true, if_false]
        · simp only [e0.o, g_isRunner e0 hR i1 i2, if_pos ci, g_isRunner e0 hR j1 j2, if_neg cj, xob_some, cond_true, t_10, t_00, ne_eq, not_true_eq_false, not_false_eq_true, if_true, if_false]
      · simp only [e0.o, g_isRunner e0 hR i1 i2, if_neg ci, xob_some, cond_true, t_10, t_00, ne_eq, not_true_eq_false, not_false_eq_true, if_true, if_false]
end B3
