-- deps: 65.acts1
/-! keep, take, undo -/
section A2
variable {P : Nat → Nat} {S T : xS} {x m : Nat} {A : xAb} {ob ob0 : Nat → Value} {F : xF}
theorem xrdB_at2 {a n : Nat} {f : Nat → Int32} {i : Int} (h : S.1 a = some (.inr (2, (n, .inl f)))) (h0 : 0 ≤ i) (h1 : i < n) (h2 : n < 2147483648) : xrdB S a (iI i) = some (f i.toNat) := by
  unfold xrdB
  rw [h]
  have e : (iI i).toNatClampNeg = i.toNat := iI_clamp h0 (by omega)
  have e2 : ¬ (iI i < 0 ∨ n ≤ (iI i).toNatClampNeg) := by
    rw [e, iI_0, iI_lt (by omega) (by omega) (by omega) (by omega)]; omega
  dsimp only
  rw [if_pos ⟨Or.inl rfl, e2⟩, e]
theorem xwrB_fr {a n : Nat} {f : Nat → Int32} {i : Int} {v : Int32} (h : S.1 a = some (.inr (2, (n, .inl f)))) (h0 : 0 ≤ i) (h1 : i < n) (h2 : n < 2147483648) (hv : vp_nar .boolean v = v) : ∃ S1, xwrB S a (iI i) v = some S1 ∧ S1.1 a = some (.inr (2, (n, .inl (va_up f i.toNat v)))) ∧ xfr S S1 (fun c => c = a) := by
  refine ⟨xpt S a (.inr (2, (n, .inl (va_up f i.toNat v)))), ?_, by rw [xpt_1, if_pos rfl], xfr.pt rfl⟩
  unfold xwrB
  rw [h]
  have e : (iI i).toNatClampNeg = i.toNat := iI_clamp h0 (by omega)
  have e2 : ¬ (iI i < 0 ∨ n ≤ (iI i).toNatClampNeg) := by
    rw [e, iI_0, iI_lt (by omega) (by omega) (by omega) (by omega)]; omega
  dsimp only
  rw [if_pos ⟨rfl, e2⟩, e, hv]
theorem nar_1 : vp_nar .boolean (iI 1) = iI 1 := by decide +kernel
theorem nar_0 : vp_nar .boolean (iI 0) = iI 0 := by decide +kernel
theorem xMl.mk {mk : Nat → Option xF} (M : xMl S m A) (hf : xfr S T (fun b => b = m + 5 ∨ b = m + 6)) (h : xMm T (m + 5) mk) : xMl T m (A.1, A.2.1, mk, A.2.2.2) ∧ xfr S T (xrg m 19) := by
  obtain ⟨ob, e0, e1, e2, e3, e4, e5, e6, e7, e8⟩ := M
  exact ⟨⟨ob, e0.fr hf (by omega), e1, e2, e3.fr hf (by omega), e4.fr hf (by omega), h, e6.fr hf (by omega), e7.fr hf (by omega), e8.fr hf (fun d hd => by omega)⟩, hf.mono (fun b hb => ⟨by omega, by omega⟩)⟩
theorem g_inM {v a b : Int} (v1 : -2147483648 ≤ v) (v2 : v < 2147483648) (a1 : -2147483648 ≤ a) (a2 : a < 2147483648) (b1 : -2147483648 ≤ b) (b2 : b < 2147483648) : xcI P m_X11_in [.long (iI v).toInt64, .long (jI a), .long (jI b)] S = some (iI (if a ≤ v ∧ v ≤ b then 1 else 0), S) := by
  rw [iI_ji v1 v2]
  exact d_in (by omega) (by omega) (by omega) (by omega) (by omega) (by omega)
theorem z_keep (H : xCl S x A) {i : Int} (i1 : -2147483648 ≤ i) (i2 : i < 2147483648) : ∃ z A', xKI P S x m_X10_keep [.int (iI i)] z A' ∧ ∀ S', xMl S' m A → xGI P S' m m_X11_keep [.int (iI i)] z A' := by
  have hF := H.2.1
  have hk := hF.1.1
  by_cases ci : 0 ≤ i ∧ i ≤ 2
  · obtain ⟨o, rfl⟩ : ∃ o : Nat, i = o := ⟨i.toNat, by omega⟩
    have ho : o < 3 := by omega
    refine ⟨iI (A.1.1 : Int), (A.1, A.2.1, va_up A.2.2.1 o (some A.1), A.2.2.2), ?_, fun S' M => ?_⟩
    · obtain ⟨⟨f, hf, hf2⟩, ⟨g, hg, hg2⟩, hh⟩ := H.2.2.2.1
      obtain ⟨⟨k0, f0, g0, z0⟩, -⟩ := hh o ho
      obtain ⟨T1, a1, a2, a3⟩ := d_become (P := P) (a := x + 8 + 3 * o) (b := x + 1) (by omega) z0 hF
      have C1 : xC0 T1 x := (a3.2 _ (by unfold x3; omega)).trans H.1
      have hg1 : T1.1 (x + 17) = some (.inr (2, (3, .inl g))) := (a3.2 _ (by unfold x3; omega)).trans hg
      obtain ⟨T2, b1, b2, b3⟩ := xwrB_fr (v := iI 1) hg1 (i := (o : Int)) (by omega) (by omega) (by omega) nar_1
      rw [Int.toNat_natCast] at b2
      have fa : xfr S T2 (xrg (x + 7) 11) := (a3.mono (fun b hb => by unfold x3 at hb; unfold xrg; omega)).tr (b3.mono (fun b hb => by unfold xrg; omega))
      obtain ⟨H2, f2⟩ := H.mk (T := T2) (mk := va_up A.2.2.1 o (some A.1)) fa ⟨⟨f, (b3.2 _ (by omega)).trans ((a3.2 _ (by unfold x3; omega)).trans hf), hf2⟩, ⟨_, b2, fun j hj => by
        rw [va_up_at, va_up_at]
        by_cases c : j = o
        · rw [if_pos c, if_pos c]; rfl
        · rw [if_neg c, if_neg c]; exact hg2 j hj⟩, fun j hj => by
        by_cases c : j = o
        · subst c
          have a4 := a2.fr b3 (fun b hb => by unfold x3 at hb; omega)
          refine ⟨a4.a, fun G hG => ?_⟩
          rw [va_up_at, if_pos rfl] at hG
          cases hG
          exact a4
        · have dj : ∀ b, x3 (x + 8 + 3 * j) b → ¬ x3 (x + 8 + 3 * o) b := fun b hb hc => by unfold x3 at hb hc; omega
          refine ⟨((hh j hj).1.fr a3 dj).fr b3 (fun b hb => by unfold x3 at hb; omega), fun G hG => ?_⟩
          rw [va_up_at, if_neg c] at hG
          exact (((hh j hj).2 G hG).fr a3 dj).fr b3 (fun b hb => by unfold x3 at hb; omega)⟩
      refine ⟨T2, xcI_of ((e_X10_keep_0 P x (iI o) S).trans ?_), H2, f2⟩
      have rd : xrdR S (x + 7) (iI (o : Int)) = some (x + 8 + 3 * o) := by rw [xrdR_at hf (by omega) (by omega) (by omega), Int.toNat_natCast, hf2 o ho]
      have r3 : xfR T1 x 10 3 = some (x + 17) := xfR_at C1 rfl
      have hF2 : xFd T2 (x + 1) A.1 := H2.2.1
      simp only [d_isMark i1 i2, if_pos ci, H.r2, rd, H.r0, z0.o, a1, r3, b1, H2.r0, hF2.o, d_size hF2, xob_some, cond_true, t_10, t_00, ne_eq, not_true_eq_false, not_false_eq_true, if_true, if_false]
    · obtain ⟨ob, e0, h5, h28, hR, -⟩ := id M
      obtain ⟨ob', -, -, -, -, -, ⟨⟨f, hf, hf2⟩, g, hg, hg2⟩, -⟩ := id M
      have key := xloopQ (run := fun v (Z : xS) => xrun P m_X11_keep 16 [(0, .ref m), (1, .int (iI o)), (2, .int (iI v))] [] Z)
        (Inv := fun v Z => xfr S' Z (fun c => c = m + 5) ∧ ∃ h, Z.1 (m + 5) = some (.inr (0, (39, .inl h))) ∧ (∀ k, k < v → h (13 * o + k) = iI (xrw A.1 k)) ∧ ∀ t, (t < 13 * o ∨ 13 * o + 13 ≤ t) → h t = f t)
        (fun res => ∃ T, res = some (some (.int (iI (A.1.1 : Int))), T) ∧ xMl T m (A.1, A.2.1, va_up A.2.2.1 o (some A.1), A.2.2.2) ∧ xfr S' T (xrg m 19)) 0 13 (by decide) (by
          rintro v Z - hv ⟨fZ, h, hh, h1, h2⟩
          right
          have MZ := e0.fr fZ (by omega)
          have RZ := hR.fr fZ (by omega)
          obtain ⟨Z1, w1, w2, w3⟩ := xwrI_fr (v := iI (xrw A.1 v)) hh (i := ((13 * o + v : Nat) : Int)) (by omega) (by omega) (by omega)
          rw [Int.toNat_natCast] at w2
          refine ⟨Z1, ?_, fZ.tr w3, _, w2, fun k hk2 => ?_, fun t ht => ?_⟩
          · have e1 : iI 13 * iI (o : Int) + iI (v : Int) = iI ((13 * o + v : Nat) : Int) := by rw [iI_mul, iI_add]; congr 1
            rw [e_X11_keep_16, if_neg (by rw [iI_le (by omega) (by omega) (by omega) (by omega)]; omega)]
            simp only [MZ.r6, MZ.r1, g_at RZ hv, e1, w1, xob_some, iI_suc]
          · rw [va_up_at]
            by_cases c : k = v
            · rw [if_pos (by omega), c]
            · rw [if_neg (by omega)]
              exact h1 k (by omega)
          · rw [va_up_at, if_neg (by omega)]
            exact h2 t ht) (by
          rintro Z ⟨fZ, h, hh, h1, h2⟩
          have MZ := e0.fr fZ (by omega)
          have gZ : Z.1 (m + 5 + 1) = some (.inr (2, (3, .inl g))) := (fZ.2 _ (by omega)).trans hg
          obtain ⟨Z1, w1, w2, w3⟩ := xwrB_fr (v := iI 1) gZ (i := (o : Int)) (by omega) (by omega) (by omega) nar_1
          rw [Int.toNat_natCast] at w2
          have M1 := MZ.fr w3 (by omega)
          have R1 := (hR.fr fZ (by omega)).fr w3 (by omega)
          obtain ⟨MM, ff⟩ := M.mk (T := Z1) (mk := va_up A.2.2.1 o (some A.1)) ((fZ.mono (fun b hb => Or.inl hb)).tr (w3.mono (fun b hb => Or.inr hb))) ⟨⟨h, (w3.2 _ (by omega)).trans hh, fun j hj G hG => by
            rw [va_up_at] at hG
            by_cases c : j = o
            · rw [if_pos c] at hG
              cases hG
              rw [c]
              exact ⟨hR.1, h1⟩
            · rw [if_neg c] at hG
              have q := hf2 j hj G hG
              exact ⟨q.1, fun k hk2 => (h2 _ (by omega)).trans (q.2 k hk2)⟩⟩, _, w2, fun j hj => by
            rw [va_up_at, va_up_at]
            by_cases c : j = o
            · rw [if_pos c, if_pos c]; rfl
            · rw [if_neg c, if_neg c]; exact hg2 j hj⟩
          refine ⟨Z1, ?_, MM, ff⟩
          rw [e_X11_keep_16, if_pos (by decide +kernel)]
          simp only [MZ.r7, w1, M1.r1, g_K R1, xob_some]) (s := S') ⟨xfr.rf, f, hf, fun k hk => absurd hk (by omega), fun _ _ => rfl⟩
      obtain ⟨T, t1, t2, t3⟩ := key
      refine ⟨T, xcI_of ((e_X11_keep_0 P m (iI o) S').trans ?_), t2, t3⟩
      simp only [g_inM i1 i2 (show -2147483648 ≤ 0 by decide) (show 0 < 2147483648 by decide) (show -2147483648 ≤ 2 by decide) (show 2 < 2147483648 by decide), if_pos ci, xob_some, cond_true, t_10, t_00, ne_eq, not_true_eq_false, not_false_eq_true, if_true, if_false]
      exact t1
  · refine ⟨iI (-1), A, ⟨S, xcI_of ((e_X10_keep_0 P x (iI i) S).trans ?_), H, xfr.rf⟩, fun S' M => ?_⟩
    · simp only [d_isMark i1 i2, if_neg ci, xob_some, cond_true, t_10, t_00, ne_eq, not_true_eq_false, not_false_eq_true, if_true, if_false]
    · refine ⟨S', xcI_of ((e_X11_keep_0 P m (iI i) S').trans ?_), M, xfr.rf⟩
      simp only [g_inM i1 i2 (show -2147483648 ≤ 0 by decide) (show 0 < 2147483648 by decide) (show -2147483648 ≤ 2 by decide) (show 2 < 2147483648 by decide), if_neg ci, xob_some, cond_true, t_10, t_00, ne_eq, not_true_eq_false, not_false_eq_true, if_true, if_false]
/-- thirteen numbers come to the row at hand -/
theorem l_take {G : xF} (M : xMo S m ob) (ok : xFok G) {o : Nat} (ho : o < 3) {f h : Nat → Int32} (hf : S.1 (m + 5) = some (.inr (0, (39, .inl f)))) (hf2 : ∀ k, k < 13 → f (13 * o + k) = iI (xrw G k)) (hh : S.1 (m + 1) = some (.inr (0, (13, .inl h)))) : ∃ T, xrun P m_X11_take 29 [(0, .ref m), (1, .int (iI o)), (2, .int (iI 0))] [] S = some (some (.int (iI (G.1 : Int))), T) ∧ xRo T (m + 1) G ∧ xfr S T (fun c => c = m + 1) := by
  have key := xloopQ (run := fun v (Z : xS) => xrun P m_X11_take 29 [(0, .ref m), (1, .int (iI o)), (2, .int (iI v))] [] Z)
    (Inv := fun v Z => xfr S Z (fun c => c = m + 1) ∧ ∃ h, Z.1 (m + 1) = some (.inr (0, (13, .inl h))) ∧ ∀ k, k < v → h k = iI (xrw G k))
    (fun res => ∃ T, res = some (some (.int (iI (G.1 : Int))), T) ∧ xRo T (m + 1) G ∧ xfr S T (fun c => c = m + 1)) 0 13 (by decide) (by
      rintro v Z - hv ⟨fZ, h, hh, h1⟩
      right
      have MZ := M.fr fZ (by omega)
      have hfZ := (fZ.2 _ (by omega)).trans hf
      obtain ⟨Z1, w1, w2, w3⟩ := xwrI_fr (v := iI (xrw G v)) hh (i := (v : Int)) (by omega) (by omega) (by omega)
      rw [Int.toNat_natCast] at w2
      refine ⟨Z1, ?_, fZ.tr w3, _, w2, fun k hk2 => ?_⟩
      · have e1 : iI 13 * iI (o : Int) + iI (v : Int) = iI ((13 * o + v : Nat) : Int) := by rw [iI_mul, iI_add]; congr 1
        have rd : xrdI Z (m + 5) (iI ((13 * o + v : Nat) : Int)) = some (iI (xrw G v)) := by rw [xrdI_at hfZ (by omega) (by omega) (by omega), Int.toNat_natCast, hf2 v hv]
        rw [e_X11_take_29, if_neg (by rw [iI_le (by omega) (by omega) (by omega) (by omega)]; omega)]
        simp only [MZ.r6, MZ.r1, e1, rd, w1, xob_some, iI_suc]
      · rw [va_up_at]
        by_cases c : k = v
        · rw [if_pos c, c]
        · rw [if_neg c]
          exact h1 k (by omega)) (by
      rintro Z ⟨fZ, h, hh, h1⟩
      have MZ := M.fr fZ (by omega)
      have R : xRo Z (m + 1) G := ⟨ok, h, hh, h1⟩
      refine ⟨Z, ?_, R, fZ⟩
      rw [e_X11_take_29, if_pos (by decide +kernel)]
      simp only [MZ.r1, g_K R, xob_some]) (s := S) ⟨xfr.rf, h, hh, fun k hk => absurd hk (by omega)⟩
  exact key
theorem z_take (H : xCl S x A) {i : Int} (i1 : -2147483648 ≤ i) (i2 : i < 2147483648) : ∃ z A', xKI P S x m_X10_take [.int (iI i)] z A' ∧ ∀ S', xMl S' m A → xGI P S' m m_X11_take [.int (iI i)] z A' := by
  have hF := H.2.1
  have hk := hF.1.1
  by_cases ci : 0 ≤ i ∧ i ≤ 2
  · obtain ⟨o, rfl⟩ : ∃ o : Nat, i = o := ⟨i.toNat, by omega⟩
    have ho : o < 3 := by omega
    obtain ⟨⟨f, hf, hf2⟩, ⟨g, hg, hg2⟩, hh⟩ := H.2.2.2.1
    have rdB : xrdB S (x + 17) (iI (o : Int)) = some (iI (if (A.2.2.1 o).isSome then 1 else 0)) := by rw [xrdB_at2 hg (by omega) (by omega) (by omega), Int.toNat_natCast, hg2 o ho]
    rcases hm : A.2.2.1 o with _ | G
    · refine ⟨iI (-1), A, ⟨S, xcI_of ((e_X10_take_0 P x (iI o) S).trans ?_), H, xfr.rf⟩, fun S' M => ?_⟩
      · rw [hm] at rdB
        have rdB' : xrdB S (x + 17) (iI (o : Int)) = some (iI 0) := rdB
        simp only [d_isMark i1 i2, if_pos ci, H.r3, rdB', xob_some, cond_true, t_10, t_00, ne_eq, not_true_eq_false, not_false_eq_true, if_true, if_false]
      · obtain ⟨ob, e0, h5, h28, hR, -⟩ := id M
        obtain ⟨ob', -, -, -, -, -, ⟨-, g', hg', hg2'⟩, -⟩ := id M
        refine ⟨S', xcI_of ((e_X11_take_0 P m (iI o) S').trans ?_), M, xfr.rf⟩
        have rd : xrdB S' (m + 6) (iI (o : Int)) = some (iI 0) := by
          rw [xrdB_at2 hg' (by omega) (by omega) (by omega), Int.toNat_natCast, hg2' o ho, hm]; rfl
        simp only [g_inM i1 i2 (show -2147483648 ≤ 0 by decide) (show 0 < 2147483648 by decide) (show -2147483648 ≤ 2 by decide) (show 2 < 2147483648 by decide), if_pos ci, e0.r7, rd, xob_some, cond_true, t_10, t_00, ne_eq, not_true_eq_false, not_false_eq_true, if_true, if_false]
    · rw [hm] at rdB
      have rdB' : xrdB S (x + 17) (iI (o : Int)) = some (iI 1) := rdB
      have hG := (hh o ho).2 G hm
      refine ⟨iI (G.1 : Int), xac A G, ?_, fun S' M => ?_⟩
      · obtain ⟨k0, f0, g0, z0⟩ := H.2.2.1
        obtain ⟨T1, a1, a2, a3⟩ := d_become (P := P) (a := x + 4) (b := x + 8 + 3 * o) (by omega) z0 hG
        obtain ⟨H1, f1⟩ := H.tri a3 a2.a
        obtain ⟨T2, b1, H2, f2⟩ := H1.settle (P := P) a2
        have hF2 : xFd T2 (x + 1) G := H2.2.1
        refine ⟨T2, xcI_of ((e_X10_take_0 P x (iI o) S).trans ?_), H2, f1.tr f2⟩
        have rd : xrdR S (x + 7) (iI (o : Int)) = some (x + 8 + 3 * o) := by rw [xrdR_at hf (by omega) (by omega) (by omega), Int.toNat_natCast, hf2 o ho]
        simp only [d_isMark i1 i2, if_pos ci, H.r3, rdB', H.r1, H.r2, rd, z0.o, a1, H1.o, b1, H2.r0, hF2.o, d_size hF2, xob_some, cond_true, t_10, t_00, ne_eq, not_true_eq_false, not_false_eq_true, if_true, if_false]
      · obtain ⟨ob, e0, h5, h28, hR, -⟩ := id M
        obtain ⟨T1, a1, M1, f1, f1'⟩ := M.keeps (P := P)
        obtain ⟨ob', -, -, -, -, -, ⟨-, g', hg', hg2'⟩, -⟩ := id M
        obtain ⟨ob1, e1, -, -, hR1', -, ⟨⟨f', hf', hf2'⟩, -⟩, -⟩ := id M1
        have q := hf2' o ho G hm
        obtain ⟨-, h, hh, -⟩ := id hR1'
        obtain ⟨T2, b1, b2, b3⟩ := l_take (P := P) e1 q.1 ho hf' q.2 hh
        obtain ⟨M2, f2⟩ := M1.row b3 b2
        refine ⟨T2, xcI_of ((e_X11_take_0 P m (iI o) S').trans ?_), M2, f1'.tr f2⟩
        have rd : xrdB S' (m + 6) (iI (o : Int)) = some (iI 1) := by
          rw [xrdB_at2 hg' (by omega) (by omega) (by omega), Int.toNat_natCast, hg2' o ho, hm]; rfl
        simp only [g_inM i1 i2 (show -2147483648 ≤ 0 by decide) (show 0 < 2147483648 by decide) (show -2147483648 ≤ 2 by decide) (show 2 < 2147483648 by decide), if_pos ci, e0.r7, rd, e0.o, a1, xob_some, cond_true, t_10, t_00, ne_eq, not_true_eq_false, not_false_eq_true, if_true, if_false]
        exact b1
  · refine ⟨iI (-1), A, ⟨S, xcI_of ((e_X10_take_0 P x (iI i) S).trans ?_), H, xfr.rf⟩, fun S' M => ?_⟩
    · simp only [d_isMark i1 i2, if_neg ci, xob_some, cond_true, t_10, t_00, ne_eq, not_true_eq_false, not_false_eq_true, if_true, if_false]
    · refine ⟨S', xcI_of ((e_X11_take_0 P m (iI i) S').trans ?_), M, xfr.rf⟩
      simp only [g_inM i1 i2 (show -2147483648 ≤ 0 by decide) (show 0 < 2147483648 by decide) (show -2147483648 ≤ 2 by decide) (show 2 < 2147483648 by decide), if_neg ci, xob_some, cond_true, t_10, t_00, ne_eq, not_true_eq_false, not_false_eq_true, if_true, if_false]
theorem l_undo {a : Nat} (M : xMo S m ob) (ok : xFok F) (h5 : ob 5 = .int (iI a)) (ha : a < 12) {f h : Nat → Int32} (hf : S.1 (m + 4) = some (.inr (0, (156, .inl f)))) (hf2 : ∀ k, k < 13 → f (13 * a + k) = iI (xrw F k)) (hh : S.1 (m + 1) = some (.inr (0, (13, .inl h)))) : ∃ T, xrun P m_X11_undo 21 [(0, .ref m), (1, .int (iI 0))] [] S = some (some (.int (iI (a : Int))), T) ∧ xRo T (m + 1) F ∧ xfr S T (fun c => c = m + 1) := by
  have key := xloopQ (run := fun v (Z : xS) => xrun P m_X11_undo 21 [(0, .ref m), (1, .int (iI v))] [] Z)
    (Inv := fun v Z => xfr S Z (fun c => c = m + 1) ∧ ∃ h, Z.1 (m + 1) = some (.inr (0, (13, .inl h))) ∧ ∀ k, k < v → h k = iI (xrw F k))
    (fun res => ∃ T, res = some (some (.int (iI (a : Int))), T) ∧ xRo T (m + 1) F ∧ xfr S T (fun c => c = m + 1)) 0 13 (by decide) (by
      rintro v Z - hv ⟨fZ, h, hh, h1⟩
      right
      have MZ := M.fr fZ (by omega)
      have hfZ := (fZ.2 _ (by omega)).trans hf
      obtain ⟨Z1, w1, w2, w3⟩ := xwrI_fr (v := iI (xrw F v)) hh (i := (v : Int)) (by omega) (by omega) (by omega)
      rw [Int.toNat_natCast] at w2
      refine ⟨Z1, ?_, fZ.tr w3, _, w2, fun k hk2 => ?_⟩
      · have e1 : iI 13 * iI (a : Int) + iI (v : Int) = iI ((13 * a + v : Nat) : Int) := by rw [iI_mul, iI_add]; congr 1
        have rd : xrdI Z (m + 4) (iI ((13 * a + v : Nat) : Int)) = some (iI (xrw F v)) := by rw [xrdI_at hfZ (by omega) (by omega) (by omega), Int.toNat_natCast, hf2 v hv]
        rw [e_X11_undo_21, if_neg (by rw [iI_le (by omega) (by omega) (by omega) (by omega)]; omega)]
        simp only [MZ.r4, MZ.r1, MZ.i (show 5 < 35 by decide) h5, e1, rd, w1, xob_some, iI_suc]
      · rw [va_up_at]
        by_cases c : k = v
        · rw [if_pos c, c]
        · rw [if_neg c]
          exact h1 k (by omega)) (by
      rintro Z ⟨fZ, h, hh, h1⟩
      have MZ := M.fr fZ (by omega)
      refine ⟨Z, ?_, ⟨ok, h, hh, h1⟩, fZ⟩
      rw [e_X11_undo_21, if_pos (by decide +kernel)]
      simp only [MZ.i (show 5 < 35 by decide) h5, xob_some]) (s := S) ⟨xfr.rf, h, hh, fun k hk => absurd hk (by omega)⟩
  exact key
theorem xCl.hn {hs : List xF} (H : xCl S x A) (hf : xfr S T (fun b => xrg (x + 18) 38 b ∨ x3 (x + 1) b)) (h : xHi T (x + 18) hs) (hF : xFd T (x + 1) F) : xCl T x (F, hs, A.2.2) ∧ xfr S T (xrg x 89) := by
  obtain ⟨e0, e1, e2, e3, e4, e5, ⟨p, q, e6⟩, e7, e8, e9, e10, ⟨p', q', r', e11⟩⟩ := H
  have n : ∀ b, ¬ (xrg (x + 18) 38 b ∨ x3 (x + 1) b) ↔ ¬ ((x + 18 ≤ b ∧ b < x + 18 + 38) ∨ (x + 1 ≤ b ∧ b ≤ x + 1 + 2)) := fun b => Iff.rfl
  exact ⟨⟨(hf.2 _ ((n _).mpr (by omega))).trans e0, hF, e2.fr hf (fun b hb => (n b).mpr (by unfold x3 at hb; omega)), e3.fr hf (fun b hb => (n b).mpr (by unfold xrg at hb; omega)), h, e5.fr hf (fun b hb => (n b).mpr (by unfold xrg at hb; omega)), ⟨p, q, (hf.2 _ ((n _).mpr (by omega))).trans e6⟩, e7.fr hf (fun b hb => (n b).mpr (by unfold xrg at hb; omega)), e8.fr hf (fun b hb => (n b).mpr (by unfold x3 at hb; omega)), e9.fr hf (fun b hb => (n b).mpr (by unfold xrg at hb; omega)), e10.fr hf (fun b hb => (n b).mpr (by unfold xrg at hb; omega)), ⟨p', q', r', (hf.2 _ ((n _).mpr (by omega))).trans e11⟩⟩, hf.mono (fun b hb => by unfold xrg x3 at hb; unfold xrg; omega)⟩
theorem z_undo (H : xCl S x A) : ∃ z A', xKI P S x m_X10_undo [] z A' ∧ ∀ S', xMl S' m A → xGI P S' m m_X11_undo [] z A' := by
  have hF := H.2.1
  have hk := hF.1.1
  have hs := d_hsize (P := P) H.hi
  rcases hA : A.2.1 with _ | ⟨F, hs'⟩
  · rw [hA] at hs
    have hs0 : xcI P m_X1_size [.ref (x + 18)] S = some (iI 0, S) := hs
    refine ⟨iI (-1), A, ⟨S, xcI_of ((e_X10_undo_0 P x S).trans ?_), H, xfr.rf⟩, fun S' M => ?_⟩
    · simp only [H.r4, H.ho, hs0, xob_some, cond_true, t_10, t_00, ne_eq, not_true_eq_false, not_false_eq_true, if_true, if_false]
    · obtain ⟨ob, e0, h5, h28, hR, -⟩ := id M
      rw [hA] at h5
      have h5' : ob 5 = .int (iI 0) := h5
      refine ⟨S', xcI_of ((e_X11_undo_0 P m S').trans ?_), M, xfr.rf⟩
      simp only [e0.i (show 5 < 35 by decide) h5', xob_some, cond_true, t_10, t_00, ne_eq, not_true_eq_false, not_false_eq_true, if_true, if_false]
  · have hl : A.2.1.length ≤ 12 := H.hi.1
    have hi := H.hi
    rw [hA] at hs hi hl
    rw [List.length_cons] at hs hl
    have nz : (iI ((hs'.length + 1 : Nat) : Int) = 0) = False := t_nz (by omega) (by omega) (by omega)
    refine ⟨iI (hs'.length : Int), (F, hs', A.2.2), ?_, fun S' M => ?_⟩
    · obtain ⟨-, f0, g0, z0, -⟩ := id hF
      obtain ⟨T1, a1, a2, a3, a4⟩ := d_pop (P := P) hi z0 (by omega)
      obtain ⟨H1, f1⟩ := H.hn a4 a2 a3
      have s1 := d_hsize (P := P) a2
      refine ⟨T1, xcI_of ((e_X10_undo_0 P x S).trans ?_), H1, f1⟩
      simp only [H.r4, H.r0, H.ho, hs, nz, a1, H1.r4, H1.ho, s1, xob_some, cond_true, t_10, t_00, ne_eq, not_true_eq_false, not_false_eq_true, if_true, if_false]
    · obtain ⟨ob, e0, h5, h28, hR, -⟩ := id M
      obtain ⟨ob', -, -, -, -, hB, -⟩ := id M
      obtain ⟨-, f, hf, hh⟩ := hB
      simp only [hA] at hh
      have h5' : ob 5 = .int (iI ((hs'.length + 1 : Nat) : Int)) := by rw [h5, hA, List.length_cons]
      obtain ⟨T1, p1, p2, p3⟩ := e0.put (k := 5) (by decide) (by decide) (tag := 0) (v := .int (iI ((hs'.length + 1 : Nat) : Int) - iI 1)) rfl
      have hf1 : T1.1 (m + 4) = some (.inr (0, (156, .inl f))) := (p3.2 _ (by omega)).trans hf
      have q5 : va_up ob 5 (.int (iI ((hs'.length + 1 : Nat) : Int) - iI 1)) 5 = .int (iI (hs'.length : Int)) := by rw [va_up_at, if_pos rfl, iI_pre]
      have h0 := hh 0 (by rw [List.length_cons]; omega)
      rw [List.getElem_cons_zero] at h0
      have B : xBf T1 (m + 4) hs' := ⟨by omega, f, hf1, fun i hi => by
        have g := hh (i + 1) (by rw [List.length_cons]; omega)
        rw [List.getElem_cons_succ] at g
        refine ⟨g.1, fun k hk2 => ?_⟩
        rw [← g.2 k hk2]
        congr 1
        rw [List.length_cons]
        omega⟩
      obtain ⟨M1, f1⟩ := M.bef e0 (p3.mono (fun b hb => Or.inl hb)) p2 (fun k hk2 => by rw [va_up_at, if_neg hk2]) q5 B
      obtain ⟨-, h, hh1, -⟩ := hR.fr p3 (by omega)
      obtain ⟨T2, b1, b2, b3⟩ := l_undo (P := P) (a := hs'.length) p2 h0.1 q5 (by omega) hf1 (fun k hk2 => by
        rw [← h0.2 k hk2]
        congr 1) hh1
      obtain ⟨M2, f2⟩ := M1.row b3 b2
      refine ⟨T2, xcI_of ((e_X11_undo_0 P m S').trans ?_), M2, f1.tr f2⟩
      simp only [e0.i (show 5 < 35 by decide) h5', nz, p1, xob_some, cond_true, t_10, t_00, ne_eq, not_true_eq_false, not_false_eq_true, if_true, if_false]
      exact b1
end A2
