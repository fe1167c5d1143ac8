-- deps: 61.out
/-! without -/
section WO
variable {P : Nat → Nat} {S : xS} {x m : Nat} {A : xAb} {ob ob0 : Nat → Value} {F : xF}
theorem xMl.gen {T : xS} {ob1 : Nat → Value} (M : xMl S m A) (hf : xfr S T (fun b => b = m ∨ b = m + 1 ∨ b = m + 2 ∨ b = m + 3)) (hn : xMo T m ob1) (hr : xRo T (m + 1) A.1) (h2 : xIr T (m + 2) 13) (h3 : xIr T (m + 3) 13) (h5 : ob1 5 = .int (iI A.2.1.length)) (h28 : ob1 28 = .int (iI A.2.2.2.1)) : xMl T m A ∧ xfr S T (xrg m 19) := by
  obtain ⟨ob, e0, e1, e2, e3, e4, e5, e6, e7, g1, g2, g3, g4, g5, g6, g7, g8, g9, g10, g11, g12⟩ := M
  exact ⟨⟨ob1, hn, h5, h28, hr, e4.fr hf (by omega), e5.fr hf (by omega) (by omega), e6.fr hf (by omega), e7.fr hf (by omega), h2, h3, g3.fr hf (by omega), g4.fr hf (by omega), g5.fr hf (by omega), g6.fr hf (by omega), g7.fr hf (by omega), g8.fr hf (by omega), g9.fr hf (by omega), g10.fr hf (by omega), g11.fr hf (by omega), g12.fr hf (by omega)⟩, hf.mono (fun b hb => ⟨by omega, by omega⟩)⟩
theorem xMl.i2 (M : xMl S m A) : xIr S (m + 2) 13 := by
  obtain ⟨ob, e0, e1, e2, e3, e4, e5, e6, e7, g1, -⟩ := M
  exact g1
theorem xMl.i3 (M : xMl S m A) : xIr S (m + 3) 13 := by
  obtain ⟨ob, e0, e1, e2, e3, e4, e5, e6, e7, g1, g2, -⟩ := M
  exact g2
theorem xCl.trem (H : xCl S x A) (hF : xFd S (x + 4) F) {j : Nat} (hj : j < F.1) : ∃ T, xcV P m_X0_remove [.ref (x + 4), .int (iI j)] S = some T ∧ xFd T (x + 4) (xout F j) ∧ xCl T x A ∧ xfr S T (x3 (x + 4)) ∧ xfr S T (xrg x 89) := by
  obtain ⟨T, k1, k2, k3⟩ := d_remove (P := P) hF hj
  obtain ⟨c1, c2⟩ := H.tp (k3.mono (fun b hb => Or.inl hb)) k2.a (H.2.2.2.2.2.2.2.2.2.1.fr k3 (fun b hb => by unfold xrg at hb; unfold x3; omega))
  exact ⟨T, k1, k2, c1, k3, c2⟩
theorem z_without (H : xCl S x A) {i j w : Int} (i1 : -2147483648 ≤ i) (i2 : i < 2147483648) (j1 : -2147483648 ≤ j) (j2 : j < 2147483648) (w1 : -2147483648 ≤ w) (w2 : w < 2147483648) : ∃ z A', xKI P S x m_X10_without [.int (iI i), .int (iI j), .int (iI w)] z A' ∧ ∀ S', xMl S' m A → xGI P S' m m_X11_without [.int (iI i), .int (iI j), .int (iI w)] z A' := by
  have hF := H.2.1
  have hk := hF.1.1
  by_cases cb : 0 ≤ i ∧ i < A.1.1 ∧ 0 ≤ j ∧ j < A.1.1 ∧ i ≠ j
  · obtain ⟨r, rfl⟩ : ∃ r : Nat, i = r := ⟨i.toNat, by omega⟩
    obtain ⟨o, rfl⟩ : ∃ o : Nat, j = o := ⟨j.toNat, by omega⟩
    have hr : r < A.1.1 := by omega
    have ho : o < A.1.1 := by omega
    by_cases cw : 0 ≤ w ∧ w ≤ 3
    · obtain ⟨r', er⟩ : ∃ r' : Nat, r' = if r ≤ o then r else r - 1 := ⟨_, rfl⟩
      have hr' : r' < (xout A.1 o).1 := by
        show r' < A.1.1 - 1
        rw [er]
        split <;> omega
      have ot : xisO S (x + 4) 0 = true := by
        obtain ⟨k0, f, g, z⟩ := H.2.2.1
        exact xisO_at z.2.1
      have le : (iI r ≤ iI o) ↔ r ≤ o := by rw [iI_le (by omega) (by omega) (by omega) (by omega)]; omega
      refine ⟨iI (xTell (xout A.1 o) r' w), A, ?_, fun S' M => ?_⟩
      · obtain ⟨T1, a1, a2, H1, -, f1⟩ := H.try (P := P)
        obtain ⟨T2, b1, b2, H2, -, f2⟩ := H1.trem (P := P) a2 ho
        obtain ⟨kh, kp, hP⟩ := H2.px
        obtain ⟨T3, u, e, s1, -, -, -, -, s2, s3, H3, -, f3, -, s4, -⟩ := H2.seek (P := P) b2 (Or.inr rfl) hr' hP
        refine ⟨T3, xcI_of ((e_X10_without_0 P x (iI r) (iI o) (iI w) S).trans ?_), H3, (f1.tr f2).tr f3⟩
        simp only [H.r0, H.r1, hF.o, d_hasBoth hF i1 i2 j1 j2, if_pos cb, d_isPartB w1 w2, if_pos cw, ot, a1, H1.r1, a2.o, b1, H2.r9, H2.r1, xob_some, cond_true, t_10, t_00, ne_eq, not_true_eq_false, not_false_eq_true, if_true, if_false]
        by_cases c : r ≤ o
        · rw [if_pos c] at er
          subst er
          rw [if_pos (le.mpr c), hP.o, cond_true, s1, xob_some, H3.r9, xob_some, s3.o, cond_true, s4 w cw.1 cw.2, xob_some]
        · rw [if_neg c] at er
          have e1 : iI (r : Int) - iI 1 = iI (r' : Int) := by rw [iI_sub]; congr 1; omega
          rw [if_neg (fun z => c (le.mp z)), hP.o, cond_true, e1, s1, xob_some, H3.r9, xob_some, s3.o, cond_true, s4 w cw.1 cw.2, xob_some]
      · obtain ⟨ob, e0, h5, h28, hR, -⟩ := id M
        obtain ⟨Y1, y1, RL, fY1⟩ := g_copyRow (P := P) (show m + 1 ≠ m + 3 by omega) hR M.i3
        have E1 := e0.fr fY1 (by omega)
        obtain ⟨Y2, y2, RO, fY2⟩ := g_takesOut (P := P) E1 (hR.fr fY1 (by omega)) ho
        have E2 := E1.fr fY2 (by omega)
        obtain ⟨Y3, k1, k2⟩ := g_looks (P := P) E2 RO hr'
        obtain ⟨N, q, ob1, M2, -, -, -, -, -, -, -, hk2, hf3, tell⟩ := k2.use (P := P) (show (xout A.1 o).1 ≤ 6 by show A.1.1 - 1 ≤ 6; omega)
        have RL3 := (RL.fr fY2 (by omega)).fr hf3 (by omega)
        obtain ⟨Y4, y4, RN, fY4⟩ := g_copyRow (P := P) (show m + 3 ≠ m + 1 by omega) RL3 (RO.fr hf3 (by omega)).ir
        have E4 := M2.fr fY4 (by omega)
        have RL4 := RL3.fr fY4 (by omega)
        have fall : xfr S' Y4 (fun b => b = m ∨ b = m + 1 ∨ b = m + 2 ∨ b = m + 3) := (((fY1.mono (fun b hb => by omega)).tr (fY2.mono (fun b hb => by omega))).tr (hf3.mono (fun b hb => Or.inl hb))).tr (fY4.mono (fun b hb => by omega))
        have i2 : xIr Y4 (m + 2) 13 := (((M.i2.fr fY1 (by omega)).fr fY2 (by omega)).fr hf3 (by omega)).fr fY4 (by omega)
        obtain ⟨MM, ff⟩ := M.gen fall E4 RN i2 RL4.ir ((hk2 5 (by decide) (by decide) (by decide) (by decide)).trans h5) ((hk2 28 (by decide) (by decide) (by decide) (by decide)).trans h28)
        refine ⟨Y4, xcI_of ((e_X11_without_0 P m (iI r) (iI o) (iI w) S').trans ?_), MM, ff⟩
        simp only [e0.o, g_areTwo e0 hR i1 (by omega) j1 j2, if_pos cb, g_isPart w1 w2, if_pos cw, e0.r1, e0.r3, y1, E1.o, y2, xob_some, cond_true, t_10, t_00, ne_eq, not_true_eq_false, not_false_eq_true, if_true, if_false]
        by_cases c : r ≤ o
        · rw [if_pos c] at er
          subst er
          rw [if_pos (le.mpr c)]
          simp only [E2.o, k1, M2.r1, M2.r3, y4, E4.o, tell Y4 w cw.1 cw.2 E4, xob_some, cond_true]
        · rw [if_neg c] at er
          have e1 : iI (r : Int) - iI 1 = iI (r' : Int) := by rw [iI_sub]; congr 1; omega
          rw [if_neg (fun z => c (le.mp z))]
          simp only [E2.o, e1, k1, M2.r1, M2.r3, y4, E4.o, tell Y4 w cw.1 cw.2 E4, xob_some, cond_true]
    · refine ⟨iI (-1), A, ⟨S, xcI_of ((e_X10_without_0 P x (iI r) (iI o) (iI w) S).trans ?_), H, xfr.rf⟩, fun S' M => ?_⟩
      · simp only [H.r0, hF.o, d_hasBoth hF i1 i2 j1 j2, if_pos cb, d_isPartB w1 w2, if_neg cw, xob_some, cond_true, t_10, t_00, ne_eq, not_true_eq_false, not_false_eq_true, if_true, if_false]
      · obtain ⟨ob, e0, h5, h28, hR, -⟩ := id M
        refine ⟨S', xcI_of ((e_X11_without_0 P m (iI r) (iI o) (iI w) S').trans ?_), M, xfr.rf⟩
        simp only [e0.o, g_areTwo e0 hR i1 i2 j1 j2, if_pos cb, g_isPart w1 w2, if_neg cw, xob_some, cond_true, t_10, t_00, ne_eq, not_true_eq_false, not_false_eq_true, if_true, if_false]
  · refine ⟨iI (-1), A, ⟨S, xcI_of ((e_X10_without_0 P x (iI i) (iI j) (iI w) S).trans ?_), H, xfr.rf⟩, fun S' M => ?_⟩
    · simp only [H.r0, hF.o, d_hasBoth hF i1 i2 j1 j2, if_neg cb, xob_some, cond_true, t_10, t_00, ne_eq, not_true_eq_false, not_false_eq_true, if_true, if_false]
    · obtain ⟨ob, e0, h5, h28, hR, -⟩ := id M
      refine ⟨S', xcI_of ((e_X11_without_0 P m (iI i) (iI j) (iI w) S').trans ?_), M, xfr.rf⟩
      simp only [e0.o, g_areTwo e0 hR i1 i2 j1 j2, if_neg cb, xob_some, cond_true, t_10, t_00, ne_eq, not_true_eq_false, not_false_eq_true, if_true, if_false]
end WO
