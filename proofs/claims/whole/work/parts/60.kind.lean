-- deps: 59.best3
/-! harsh, kindest, kindestStart, loneliest -/
noncomputable def xW (F : xF) (i : Nat) : Int := xfN F i (xbT F i)
theorem xW_bd (F : xF) (i : Nat) : 0 ≤ xW F i ∧ xW F i ≤ 6 * xLL := xfN_bd F i _
theorem xCmp_bd (F : xF) (i : Nat) : -1 ≤ xCmp F i ∧ xCmp F i ≤ 1 := by
  unfold xCmp
  repeat' split
  all_goals omega
/-- the same row but for one number -/
def xbut (G F : xF) (b : Bool) (j : Nat) : Prop := G.1 = F.1 ∧ ∀ v, xse G b j v = xse F b j v
theorem xbut.rf (F : xF) (b : Bool) (j : Nat) : xbut F F b j := ⟨rfl, fun _ => rfl⟩
theorem xbut.se (F : xF) (b : Bool) (j : Nat) (v : Int) : xbut (xse F b j v) F b j := ⟨xse_1 F b j v, fun w => xse_se F b j v w⟩
section KD
variable {P : Nat → Nat} {S : xS} {x m : Nat} {A : xAb} {ob ob0 : Nat → Value} {F : xF}
theorem z_harsh (H : xCl S x A) {i j : Int} (i1 : -2147483648 ≤ i) (i2 : i < 2147483648) (j1 : -2147483648 ≤ j) (j2 : j < 2147483648) : ∃ z A', xKI P S x m_X10_harsh [.int (iI i), .int (iI j)] z A' ∧ ∀ S', xMl S' m A → xGI P S' m m_X11_harsh [.int (iI i), .int (iI j)] z A' := by
  have hF := H.2.1
  have hk := hF.1.1
  by_cases cb : 0 ≤ i ∧ i < A.1.1 ∧ 0 ≤ j ∧ j < A.1.1 ∧ i ≠ j
  · obtain ⟨r, rfl⟩ : ∃ r : Nat, i = r := ⟨i.toNat, by omega⟩
    obtain ⟨o, rfl⟩ : ∃ o : Nat, j = o := ⟨j.toNat, by omega⟩
    have hr : r < A.1.1 := by omega
    have ho : o < A.1.1 := by omega
    have k2 : 2 ≤ A.1.1 := by omega
    have ot : xisO S (x + 4) 0 = true := by
      obtain ⟨k0, f, g, z⟩ := H.2.2.1
      exact xisO_at z.2.1
    have tg : ∀ v, xTg (xse A.1 false o v) r = 0 ↔ ¬ 0 ≤ xCmp (xse A.1 false o v) r := by
      intro v
      have := xCmp_bd (xse A.1 false o v) r
      unfold xTg
      rw [if_neg (by rw [xse_1]; omega)]
      omega
    refine ⟨iI (xct (fun v => decide (xTg (xse A.1 false o v) r = 0)) 41 : Nat), A, ?_, fun S' M => ?_⟩
    · obtain ⟨T1, a1, a2, H1, -, f1⟩ := H.try (P := P)
      have key := xloopQ (run := fun v (Z : xS) => xrun P m_X10_harsh 30 [(0, .ref x), (1, .int (iI r)), (2, .int (iI o)), (3, .int (iI (xct (fun v => decide (xTg (xse A.1 false o v) r = 0)) v : Nat))), (4, .int (iI v))] [] Z)
        (Inv := fun _ Z => xCl Z x A ∧ xfr S Z (xrg x 89) ∧ ∃ G, xFd Z (x + 4) G ∧ xbut G A.1 false o)
        (fun res => ∃ T, res = some (some (.int (iI (xct (fun v => decide (xTg (xse A.1 false o v) r = 0)) 41 : Nat))), T) ∧ xCl T x A ∧ xfr S T (xrg x 89)) 0 41 (by decide) (by
          rintro v Z - hv ⟨HZ, fZ, G, hG, hb⟩
          right
          obtain ⟨T2, b1, b2, H2, -, f2⟩ := HZ.tset (P := P) hG (j := o) (by rw [hb.1]; exact ho) (show 0 ≤ (v : Int) by omega) (by omega)
          rw [hb.2] at b2
          obtain ⟨kh, kp, hP⟩ := H2.px
          obtain ⟨T3, u, e, s1, -, -, -, -, s2, s3, H3, f3', f3, -, -, s5⟩ := H2.seek (P := P) b2 (Or.inr rfl) (by rw [xse_1]; exact hr) hP
          have b3 := b2.fr f3' (fun c hc => by unfold x3 at hc; unfold xrg; omega)
          rw [xse_1] at s5
          have cb := xCmp_bd (xse A.1 false o v) r
          refine ⟨T3, ?_, H3, (fZ.tr f2).tr f3, _, b3, xbut.se A.1 false o v⟩
          have sz : xcI P m_X0_size [.ref (x + 4)] T3 = some (iI A.1.1, T3) := by
            have := d_size (P := P) b3
            rw [xse_1] at this
            exact this
          rw [e_X10_harsh_30, if_neg (by rw [iI_lt (by omega) (by omega) (by omega) (by omega)]; omega)]
          simp only [HZ.r1, hG.o, b1, H2.r9, H2.r1, hP.o, s1, H3.r9, H3.r1, b3.o, sz, s3.o, s5, iI_suc, xob_some, cond_true, xct]
          have e0 : (0 ≤ iI (xCmp (xse A.1 false o v) r)) ↔ 0 ≤ xCmp (xse A.1 false o v) r := by rw [iI_0, iI_le (by decide) (by decide) (by omega) (by omega)]
          by_cases c : xTg (xse A.1 false o v) r = 0
          · rw [if_neg (by rw [e0]; exact (tg v).mp c), if_pos (by simpa using c)]
          · rw [if_pos (by rw [e0]; exact Classical.byContradiction (fun z => c ((tg v).mpr z))), if_neg (by simpa using c)]
            rfl) (by
          rintro Z ⟨HZ, fZ, -⟩
          refine ⟨Z, ?_, HZ, fZ⟩
          rw [e_X10_harsh_30, if_pos (by decide +kernel)]) (s := T1) ⟨H1, f1, A.1, a2, xbut.rf _ _ _⟩
      obtain ⟨T, t1, t2, t3⟩ := key
      refine ⟨T, xcI_of ((e_X10_harsh_0 P x (iI r) (iI o) S).trans ?_), t2, t3⟩
      simp only [H.r0, H.r1, hF.o, d_hasBoth hF i1 i2 j1 j2, if_pos cb, ot, a1, xob_some, cond_true, t_10, t_00, ne_eq, not_true_eq_false, not_false_eq_true, if_true, if_false]
      exact t1
    · obtain ⟨ob, e0, h5, h28, hR, -⟩ := id M
      have cu := xcur_bd hF.1 (b := false) ho
      have key := xloopQ (run := fun v (Z : xS) => xrun P m_X11_harsh 23 [(0, .ref m), (1, .int (iI r)), (2, .int (iI o)), (3, .int (iI (xcur A.1 false o))), (4, .int (iI (xct (fun v => decide (xTg (xse A.1 false o v) r = 0)) v : Nat))), (5, .int (iI v))] [] Z)
        (Inv := fun _ Z => xfr S' Z (fun b => b = m ∨ b = m + 1) ∧ (∃ ob1, xMo Z m ob1 ∧ (∀ k, k ≠ 9 → k ≠ 10 → k ≠ 11 → k ≠ 12 → ob1 k = ob k)) ∧ ∃ G, xRo Z (m + 1) G ∧ xbut G A.1 false o)
        (fun res => ∃ T, res = some (some (.int (iI (xct (fun v => decide (xTg (xse A.1 false o v) r = 0)) 41 : Nat))), T) ∧ xMl T m A ∧ xfr S' T (xrg m 19)) 0 41 (by decide) (by
          rintro v Z - hv ⟨fZ, ⟨ob1, hM1, hk1⟩, G, hG, hb⟩
          right
          obtain ⟨Y1, w1', RY1, fY1⟩ := hG.se (b := false) (j := o) (by rw [hb.1]; exact ho) (show 0 ≤ (v : Int) by omega) (show (v : Int) ≤ 40 by omega)
          rw [hb.2] at RY1
          have eY1 := hM1.fr fY1 (by omega)
          obtain ⟨Y2, ob2, t1, M2, hk2, hf2⟩ := g_tightness (P := P) eY1 RY1 (i := r) (by rw [xse_1]; exact hr)
          have tb := xTg_bd (xse A.1 false o v) r
          refine ⟨Y2, ?_, (fZ.tr (fY1.mono (fun b hb => Or.inr hb))).tr (hf2.mono (fun b hb => Or.inl hb)), ⟨ob2, M2, fun k a b c d => (hk2 k a b c d).trans (hk1 k a b c d)⟩, _, RY1.fr hf2 (by omega), xbut.se A.1 false o v⟩
          have ei : iI 1 + iI (o : Int) = iI (xix false o : Nat) := by rw [iI_add]; rfl
          rw [e_X11_harsh_23, if_neg (by rw [iI_lt (by omega) (by omega) (by omega) (by omega)]; omega)]
          simp only [hM1.r1, ei, w1', eY1.o, t1, iI_suc, xob_some, cond_true, xct]
          have e0 : (iI (xTg (xse A.1 false o v) r) ≠ 0) ↔ xTg (xse A.1 false o v) r ≠ 0 := by rw [ne_eq, iI_0, iI_eq (by omega) (by omega) (by decide) (by decide)]
          by_cases c : xTg (xse A.1 false o v) r = 0
          · rw [if_neg (by rw [e0]; omega), if_pos (by simpa using c)]
          · rw [if_pos (by rw [e0]; exact c), if_neg (by simpa using c)]
            rfl) (by
          rintro Z ⟨fZ, ⟨ob1, hM1, hk1⟩, G, hG, hb⟩
          obtain ⟨Y3, w3', RY3, fY3⟩ := hG.se (b := false) (j := o) (by rw [hb.1]; exact ho) cu.1 cu.2
          rw [hb.2, xse_id] at RY3
          have M3 := hM1.fr fY3 (by omega)
          obtain ⟨MM, ff⟩ := M.num (fZ.tr (fY3.mono (fun b hb => Or.inr hb))) M3 RY3 ((hk1 5 (by decide) (by decide) (by decide) (by decide)).trans h5) ((hk1 28 (by decide) (by decide) (by decide) (by decide)).trans h28)
          refine ⟨Y3, ?_, MM, ff⟩
          have ei : iI 1 + iI (o : Int) = iI (xix false o : Nat) := by rw [iI_add]; rfl
          rw [e_X11_harsh_23, if_pos (by decide +kernel), hM1.r1, xob_some, ei, w3', xob_some]) (s := S') ⟨xfr.rf, ⟨ob, e0, fun _ _ _ _ _ => rfl⟩, A.1, hR, xbut.rf _ _ _⟩
      obtain ⟨T, t1, t2, t3⟩ := key
      refine ⟨T, xcI_of ((e_X11_harsh_0 P m (iI r) (iI o) S').trans ?_), t2, t3⟩
      have ec : A.1.2.1 o = xcur A.1 false o := rfl
      simp only [e0.o, g_areTwo e0 hR i1 i2 j1 j2, if_pos cb, g_speedOf e0 hR ho, ec, xob_some, cond_true, t_10, t_00, ne_eq, not_true_eq_false, not_false_eq_true, if_true, if_false]
      exact t1
  · refine ⟨iI (-1), A, ⟨S, xcI_of ((e_X10_harsh_0 P x (iI i) (iI j) S).trans ?_), H, xfr.rf⟩, fun S' M => ?_⟩
    · simp only [H.r0, hF.o, d_hasBoth hF i1 i2 j1 j2, if_neg cb, xob_some, cond_true, t_10, t_00, ne_eq, not_true_eq_false, not_false_eq_true, if_true, if_false]
    · obtain ⟨ob, e0, h5, h28, hR, -⟩ := id M
      refine ⟨S', xcI_of ((e_X11_harsh_0 P m (iI i) (iI j) S').trans ?_), M, xfr.rf⟩
      simp only [e0.o, g_areTwo e0 hR i1 i2 j1 j2, if_neg cb, xob_some, cond_true, t_10, t_00, ne_eq, not_true_eq_false, not_false_eq_true, if_true, if_false]
/-- the kindest so far: how high, at which number -/
noncomputable def xkf (F : xF) (i : Nat) (b : Bool) (j : Nat) : Nat → Int × Int := xfo (fun v s => if s.1 < xW (xse F b j v) i then (xW (xse F b j v) i, (v : Int)) else s) (-(12 * xLL), 0)
theorem xkf_suc (F : xF) (i : Nat) (b : Bool) (j v : Nat) : xkf F i b j (v + 1) = if (xkf F i b j v).1 < xW (xse F b j v) i then (xW (xse F b j v) i, (v : Int)) else xkf F i b j v := rfl
theorem xkf_bd (F : xF) (i : Nat) (b : Bool) (j : Nat) : ∀ v, 0 ≤ (xkf F i b j v).2 ∧ (xkf F i b j v).2 ≤ v := by
  intro v
  induction v with
  | zero => exact ⟨Int.le_refl _, Int.le_refl _⟩
  | succ v ih =>
    rw [xkf_suc]
    split
    · dsimp only; omega
    · omega
theorem x_h12 {N e W : Int} (h : N * xLL = W * e) : N * (12 * xLL) = W * (12 * e) := by
  rw [show N * (12 * xLL) = 12 * (N * xLL) by ac_rfl, h]
  ac_rfl
theorem k_kindestNumber (H : xCl S x A) {r o : Nat} (hr : r < A.1.1) (ho : o < A.1.1) (b : Bool) : xKI P S x m_X10_kindestNumber [.int (iI r), .int (iI o), .int (iI (xmxv b)), .int (iI (xb b))] (iI (xkf A.1 r b o (xmxv b + 1).toNat).2) A := by
  have hF := H.2.1
  have hk := hF.1.1
  have hL := xLL_pos
  have mx : 11 ≤ xmxv b ∧ xmxv b ≤ 40 := by unfold xmxv; cases b <;> decide
  have ot : xisO S (x + 4) 0 = true := by
    obtain ⟨k0, f, g, z⟩ := H.2.2.1
    exact xisO_at z.2.1
  obtain ⟨T1, a1, a2, H1, f1', f1⟩ := H.try (P := P)
  obtain ⟨kh0, kp0, hP0⟩ := H1.px
  obtain ⟨⟨_, _, _, _, hPk0⟩, hO0⟩ := id hP0
  obtain ⟨T2, c1, c2, c3⟩ := d_forgetBetter (P := P) hPk0
  have hP2 : xPr T2 (x + 64) (-1) 1 := ⟨⟨_, _, _, _, c2⟩, by
    obtain ⟨n, f, g, z⟩ := hO0
    exact ⟨n, f, g, z.fr c3 (fun b hb => by unfold x3 at hb; omega)⟩⟩
  obtain ⟨H2, f2⟩ := H1.pk (c3.mono (fun b hb => by unfold xrg; omega)) ⟨_, _, hP2⟩
  have a3 := a2.fr c3 (fun b hb => by unfold x3 at hb; omega)
  have key := xloopQ (run := fun v (Z : xS) => xrun P m_X10_kindestNumber 24 [(0, .ref x), (1, .int (iI r)), (2, .int (iI o)), (3, .int (iI (xmxv b))), (4, .int (iI (xb b))), (5, .int (iI (xkf A.1 r b o v).2)), (6, .int (iI v))] [] Z)
    (Inv := fun v Z => xCl Z x A ∧ xfr S Z (xrg x 89) ∧ (∃ G, xFd Z (x + 4) G ∧ xbut G A.1 b o) ∧ ∃ kh kp, xPr Z (x + 64) kh kp ∧ -1 ≤ kh ∧ kh ≤ 1000 ∧ 1 ≤ kp ∧ kp ≤ 1000 ∧ kh * (12 * xLL) = (xkf A.1 r b o v).1 * kp)
    (fun res => ∃ T, res = some (some (.int (iI (xkf A.1 r b o (xmxv b + 1).toNat).2)), T) ∧ xCl T x A ∧ xfr S T (xrg x 89)) 0 (xmxv b + 1).toNat (Nat.zero_le _) (by
      rintro v Z - hv ⟨HZ, fZ, ⟨G, hG, hb⟩, kh, kp, hP, kh0, kh1, kp0, kp1, hkk⟩
      right
      have vb := xkf_bd A.1 r b o v
      -- the trial has v
      have st : ∃ T2, (if b then xcV P m_X0_setStart [.ref (x + 4), .int (iI o), .int (iI v)] Z else xcV P m_X0_setSpeed [.ref (x + 4), .int (iI o), .int (iI v)] Z) = some T2 ∧ xFd T2 (x + 4) (xse A.1 b o v) ∧ xCl T2 x A ∧ xfr Z T2 (x3 (x + 4)) ∧ xfr Z T2 (xrg x 89) := by
        cases b
        · obtain ⟨T2, b1, b2, H2, f2, f3⟩ := HZ.tset (P := P) hG (j := o) (by rw [hb.1]; exact ho) (show 0 ≤ (v : Int) by omega) (by unfold xmxv at hv; simp at hv; omega)
          rw [hb.2] at b2
          exact ⟨T2, b1, b2, H2, f2, f3⟩
        · obtain ⟨T2, b1, b2, H2, f2, f3⟩ := HZ.tsta (P := P) hG (j := o) (by rw [hb.1]; exact ho) (show 0 ≤ (v : Int) by omega) (by unfold xmxv at hv; simp at hv; omega)
          rw [hb.2] at b2
          exact ⟨T2, b1, b2, H2, f2, f3⟩
      obtain ⟨T2, b1, b2, H2, f2', f2⟩ := st
      have hP2 : xPr T2 (x + 64) kh kp := hP.fr f2' (fun c hc => by unfold xrg at hc; unfold x3; omega)
      obtain ⟨T3, u, e, s1, u0, u1, e0, e1, s2, s3, H3, f3', f3, hN, -, -⟩ := H2.seek (P := P) b2 (Or.inr rfl) (by rw [xse_1]; exact hr) hP2
      have b3 := b2.fr f3' (fun c hc => by unfold x3 at hc; unfold xrg; omega)
      have nb := xnr_bd (xse A.1 b o v) r (x := u) (e := e) (by omega)
      obtain ⟨T4, t1, t2, t3⟩ := d_isBetter (P := P) s2 nb.1 (by omega) (by omega) (by omega) kh0 kh1 (by omega) kp1
      have hN12 : xnr (xse A.1 b o v) r u e * (12 * xLL) = xW (xse A.1 b o v) r * (12 * e) := x_h12 hN
      have cmp := (x_rt (show 0 < 12 * xLL by omega) (show 0 < kp by omega) (show 0 < 12 * e by omega) hkk hN12).1
      have hP4 : xPr T4 (x + 64) (if kh * (12 * e) < xnr (xse A.1 b o v) r u e * kp then xnr (xse A.1 b o v) r u e else kh) (if kh * (12 * e) < xnr (xse A.1 b o v) r u e * kp then 12 * e else kp) := ⟨⟨_, _, _, _, t2⟩, by
        obtain ⟨n, f, g, z⟩ := s3.2
        exact ⟨n, f, g, z.fr t3 (fun b hb => by unfold x3 at hb; omega)⟩⟩
      obtain ⟨H4, f4⟩ := H3.pk (t3.mono (fun b hb => by unfold xrg; omega)) ⟨_, _, hP4⟩
      have b4 := b3.fr t3 (fun b hb => by unfold x3 at hb; omega)
      refine ⟨T4, ?_, H4, ((fZ.tr f2).tr f3).tr f4, ⟨_, b4, xbut.se A.1 b o v⟩, _, _, hP4, ?_, ?_, ?_, ?_, ?_⟩
      · have step : ∀ R : Int32 × xS → Option (Option Value × xS), (xob (xfR T2 x 10 9) none fun q3 => (xob (xfR T2 x 10 1) none fun q4 => (bif xisO T2 q3 4 then (xob (xcV P m_X4_seek [.ref q3, .ref q4, .int (iI r)] T2) none fun q5 => (xob (xfR q5 x 10 9) none fun q6 => (bif xisO q5 q6 4 then (xob (xcI P m_X4_isBetter [.ref q6] q5) none fun q7 => R q7) else none))) else none))) = (R (iI (if kh * (12 * e) < xnr (xse A.1 b o v) r u e * kp then 1 else 0), T4) : Option (Option Value × xS)) := by
          intro R
          rw [H2.r9, xob_some, H2.r1, xob_some, hP2.o, cond_true, s1, xob_some, H3.r9, xob_some, s3.o, cond_true, t1, xob_some]
        rw [e_X10_kindestNumber_24, if_neg (by rw [iI_lt (by omega) (by omega) (by omega) (by omega)]; omega), HZ.r1, xob_some, hG.o, cond_true, iI_suc, xkf_suc]
        have fin : (if iI (if kh * (12 * e) < xnr (xse A.1 b o v) r u e * kp then 1 else 0) = 0 then xrun P m_X10_kindestNumber 24 [(0, .ref x), (1, .int (iI r)), (2, .int (iI o)), (3, .int (iI (xmxv b))), (4, .int (iI (xb b))), (5, .int (iI (xkf A.1 r b o v).2)), (6, .int (iI (v + 1 : Nat)))] [] T4 else xrun P m_X10_kindestNumber 24 [(0, .ref x), (1, .int (iI r)), (2, .int (iI o)), (3, .int (iI (xmxv b))), (4, .int (iI (xb b))), (5, .int (iI v)), (6, .int (iI (v + 1 : Nat)))] [] T4) = xrun P m_X10_kindestNumber 24 [(0, .ref x), (1, .int (iI r)), (2, .int (iI o)), (3, .int (iI (xmxv b))), (4, .int (iI (xb b))), (5, .int (iI (if (xkf A.1 r b o v).1 < xW (xse A.1 b o v) r then (xW (xse A.1 b o v) r, (v : Int)) else xkf A.1 r b o v).2)), (6, .int (iI (v + 1 : Nat)))] [] T4 := by
          by_cases c : (xkf A.1 r b o v).1 < xW (xse A.1 b o v) r
          · rw [if_pos c, if_pos (cmp.mpr c), if_neg (show ¬ iI 1 = 0 by decide +kernel)]
          · rw [if_neg c, if_neg (fun z => c (cmp.mp z)), if_pos (show iI 0 = 0 by decide +kernel)]
        cases b
        · rw [if_pos (show iI (xb false) = 0 by decide +kernel)]
          rw [if_neg (by decide)] at b1
          rw [b1, xob_some, step]
          exact fin
        · rw [if_neg (show ¬ iI (xb true) = 0 by decide +kernel)]
          rw [if_pos rfl] at b1
          rw [xob_some, hG.o, cond_true, b1, xob_some, step]
          exact fin
      · split <;> omega
      · split <;> omega
      · split <;> omega
      · split <;> omega
      · rw [xkf_suc]
        by_cases c : (xkf A.1 r b o v).1 < xW (xse A.1 b o v) r
        · rw [if_pos c, if_pos (cmp.mpr c), if_pos (cmp.mpr c)]
          exact hN12
        · rw [if_neg c, if_neg (fun z => c (cmp.mp z)), if_neg (fun z => c (cmp.mp z))]
          exact hkk) (by
      rintro Z ⟨HZ, fZ, -⟩
      refine ⟨Z, ?_, HZ, fZ⟩
      rw [e_X10_kindestNumber_24, if_pos (by rw [iI_lt (by omega) (by omega) (by omega) (by omega)]; omega)]) (s := T2) ⟨H2, f1.tr f2, ⟨A.1, a3, xbut.rf _ _ _⟩, -1, 1, hP2, by decide, by decide, by decide, by decide, by
      show -1 * (12 * xLL) = -(12 * xLL) * 1
      omega⟩
  obtain ⟨T, t1, t2, t3⟩ := key
  refine ⟨T, xcI_of ((e_X10_kindestNumber_0 P x (iI r) (iI o) (iI (xmxv b)) (iI (xb b)) S).trans ?_), t2, t3⟩
  simp only [H.r0, H.r1, ot, a1, H1.r9, hP0.o, c1, xob_some, cond_true]
  exact t1
theorem h_kindestAt (M : xMl S m A) {r o : Nat} (hr : r < A.1.1) (ho : o < A.1.1) (b : Bool) : xGI P S m m_X11_kindestAt [.int (iI r), .int (iI (xix b o : Nat)), .int (iI (xmxv b))] (iI (xkf A.1 r b o (xmxv b + 1).toNat).2) A := by
  obtain ⟨ob, e0, h5, h28, hR, -⟩ := id M
  have hk := hR.1.1
  have hL := xLL_pos
  have mx : 11 ≤ xmxv b ∧ xmxv b ≤ 40 := by unfold xmxv; cases b <;> decide
  have cu := xcur_bd hR.1 (b := b) ho
  have ib := xix_bd hk (b := b) ho
  have key := xloopQ (run := fun v (s : xS × Int × Int × Int) => xrun P m_X11_kindestAt 20 [(0, .ref m), (1, .int (iI r)), (2, .int (iI (xix b o : Nat))), (3, .int (iI (xmxv b))), (4, .int (iI (xcur A.1 b o))), (5, .int (iI s.2.1)), (6, .long (jI s.2.2.1)), (8, .long (jI s.2.2.2)), (10, .int (iI v))] [] s.1)
    (Inv := fun v s => xfr S s.1 (fun b => b = m ∨ b = m + 1) ∧ (∃ ob1, xMo s.1 m ob1 ∧ (∀ k, k ≠ 9 → k ≠ 10 → k ≠ 11 → k ≠ 12 → ob1 k = ob k)) ∧ (∃ G, xRo s.1 (m + 1) G ∧ xbut G A.1 b o) ∧ (v = 0 → s.2.1 = -1) ∧ (v ≠ 0 → s.2.1 = (xkf A.1 r b o v).2 ∧ 0 ≤ s.2.2.1 ∧ s.2.2.1 ≤ 5760 ∧ 1 ≤ s.2.2.2 ∧ s.2.2.2 ≤ 11520 ∧ s.2.2.1 * (12 * xLL) = (xkf A.1 r b o v).1 * s.2.2.2))
    (fun res => ∃ T, res = some (some (.int (iI (xkf A.1 r b o (xmxv b + 1).toNat).2)), T) ∧ xMl T m A ∧ xfr S T (xrg m 19)) 0 (xmxv b + 1).toNat (Nat.zero_le _) (by
      rintro v ⟨Z, ix, bn, bd⟩ - hv ⟨fZ, ⟨ob1, hM1, hk1⟩, ⟨G, hG, hb⟩, hz, hnz⟩
      right
      dsimp only at *
      obtain ⟨Y1, w1', RY1, fY1⟩ := hG.se (b := b) (j := o) (by rw [hb.1]; exact ho) (show 0 ≤ (v : Int) by omega) (show (v : Int) ≤ xmxv b by omega)
      rw [hb.2] at RY1
      have eY1 := hM1.fr fY1 (by omega)
      obtain ⟨Y2, k1, k2⟩ := g_looks (P := P) eY1 RY1 (i := r) (by rw [xse_1]; exact hr)
      obtain ⟨N, q, ob2, M2, h9, h10, N0, N1, q0, q1, hN, hk2, hf2, -⟩ := k2.use (P := P) (by rw [xse_1]; exact hk)
      have hN12 : N * (12 * xLL) = xW (xse A.1 b o v) r * (12 * q) := x_h12 hN
      have com : xfr S Y2 (fun b => b = m ∨ b = m + 1) ∧ (∃ ob1, xMo Y2 m ob1 ∧ (∀ k, k ≠ 9 → k ≠ 10 → k ≠ 11 → k ≠ 12 → ob1 k = ob k)) ∧ (∃ G, xRo Y2 (m + 1) G ∧ xbut G A.1 b o) := ⟨(fZ.tr (fY1.mono (fun b hb => Or.inr hb))).tr (hf2.mono (fun b hb => Or.inl hb)), ⟨ob2, M2, fun k a b c d => (hk2 k a b c d).trans (hk1 k a b c d)⟩, _, RY1.fr hf2 (by omega), xbut.se A.1 b o v⟩
      have head : ∀ R, (if ix = -1 then xrun P m_X11_kindestAt 20 [(0, .ref m), (1, .int (iI r)), (2, .int (iI (xix b o : Nat))), (3, .int (iI (xmxv b))), (4, .int (iI (xcur A.1 b o))), (5, .int (iI v)), (6, .long (jI N)), (8, .long (jI (12 * q))), (10, .int (iI (v + 1 : Nat)))] [] Y2 else if 0 < lg_cmp (jI N * jI bd) (jI bn * jI (12 * q)) then xrun P m_X11_kindestAt 20 [(0, .ref m), (1, .int (iI r)), (2, .int (iI (xix b o : Nat))), (3, .int (iI (xmxv b))), (4, .int (iI (xcur A.1 b o))), (5, .int (iI v)), (6, .long (jI N)), (8, .long (jI (12 * q))), (10, .int (iI (v + 1 : Nat)))] [] Y2 else xrun P m_X11_kindestAt 20 [(0, .ref m), (1, .int (iI r)), (2, .int (iI (xix b o : Nat))), (3, .int (iI (xmxv b))), (4, .int (iI (xcur A.1 b o))), (5, .int (iI ix)), (6, .long (jI bn)), (8, .long (jI bd)), (10, .int (iI (v + 1 : Nat)))] [] Y2) = R → (-1 ≤ ix ∧ ix ≤ 100) → xrun P m_X11_kindestAt 20 [(0, .ref m), (1, .int (iI r)), (2, .int (iI (xix b o : Nat))), (3, .int (iI (xmxv b))), (4, .int (iI (xcur A.1 b o))), (5, .int (iI ix)), (6, .long (jI bn)), (8, .long (jI bd)), (10, .int (iI v))] [] Z = R := by
        intro R hR2 hix
        have ex : (iI ix = iI (-1)) ↔ ix = -1 := iI_eq (by omega) (by omega) (by decide) (by decide)
        rw [e_X11_kindestAt_20, if_neg (by rw [iI_lt (by omega) (by omega) (by omega) (by omega)]; omega)]
        simp only [hM1.r1, w1', eY1.o, k1, M2.j (by decide) h9, M2.j (by decide) h10, iI_suc, xob_some, cond_true, ex]
        exact hR2
      by_cases c0 : v = 0
      · have hz' := hz c0
        refine ⟨(Y2, (v : Int), N, 12 * q), head _ (by rw [if_pos hz']) (by omega), com.1, com.2.1, com.2.2, fun z => absurd z (Nat.succ_ne_zero v), fun _ => ?_⟩
        have e1 : xkf A.1 r b o (v + 1) = (xW (xse A.1 b o v) r, (v : Int)) := by
          rw [xkf_suc, if_pos]
          rw [c0]
          have := (xW_bd (xse A.1 b o ((0 : Nat) : Int)) r).1
          show -(12 * xLL) < _
          omega
        rw [e1]
        exact ⟨rfl, N0, N1, (by show 1 ≤ 12 * q; omega), (by show 12 * q ≤ 11520; omega), hN12⟩
      · obtain ⟨g1, g2, g3, g4, g5, g6⟩ := hnz c0
        have vb := xkf_bd A.1 r b o v
        have cmp := (x_rt (show 0 < 12 * xLL by omega) (show 0 < bd by omega) (show 0 < 12 * q by omega) g6 hN12).1
        have m1 := x_mul_bd N0 N1 (show 0 ≤ bd by omega) g5
        have m2 := x_mul_bd g2 g3 (show 0 ≤ 12 * q by omega) (show 12 * q ≤ 11520 by omega)
        have ec : (0 < lg_cmp (jI N * jI bd) (jI bn * jI (12 * q))) ↔ (xkf A.1 r b o v).1 < xW (xse A.1 b o v) r := by
          rw [← cmp, jI_mul, jI_mul, jI_cmp_lt (by omega) (by omega) (by omega) (by omega)]
          by_cases d : bn * (12 * q) < N * bd
          · rw [if_pos d]
            exact ⟨fun _ => d, fun _ => by decide +kernel⟩
          · rw [if_neg d]
            exact ⟨fun z => absurd z (by split <;> decide +kernel), fun z => absurd z d⟩
        by_cases d : (xkf A.1 r b o v).1 < xW (xse A.1 b o v) r
        · refine ⟨(Y2, (v : Int), N, 12 * q), head _ (by rw [if_neg (by omega), if_pos (ec.mpr d)]) (by omega), com.1, com.2.1, com.2.2, fun z => absurd z (Nat.succ_ne_zero v), fun _ => ?_⟩
          rw [xkf_suc, if_pos d]
          exact ⟨rfl, N0, N1, (by show 1 ≤ 12 * q; omega), (by show 12 * q ≤ 11520; omega), hN12⟩
        · refine ⟨(Y2, ix, bn, bd), head _ (by rw [if_neg (by omega), if_neg (fun z => d (ec.mp z))]) (by omega), com.1, com.2.1, com.2.2, fun z => absurd z (Nat.succ_ne_zero v), fun _ => ?_⟩
          rw [xkf_suc, if_neg d]
          exact ⟨g1, g2, g3, g4, g5, g6⟩) (by
      rintro ⟨Z, ix, bn, bd⟩ ⟨fZ, ⟨ob1, hM1, hk1⟩, ⟨G, hG, hb⟩, hz, hnz⟩
      dsimp only at *
      obtain ⟨g1, -⟩ := hnz (by omega)
      obtain ⟨Y3, w3', RY3, fY3⟩ := hG.se (b := b) (j := o) (by rw [hb.1]; exact ho) cu.1 cu.2
      rw [hb.2, xse_id] at RY3
      have M3 := hM1.fr fY3 (by omega)
      obtain ⟨MM, ff⟩ := M.num (fZ.tr (fY3.mono (fun b hb => Or.inr hb))) M3 RY3 ((hk1 5 (by decide) (by decide) (by decide) (by decide)).trans h5) ((hk1 28 (by decide) (by decide) (by decide) (by decide)).trans h28)
      refine ⟨Y3, ?_, MM, ff⟩
      rw [e_X11_kindestAt_20, if_pos (by rw [iI_lt (by omega) (by omega) (by omega) (by omega)]; omega), hM1.r1, xob_some, w3', xob_some, g1]) (s := (S, -1, 0, 1)) ⟨xfr.rf, ⟨ob, e0, fun _ _ _ _ _ => rfl⟩, ⟨A.1, hR, xbut.rf _ _ _⟩, fun _ => rfl, fun z => absurd rfl z⟩
  obtain ⟨T, t1, t2, t3⟩ := key
  refine ⟨T, xcI_of ((e_X11_kindestAt_0 P m (iI r) (iI (xix b o : Nat)) (iI (xmxv b)) S).trans ?_), t2, t3⟩
  rw [e0.r1, xob_some, g_se hR ho, xob_some]
  exact t1
theorem z_kindest (H : xCl S x A) {i j : Int} (i1 : -2147483648 ≤ i) (i2 : i < 2147483648) (j1 : -2147483648 ≤ j) (j2 : j < 2147483648) : ∃ z A', xKI P S x m_X10_kindest [.int (iI i), .int (iI j)] z A' ∧ ∀ S', xMl S' m A → xGI P S' m m_X11_kindest [.int (iI i), .int (iI j)] z A' := by
  have hF := H.2.1
  have hk := hF.1.1
  by_cases cb : 0 ≤ i ∧ i < A.1.1 ∧ 0 ≤ j ∧ j < A.1.1 ∧ i ≠ j
  · obtain ⟨r, rfl⟩ : ∃ r : Nat, i = r := ⟨i.toNat, by omega⟩
    obtain ⟨o, rfl⟩ : ∃ o : Nat, j = o := ⟨j.toNat, by omega⟩
    have hr : r < A.1.1 := by omega
    have ho : o < A.1.1 := by omega
    obtain ⟨T, t1, t2, t3⟩ := k_kindestNumber (P := P) H hr ho false
    refine ⟨iI (xkf A.1 r false o (xmxv false + 1).toNat).2, A, ⟨T, xcI_of ((e_X10_kindest_0 P x (iI r) (iI o) S).trans ?_), t2, t3⟩, fun S' M => ?_⟩
    · have t1' : xcI P m_X10_kindestNumber [.ref x, .int (iI r), .int (iI o), .int (iI 40), .int (iI 0)] S = _ := t1
      simp only [H.r0, H.o, hF.o, d_hasBoth hF i1 i2 j1 j2, if_pos cb, t1', xob_some, cond_true, t_10, t_00, ne_eq, not_true_eq_false, not_false_eq_true, if_true, if_false]
    · obtain ⟨ob, e0, h5, h28, hR, -⟩ := id M
      obtain ⟨T', s1, s2, s3⟩ := h_kindestAt (P := P) M hr ho false
      refine ⟨T', xcI_of ((e_X11_kindest_0 P m (iI r) (iI o) S').trans ?_), s2, s3⟩
      have s1' : xcI P m_X11_kindestAt [.ref m, .int (iI r), .int (iI (xix false o : Nat)), .int (iI 40)] S' = _ := s1
      have ei : iI 1 + iI (o : Int) = iI (xix false o : Nat) := by rw [iI_add]; rfl
      simp only [e0.o, g_areTwo e0 hR i1 i2 j1 j2, if_pos cb, ei, s1', xob_some, cond_true, t_10, t_00, ne_eq, not_true_eq_false, not_false_eq_true, if_true, if_false]
  · refine ⟨iI (-1), A, ⟨S, xcI_of ((e_X10_kindest_0 P x (iI i) (iI j) S).trans ?_), H, xfr.rf⟩, fun S' M => ?_⟩
    · simp only [H.r0, hF.o, d_hasBoth hF i1 i2 j1 j2, if_neg cb, xob_some, cond_true, t_10, t_00, ne_eq, not_true_eq_false, not_false_eq_true, if_true, if_false]
    · obtain ⟨ob, e0, h5, h28, hR, -⟩ := id M
      refine ⟨S', xcI_of ((e_X11_kindest_0 P m (iI i) (iI j) S').trans ?_), M, xfr.rf⟩
      simp only [e0.o, g_areTwo e0 hR i1 i2 j1 j2, if_neg cb, xob_some, cond_true, t_10, t_00, ne_eq, not_true_eq_false, not_false_eq_true, if_true, if_false]
theorem z_kindestStart (H : xCl S x A) {i j : Int} (i1 : -2147483648 ≤ i) (i2 : i < 2147483648) (j1 : -2147483648 ≤ j) (j2 : j < 2147483648) : ∃ z A', xKI P S x m_X10_kindestStart [.int (iI i), .int (iI j)] z A' ∧ ∀ S', xMl S' m A → xGI P S' m m_X11_kindestStart [.int (iI i), .int (iI j)] z A' := by
  have hF := H.2.1
  have hk := hF.1.1
  by_cases cb : 0 ≤ i ∧ i < A.1.1 ∧ 0 ≤ j ∧ j < A.1.1 ∧ i ≠ j
  · obtain ⟨r, rfl⟩ : ∃ r : Nat, i = r := ⟨i.toNat, by omega⟩
    obtain ⟨o, rfl⟩ : ∃ o : Nat, j = o := ⟨j.toNat, by omega⟩
    have hr : r < A.1.1 := by omega
    have ho : o < A.1.1 := by omega
    obtain ⟨T, t1, t2, t3⟩ := k_kindestNumber (P := P) H hr ho true
    refine ⟨iI (xkf A.1 r true o (xmxv true + 1).toNat).2, A, ⟨T, xcI_of ((e_X10_kindestStart_0 P x (iI r) (iI o) S).trans ?_), t2, t3⟩, fun S' M => ?_⟩
    · have t1' : xcI P m_X10_kindestNumber [.ref x, .int (iI r), .int (iI o), .int (iI 11), .int (iI 1)] S = _ := t1
      simp only [H.r0, H.o, hF.o, d_hasBoth hF i1 i2 j1 j2, if_pos cb, t1', xob_some, cond_true, t_10, t_00, ne_eq, not_true_eq_false, not_false_eq_true, if_true, if_false]
    · obtain ⟨ob, e0, h5, h28, hR, -⟩ := id M
      obtain ⟨T', s1, s2, s3⟩ := h_kindestAt (P := P) M hr ho true
      refine ⟨T', xcI_of ((e_X11_kindestStart_0 P m (iI r) (iI o) S').trans ?_), s2, s3⟩
      have s1' : xcI P m_X11_kindestAt [.ref m, .int (iI r), .int (iI (xix true o : Nat)), .int (iI 11)] S' = _ := s1
      have ei : iI 7 + iI (o : Int) = iI (xix true o : Nat) := by rw [iI_add]; rfl
      simp only [e0.o, g_areTwo e0 hR i1 i2 j1 j2, if_pos cb, ei, s1', xob_some, cond_true, t_10, t_00, ne_eq, not_true_eq_false, not_false_eq_true, if_true, if_false]
  · refine ⟨iI (-1), A, ⟨S, xcI_of ((e_X10_kindestStart_0 P x (iI i) (iI j) S).trans ?_), H, xfr.rf⟩, fun S' M => ?_⟩
    · simp only [H.r0, hF.o, d_hasBoth hF i1 i2 j1 j2, if_neg cb, xob_some, cond_true, t_10, t_00, ne_eq, not_true_eq_false, not_false_eq_true, if_true, if_false]
    · obtain ⟨ob, e0, h5, h28, hR, -⟩ := id M
      refine ⟨S', xcI_of ((e_X11_kindestStart_0 P m (iI i) (iI j) S').trans ?_), M, xfr.rf⟩
      simp only [e0.o, g_areTwo e0 hR i1 i2 j1 j2, if_neg cb, xob_some, cond_true, t_10, t_00, ne_eq, not_true_eq_false, not_false_eq_true, if_true, if_false]
end KD
