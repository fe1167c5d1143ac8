-- deps: 53.meets2
/-! meetings, period, gather -/
def xsum (f : Nat → Int) : Nat → Int
  | 0 => 0
  | n + 1 => xsum f n + f n
theorem xsum_congr {f g : Nat → Int} : ∀ n, (∀ r, r < n → f r = g r) → xsum f n = xsum g n := by
  intro n
  induction n with
  | zero => intro _; rfl
  | succ n ih =>
    intro h
    simp only [xsum]
    rw [ih (fun r hr => h r (by omega)), h n (by omega)]
theorem xsum_zero {f : Nat → Int} : ∀ n, (∀ r, r < n → f r = 0) → xsum f n = 0 := by
  intro n
  induction n with
  | zero => intro _; rfl
  | succ n ih =>
    intro h
    simp only [xsum]
    rw [ih (fun r hr => h r (by omega)), h n (by omega)]
    rfl
theorem xsum_add {f g : Nat → Int} : ∀ n, xsum (fun r => f r + g r) n = xsum f n + xsum g n := by
  intro n
  induction n with
  | zero => rfl
  | succ n ih =>
    simp only [xsum]
    rw [ih]
    omega
/-- over the pairs: the later of the first, the earlier of the second -/
theorem xsum_pairs {g : Nat → Nat → Int} (hs : ∀ i j, g i j = g j i) : ∀ k, xsum (fun i => xsum (fun j => if j ≤ i then 0 else g i j) k) k = xsum (fun i => xsum (fun j => g i j) i) k := by
  intro k
  induction k with
  | zero => rfl
  | succ k ih =>
    show xsum (fun i => xsum (fun j => if j ≤ i then 0 else g i j) (k + 1)) k + xsum (fun j => if j ≤ k then 0 else g k j) (k + 1) = xsum (fun i => xsum (fun j => g i j) i) k + xsum (fun j => g k j) k
    rw [xsum_zero (k + 1) (fun r hr => if_pos (by omega)), Int.add_zero, ← ih]
    have e : xsum (fun i => xsum (fun j => if j ≤ i then 0 else g i j) (k + 1)) k = xsum (fun i => xsum (fun j => if j ≤ i then 0 else g i j) k + g i k) k :=
      xsum_congr k (fun i hi => by
        show xsum (fun j => if j ≤ i then 0 else g i j) k + (if k ≤ i then 0 else g i k) = _
        rw [if_neg (by omega)])
    rw [e, xsum_add]
    rw [xsum_congr (f := fun i => g i k) (g := fun j => g k j) k (fun i _ => hs i k)]
/-- the greatest common divisor of the speeds -/
def xgs (F : xF) : Nat → Nat
  | 0 => 0
  | n + 1 => Nat.gcd (xgs F n) (F.2.1 n).natAbs
theorem xgs_bd {F : xF} (h : xFok F) : ∀ n, n ≤ F.1 → xgs F n ≤ 40 := by
  intro n
  induction n with
  | zero => intro _; exact Nat.zero_le _
  | succ n ih =>
    intro hn
    have a := ih (by omega)
    have b := h.2 n (by omega)
    simp only [xgs]
    by_cases c : xgs F n = 0
    · rw [c, Nat.gcd_zero_left]; omega
    · have := Nat.gcd_le_left (F.2.1 n).natAbs (show 0 < xgs F n by omega)
      omega
section ME
variable {P : Nat → Nat} {S : xS} {x m : Nat} {A : xAb} {ob : Nat → Value} {F : xF}
theorem xog_sym (F : xF) (i j : Nat) : xog F i j = xog F j i := by unfold xog; omega
theorem z_meetings (H : xCl S x A) : ∃ v A', xKI P S x m_X10_meetings [] v A' ∧ ∀ S', xMl S' m A → xGI P S' m m_X11_meetings [] v A' := by
  have hF := H.2.1
  have hk := hF.1.1
  refine ⟨iI (xsum (fun i => xsum (fun j => xog A.1 i j) i) A.1.1), A, ⟨S, xcI_of ((e_X10_meetings_0 P x S).trans ?_), H, xfr.rf⟩, fun S' M => ?_⟩
  · have st := xsteps (fun i => xrun P m_X10_meetings 4 [(0, .ref x), (1, .int (iI (xsum (fun i => xsum (fun j => if j ≤ i then 0 else xog A.1 i j) A.1.1) i))), (2, .int (iI i))] [] S) A.1.1 (by
      intro i hi
      try dsimp only
      rw [e_X10_meetings_4, H.r0, xob_some, hF.o, cond_true, d_size hF, xob_some, if_neg (by rw [iI_le (by omega) (by omega) (by omega) (by omega)]; omega)]
      dsimp only
      have z0 : xsum (fun j => if j ≤ i then 0 else xog A.1 i j) (i + 1) = 0 := xsum_zero (i + 1) (fun r hr => if_pos (by omega))
      have st2 := xstepsF (fun j => xrun P m_X10_meetings 19 [(0, .ref x), (1, .int (iI (xsum (fun i => xsum (fun j => if j ≤ i then 0 else xog A.1 i j) A.1.1) i + xsum (fun j => if j ≤ i then 0 else xog A.1 i j) j))), (2, .int (iI i)), (3, .int (iI j))] [] S) (i + 1) A.1.1 (by omega) (by
        intro j hj1 hj2
        try dsimp only
        have b1 := hF.1.2 i hi
        have b2 := hF.1.2 j hj2
        rw [e_X10_meetings_19, H.r0, xob_some, hF.o, cond_true, d_size hF, xob_some, if_neg (by rw [iI_le (by omega) (by omega) (by omega) (by omega)]; omega)]
        simp only [H.r0, hF.o, d_speedAt hF hi, d_speedAt hF hj2, iI_sub, xob_some, cond_true]
        rw [c_abs (by omega) (by omega), xob_some]
        dsimp only
        rw [iI_add, iI_suc]
        simp only [xsum]
        rw [if_neg (show ¬ j ≤ i by omega), Int.add_assoc]
        have eg : ((A.1.2.1 i - A.1.2.1 j).natAbs : Int) = xog A.1 i j := by unfold xog; omega
        rw [eg])
      try dsimp only at st2
      rw [z0, Int.add_zero] at st2
      rw [iI_suc]
      refine st2.trans ?_
      rw [e_X10_meetings_19, H.r0, xob_some, hF.o, cond_true, d_size hF, xob_some, if_pos (by rw [iI_le (by omega) (by omega) (by omega) (by omega)]; omega)]
      dsimp only
      rw [iI_suc]
      rfl)
    try dsimp only at st
    refine st.trans ?_
    rw [e_X10_meetings_4, H.r0, xob_some, hF.o, cond_true, d_size hF, xob_some, if_pos (by rw [iI_le (by omega) (by omega) (by omega) (by omega)]; omega), xsum_pairs (xog_sym A.1)]
  · obtain ⟨ob, e0, -, -, hR, -⟩ := id M
    refine ⟨S', xcI_of ((e_X11_meetings_0 P m S').trans ?_), M, xfr.rf⟩
    have st := xsteps (fun i => xrun P m_X11_meetings 4 [(0, .ref m), (1, .int (iI (xsum (fun i => xsum (fun j => xog A.1 i j) i) i))), (2, .int (iI i))] [] S') A.1.1 (by
      intro i hi
      try dsimp only
      rw [e_X11_meetings_4, e0.r1, xob_some, g_K hR, xob_some, if_neg (by rw [iI_le (by omega) (by omega) (by omega) (by omega)]; omega)]
      have st2 := xsteps (fun j => xrun P m_X11_meetings 16 [(0, .ref m), (1, .int (iI (xsum (fun i => xsum (fun j => xog A.1 i j) i) i + xsum (fun j => xog A.1 i j) j))), (2, .int (iI i)), (3, .int (iI j))] [] S') i (by
        intro j hj
        try dsimp only
        have bm := xmee_bd hF.1 hi (show j < A.1.1 by omega)
        have bg := xog_bd hF.1 hi (show j < A.1.1 by omega)
        rw [e_X11_meetings_16, if_neg (by rw [iI_le (by omega) (by omega) (by omega) (by omega)]; omega), e0.o, cond_true, g_meetsOf e0 hR hi (show j < A.1.1 by omega), xob_some]
        dsimp only
        by_cases c : xog A.1 i j = 0
        · have : xmee A.1 i j = 0 ∨ xmee A.1 i j = -2 := by unfold xmee; rw [if_pos c]; split <;> omega
          rw [if_pos (by rw [iI_0, iI_le (by omega) (by omega) (by omega) (by omega)]; omega), iI_suc]
          simp only [xsum]
          rw [c, Int.add_zero]
        · rw [xmee_0 c, if_neg (by rw [iI_0, iI_le (by omega) (by omega) (by omega) (by omega)]; omega), e0.o, cond_true, g_meetsOf e0 hR hi (show j < A.1.1 by omega), xob_some, xmee_0 c]
          dsimp only
          rw [iI_suc, iI_add]
          simp only [xsum]
          rw [Int.add_assoc])
      try dsimp only at st2
      rw [show xsum (fun j => xog A.1 i j) 0 = 0 from rfl, Int.add_zero] at st2
      refine st2.trans ?_
      rw [e_X11_meetings_16, if_pos (by rw [iI_le (by omega) (by omega) (by omega) (by omega)]; omega), iI_suc]
      rfl)
    try dsimp only at st
    refine st.trans ?_
    rw [e_X11_meetings_4, e0.r1, xob_some, g_K hR, xob_some, if_pos (by rw [iI_le (by omega) (by omega) (by omega) (by omega)]; omega)]
theorem z_period (H : xCl S x A) (t : Bool) : ∃ v A', xKI P S x m_X10_period [.int (iI (xb t))] v A' ∧ ∀ S', xMl S' m A → xGI P S' m m_X11_period [.int (iI (xb t))] v A' := by
  have hF := H.2.1
  have hk := hF.1.1
  by_cases c0 : A.1.1 = 0
  · refine ⟨iI (-1), A, ⟨S, xcI_of ((e_X10_period_0 P x (iI (xb t)) S).trans ?_), H, xfr.rf⟩, fun S' M => ?_⟩
    · simp only [H.r0, hF.o, d_size hF, c0, xob_some, cond_true, t_10, t_00, ne_eq, not_true_eq_false, not_false_eq_true, if_true, if_false]
      rw [if_neg (show ¬ ¬ iI ((0 : Nat) : Int) = 0 by decide +kernel)]
    · obtain ⟨ob, e0, -, -, hR, -⟩ := id M
      refine ⟨S', xcI_of ((e_X11_period_0 P m (iI (xb t)) S').trans ?_), M, xfr.rf⟩
      simp only [e0.r1, g_K hR, c0, xob_some, cond_true, t_10, t_00, ne_eq, not_true_eq_false, not_false_eq_true, if_true, if_false]
      rw [if_neg (show ¬ ¬ iI ((0 : Nat) : Int) = 0 by decide +kernel)]
  · have nz := t_nz (a := A.1.1) (by omega) (by omega) (by omega)
    have bK := xgs_bd hF.1 A.1.1 (Nat.le_refl _)
    refine ⟨iI (if xgs A.1 A.1.1 = 0 then -2 else if t then (xgs A.1 A.1.1 : Int) else 1), A, ⟨S, xcI_of ((e_X10_period_0 P x (iI (xb t)) S).trans ?_), H, xfr.rf⟩, fun S' M => ?_⟩
    · simp only [H.r0, hF.o, d_size hF, nz, xob_some, cond_true, t_10, t_00, ne_eq, not_true_eq_false, not_false_eq_true, if_true, if_false]
      refine (xsteps (fun r => xrun P m_X10_period 17 [(0, .ref x), (1, .int (iI (xb t))), (2, .long (jI (xgs A.1 r : Nat))), (4, .int (iI r))] [] S) A.1.1 ?_).trans ?_
      · intro r hr
        try dsimp only
        have b1 := xgs_bd hF.1 r (by omega)
        have b2 := hF.1.2 r hr
        rw [e_X10_period_17, H.r0, xob_some, hF.o, cond_true, d_size hF, xob_some, if_neg (by rw [iI_le (by omega) (by omega) (by omega) (by omega)]; omega)]
        simp only [H.r0, hF.o, d_speedAt hF hr, iI_suc, xob_some, cond_true]
        rw [iI_ji (by omega) (by omega), d_cd (by omega) (by omega) (by omega) (by omega), xob_some]
        rfl
      · try dsimp only
        rw [e_X10_period_17, H.r0, xob_some, hF.o, cond_true, d_size hF, xob_some, if_pos (by rw [iI_le (by omega) (by omega) (by omega) (by omega)]; omega)]
        by_cases c : xgs A.1 A.1.1 = 0
        · rw [if_neg (by rw [ne_eq, x_ceq (by omega) (by omega) (by decide) (by decide)]; omega), if_pos c]
        · rw [if_pos (by rw [ne_eq, x_ceq (by omega) (by omega) (by decide) (by decide)]; omega), if_neg c, d_partOf (by decide) (by decide) (by omega) (by omega), xob_some, jI_ij]
          have : xpo 1 (xgs A.1 A.1.1 : Nat) t = if t then (xgs A.1 A.1.1 : Int) else 1 := by
            unfold xpo
            rw [Int.one_gcd]
            exact Int.ediv_one _
          rw [this]
    · obtain ⟨ob, e0, -, -, hR, -⟩ := id M
      refine ⟨S', xcI_of ((e_X11_period_0 P m (iI (xb t)) S').trans ?_), M, xfr.rf⟩
      simp only [e0.r1, g_K hR, nz, xob_some, cond_true, t_10, t_00, ne_eq, not_true_eq_false, not_false_eq_true, if_true, if_false]
      refine (xsteps (fun r => xrun P m_X11_period 16 [(0, .ref m), (1, .int (iI (xb t))), (2, .long (jI (xgs A.1 r : Nat))), (4, .int (iI r))] [] S') A.1.1 ?_).trans ?_
      · intro r hr
        try dsimp only
        have b1 := xgs_bd hF.1 r (by omega)
        have b2 := hF.1.2 r hr
        rw [e_X11_period_16, e0.r1, xob_some, g_K hR, xob_some, if_neg (by rw [iI_le (by omega) (by omega) (by omega) (by omega)]; omega)]
        simp only [e0.o, g_speedOf e0 hR hr, iI_suc, xob_some, cond_true]
        rw [iI_ji (by omega) (by omega), d_common (by omega) (by omega) (by omega) (by omega), xob_some]
        rfl
      · try dsimp only
        rw [e_X11_period_16, e0.r1, xob_some, g_K hR, xob_some, if_pos (by rw [iI_le (by omega) (by omega) (by omega) (by omega)]; omega)]
        by_cases c : xgs A.1 A.1.1 = 0
        · rw [if_neg (by rw [ne_eq, x_ceq (by omega) (by omega) (by decide) (by decide)]; omega), if_pos c]
        · rw [if_pos (by rw [ne_eq, x_ceq (by omega) (by omega) (by decide) (by decide)]; omega), if_neg c]
          cases t
          · rw [if_pos (show iI (xb false) = 0 by decide +kernel)]; rfl
          · rw [if_neg (show ¬ iI (xb true) = 0 by decide +kernel), jI_ij]; rfl
theorem xtg_0 {gp ld : Nat → Int} : ∀ d n, xtg gp ld n = 0 → xtg gp ld (n + d) = 0 := by
  intro d
  induction d with
  | zero => intro n h; exact h
  | succ d ih =>
    intro n h
    show xtg gp ld (n + d + 1) = 0
    simp only [xtg]
    rw [ih n h]
    split
    · split <;> rfl
    · rfl
theorem xah_suc {gp ld : Nat → Int} {n : Nat} {x e : Int} : xah gp ld (n + 1) x e = (xah gp ld n x e && decide (xa2 gp ld x e n = 0)) := by
  unfold xah
  by_cases c : ∀ r, r < n → xa2 gp ld x e r = 0
  · rw [decide_eq_true c, Bool.true_and]
    by_cases d : xa2 gp ld x e n = 0
    · rw [decide_eq_true d, decide_eq_true]
      intro r hr
      by_cases f : r = n
      · rw [f]; exact d
      · exact c r (by omega)
    · rw [decide_eq_false d, decide_eq_false]
      intro z
      exact d (z n (by omega))
  · rw [decide_eq_false c, Bool.false_and, decide_eq_false]
    intro z
    exact c (fun r hr => z r (by omega))
theorem z_gather (H : xCl S x A) : ∃ v A', xKI P S x m_X10_gather [] v A' ∧ ∀ S', xMl S' m A → xGI P S' m m_X11_gather [] v A' := by
  have hF := H.2.1
  have hk := hF.1.1
  by_cases c0 : A.1.1 = 0
  · refine ⟨iI (-1), A, ⟨S, xcI_of ((e_X10_gather_0 P x S).trans ?_), H, xfr.rf⟩, fun S' M => ?_⟩
    · simp only [H.r0, hF.o, d_size hF, c0, xob_some, cond_true, t_10, t_00, ne_eq, not_true_eq_false, not_false_eq_true, if_true, if_false]
      rw [if_neg (show ¬ ¬ iI ((0 : Nat) : Int) = 0 by decide +kernel)]
    · obtain ⟨ob, e0, -, -, hR, -⟩ := id M
      refine ⟨S', xcI_of ((e_X11_gather_0 P m S').trans ?_), M, xfr.rf⟩
      simp only [e0.r1, g_K hR, c0, xob_some, cond_true, t_10, t_00, ne_eq, not_true_eq_false, not_false_eq_true, if_true, if_false]
      rw [if_neg (show ¬ ¬ iI ((0 : Nat) : Int) = 0 by decide +kernel)]
  · have nz := t_nz (a := A.1.1) (by omega) (by omega) (by omega)
    have h0 : 0 < A.1.1 := by omega
    obtain ⟨T, m1, m2, H1, fr⟩ := H.al (P := P) h0
    have m1' : xcV P m_X3_see [.ref (x + 61), .ref (x + 1), .int (iI 0)] S = some T := m1
    have dg := d_gatherings (P := P) m2
    generalize hgp : (fun t => xog A.1 0 (xsk 0 t)) = gp at m2 dg
    generalize hld : (fun t => xol A.1 0 (xsk 0 t)) = ld at m2 dg
    have gpe : ∀ r, gp r = xog A.1 0 (r + 1) := fun r => by rw [← hgp]; rfl
    have lde : ∀ r, ld r = xol A.1 0 (r + 1) := fun r => by rw [← hld]; rfl
    refine ⟨iI (xgt gp ld (A.1.1 - 1)), A, ⟨T, xcI_of ((e_X10_gather_0 P x S).trans ?_), H1, fr⟩, fun S' M => ?_⟩
    · simp only [H.r0, H.r8, H.oo, hF.o, d_size hF, nz, m1', H1.r8, m2.o, dg, xob_some, cond_true, t_10, t_00, ne_eq, not_true_eq_false, not_false_eq_true, if_true, if_false]
    · obtain ⟨ob, e0, -, -, hR, -⟩ := id M
      refine ⟨S', xcI_of ((e_X11_gather_0 P m S').trans ?_), M, xfr.rf⟩
      simp only [e0.r1, g_K hR, nz, xob_some, cond_true, t_10, t_00, ne_eq, not_true_eq_false, not_false_eq_true, if_true, if_false]
      have start : xrun P m_X11_gather 15 [(0, .ref m), (1, .int (iI 0)), (2, .int (iI 1))] [] S' = xrun P m_X11_gather 15 [(0, .ref m), (1, .int (iI (xmv gp 0 + 1))), (2, .int (iI ((0 + 1 : Nat) : Int)))] [] S' := rfl
      rw [start]
      refine xloopQ (run := fun r (_ : Unit) => xrun P m_X11_gather 15 [(0, .ref m), (1, .int (iI (xmv gp r + 1))), (2, .int (iI ((r + 1 : Nat) : Int)))] [] S') (Inv := fun r _ => xtg gp ld r = 1) (fun res => res = some (some (.int (iI (xgt gp ld (A.1.1 - 1)))), S')) 0 (A.1.1 - 1) (Nat.zero_le _) ?_ ?_ (s := ()) rfl
      · intro r _ _ hr hi
        have hr1 : r + 1 < A.1.1 := by omega
        have bm := xmee_bd hF.1 h0 hr1
        have bg := xog_bd hF.1 h0 hr1
        have mo : xcI P m_X11_meetsOf [.ref m, .int (iI 0), .int (iI ((r + 1 : Nat) : Int))] S' = some (iI (xmee A.1 0 (r + 1)), S') := g_meetsOf e0 hR h0 hr1
        rw [e_X11_gather_15, e0.r1, xob_some, g_K hR, xob_some, if_neg (by rw [iI_le (by omega) (by omega) (by omega) (by omega)]; omega), e0.o, cond_true, mo, xob_some]
        dsimp only
        by_cases c : gp r = 0
        · have c' : xog A.1 0 (r + 1) = 0 := by rw [← gpe]; exact c
          by_cases d : ld r = 0
          · have d' : xol A.1 0 (r + 1) = 0 := by rw [← lde]; exact d
            have em : xmee A.1 0 (r + 1) = -2 := by unfold xmee; rw [if_pos c', if_pos d']
            refine Or.inr ⟨(), ?_, ?_⟩
            · rw [em, if_pos (show iI (-2) ≠ 0 by decide +kernel), if_pos (show iI (-2) ≤ 0 by decide +kernel), iI_suc]
              simp only [xmv]
              rw [if_pos c]
            · simp only [xtg]; rw [if_pos c, if_pos d]; exact hi
          · have d' : ¬ xol A.1 0 (r + 1) = 0 := by rw [← lde]; exact d
            have em : xmee A.1 0 (r + 1) = 0 := by unfold xmee; rw [if_pos c', if_neg d']
            refine Or.inl ?_
            rw [em, if_neg (show ¬ iI 0 ≠ 0 by decide +kernel)]
            have z : xtg gp ld (r + 1) = 0 := by simp only [xtg]; rw [if_pos c, if_neg d]
            have z2 := xtg_0 (A.1.1 - 1 - (r + 1)) (r + 1) z
            rw [show r + 1 + (A.1.1 - 1 - (r + 1)) = A.1.1 - 1 by omega] at z2
            unfold xgt
            rw [if_pos z2]
        · have c' : xog A.1 0 (r + 1) ≠ 0 := by rw [← gpe]; exact c
          refine Or.inr ⟨(), ?_, ?_⟩
          · rw [xmee_0 c', if_pos (show iI (xog A.1 0 (r + 1)) ≠ 0 by rw [ne_eq, t_nz (by omega) (by omega) c']; exact fun z => z), if_neg (by rw [iI_0, iI_le (by omega) (by omega) (by omega) (by omega)]; omega), iI_suc]
            simp only [xmv]
            rw [if_neg c]
            rfl
          · simp only [xtg]; rw [if_neg c]; exact hi
      · intro _ hi
        try dsimp only
        have bv := xmv_bd gp (A.1.1 - 1)
        rw [e_X11_gather_15, e0.r1, xob_some, g_K hR, xob_some, if_pos (by rw [iI_le (by omega) (by omega) (by omega) (by omega)]; omega)]
        unfold xgt
        rw [if_neg (show ¬ xtg gp ld (A.1.1 - 1) = 0 by rw [hi]; decide)]
        by_cases c : xmv gp (A.1.1 - 1) = -1
        · rw [if_neg (show ¬ iI (xmv gp (A.1.1 - 1) + 1) ≠ 0 by rw [c]; decide +kernel), if_pos c]
        · have gz := xmv_gp gp (A.1.1 - 1) (by omega)
          obtain ⟨w, hw⟩ : ∃ w : Nat, xmv gp (A.1.1 - 1) = w := ⟨(xmv gp (A.1.1 - 1)).toNat, by omega⟩
          rw [hw] at bv gz c ⊢
          rw [Int.toNat_natCast] at gz ⊢
          have hw1 : w + 1 < A.1.1 := by omega
          have gz' : xog A.1 0 (w + 1) ≠ 0 := by rw [← gpe]; exact gz
          have bg := xog_bd hF.1 h0 hw1
          have bf := xfm_bd A.1 0 (w + 1)
          have bgw : gp w = xog A.1 0 (w + 1) := gpe w
          have mo : xcI P m_X11_meetsOf [.ref m, .int (iI 0), .int (iI ((w : Int) + 1))] S' = some (iI (xog A.1 0 (w + 1)), S') := by
            have := g_meetsOf (P := P) e0 hR h0 hw1
            rw [xmee_0 gz'] at this
            exact this
          rw [if_pos (show iI ((w : Int) + 1) ≠ 0 by rw [ne_eq, t_nz (by omega) (by omega) (by omega)]; exact fun z => z), if_neg c, e0.o, cond_true, mo, xob_some]
          dsimp only
          have st := xsteps (fun t => xrun P m_X11_gather 69 [(0, .ref m), (1, .int (iI ((w : Int) + 1))), (2, .int (iI (xga gp ld (A.1.1 - 1) w t : Nat))), (3, .int (iI (xog A.1 0 (w + 1)))), (4, .int (iI t))] [] S') (xog A.1 0 (w + 1)).toNat (by
            intro t ht
            try dsimp only
            rw [e_X11_gather_69, if_neg (by rw [iI_le (by omega) (by omega) (by omega) (by omega)]; omega)]
            have mt : xcJ P m_X11_meetingTop [.ref m, .int (iI 0), .int (iI ((w : Int) + 1)), .int (iI t)] S' = some (jI (xfm A.1 0 (w + 1) + 12 * t), S') := g_meetingTop e0 hR h0 hw1 gz' (k := t) (by omega) (by omega)
            have ehr : (-ld w) % 12 = xfm A.1 0 (w + 1) := by rw [lde]; rfl
            have st2 := xsteps (fun r => xrun P m_X11_gather 81 [(0, .ref m), (1, .int (iI ((w : Int) + 1))), (2, .int (iI (xga gp ld (A.1.1 - 1) w t : Nat))), (3, .int (iI (xog A.1 0 (w + 1)))), (4, .int (iI t)), (5, .int (iI (if xah gp ld r ((-ld w) % 12 + 12 * t) (gp w) then 1 else 0))), (6, .int (iI ((r + 1 : Nat) : Int)))] [] S') (A.1.1 - 1) (by
              intro r hr
              try dsimp only
              have hr1 : r + 1 < A.1.1 := by omega
              rw [e_X11_gather_81, e0.r1, xob_some, g_K hR, xob_some, if_neg (by rw [iI_le (by omega) (by omega) (by omega) (by omega)]; omega), xah_suc]
              by_cases c : xah gp ld r ((-ld w) % 12 + 12 * t) (gp w) = true
              · rw [c, if_pos rfl, if_neg (show ¬ iI 1 = 0 by decide +kernel), e0.o, cond_true, mt, xob_some, e0.o, cond_true]
                have at0 : xcJ P m_X11_apartTop [.ref m, .int (iI 0), .int (iI ((r + 1 : Nat) : Int)), .long (jI (xfm A.1 0 (w + 1) + 12 * t)), .long (jI (12 * xog A.1 0 (w + 1)))] S' = some (jI (xdd A.1 0 (r + 1) (12 * (xfm A.1 0 (w + 1) + 12 * t)) (12 * xog A.1 0 (w + 1))), S') := g_apartTop e0 hR h0 hr1 (by omega) (by omega) (by omega) (by omega)
                dsimp only
                rw [iI_ji (by omega) (by omega), jI_mul, at0, xob_some]
                dsimp only
                have sc := xdd_scale A.1 0 (r + 1) (x := xfm A.1 0 (w + 1) + 12 * t) (e := xog A.1 0 (w + 1)) (show 0 < (12 : Int) by decide)
                rw [Int.mul_comm _ 12, Int.mul_comm _ 12] at sc
                have dd := xa2_dd A.1 0 (r + 1) (x := xfm A.1 0 (w + 1) + 12 * t) (e := xog A.1 0 (w + 1)) (by omega)
                have bd := xdd_bd A.1 0 (r + 1) (x := xfm A.1 0 (w + 1) + 12 * t) (e := xog A.1 0 (w + 1)) (by omega)
                have ea : xa2 gp ld ((-ld w) % 12 + 12 * t) (gp w) r = xdd A.1 0 (r + 1) (xfm A.1 0 (w + 1) + 12 * t) (xog A.1 0 (w + 1)) := by
                  rw [← dd, ehr, bgw]
                  unfold xa2
                  rw [gpe, lde]
                rw [Bool.true_and, ea]
                by_cases d : xdd A.1 0 (r + 1) (xfm A.1 0 (w + 1) + 12 * t) (xog A.1 0 (w + 1)) = 0
                · rw [decide_eq_true d, if_pos rfl, if_neg (by rw [ne_eq, x_ceq (by omega) (by omega) (by decide) (by decide)]; omega), iI_suc]
                · rw [decide_eq_false d, if_neg (show ¬ false = true by decide), if_pos (by rw [ne_eq, x_ceq (by omega) (by omega) (by decide) (by decide)]; omega), iI_suc]
              · rw [if_neg c, if_pos (show iI 0 = 0 by decide +kernel), (show xah gp ld r ((-ld w) % 12 + 12 * t) (gp w) = false by simpa using c), Bool.false_and, if_neg (show ¬ false = true by decide), iI_suc])
            try dsimp only at st2
            have s0 : xah gp ld 0 ((-ld w) % 12 + 12 * t) (gp w) = true := by unfold xah; rw [decide_eq_true_eq]; intro r hr; omega
            rw [s0, if_pos rfl] at st2
            refine st2.trans ?_
            rw [e_X11_gather_81, e0.r1, xob_some, g_K hR, xob_some, if_pos (by rw [iI_le (by omega) (by omega) (by omega) (by omega)]; omega)]
            simp only [xga, xct]
            by_cases c : xah gp ld (A.1.1 - 1) ((-ld w) % 12 + 12 * t) (gp w) = true
            · simp only [c, if_true]
              rw [if_neg (show ¬ iI 1 = 0 by decide +kernel), iI_suc, iI_suc]
            · simp only [c, if_false, Bool.false_eq_true]
              rw [if_pos (show iI 0 = 0 by decide +kernel), iI_suc]
              rfl)
          try dsimp only at st
          refine st.trans ?_
          rw [e_X11_gather_69, if_pos (by rw [iI_le (by omega) (by omega) (by omega) (by omega)]; omega), bgw]
end ME
