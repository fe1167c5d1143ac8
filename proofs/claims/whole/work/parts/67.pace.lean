-- deps: 66.acts2
/-! pace, onward, turn, gate, mirror -/
/-- the first n runners have other speeds, other starts -/
def xlay (F : xF) (h g : Nat → Int) (n : Nat) : xF := (F.1, fun t => if t < n then h t else F.2.1 t, fun t => if t < n then g t else F.2.2 t)
theorem x_lay1 (h f : Nat → Int) (n t : Nat) : (if t = n then h n else if t < n then h t else f t) = if t < n + 1 then h t else f t := by
  by_cases c : t = n
  · rw [if_pos c, if_pos (by omega), c]
  · rw [if_neg c]
    by_cases d : t < n
    · rw [if_pos d, if_pos (by omega)]
    · rw [if_neg d, if_neg (by omega)]
theorem xlay_0 (F : xF) (h g : Nat → Int) : xlay F h g 0 = F := by
  refine Prod.ext rfl (Prod.ext (funext fun t => ?_) (funext fun t => ?_))
  · show (if t < 0 then h t else F.2.1 t) = F.2.1 t
    rw [if_neg (Nat.not_lt_zero _)]
  · show (if t < 0 then g t else F.2.2 t) = F.2.2 t
    rw [if_neg (Nat.not_lt_zero _)]
theorem xlay_v (F : xF) (h : Nat → Int) (n : Nat) : xse (xlay F h F.2.2 n) false n (h n) = xlay F h F.2.2 (n + 1) := by
  refine Prod.ext rfl (Prod.ext (funext fun t => ?_) (funext fun t => ?_))
  · exact x_lay1 h F.2.1 n t
  · show (if t < n then F.2.2 t else F.2.2 t) = (if t < n + 1 then F.2.2 t else F.2.2 t)
    rw [ite_self, ite_self]
theorem xlay_s (F : xF) (g : Nat → Int) (n : Nat) : xse (xlay F F.2.1 g n) true n (g n) = xlay F F.2.1 g (n + 1) := by
  refine Prod.ext rfl (Prod.ext (funext fun t => ?_) (funext fun t => ?_))
  · show (if t < n then F.2.1 t else F.2.1 t) = (if t < n + 1 then F.2.1 t else F.2.1 t)
    rw [ite_self, ite_self]
  · exact x_lay1 g F.2.2 n t
theorem xlay_vs (F : xF) (h g : Nat → Int) (n : Nat) : xse (xse (xlay F h g n) false n (h n)) true n (g n) = xlay F h g (n + 1) := by
  refine Prod.ext rfl (Prod.ext (funext fun t => ?_) (funext fun t => ?_))
  · exact x_lay1 h F.2.1 n t
  · exact x_lay1 g F.2.2 n t
theorem xlay_vr (F : xF) (h g : Nat → Int) (n : Nat) : (xlay F h g n).2.1 n = F.2.1 n := if_neg (by omega)
theorem xlay_sr (F : xF) (h g : Nat → Int) (n : Nat) : (xlay F h g n).2.2 n = F.2.2 n := if_neg (by omega)
theorem xmx_ge {v : Nat → Int} : ∀ n t, t < n → v t ≤ xmx v n := by
  intro n
  induction n with
  | zero => intro t ht; omega
  | succ n ih =>
    intro t ht
    simp only [xmx]
    by_cases c : t = n
    · subst c; omega
    · have := ih t (by omega); omega
section A3
variable {P : Nat → Nat} {S T : xS} {x m : Nat} {A : xAb} {ob ob0 : Nat → Value} {F : xF}
theorem k_pace (H : xCl S x A) {d : Int} (d1 : -2147483648 ≤ d) (d2 : d < 2147483648) : xKI P S x m_X10_pace [.int (iI d)] (iI (if d ≠ 0 ∧ A.1.1 ≠ 0 ∧ ∀ r, r < A.1.1 → 0 ≤ A.1.2.1 r + d ∧ A.1.2.1 r + d ≤ 40 then (A.1.1 : Int) else -1)) (if d ≠ 0 ∧ A.1.1 ≠ 0 ∧ ∀ r, r < A.1.1 → 0 ≤ A.1.2.1 r + d ∧ A.1.2.1 r + d ≤ 40 then xac A (xlay A.1 (fun t => A.1.2.1 t + d) A.1.2.2 A.1.1) else A) := by
  have hF := H.2.1
  have hk := hF.1.1
  by_cases c1 : d = 0
  · rw [if_neg (by simp [c1]), if_neg (by simp [c1])]
    refine ⟨S, xcI_of ((e_X10_pace_0 P x (iI d) S).trans ?_), H, xfr.rf⟩
    rw [if_pos (by rw [c1]; decide +kernel)]
  · have n0 : ¬ iI d = 0 := by rw [iI_0, iI_eq d1 d2 (by omega) (by omega)]; exact c1
    by_cases c2 : A.1.1 = 0
    · rw [if_neg (by simp [c2]), if_neg (by simp [c2])]
      refine ⟨S, xcI_of ((e_X10_pace_0 P x (iI d) S).trans ?_), H, xfr.rf⟩
      rw [if_neg n0]
      have sz := d_size (P := P) hF
      rw [c2] at sz
      have sz' : xcI P m_X0_size [.ref (x + 1)] S = some (iI 0, S) := sz
      simp only [H.r0, hF.o, sz', xob_some, cond_true, t_10, t_00, ne_eq, not_true_eq_false, not_false_eq_true, if_true, if_false, ite_self]
    · have fst := hF.1.2 0 (by omega)
      by_cases c3 : -40 ≤ d ∧ d ≤ 40
      · obtain ⟨T1, a1, a2, H1, -, f1⟩ := H.try (P := P)
        have head : ∀ R, xrun P m_X10_pace 41 [(0, .ref x), (1, .int (iI d)), (2, .int (iI (0 : Nat)))] [] T1 = R → xcall P m_X10_pace [.ref x, .int (iI d)] S = R := by
          intro R hR
          refine (e_X10_pace_0 P x (iI d) S).trans ?_
          have nz : (iI ((A.1.1 : Nat) : Int) = 0) = False := t_nz (by omega) (by omega) (by omega)
          rw [if_neg n0, if_neg (by rw [iI_lt (by omega) (by omega) (by omega) (by omega)]; omega), if_neg (by rw [iI_lt (by omega) (by omega) (by omega) (by omega)]; omega)]
          simp only [H.r0, H.r1, hF.o, d_size hF, nz, H.to, a1, xob_some, cond_true, t_10, t_00, ne_eq, not_true_eq_false, not_false_eq_true, if_true, if_false]
          exact hR
        have step : ∀ (v : Nat) (Z : xS), v < A.1.1 → xCl Z x A → xFd Z (x + 4) (xlay A.1 (fun t => A.1.2.1 t + d) A.1.2.2 v) →
            (0 ≤ A.1.2.1 v + d ∧ A.1.2.1 v + d ≤ 40 → ∃ Z', xrun P m_X10_pace 41 [(0, .ref x), (1, .int (iI d)), (2, .int (iI v))] [] Z = xrun P m_X10_pace 41 [(0, .ref x), (1, .int (iI d)), (2, .int (iI (v + 1 : Nat)))] [] Z' ∧ xCl Z' x A ∧ xfr Z Z' (xrg x 89) ∧ xFd Z' (x + 4) (xlay A.1 (fun t => A.1.2.1 t + d) A.1.2.2 (v + 1))) ∧
            (¬ (0 ≤ A.1.2.1 v + d ∧ A.1.2.1 v + d ≤ 40) → xrun P m_X10_pace 41 [(0, .ref x), (1, .int (iI d)), (2, .int (iI v))] [] Z = some (some (.int (iI (-1))), Z)) := by
          intro v Z hv HZ hT
          have hZ : xFd Z (x + 1) A.1 := HZ.2.1
          have bv := hF.1.2 v hv
          refine ⟨fun ok => ?_, fun ok => ?_⟩
          · obtain ⟨T2, b1, b2, H2, -, f2⟩ := HZ.tset (P := P) hT (j := v) hv ok.1 ok.2
            have e := xlay_v A.1 (fun t => A.1.2.1 t + d) v
            rw [e] at b2
            refine ⟨T2, ?_, H2, f2, b2⟩
            rw [e_X10_pace_41, HZ.r0, xob_some, hZ.o, cond_true, d_size hZ, xob_some, if_neg (by rw [iI_le (by omega) (by omega) (by omega) (by omega)]; omega)]
            simp only [HZ.r0, hZ.o, d_speedAt hZ hv, iI_add, d_isSpeed (P := P) (S := Z) (v := A.1.2.1 v + d) (by omega) (by omega), if_pos ok, HZ.r1, hT.o, b1, xob_some, cond_true, t_10, t_00, ne_eq, not_true_eq_false, not_false_eq_true, if_true, if_false]
            rfl
          · rw [e_X10_pace_41, HZ.r0, xob_some, hZ.o, cond_true, d_size hZ, xob_some, if_neg (by rw [iI_le (by omega) (by omega) (by omega) (by omega)]; omega)]
            simp only [HZ.r0, hZ.o, d_speedAt hZ hv, iI_add, d_isSpeed (P := P) (S := Z) (v := A.1.2.1 v + d) (by omega) (by omega), if_neg ok, xob_some, cond_true, t_10, t_00, ne_eq, not_true_eq_false, not_false_eq_true, if_true, if_false]
        by_cases c4 : ∀ r, r < A.1.1 → 0 ≤ A.1.2.1 r + d ∧ A.1.2.1 r + d ≤ 40
        · rw [if_pos ⟨c1, c2, c4⟩, if_pos ⟨c1, c2, c4⟩]
          have key := xloopQ (run := fun v (Z : xS) => xrun P m_X10_pace 41 [(0, .ref x), (1, .int (iI d)), (2, .int (iI v))] [] Z)
            (Inv := fun v Z => xCl Z x A ∧ xfr S Z (xrg x 89) ∧ xFd Z (x + 4) (xlay A.1 (fun t => A.1.2.1 t + d) A.1.2.2 v))
            (fun res => ∃ T, res = some (some (.int (iI (A.1.1 : Int))), T) ∧ xCl T x (xac A (xlay A.1 (fun t => A.1.2.1 t + d) A.1.2.2 A.1.1)) ∧ xfr S T (xrg x 89)) 0 A.1.1 (by omega) (by
              rintro v Z - hv ⟨HZ, fZ, hT⟩
              obtain ⟨Z', q1, q2, q3, q4⟩ := (step v Z hv HZ hT).1 (c4 v hv)
              exact Or.inr ⟨Z', q1, q2, fZ.tr q3, q4⟩) (by
              rintro Z ⟨HZ, fZ, hT⟩
              have hZ : xFd Z (x + 1) A.1 := HZ.2.1
              obtain ⟨T2, b1, H2, f2⟩ := HZ.settle (P := P) hT
              have hF2 : xFd T2 (x + 1) (xlay A.1 (fun t => A.1.2.1 t + d) A.1.2.2 A.1.1) := H2.2.1
              refine ⟨T2, ?_, H2, fZ.tr f2⟩
              rw [e_X10_pace_41, HZ.r0, xob_some, hZ.o, cond_true, d_size hZ, xob_some, if_pos (by rw [iI_le (by omega) (by omega) (by omega) (by omega)]; omega)]
              simp only [HZ.o, b1, H2.r0, hF2.o, d_size hF2, xob_some, cond_true]
              rfl) (s := T1) ⟨H1, f1, by rw [xlay_0]; exact a2⟩
          obtain ⟨T, t1, t2, t3⟩ := key
          exact ⟨T, by unfold xcI; rw [head _ t1], t2, t3⟩
        · rw [if_neg (fun z => c4 z.2.2), if_neg (fun z => c4 z.2.2)]
          have key := xloopQ (run := fun v (Z : xS) => xrun P m_X10_pace 41 [(0, .ref x), (1, .int (iI d)), (2, .int (iI v))] [] Z)
            (Inv := fun v Z => xCl Z x A ∧ xfr S Z (xrg x 89) ∧ xFd Z (x + 4) (xlay A.1 (fun t => A.1.2.1 t + d) A.1.2.2 v) ∧ ∀ r, r < v → 0 ≤ A.1.2.1 r + d ∧ A.1.2.1 r + d ≤ 40)
            (fun res => ∃ T, res = some (some (.int (iI (-1))), T) ∧ xCl T x A ∧ xfr S T (xrg x 89)) 0 A.1.1 (by omega) (by
              rintro v Z - hv ⟨HZ, fZ, hT, ho⟩
              by_cases c5 : 0 ≤ A.1.2.1 v + d ∧ A.1.2.1 v + d ≤ 40
              · obtain ⟨Z', q1, q2, q3, q4⟩ := (step v Z hv HZ hT).1 c5
                refine Or.inr ⟨Z', q1, q2, fZ.tr q3, q4, fun r hr => ?_⟩
                by_cases c6 : r = v
                · rw [c6]; exact c5
                · exact ho r (by omega)
              · exact Or.inl ⟨Z, (step v Z hv HZ hT).2 c5, HZ, fZ⟩) (by
              rintro Z ⟨HZ, fZ, hT, ho⟩
              exact absurd ho c4) (s := T1) ⟨H1, f1, by rw [xlay_0]; exact a2, fun r hr => absurd hr (by omega)⟩
          obtain ⟨T, t1, t2, t3⟩ := key
          exact ⟨T, by unfold xcI; rw [head _ t1], t2, t3⟩
      · have c4 : ¬ ∀ r, r < A.1.1 → 0 ≤ A.1.2.1 r + d ∧ A.1.2.1 r + d ≤ 40 := fun z => by have := z 0 (by omega); omega
        rw [if_neg (fun z => c4 z.2.2), if_neg (fun z => c4 z.2.2)]
        refine ⟨S, xcI_of ((e_X10_pace_0 P x (iI d) S).trans ?_), H, xfr.rf⟩
        rw [if_neg n0]
        by_cases c5 : d < -40
        · rw [if_pos (by rw [iI_lt d1 d2 (by omega) (by omega)]; exact c5)]
        · rw [if_neg (by rw [iI_lt d1 d2 (by omega) (by omega)]; exact c5), if_pos (by rw [iI_lt (by omega) (by omega) d1 d2]; omega)]
theorem h_pace (M : xMl S m A) {d : Int} (d1 : -2147483648 ≤ d) (d2 : d < 2147483648) : xGI P S m m_X11_pace [.int (iI d)] (iI (if d ≠ 0 ∧ A.1.1 ≠ 0 ∧ ∀ r, r < A.1.1 → 0 ≤ A.1.2.1 r + d ∧ A.1.2.1 r + d ≤ 40 then (A.1.1 : Int) else -1)) (if d ≠ 0 ∧ A.1.1 ≠ 0 ∧ ∀ r, r < A.1.1 → 0 ≤ A.1.2.1 r + d ∧ A.1.2.1 r + d ≤ 40 then xac A (xlay A.1 (fun t => A.1.2.1 t + d) A.1.2.2 A.1.1) else A) := by
  obtain ⟨ob, e0, h5, h28, hR, -⟩ := id M
  have hk := hR.1.1
  by_cases c1 : d = 0
  · rw [if_neg (by simp [c1]), if_neg (by simp [c1])]
    refine ⟨S, xcI_of ((e_X11_pace_0 P m (iI d) S).trans ?_), M, xfr.rf⟩
    rw [if_pos (by rw [c1]; decide +kernel)]
  · have n0 : ¬ iI d = 0 := by rw [iI_0, iI_eq d1 d2 (by omega) (by omega)]; exact c1
    by_cases c2 : A.1.1 = 0
    · rw [if_neg (by simp [c2]), if_neg (by simp [c2])]
      refine ⟨S, xcI_of ((e_X11_pace_0 P m (iI d) S).trans ?_), M, xfr.rf⟩
      have sz := g_K hR
      rw [c2] at sz
      have sz' : xrdI S (m + 1) (iI 0) = some (iI 0) := sz
      rw [if_neg n0]
      simp only [e0.r1, sz', xob_some, cond_true, t_10, t_00, ne_eq, not_true_eq_false, not_false_eq_true, if_true, if_false]
    · have nz : (iI ((A.1.1 : Nat) : Int) = 0) = False := t_nz (by omega) (by omega) (by omega)
      have ar : ∀ v, v < A.1.1 → xcI P m_X11_in [.long ((iI (A.1.2.1 v)).toInt64 + (iI d).toInt64), .long (jI 0), .long (jI 40)] S = some (iI (if 0 ≤ A.1.2.1 v + d ∧ A.1.2.1 v + d ≤ 40 then 1 else 0), S) := by
        intro v hv
        have bv := hR.1.2 v hv
        rw [iI_ji (by omega) (by omega), iI_ji d1 d2, jI_add]
        exact d_in (by omega) (by omega) (by omega) (by omega) (by omega) (by omega)
      by_cases c4 : ∀ r, r < A.1.1 → 0 ≤ A.1.2.1 r + d ∧ A.1.2.1 r + d ≤ 40
      · rw [if_pos ⟨c1, c2, c4⟩, if_pos ⟨c1, c2, c4⟩]
        obtain ⟨T1, a1, M1, f1, f1'⟩ := M.keeps (P := P)
        obtain ⟨ob1, e1, -, -, hR1', -⟩ := id M1
        have hR1 : xRo T1 (m + 1) A.1 := hR1'
        have walk := (xsteps (fun v => xrun P m_X11_pace 17 [(0, .ref m), (1, .int (iI d)), (2, .int (iI v))] [] S) A.1.1 (by
          intro v hv
          rw [e_X11_pace_17, e0.r1, xob_some, g_K hR, xob_some, if_neg (by rw [iI_le (by omega) (by omega) (by omega) (by omega)]; omega)]
          simp only [e0.o, g_speedOf e0 hR hv, ar v hv, if_pos (c4 v hv), iI_suc, xob_some, cond_true, t_10, t_00, ne_eq, not_true_eq_false, not_false_eq_true, if_true, if_false]))
        have key := xloopQ (run := fun v (Z : xS) => xrun P m_X11_pace 60 [(0, .ref m), (1, .int (iI d)), (2, .int (iI v))] [] Z)
          (Inv := fun v Z => xfr T1 Z (fun c => c = m + 1) ∧ xRo Z (m + 1) (xlay A.1 (fun t => A.1.2.1 t + d) A.1.2.2 v))
          (fun res => ∃ T, res = some (some (.int (iI (A.1.1 : Int))), T) ∧ xMl T m (xac A (xlay A.1 (fun t => A.1.2.1 t + d) A.1.2.2 A.1.1)) ∧ xfr T1 T (xrg m 19)) 0 A.1.1 (by omega) (by
            rintro v Z - hv ⟨fZ, RZ⟩
            right
            have ok := c4 v hv
            have MZ := e1.fr fZ (by omega)
            have gk : xrdI Z (m + 1) (iI 0) = some (iI (A.1.1 : Int)) := by have g := g_K RZ; exact g
            obtain ⟨Z1, w1, R1, w3⟩ := RZ.se (b := false) (j := v) hv (v := A.1.2.1 v + d) ok.1 (show A.1.2.1 v + d ≤ 40 from ok.2)
            have e := xlay_v A.1 (fun t => A.1.2.1 t + d) v
            rw [e] at R1
            have rd := g_se RZ (b := false) (j := v) hv
            have cu : xcur (xlay A.1 (fun t => A.1.2.1 t + d) A.1.2.2 v) false v = A.1.2.1 v := xlay_vr _ _ _ _
            rw [cu] at rd
            refine ⟨Z1, ?_, fZ.tr w3, R1⟩
            have ei : iI 1 + iI (v : Int) = iI (xix false v : Nat) := by rw [iI_add]; rfl
            rw [e_X11_pace_60, MZ.r1, xob_some, gk, xob_some, if_neg (by rw [iI_le (by omega) (by omega) (by omega) (by omega)]; omega)]
            simp only [MZ.r1, ei, rd, iI_add (A.1.2.1 v) d, w1, xob_some, iI_suc]) (by
            rintro Z ⟨fZ, RZ⟩
            have MZ := e1.fr fZ (by omega)
            have gk : xrdI Z (m + 1) (iI 0) = some (iI (A.1.1 : Int)) := by have g := g_K RZ; exact g
            obtain ⟨M2, f2⟩ := M1.row fZ RZ
            refine ⟨Z, ?_, M2, f2⟩
            rw [e_X11_pace_60, MZ.r1, xob_some, gk, xob_some, if_pos (by rw [iI_le (by omega) (by omega) (by omega) (by omega)]; omega)]
            simp only [MZ.r1, gk, xob_some]) (s := T1) ⟨xfr.rf, by rw [xlay_0]; exact hR1⟩
        obtain ⟨T, t1, t2, t3⟩ := key
        refine ⟨T, xcI_of ((e_X11_pace_0 P m (iI d) S).trans ?_), t2, f1'.tr t3⟩
        rw [if_neg n0]
        simp only [e0.r1, g_K hR, nz, xob_some, cond_true, t_10, t_00, ne_eq, not_true_eq_false, not_false_eq_true, if_true, if_false]
        refine walk.trans ?_
        rw [e_X11_pace_17, e0.r1, xob_some, g_K hR, xob_some, if_pos (by rw [iI_le (by omega) (by omega) (by omega) (by omega)]; omega), e0.o, cond_true, a1, xob_some]
        exact t1
      · rw [if_neg (fun z => c4 z.2.2), if_neg (fun z => c4 z.2.2)]
        have key := xloopQ (run := fun v (Z : xS) => xrun P m_X11_pace 17 [(0, .ref m), (1, .int (iI d)), (2, .int (iI v))] [] Z)
          (Inv := fun v Z => Z = S ∧ ∀ r, r < v → 0 ≤ A.1.2.1 r + d ∧ A.1.2.1 r + d ≤ 40)
          (fun res => res = some (some (.int (iI (-1))), S)) 0 A.1.1 (by omega) (by
            rintro v Z - hv ⟨rfl, ho⟩
            by_cases c5 : 0 ≤ A.1.2.1 v + d ∧ A.1.2.1 v + d ≤ 40
            · refine Or.inr ⟨Z, ?_, rfl, fun r hr => ?_⟩
              · rw [e_X11_pace_17, e0.r1, xob_some, g_K hR, xob_some, if_neg (by rw [iI_le (by omega) (by omega) (by omega) (by omega)]; omega)]
                simp only [e0.o, g_speedOf e0 hR hv, ar v hv, if_pos c5, iI_suc, xob_some, cond_true, t_10, t_00, ne_eq, not_true_eq_false, not_false_eq_true, if_true, if_false]
              · by_cases c6 : r = v
                · rw [c6]; exact c5
                · exact ho r (by omega)
            · refine Or.inl ?_
              rw [e_X11_pace_17, e0.r1, xob_some, g_K hR, xob_some, if_neg (by rw [iI_le (by omega) (by omega) (by omega) (by omega)]; omega)]
              simp only [e0.o, g_speedOf e0 hR hv, ar v hv, if_neg c5, xob_some, cond_true, t_10, t_00, ne_eq, not_true_eq_false, not_false_eq_true, if_true, if_false]) (by
            rintro Z ⟨-, ho⟩
            exact absurd ho c4) (s := S) ⟨rfl, fun r hr => absurd hr (by omega)⟩
        refine ⟨S, xcI_of ((e_X11_pace_0 P m (iI d) S).trans ?_), M, xfr.rf⟩
        rw [if_neg n0]
        simp only [e0.r1, g_K hR, nz, xob_some, cond_true, t_10, t_00, ne_eq, not_true_eq_false, not_false_eq_true, if_true, if_false]
        exact key
theorem z_pace (H : xCl S x A) {i : Int} (i1 : -2147483648 ≤ i) (i2 : i < 2147483648) : ∃ z A', xKI P S x m_X10_pace [.int (iI i)] z A' ∧ ∀ S', xMl S' m A → xGI P S' m m_X11_pace [.int (iI i)] z A' := ⟨_, _, k_pace H i1 i2, fun S' M => h_pace M i1 i2⟩
end A3
