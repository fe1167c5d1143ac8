-- deps: 22.spans
/-! Spans.becomeCommon -/
section CO
variable {P : Nat → Nat} {S : xS} {a b c M M1 M2 n1 n2 : Nat} {u1 v1 u2 v2 : Nat → Int}
/-- add, whether there is something to add or not -/
theorem d_saddE {n : Nat} {u v : Nat → Int} (h : xSp S a M n u v) (hM : n < M) {x y : Int} (x0 : 0 ≤ x) (x1 : x < 4611686018427387904) (y0 : -4611686018427387904 ≤ y) (y1 : y < 1152921504606846976) (hl : 0 < n → v (n - 1) < x) : ∃ S1 n' u' v', xcV P m_X6_add [.ref a, .long (jI x), .long (jI y)] S = some S1 ∧ xSp S1 a M n' u' v' ∧ n' ≤ n + 1 ∧ (∀ t, xme n' u' v' t ↔ xme n u v t ∨ (2 * x ≤ t ∧ t ≤ 2 * y)) ∧ (0 < n' → (v' (n' - 1) = y ∧ x ≤ y) ∨ v' (n' - 1) < x) ∧ xfr S S1 (x3 a) := by
  by_cases hxy : x ≤ y
  · obtain ⟨S1, k1, k2, k3⟩ := d_sadd (P := P) h hM x0 hxy y1 hl
    exact ⟨S1, n + 1, _, _, k1, k2, by omega, fun t => xme_up, fun _ => Or.inl ⟨by rw [va_up_at, if_pos (by omega)], hxy⟩, k3⟩
  · refine ⟨S, n, u, v, d_sadd0 h (by omega) (by omega) (by omega) (by omega) (by omega), h, by omega, fun t => ⟨Or.inl, fun z => ?_⟩, fun z => Or.inr (hl z), xfr.rf⟩
    rcases z with z | z
    · exact z
    · omega
def xCi (n1 n2 : Nat) (u1 v1 u2 v2 : Nat → Int) (i j n : Nat) (u v : Nat → Int) : Prop :=
  n ≤ i + j ∧ (i + j + 1 ≤ n1 + n2 ∨ n = 0) ∧ (∀ t, xme n u v t → xme n1 u1 v1 t ∧ xme n2 u2 v2 t) ∧
  (∀ t p q, p < n1 → q < n2 → 2 * u1 p ≤ t → t ≤ 2 * v1 p → 2 * u2 q ≤ t → t ≤ 2 * v2 q → xme n u v t ∨ (i ≤ p ∧ j ≤ q)) ∧
  (0 < n → i < n1 → j < n2 → v (n - 1) < max (u1 i) (u2 j))
theorem l_common2 (h1 : xSp S b M1 n1 u1 v1) (h2 : xSp S c M2 n2 u2 v2) (hab : a + 2 < b ∨ b + 2 < a) (hac : a + 2 < c ∨ c + 2 < a) (hM : n1 + n2 ≤ M + 1) :
    ∀ (d i j n : Nat) (u v : Nat → Int) (T : xS), i + j + d = n1 + n2 → i ≤ n1 → j ≤ n2 → xSp T a M n u v → xfr S T (x3 a) → xCi n1 n2 u1 v1 u2 v2 i j n u v →
    ∃ S1 n u v, xrun P m_X6_becomeCommon 9 [(0, .ref a), (1, .ref b), (2, .ref c), (3, .int (iI i)), (4, .int (iI j))] [] T = some (none, S1) ∧ xSp S1 a M n u v ∧ (n + 1 ≤ n1 + n2 ∨ n = 0) ∧ (∀ t, xme n u v t ↔ xme n1 u1 v1 t ∧ xme n2 u2 v2 t) ∧ xfr S S1 (x3 a) := by
  intro d
  have m1 := h1.m
  have m2 := h2.m
  induction d with
  | zero =>
    intro i j n u v T hd hi hj hT fT I
    have h1' := h1.fr fT (fun x hx hy => by unfold x3 at hx hy; omega)
    refine ⟨T, n, u, v, ?_, hT, ?_, fun t => ⟨I.2.2.1 t, fun z => ?_⟩, fT⟩
    · rw [e_X6_becomeCommon_9, h1'.o, cond_true, d_ssize h1', xob_some]
      simp (disch := omega) only [iI_le]
      rw [if_pos (by omega)]
    · have := I.1; have := I.2.1; omega
    · obtain ⟨⟨p, hp, z1, z2⟩, q, hq, z3, z4⟩ := z
      rcases I.2.2.2.1 t p q hp hq z1 z2 z3 z4 with z | z
      · exact z
      · omega
  | succ d ih =>
    intro i j n u v T hd hi hj hT fT I
    have h1' := h1.fr fT (fun x hx hy => by unfold x3 at hx hy; omega)
    have h2' := h2.fr fT (fun x hx hy => by unfold x3 at hx hy; omega)
    have fin : (n1 ≤ i ∨ n2 ≤ j) → xrun P m_X6_becomeCommon 9 [(0, .ref a), (1, .ref b), (2, .ref c), (3, .int (iI i)), (4, .int (iI j))] [] T = some (none, T) → ∃ S1 n u v, xrun P m_X6_becomeCommon 9 [(0, .ref a), (1, .ref b), (2, .ref c), (3, .int (iI i)), (4, .int (iI j))] [] T = some (none, S1) ∧ xSp S1 a M n u v ∧ (n + 1 ≤ n1 + n2 ∨ n = 0) ∧ (∀ t, xme n u v t ↔ xme n1 u1 v1 t ∧ xme n2 u2 v2 t) ∧ xfr S S1 (x3 a) := by
      intro hij hrun
      refine ⟨T, n, u, v, hrun, hT, ?_, fun t => ⟨I.2.2.1 t, fun z => ?_⟩, fT⟩
      · have := I.1; have := I.2.1; omega
      · obtain ⟨⟨p, hp, z1, z2⟩, q, hq, z3, z4⟩ := z
        rcases I.2.2.2.1 t p q hp hq z1 z2 z3 z4 with z | z
        · exact z
        · omega
    by_cases ci : i < n1
    · by_cases cj : j < n2
      · obtain ⟨O1, -⟩ := h1
        obtain ⟨O2, -⟩ := h2
        have w1 := O1.1 i ci
        have w2 := O2.1 j cj
        obtain ⟨I1, I2, I3, I4, I5⟩ := I
        obtain ⟨T1, n', u', v', k1, k2, k3, k4, k5, k6⟩ := d_saddE (P := P) hT (by omega) (x := max (u1 i) (u2 j)) (y := min (v1 i) (v2 j)) (by omega) (by omega) (by omega) (by omega) (fun z => I5 z ci cj)
        have g1 := h1'.fr k6 (fun x hx hy => by unfold x3 at hx hy; omega)
        have g2 := h2'.fr k6 (fun x hx hy => by unfold x3 at hx hy; omega)
        have snd : ∀ t, xme n' u' v' t → xme n1 u1 v1 t ∧ xme n2 u2 v2 t := by
          intro t z
          rcases (k4 t).mp z with z | z
          · exact I3 t z
          · exact ⟨⟨i, ci, by omega, by omega⟩, ⟨j, cj, by omega, by omega⟩⟩
        have e0 : xrun P m_X6_becomeCommon 9 [(0, .ref a), (1, .ref b), (2, .ref c), (3, .int (iI i)), (4, .int (iI j))] [] T = (if v2 j ≤ v1 i then xrun P m_X6_becomeCommon 9 [(0, .ref a), (1, .ref b), (2, .ref c), (3, .int (iI i)), (4, .int (iI (j + 1 : Nat)))] [] T1 else xrun P m_X6_becomeCommon 9 [(0, .ref a), (1, .ref b), (2, .ref c), (3, .int (iI (i + 1 : Nat))), (4, .int (iI j))] [] T1) := by
          rw [e_X6_becomeCommon_9, h1'.o, cond_true, d_ssize h1', xob_some]
          simp (disch := omega) only [iI_le]
          rw [if_neg (by omega), h2'.o, cond_true, d_ssize h2', xob_some]
          simp (disch := omega) only [iI_le]
          rw [if_neg (by omega), h1'.o, cond_true, d_fromAt h1' ci, xob_some]
          dsimp only
          rw [h2'.o, cond_true, d_fromAt h2' cj, xob_some]
          dsimp only
          rw [c_maxL (by omega) (by omega) (by omega) (by omega), xob_some]
          dsimp only
          rw [h1'.o, cond_true, d_toAt h1' ci, xob_some]
          dsimp only
          rw [h2'.o, cond_true, d_toAt h2' cj, xob_some]
          dsimp only
          rw [c_minL (by omega) (by omega) (by omega) (by omega), xob_some]
          dsimp only
          rw [hT.o, cond_true, k1, xob_some, g1.o, cond_true, d_toAt g1 ci, xob_some]
          dsimp only
          rw [g2.o, cond_true, d_toAt g2 cj, xob_some]
          simp (disch := omega) only [lg_ge, iI_suc]
        by_cases cv : v2 j ≤ v1 i
        · rw [e0, if_pos cv]
          refine ih i (j + 1) n' u' v' T1 (by omega) hi (by omega) k2 (fT.tr k6) ⟨by omega, by omega, snd, fun t p q hp hq z1 z2 z3 z4 => ?_, fun z0 z1 z2 => ?_⟩
          · rcases I4 t p q hp hq z1 z2 z3 z4 with z | ⟨z5, z6⟩
            · exact Or.inl ((k4 t).mpr (Or.inl z))
            · by_cases cq : q = j
              · subst cq
                by_cases cp : p = i
                · subst cp; exact Or.inl ((k4 t).mpr (Or.inr ⟨by omega, by omega⟩))
                · have := O1.lt (j := i) (k := p) (by omega) hp
                  omega
              · exact Or.inr ⟨z5, by omega⟩
          · have w3 := O2.2 j z2
            rcases k5 z0 with z | z <;> omega
        · rw [e0, if_neg cv]
          refine ih (i + 1) j n' u' v' T1 (by omega) (by omega) hj k2 (fT.tr k6) ⟨by omega, by omega, snd, fun t p q hp hq z1 z2 z3 z4 => ?_, fun z0 z1 z2 => ?_⟩
          · rcases I4 t p q hp hq z1 z2 z3 z4 with z | ⟨z5, z6⟩
            · exact Or.inl ((k4 t).mpr (Or.inl z))
            · by_cases cp : p = i
              · subst cp
                by_cases cq : q = j
                · subst cq; exact Or.inl ((k4 t).mpr (Or.inr ⟨by omega, by omega⟩))
                · have := O2.lt (j := j) (k := q) (by omega) hq
                  omega
              · exact Or.inr ⟨by omega, z6⟩
          · have w3 := O1.2 i z1
            rcases k5 z0 with z | z <;> omega
      · refine fin (Or.inr (by omega)) ?_
        rw [e_X6_becomeCommon_9, h1'.o, cond_true, d_ssize h1', xob_some]
        simp (disch := omega) only [iI_le]
        rw [if_neg (by omega), h2'.o, cond_true, d_ssize h2', xob_some]
        simp (disch := omega) only [iI_le]
        rw [if_pos (by omega)]
    · refine fin (Or.inl (by omega)) ?_
      rw [e_X6_becomeCommon_9, h1'.o, cond_true, d_ssize h1', xob_some]
      simp (disch := omega) only [iI_le]
      rw [if_pos (by omega)]
theorem d_becomeCommon (h0 : ∃ n f g, xPq S a M n f g) (h1 : xSp S b M1 n1 u1 v1) (h2 : xSp S c M2 n2 u2 v2) (hab : a + 2 < b ∨ b + 2 < a) (hac : a + 2 < c ∨ c + 2 < a) (hM : n1 + n2 ≤ M + 1) :
    ∃ S1 n u v, xcV P m_X6_becomeCommon [.ref a, .ref b, .ref c] S = some S1 ∧ xSp S1 a M n u v ∧ (n + 1 ≤ n1 + n2 ∨ n = 0) ∧ (∀ t, xme n u v t ↔ xme n1 u1 v1 t ∧ xme n2 u2 v2 t) ∧ xfr S S1 (x3 a) := by
  obtain ⟨n0, f, g, hp⟩ := h0
  obtain ⟨T, k1, k2, k3⟩ := d_sclear (P := P) (u := u1) (v := v1) ⟨f, g, (show xPq S a M n0 f g from hp)⟩
  obtain ⟨S1, n, u, v, q1, q2⟩ := l_common2 (P := P) h1 h2 hab hac hM (n1 + n2) 0 0 0 u1 v1 T (by omega) (by omega) (by omega) k2 k3 ⟨by omega, by omega, fun t z => by obtain ⟨k, hk, -⟩ := z; omega, fun t p q _ _ _ _ _ _ => Or.inr ⟨by omega, by omega⟩, fun z => by omega⟩
  refine ⟨S1, n, u, v, xcV_of ((e_X6_becomeCommon_0 P a b c S).trans ?_), q2⟩
  rw [xisO_at hp.2.2.1, cond_true, k1, xob_some]
  exact q1
end CO
