-- deps: 23.common
/-! Spans.becomeUnion -/
section UN
variable {P : Nat → Nat} {S : xS} {a b c M M1 M2 n1 n2 : Nat} {u1 v1 u2 v2 : Nat → Int}
theorem d_join {n : Nat} {u v : Nat → Int} (h : xSp S a M n u v) (hM : n < M) {x y : Int} (x0 : 0 ≤ x) (hxy : x ≤ y) (y1 : y < 1152921504606846976) (hl : 0 < n → u (n - 1) ≤ x) : ∃ S1 n' u' v', xcV P m_X6_join [.ref a, .long (jI x), .long (jI y)] S = some S1 ∧ xSp S1 a M n' u' v' ∧ n' ≤ n + 1 ∧ (∀ t, xme n' u' v' t ↔ xme n u v t ∨ (2 * x ≤ t ∧ t ≤ 2 * y)) ∧ (0 < n' → u' (n' - 1) ≤ x) ∧ xfr S S1 (x3 a) := by
  have hn := h.m
  have O := h.1
  have adds : (0 < n → v (n - 1) < x) → ∃ S1 n' u' v', xcV P m_X6_add [.ref a, .long (jI x), .long (jI y)] S = some S1 ∧ xSp S1 a M n' u' v' ∧ n' ≤ n + 1 ∧ (∀ t, xme n' u' v' t ↔ xme n u v t ∨ (2 * x ≤ t ∧ t ≤ 2 * y)) ∧ (0 < n' → u' (n' - 1) ≤ x) ∧ xfr S S1 (x3 a) := by
    intro hl2
    obtain ⟨S1, k1, k2, k3⟩ := d_sadd (P := P) h hM x0 hxy y1 hl2
    exact ⟨S1, n + 1, _, _, k1, k2, by omega, fun t => xme_up, fun _ => by rw [va_up_at, if_pos (by omega)]; exact Int.le_refl _, k3⟩
  have ho := h.o
  have hz := h.z
  obtain ⟨-, f, g, ⟨-, -, e1, e2, e3⟩, h3⟩ := h
  match n, hn, O, adds, hl, hM, e1, h3, hz with
  | 0, hn, O, adds, hl, hM, e1, h3, hz =>
    obtain ⟨S1, n', u', v', k1, k2⟩ := adds (fun z => by omega)
    refine ⟨S1, n', u', v', xcV_of ((e_X6_join_0 P a (jI x) (jI y) S).trans ?_), k2⟩
    rw [hz, xob_some, if_pos (by decide +kernel), ho, cond_true, k1, xob_some]
  | n + 1, hn, O, adds, hl, hM, e1, h3, hz =>
    have w := O.1 n (by omega)
    by_cases cx : x ≤ v n
    · let S1 : xS := xpt S (a + 2) (.inr (1, (M, .inr (.inl (va_up g n (jI (max (v n) y)))))))
      have p1 : xwrJ S (a + 2) (iI n) (jI (max (v n) y)) = some S1 := by rw [xwrJ_at e3 (by omega) (by omega) (by omega), Int.toNat_natCast]
      refine ⟨S1, n + 1, u, va_up v n (max (v n) y), xcV_of ((e_X6_join_0 P a (jI x) (jI y) S).trans ?_), ⟨⟨fun k hk => ?_, fun k hk => ?_⟩, f, va_up g n (jI (max (v n) y)), ⟨hn.1, hn.2, by rw [xpt_1, if_neg (by omega)]; exact e1, by rw [xpt_1, if_neg (by omega)]; exact e2, by rw [xpt_1, if_pos rfl]⟩, fun k hk => ?_⟩, by omega, fun t => ?_, fun _ => hl (by omega), xfr.pt ⟨by omega, by omega⟩⟩
      · rw [hz, xob_some, iI_pre, if_neg (by rw [iI_0, iI_lt (by omega) (by omega) (by omega) (by omega)]; omega), xfR_at (k := 1) e1 rfl, xob_some, xlen_at e3, xob_some, if_neg (by rw [iI_le (by omega) (by omega) (by omega) (by omega)]; omega), xob_some, xrdJ_at e3 (by omega) (by omega) (by omega), xob_some, Int.toNat_natCast, (h3 n (by omega)).2, if_neg (by rw [lg_gt (by omega) (by omega) (by omega) (by omega)]; omega), xob_some, xob_some, xrdJ_at e3 (by omega) (by omega) (by omega), xob_some, Int.toNat_natCast, (h3 n (by omega)).2, c_maxL (by omega) (by omega) (by omega) (by omega), xob_some]
        dsimp only
        rw [p1, xob_some]
      · rw [va_up_at]
        by_cases ck : k = n
        · rw [if_pos ck, ck]; omega
        · rw [if_neg ck]; exact O.1 k (by omega)
      · rw [va_up_at, if_neg (by omega)]
        exact O.2 k hk
      · rw [va_up_at, va_up_at]
        by_cases ck : k = n
        · rw [if_pos ck, if_pos ck, ck]; exact ⟨(h3 n (by omega)).1, rfl⟩
        · rw [if_neg ck, if_neg ck]; exact h3 k (by omega)
      · have hl' := hl (by omega)
        rw [show n + 1 - 1 = n by omega] at hl'
        constructor
        · rintro ⟨k, hk, z⟩
          rw [va_up_at] at z
          by_cases ck : k = n
          · rw [if_pos ck, ck] at z
            by_cases ct : t ≤ 2 * v n
            · exact Or.inl ⟨n, by omega, by omega⟩
            · exact Or.inr (by omega)
          · rw [if_neg ck] at z; exact Or.inl ⟨k, hk, z⟩
        · rintro (⟨k, hk, z⟩ | z)
          · by_cases ck : k = n
            · subst ck; exact ⟨k, hk, by rw [va_up_at, if_pos rfl]; omega⟩
            · exact ⟨k, hk, by rw [va_up_at, if_neg ck]; exact z⟩
          · exact ⟨n, by omega, by rw [va_up_at, if_pos rfl]; omega⟩
    · obtain ⟨S1, n', u', v', k1, k2⟩ := adds (fun z => by rw [show n + 1 - 1 = n by omega]; omega)
      refine ⟨S1, n', u', v', xcV_of ((e_X6_join_0 P a (jI x) (jI y) S).trans ?_), k2⟩
      have w2 := O.1 n (by omega)
      rw [hz, xob_some, iI_pre, if_neg (by rw [iI_0, iI_lt (by omega) (by omega) (by omega) (by omega)]; omega), xfR_at (k := 1) e1 rfl, xob_some, xlen_at e3, xob_some, if_neg (by rw [iI_le (by omega) (by omega) (by omega) (by omega)]; omega), xob_some, xrdJ_at e3 (by omega) (by omega) (by omega), xob_some, Int.toNat_natCast, (h3 n (by omega)).2, if_pos (by rw [lg_gt (by omega) (by omega) (by omega) (by omega)]; omega), ho, cond_true, k1, xob_some]
def xUi (n1 n2 : Nat) (u1 v1 u2 v2 : Nat → Int) (i j n : Nat) (u v : Nat → Int) : Prop :=
  n ≤ i + j ∧ (∀ t, xme n u v t ↔ xme i u1 v1 t ∨ xme j u2 v2 t) ∧ (0 < n → (i < n1 → u (n - 1) ≤ u1 i) ∧ (j < n2 → u (n - 1) ≤ u2 j))
theorem xme_suc {n : Nat} {u v : Nat → Int} {t : Int} : xme (n + 1) u v t ↔ xme n u v t ∨ (2 * u n ≤ t ∧ t ≤ 2 * v n) := by
  constructor
  · rintro ⟨k, hk, h⟩
    by_cases c : k = n
    · subst c; exact Or.inr h
    · exact Or.inl ⟨k, by omega, h⟩
  · rintro (⟨k, hk, h⟩ | h)
    · exact ⟨k, by omega, h⟩
    · exact ⟨n, by omega, h⟩
theorem l_union (h1 : xSp S b M1 n1 u1 v1) (h2 : xSp S c M2 n2 u2 v2) (hab : a + 2 < b ∨ b + 2 < a) (hac : a + 2 < c ∨ c + 2 < a) (hM : n1 + n2 ≤ M) :
    ∀ (d i j n : Nat) (u v : Nat → Int) (T : xS), i + j + d = n1 + n2 → i ≤ n1 → j ≤ n2 → xSp T a M n u v → xfr S T (x3 a) → xUi n1 n2 u1 v1 u2 v2 i j n u v →
    ∃ S1 n u v, xrun P m_X6_becomeUnion 9 [(0, .ref a), (1, .ref b), (2, .ref c), (3, .int (iI i)), (4, .int (iI j))] [] T = some (none, S1) ∧ xSp S1 a M n u v ∧ n ≤ n1 + n2 ∧ (∀ t, xme n u v t ↔ xme n1 u1 v1 t ∨ xme n2 u2 v2 t) ∧ xfr S S1 (x3 a) := by
  intro d
  have m1 := h1.m
  have m2 := h2.m
  induction d with
  | zero =>
    intro i j n u v T hd hi hj hT fT I
    have h1' := h1.fr fT (fun x hx hy => by unfold x3 at hx hy; omega)
    have h2' := h2.fr fT (fun x hx hy => by unfold x3 at hx hy; omega)
    obtain ⟨I1, I2, I3⟩ := I
    obtain rfl : i = n1 := by omega
    obtain rfl : j = n2 := by omega
    refine ⟨T, n, u, v, ?_, hT, by omega, I2, fT⟩
    rw [e_X6_becomeUnion_9, h1'.o, cond_true, d_ssize h1', xob_some]
    simp (disch := omega) only [iI_lt]
    rw [if_neg (by omega), h2'.o, cond_true, d_ssize h2', xob_some]
    simp (disch := omega) only [iI_le]
    rw [if_pos (by omega)]
  | succ d ih =>
    intro i j n u v T hd hi hj hT fT I
    have h1' := h1.fr fT (fun x hx hy => by unfold x3 at hx hy; omega)
    have h2' := h2.fr fT (fun x hx hy => by unfold x3 at hx hy; omega)
    have O1 := h1.1
    have O2 := h2.1
    obtain ⟨I1, I2, I3⟩ := I
    have e0 : xrun P m_X6_becomeUnion 9 [(0, .ref a), (1, .ref b), (2, .ref c), (3, .int (iI i)), (4, .int (iI j))] [] T = xrun P m_X6_becomeUnion 26 [(0, .ref a), (1, .ref b), (2, .ref c), (3, .int (iI i)), (4, .int (iI j))] [] T := by
      rw [e_X6_becomeUnion_9, h1'.o, cond_true, d_ssize h1', xob_some]
      simp (disch := omega) only [iI_lt]
      by_cases ci : i < n1
      · rw [if_pos (by omega)]
      · rw [if_neg (by omega), h2'.o, cond_true, d_ssize h2', xob_some]
        simp (disch := omega) only [iI_le]
        rw [if_neg (by omega)]
    rw [e0]
    -- one of the first list
    have one : ∀ (hi1 : i < n1), (j < n2 → u1 i ≤ u2 j) → (∀ T1, xcV P m_X6_join [.ref a, .long (jI (u1 i)), .long (jI (v1 i))] T = some T1 → xrun P m_X6_becomeUnion 26 [(0, .ref a), (1, .ref b), (2, .ref c), (3, .int (iI i)), (4, .int (iI j))] [] T = xrun P m_X6_becomeUnion 9 [(0, .ref a), (1, .ref b), (2, .ref c), (3, .int (iI (i + 1 : Nat))), (4, .int (iI j))] [] T1) →
        ∃ S1 n u v, xrun P m_X6_becomeUnion 26 [(0, .ref a), (1, .ref b), (2, .ref c), (3, .int (iI i)), (4, .int (iI j))] [] T = some (none, S1) ∧ xSp S1 a M n u v ∧ n ≤ n1 + n2 ∧ (∀ t, xme n u v t ↔ xme n1 u1 v1 t ∨ xme n2 u2 v2 t) ∧ xfr S S1 (x3 a) := by
      intro hi1 hle hrun
      have w := O1.1 i hi1
      obtain ⟨T1, n', u', v', k1, k2, k3, k4, k5, k6⟩ := d_join (P := P) hT (by omega) w.1 w.2.1 w.2.2 (fun z => (I3 z).1 hi1)
      rw [hrun T1 k1]
      refine ih (i + 1) j n' u' v' T1 (by omega) (by omega) hj k2 (fT.tr k6) ⟨by omega, fun t => ?_, fun z => ⟨fun z2 => ?_, fun z2 => ?_⟩⟩
      · rw [k4 t, I2 t, xme_suc]
        constructor
        · rintro ((z | z) | z)
          · exact Or.inl (Or.inl z)
          · exact Or.inr z
          · exact Or.inl (Or.inr z)
        · rintro ((z | z) | z)
          · exact Or.inl (Or.inl z)
          · exact Or.inr z
          · exact Or.inl (Or.inr z)
      · have := k5 z
        have := O1.2 i z2
        omega
      · have := k5 z
        have := hle z2
        omega
    have two : ∀ (hj1 : j < n2), (i < n1 → u2 j ≤ u1 i) → (∀ T1, xcV P m_X6_join [.ref a, .long (jI (u2 j)), .long (jI (v2 j))] T = some T1 → xrun P m_X6_becomeUnion 26 [(0, .ref a), (1, .ref b), (2, .ref c), (3, .int (iI i)), (4, .int (iI j))] [] T = xrun P m_X6_becomeUnion 9 [(0, .ref a), (1, .ref b), (2, .ref c), (3, .int (iI i)), (4, .int (iI (j + 1 : Nat)))] [] T1) →
        ∃ S1 n u v, xrun P m_X6_becomeUnion 26 [(0, .ref a), (1, .ref b), (2, .ref c), (3, .int (iI i)), (4, .int (iI j))] [] T = some (none, S1) ∧ xSp S1 a M n u v ∧ n ≤ n1 + n2 ∧ (∀ t, xme n u v t ↔ xme n1 u1 v1 t ∨ xme n2 u2 v2 t) ∧ xfr S S1 (x3 a) := by
      intro hj1 hle hrun
      have w := O2.1 j hj1
      obtain ⟨T1, n', u', v', k1, k2, k3, k4, k5, k6⟩ := d_join (P := P) hT (by omega) w.1 w.2.1 w.2.2 (fun z => (I3 z).2 hj1)
      rw [hrun T1 k1]
      refine ih i (j + 1) n' u' v' T1 (by omega) hi (by omega) k2 (fT.tr k6) ⟨by omega, fun t => ?_, fun z => ⟨fun z2 => ?_, fun z2 => ?_⟩⟩
      · rw [k4 t, I2 t, xme_suc]
        constructor
        · rintro ((z | z) | z)
          · exact Or.inl z
          · exact Or.inr (Or.inl z)
          · exact Or.inr (Or.inr z)
        · rintro (z | (z | z))
          · exact Or.inl (Or.inl z)
          · exact Or.inl (Or.inr z)
          · exact Or.inr z
      · have := k5 z
        have := hle z2
        omega
      · have := k5 z
        have := O2.2 j z2
        omega
    by_cases cj : j < n2
    · by_cases ci : i < n1
      · have w1 := O1.1 i ci
        have w2 := O2.1 j cj
        by_cases cu : u2 j < u1 i
        · refine two cj (fun _ => by omega) (fun T1 k1 => ?_)
          rw [e_X6_becomeUnion_26, h2'.o, cond_true, d_ssize h2', xob_some]
          simp (disch := omega) only [iI_le]
          rw [if_neg (by omega), h1'.o, cond_true, d_ssize h1', xob_some]
          simp (disch := omega) only [iI_le]
          rw [if_neg (by omega), h1'.o, cond_true, d_fromAt h1' ci, xob_some]
          dsimp only
          rw [h2'.o, cond_true, d_fromAt h2' cj, xob_some]
          simp (disch := omega) only [lg_gt]
          rw [if_pos cu, h2'.o, cond_true, d_fromAt h2' cj, xob_some]
          dsimp only
          rw [h2'.o, cond_true, d_toAt h2' cj, xob_some]
          dsimp only
          rw [hT.o, cond_true, k1, xob_some, iI_suc]
        · refine one ci (fun _ => by omega) (fun T1 k1 => ?_)
          rw [e_X6_becomeUnion_26, h2'.o, cond_true, d_ssize h2', xob_some]
          simp (disch := omega) only [iI_le]
          rw [if_neg (by omega), h1'.o, cond_true, d_ssize h1', xob_some]
          simp (disch := omega) only [iI_le]
          rw [if_neg (by omega), h1'.o, cond_true, d_fromAt h1' ci, xob_some]
          dsimp only
          rw [h2'.o, cond_true, d_fromAt h2' cj, xob_some]
          simp (disch := omega) only [lg_gt]
          rw [if_neg cu, h1'.o, cond_true, d_fromAt h1' ci, xob_some]
          dsimp only
          rw [h1'.o, cond_true, d_toAt h1' ci, xob_some]
          dsimp only
          rw [hT.o, cond_true, k1, xob_some, iI_suc]
      · refine two cj (fun _ => by omega) (fun T1 k1 => ?_)
        rw [e_X6_becomeUnion_26, h2'.o, cond_true, d_ssize h2', xob_some]
        simp (disch := omega) only [iI_le]
        rw [if_neg (by omega), h1'.o, cond_true, d_ssize h1', xob_some]
        simp (disch := omega) only [iI_le]
        rw [if_pos (by omega), h2'.o, cond_true, d_fromAt h2' cj, xob_some]
        dsimp only
        rw [h2'.o, cond_true, d_toAt h2' cj, xob_some]
        dsimp only
        rw [hT.o, cond_true, k1, xob_some, iI_suc]
    · refine one (by omega) (fun _ => by omega) (fun T1 k1 => ?_)
      rw [e_X6_becomeUnion_26, h2'.o, cond_true, d_ssize h2', xob_some]
      simp (disch := omega) only [iI_le]
      rw [if_pos (by omega), h1'.o, cond_true, d_fromAt h1' (by omega), xob_some]
      dsimp only
      rw [h1'.o, cond_true, d_toAt h1' (by omega), xob_some]
      dsimp only
      rw [hT.o, cond_true, k1, xob_some, iI_suc]
theorem d_becomeUnion (h0 : ∃ n f g, xPq S a M n f g) (h1 : xSp S b M1 n1 u1 v1) (h2 : xSp S c M2 n2 u2 v2) (hab : a + 2 < b ∨ b + 2 < a) (hac : a + 2 < c ∨ c + 2 < a) (hM : n1 + n2 ≤ M) :
    ∃ S1 n u v, xcV P m_X6_becomeUnion [.ref a, .ref b, .ref c] S = some S1 ∧ xSp S1 a M n u v ∧ n ≤ n1 + n2 ∧ (∀ t, xme n u v t ↔ xme n1 u1 v1 t ∨ xme n2 u2 v2 t) ∧ xfr S S1 (x3 a) := by
  obtain ⟨n0, f, g, hp⟩ := h0
  obtain ⟨T, k1, k2, k3⟩ := d_sclear (P := P) (u := u1) (v := v1) ⟨f, g, (show xPq S a M n0 f g from hp)⟩
  obtain ⟨S1, n, u, v, q1, q2⟩ := l_union (P := P) h1 h2 hab hac hM (n1 + n2) 0 0 0 u1 v1 T (by omega) (by omega) (by omega) k2 k3 ⟨by omega, fun t => ⟨Or.inl, fun z => by
    rcases z with z | ⟨k, hk, -⟩
    · exact z
    · omega⟩, fun z => by omega⟩
  refine ⟨S1, n, u, v, xcV_of ((e_X6_becomeUnion_0 P a b c S).trans ?_), q2⟩
  rw [xisO_at hp.2.2.1, cond_true, k1, xob_some]
  exact q1
end UN
