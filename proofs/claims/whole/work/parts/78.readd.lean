-- deps: 77.readc
/-! reading: the class's runs -/
section RE
variable {P : Nat → Nat} {S S0 T : xS} {x m : Nat} {A : xAb} {F : xF} {n : Nat} {b : Nat → Int32}
theorem t_xb1 : (iI (xb true) = 0) = False := by decide +kernel
theorem t_xb0 : (iI (xb false) = 0) = True := by decide +kernel
theorem t_m1 {a : Nat} (h : a < 100000) : (iI (a : Int) = iI (-1)) = False := t_e (by omega) (by omega) (by omega) (by omega) (by omega)
theorem t_mm : (iI (-1) = iI (-1)) = True := by simp
theorem d_readStart (hg : xGv n (xgv n b)) {a2 a3 : Nat} (h : xRd S x n b a2 (-1)) (hn : a2 ≤ n) (hB : xuo cB (xgv n b) a2 a3) (ht : xTt P S 2 [102, 114, 111, 109]) (hP : P 2 ≠ x + 56) :
    (¬ cL (xgv n b a3) → ∃ T, xcI P m_X5_readStart [.ref (x + 56)] S = some (iI 0, T) ∧ xRd T x n b a3 (-1) ∧ xfr S T (fun d => d = x + 56)) ∧
    (cL (xgv n b a3) → ¬ (a2 < a3 ∧ xwrd [102, 114, 111, 109] (xgv n b) a3) → ∃ T, xcI P m_X5_readStart [.ref (x + 56)] S = some (iI 0, T) ∧ xRd T x n b a3 a3 ∧ xfr S T (fun d => d = x + 56)) ∧
    (cL (xgv n b a3) → (a2 < a3 ∧ xwrd [102, 114, 111, 109] (xgv n b) a3) → ∀ a4 d4, xuo cB (xgv n b) (a3 + 4) a4 → xuo cD (xgv n b) a4 (a4 + d4) → ∃ T fl', xcI P m_X5_readStart [.ref (x + 56)] S = some (iI (xvl (xgv n b) a4 d4), T) ∧ xRd T x n b (a4 + d4) fl' ∧ xfr S T (fun d => d = x + 56) ∧ (xnum (xgv n b) 11 (a3 + 4) a4 d4 → fl' = -1) ∧ (¬ xnum (xgv n b) 11 (a3 + 4) a4 d4 → fl' = a4)) := by
  have n200 := h.2.1
  have y1 := hB.le hg nB hn
  obtain ⟨T1, s1, h1, f1⟩ := d_skip (P := P) hg h hn hB
  have bd := hg.bd a3
  have by3 := d_by (P := P) h1.2 (show a3 < 100000 by omega)
  have isl := d_isLetter (P := P) (S := T1) bd.1 bd.2
  refine ⟨fun c => ?_, fun c c2 => ?_, fun c c2 a4 d4 hB4 hD4 => ?_⟩
  · refine ⟨T1, xcI_of ((e_X5_readStart_0 P (x + 56) S).trans ?_), h1, f1⟩
    simp only [h.o, s1, h1.i1, h1.r0, h1.2.o, by3, isl, if_neg c, xob_some, cond_true, t_10, t_00, ne_eq, not_true_eq_false, not_false_eq_true, if_true, if_false]
  · rw [if_pos c] at isl
    obtain ⟨T2, p1, p2, p3⟩ := h1.put2 (a3 : Int)
    refine ⟨T2, xcI_of ((e_X5_readStart_0 P (x + 56) S).trans ?_), p2, f1.tr p3⟩
    simp only [h.o, s1, h1.i1, h1.r0, h1.2.o, by3, isl, t_10, p1, xob_some, cond_true, t_10, t_00, ne_eq, not_true_eq_false, not_false_eq_true, if_true, if_false]
    by_cases q : a2 < a3
    · obtain ⟨t, w1, w2⟩ := d_isWord (P := P) hg h1 y1 (ht.fr f1 hP) (by decide) (by decide)
      have ht : t = false := by
        cases t
        · rfl
        · exact absurd ⟨q, w2.mp rfl⟩ c2
      rw [ht] at w1
      rw [if_pos q, if_neg (by decide +kernel)]
      simp only [h1.o, w1, t_xb0, h1.i1, p1, xob_some, cond_true, t_10, t_00, ne_eq, not_true_eq_false, not_false_eq_true, if_true, if_false]
    · rw [if_neg q, if_pos (by decide +kernel)]
  · rw [if_pos c] at isl
    obtain ⟨t, w1, w2⟩ := d_isWord (P := P) hg h1 y1 (ht.fr f1 hP) (by decide) (by decide)
    have ht : t = true := w2.mpr c2.2
    rw [ht] at w1
    have le4 := xwrd.le hg c2.2 (by decide) (by decide)
    obtain ⟨T2, p1, p2, p3⟩ := h1.put1 (a3 + 4)
    obtain ⟨T3, fl', k1, k2, k3, k4, k5⟩ := d_readNumber (P := P) hg p2 le4 hB4 hD4 (most := 11) (by decide) (by decide)
    have e4 : iI (a3 : Int) + iI 4 = iI ((a3 + 4 : Nat) : Int) := by rw [iI_add]; rfl
    refine ⟨T3, fl', xcI_of ((e_X5_readStart_0 P (x + 56) S).trans ?_), k2, (f1.tr p3).tr k3, k4, k5⟩
    simp only [h.o, s1, h1.i1, h1.r0, h1.2.o, by3, isl, t_10, if_pos c2.1, h1.o, w1, t_xb1, e4, p1, p2.o, k1, xob_some, cond_true, t_10, t_00, ne_eq, not_true_eq_false, not_false_eq_true, if_true, if_false]
/-- a run is read -/
theorem d_readRun (hg : xGv n (xgv n b)) (ht : xTs P S) (hz : ∀ k, 1 ≤ k → k ≤ 9 → P k < x) {a : Nat} (h : xRd S x n b a (-1)) (hF : xFd S (x + 4) F) (hn : a ≤ n) {out : Nat ⊕ (Nat × Int × Int)} (hr : xRn (xgv n b) a F.1 out) :
    ∃ T, xcV P m_X5_readRun [.ref (x + 56), .ref (x + 4)] S = some T ∧ xfr S T (fun c => c = x + 56 ∨ x3 (x + 4) c) ∧ (∀ f, out = .inl f → f ≤ n ∧ ∃ p, p ≤ n ∧ xRd T x n b p f ∧ xFd T (x + 4) F) ∧ ∀ p v s, out = .inr (p, v, s) → xRd T x n b p (-1) ∧ xFd T (x + 4) (F.1 + 1, va_up F.2.1 F.1 v, va_up F.2.2 F.1 s) := by
  have n200 := h.2.1
  have hP1 : P 1 ≠ x + 56 := by have := hz 1 (by decide) (by decide); omega
  have hP2 : P 2 ≠ x + 56 := by have := hz 2 (by decide) (by decide); omega
  have fF : ∀ {Z : xS}, xfr S Z (fun d => d = x + 56) → xFd Z (x + 4) F := fun hf => hF.fr hf (fun c hc => by unfold x3 at hc; omega)
  have full := d_full (P := P) hF
  obtain ⟨t, w1, w2⟩ := d_isWord (P := P) hg h hn ht.1 (by decide) (by decide)
  have fm : ∀ {Z : xS}, xfr S Z (fun d => d = x + 56) → xfr S Z (fun c => c = x + 56 ∨ x3 (x + 4) c) := fun hf => hf.mono (fun c hc => Or.inl hc)
  rcases hr with ⟨c, rfl⟩ | ⟨c, a1, d, hB1, hD1, hr⟩
  · -- no run here
    obtain ⟨T, p1, p2, p3⟩ := h.put2 (a : Int)
    refine ⟨T, xcV_of ((e_X5_readRun_0 P (x + 56) (x + 4) S).trans ?_), fm p3, fun f q => ?_, fun p v s q => by cases q⟩
    · rw [h.o, cond_true, w1, xob_some]
      cases t
      · simp only [t_xb0, h.i1, p1, xob_some, cond_true, t_10, t_00, ne_eq, not_true_eq_false, not_false_eq_true, if_true, if_false]
      · have cf : ¬ F.1 < 6 := fun q => c ⟨w2.mp rfl, q⟩
        rw [if_neg cf] at full
        simp only [t_xb1, hF.o, full, t_10, h.i1, p1, xob_some, cond_true, t_10, t_00, ne_eq, not_true_eq_false, not_false_eq_true, if_true, if_false]
    · cases q
      exact ⟨hn, a, hn, p2, fF p3⟩
  · have ht1 : t = true := w2.mpr c.1
    rw [ht1] at w1
    rw [if_pos c.2] at full
    have le3 := xwrd.le hg c.1 (by decide) (by decide)
    have e3 : iI (a : Int) + iI 3 = iI ((a + 3 : Nat) : Int) := by rw [iI_add]; rfl
    obtain ⟨T1, p1, p2, p3⟩ := h.put1 (a + 3)
    obtain ⟨T2, fl', k1, k2, k3, k4, k5⟩ := d_readNumber (P := P) hg p2 le3 hB1 hD1 (most := 40) (by decide) (by decide)
    have y1 := hB1.le hg nB le3
    have y2 := hD1.le hg nD y1
    have f2 := p3.tr k3
    rcases hr with ⟨c1, rfl⟩ | ⟨c1, a3, hB3, hr⟩
    · have hfl := k5 c1
      rw [hfl] at k2
      refine ⟨T2, xcV_of ((e_X5_readRun_0 P (x + 56) (x + 4) S).trans ?_), fm f2, fun f q => ?_, fun p v s q => by cases q⟩
      · simp only [h.o, w1, t_xb1, hF.o, full, t_00, h.i1, e3, p1, p2.o, k1, k2.i2, t_m1 (show a1 < 100000 by omega), xob_some, cond_true, t_10, t_00, ne_eq, not_true_eq_false, not_false_eq_true, if_true, if_false]
      · cases q
        exact ⟨y1, a1 + d, y2, k2, fF f2⟩
    · have hfl := k4 c1
      rw [hfl] at k2
      have y3 := hB3.le hg nB y2
      have rs := d_readStart (P := P) hg k2 y2 hB3 (ht.2.1.fr f2 hP2) hP2
      -- the end, wherever it comes
      have tail : ∀ (U : xS) (e0 e : Nat) (s : Int), xcI P m_X5_readStart [.ref (x + 56)] T2 = some (iI s, U) → xRd U x n b e0 (-1) → xfr T2 U (fun d => d = x + 56) → e0 ≤ n → xuo cB (xgv n b) e0 e → 0 ≤ s → s < 12 → xEd (xgv n b) e (xvl (xgv n b) a1 d) s out → ∃ T, xcV P m_X5_readRun [.ref (x + 56), .ref (x + 4)] S = some T ∧ xfr S T (fun c => c = x + 56 ∨ x3 (x + 4) c) ∧ (∀ f, out = .inl f → f ≤ n ∧ ∃ p, p ≤ n ∧ xRd T x n b p f ∧ xFd T (x + 4) F) ∧ ∀ p v s, out = .inr (p, v, s) → xRd T x n b p (-1) ∧ xFd T (x + 4) (F.1 + 1, va_up F.2.1 F.1 v, va_up F.2.2 F.1 s) := by
        intro U e0 e s r1 r2 r3 he0 hB4 s0 s1 hE
        have y5 := hB4.le hg nB he0
        obtain ⟨U2, q1, q2, q3⟩ := d_skip (P := P) hg r2 he0 hB4
        have byE := d_by (P := P) q2.2 (show e < 100000 by omega)
        have bd := hg.bd e
        have fU := (f2.tr r3).tr q3
        have vb := xvl_bd hD1
        rcases hE with ⟨ce, rfl⟩ | ⟨ce, rfl⟩
        · obtain ⟨U3, z1, z2, z3⟩ := q2.put2 (e : Int)
          have c59 : (iI (xgv n b e) = iI 59) = False := t_e (by omega) (by omega) (by omega) (by omega) ce
          refine ⟨U3, xcV_of ((e_X5_readRun_0 P (x + 56) (x + 4) S).trans ?_), fm (fU.tr z3), fun f q => ?_, fun p v s q => by cases q⟩
          · simp only [h.o, w1, t_xb1, hF.o, full, t_00, h.i1, e3, p1, p2.o, k1, k2.i2, t_mm, k2.o, r1, r2.i2, r2.o, q1, q2.r0, q2.i1, q2.2.o, byE, c59, z1, xob_some, cond_true, t_10, t_00, ne_eq, not_true_eq_false, not_false_eq_true, if_true, if_false]
          · cases q
            exact ⟨y5, e, y5, z2, fF (fU.tr z3)⟩
        · obtain ⟨U3, z1, z2, z3⟩ := q2.put1 (e + 1)
          have hF3 := fF (fU.tr z3)
          obtain ⟨U4, g1, g2, g3⟩ := d_add (P := P) hF3 c.2 vb.1 c1.2.2.2 s0 s1
          refine ⟨U4, xcV_of ((e_X5_readRun_0 P (x + 56) (x + 4) S).trans ?_), (fm (fU.tr z3)).tr (g3.mono (fun c hc => Or.inr hc)), fun f q => (by cases q), fun p v s q => ?_⟩
          · simp only [h.o, w1, t_xb1, hF.o, full, t_00, h.i1, e3, p1, p2.o, k1, k2.i2, t_mm, k2.o, r1, r2.i2, r2.o, q1, q2.r0, q2.i1, q2.2.o, byE, ce, iI_suc, z1, hF3.o, g1, xob_some, cond_true, t_10, t_00, ne_eq, not_true_eq_false, not_false_eq_true, if_true, if_false]
          · cases q
            exact ⟨z2.fr g3 (by unfold x3; omega) (by unfold x3; omega) (by unfold x3; omega), g2⟩
      rcases hr with ⟨c2, c3, rfl⟩ | ⟨c2, c3, a4, d4, hB4, hD4, hr⟩ | ⟨c2, hE⟩
      · obtain ⟨U, r1, r2, r3⟩ := rs.2.1 c2 c3
        refine ⟨U, xcV_of ((e_X5_readRun_0 P (x + 56) (x + 4) S).trans ?_), fm (f2.tr r3), fun f q => ?_, fun p v s q => by cases q⟩
        · simp only [h.o, w1, t_xb1, hF.o, full, t_00, h.i1, e3, p1, p2.o, k1, k2.i2, t_mm, k2.o, r1, r2.i2, t_m1 (show a3 < 100000 by omega), xob_some, cond_true, t_10, t_00, ne_eq, not_true_eq_false, not_false_eq_true, if_true, if_false]
        · cases q
          exact ⟨y3, a3, y3, r2, fF (f2.tr r3)⟩
      · obtain ⟨U, fl4, r1, r2, r3, r4, r5⟩ := rs.2.2 c2 c3 a4 d4 hB4 hD4
        have le4 := xwrd.le hg c3.2 (by decide) (by decide)
        have y4 := hB4.le hg nB le4
        have y5 := hD4.le hg nD y4
        have vb4 := xvl_bd hD4
        rcases hr with ⟨c4, rfl⟩ | ⟨c4, e, hB5, hE⟩
        · have hf4 := r5 c4
          rw [hf4] at r2
          refine ⟨U, xcV_of ((e_X5_readRun_0 P (x + 56) (x + 4) S).trans ?_), fm (f2.tr r3), fun f q => ?_, fun p v s q => by cases q⟩
          · simp only [h.o, w1, t_xb1, hF.o, full, t_00, h.i1, e3, p1, p2.o, k1, k2.i2, t_mm, k2.o, r1, r2.i2, t_m1 (show a4 < 100000 by omega), xob_some, cond_true, t_10, t_00, ne_eq, not_true_eq_false, not_false_eq_true, if_true, if_false]
          · cases q
            exact ⟨y4, a4 + d4, y5, r2, fF (f2.tr r3)⟩
        · have hf4 := r4 c4
          rw [hf4] at r2
          exact tail U (a4 + d4) e _ r1 r2 r3 y5 hB5 vb4.1 (by have := c4.2.2.2; omega) hE
      · obtain ⟨U, r1, r2, r3⟩ := rs.1 c2
        exact tail U a3 a3 0 r1 r2 r3 y3 ⟨Nat.le_refl _, fun k h1 h2 => by omega, hB3.2.2⟩ (by decide) (by decide) hE
/-- all that is read -/
def xAl (n : Nat) (g : Nat → Int) : Nat → Nat → xF → (Nat ⊕ xF) → Prop
  | 0, a, F, res => (n ≤ a ∧ res = .inr F) ∨ (a < n ∧ ∃ f, xRn g a F.1 (.inl f) ∧ res = .inl f)
  | r + 1, a, F, res => (n ≤ a ∧ res = .inr F) ∨ (a < n ∧ ((∃ f, xRn g a F.1 (.inl f) ∧ res = .inl f) ∨ ∃ p v s a7, xRn g a F.1 (.inr (p, v, s)) ∧ xuo cB g p a7 ∧ xAl n g r a7 (F.1 + 1, va_up F.2.1 F.1 v, va_up F.2.2 F.1 s) res))
theorem xAl_ex {g : Nat → Int} (hg : xGv n g) : ∀ (r a : Nat) (F : xF), F.1 + r = 6 → ∃ res, xAl n g r a F res := by
  intro r
  induction r with
  | zero =>
    intro a F hr
    by_cases c : n ≤ a
    · exact ⟨_, Or.inl ⟨c, rfl⟩⟩
    · obtain ⟨out, ho⟩ := xRn_ex hg a F.1
      cases out with
      | inl f => exact ⟨_, Or.inr ⟨by omega, f, ho, rfl⟩⟩
      | inr q => exact absurd (ho.ok hg).2.2.2.2.2.2 (by omega)
  | succ r ih =>
    intro a F hr
    by_cases c : n ≤ a
    · exact ⟨_, Or.inl ⟨c, rfl⟩⟩
    · obtain ⟨out, ho⟩ := xRn_ex hg a F.1
      cases out with
      | inl f => exact ⟨_, Or.inr ⟨by omega, Or.inl ⟨f, ho, rfl⟩⟩⟩
      | inr q =>
        obtain ⟨p, v, s⟩ := q
        have ok := ho.ok hg
        obtain ⟨a7, x7, y7⟩ := xuo_at hg nB ok.2.2.2.2.2.1
        obtain ⟨res, hres⟩ := ih a7 (F.1 + 1, va_up F.2.1 F.1 v, va_up F.2.2 F.1 s) (by show F.1 + 1 + r = 6; omega)
        exact ⟨res, Or.inr ⟨by omega, Or.inr ⟨p, v, s, a7, ho, x7, hres⟩⟩⟩
/-- what the class tells of it -/
def xRq (S0 : xS) (x n : Nat) (b : Nat → Int32) (res : Nat ⊕ xF) (o : Option (Option Value × xS)) : Prop := ∃ T, xfr S0 T (fun c => c = x + 56 ∨ x3 (x + 4) c) ∧ xTp T (x + 57) n b ∧ xRe T x ∧ match res with
  | .inl f => o = some (some (.int (iI f)), T) ∧ f ≤ n ∧ xFa T (x + 4)
  | .inr F => o = some (some (.int (iI (-1))), T) ∧ xFd T (x + 4) F
theorem xRd.re {a : Nat} {fl : Int} (h : xRd S x n b a fl) : xRe S x := ⟨_, _, h.1⟩
theorem l_readInto (hg : xGv n (xgv n b)) (hz : ∀ k, 1 ≤ k → k ≤ 9 → P k < x) : ∀ (r a : Nat) (F : xF) (S : xS) (res : Nat ⊕ xF), F.1 + r = 6 → a ≤ n → xTs P S → xRd S x n b a (-1) → xFd S (x + 4) F → xAl n (xgv n b) r a F res → xRq S x n b res (xrun P m_X5_readInto 21 [(0, .ref (x + 56)), (1, .ref (x + 4)), (2, .int (iI F.1))] [] S) := by
  -- one round
  have fault : ∀ (a f : Nat) (F : xF) (S : xS), F.1 ≤ 6 → a < n → xTs P S → xRd S x n b a (-1) → xFd S (x + 4) F → xRn (xgv n b) a F.1 (.inl f) → xRq S x n b (.inl f) (xrun P m_X5_readInto 21 [(0, .ref (x + 56)), (1, .ref (x + 4)), (2, .int (iI F.1))] [] S) := by
    intro a f F S hk ha ht h hF ho
    have n200 := h.2.1
    obtain ⟨T, r1, r2, r3, -⟩ := d_readRun (P := P) hg ht hz h hF (by omega) ho
    obtain ⟨fn, p, hp, r4, r5⟩ := r3 f rfl
    obtain ⟨p2, x2, y2⟩ := xuo_at hg nB hp
    obtain ⟨T2, s1, s2, s3⟩ := d_skip (P := P) hg r4 hp x2
    refine ⟨T2, r2.tr (s3.mono (fun c hc => Or.inl hc)), s2.2, s2.re, ?_, fn, (r5.fr s3 (fun c hc => by unfold x3 at hc; omega)).a⟩
    have hd : xrun P m_X5_readInto 21 [(0, .ref (x + 56)), (1, .ref (x + 4)), (2, .int (iI (F.1 + 1 : Nat)))] [] T2 = some (some (.int (iI f)), T2) := by
      rw [e_X5_readInto_21]
      simp only [s2.i2, t_m1 (show f < 100000 by omega), xob_some, ne_eq, not_false_eq_true, if_true]
      rw [ite_self]
    rw [e_X5_readInto_21, if_neg (by rw [iI_lt (by omega) (by omega) (by omega) (by omega)]; omega)]
    simp only [h.i2, h.i1, h.r0, h.2.o, d_tsize h.2, xob_some, cond_true, t_10, t_00, ne_eq, not_true_eq_false, not_false_eq_true, if_true, if_false]
    rw [if_neg (by rw [iI_le (by omega) (by omega) (by omega) (by omega)]; omega)]
    simp only [h.o, r1, r4.o, s1, iI_suc, xob_some, cond_true]
    exact hd
  have stop : ∀ (a : Nat) (F : xF) (S : xS), F.1 ≤ 6 → n ≤ a → a ≤ n → xRd S x n b a (-1) → xFd S (x + 4) F → xRq S x n b (.inr F) (xrun P m_X5_readInto 21 [(0, .ref (x + 56)), (1, .ref (x + 4)), (2, .int (iI F.1))] [] S) := by
    intro a F S hk ha ha2 h hF
    have n200 := h.2.1
    refine ⟨S, xfr.rf, h.2, h.re, ?_, hF⟩
    rw [e_X5_readInto_21, if_neg (by rw [iI_lt (by omega) (by omega) (by omega) (by omega)]; omega)]
    simp only [h.i2, h.i1, h.r0, h.2.o, d_tsize h.2, xob_some, cond_true, t_10, t_00, ne_eq, not_true_eq_false, not_false_eq_true, if_true, if_false]
    rw [if_pos (by rw [iI_le (by omega) (by omega) (by omega) (by omega)]; omega)]
  intro r
  induction r with
  | zero =>
    intro a F S res hr ha ht h hF hA
    rcases hA with ⟨c, rfl⟩ | ⟨c, f, ho, rfl⟩
    · exact stop a F S (by omega) c ha h hF
    · exact fault a f F S (by omega) c ht h hF ho
  | succ r ih =>
    intro a F S res hr ha ht h hF hA
    rcases hA with ⟨c, rfl⟩ | ⟨c, ⟨f, ho, rfl⟩ | ⟨p, v, s, a7, ho, x7, hA⟩⟩
    · exact stop a F S (by omega) c ha h hF
    · exact fault a f F S (by omega) c ht h hF ho
    · have n200 := h.2.1
      have ok := ho.ok hg
      obtain ⟨T, r1, r2, -, r3⟩ := d_readRun (P := P) hg ht hz h hF (by omega) ho
      obtain ⟨r4, r5⟩ := r3 p v s rfl
      obtain ⟨T2, s1, s2, s3⟩ := d_skip (P := P) hg r4 (by omega) x7
      have fr : xfr S T2 (fun c => c = x + 56 ∨ x3 (x + 4) c) := r2.tr (s3.mono (fun c hc => Or.inl hc))
      have ht2 : xTs P T2 := ht.fr hz (fr.mono (fun c hc => by unfold x3 at hc; unfold xrg; omega))
      have y7 := x7.le hg nB (by omega)
      obtain ⟨Z, z1, z2, z3, z4⟩ := ih a7 (F.1 + 1, va_up F.2.1 F.1 v, va_up F.2.2 F.1 s) T2 res (by show F.1 + 1 + r = 6; omega) y7 ht2 s2 (r5.fr s3 (fun c hc => by unfold x3 at hc; omega)) hA
      refine ⟨Z, fr.tr z1, z2, z3, ?_⟩
      have hd : xrun P m_X5_readInto 21 [(0, .ref (x + 56)), (1, .ref (x + 4)), (2, .int (iI F.1))] [] S = xrun P m_X5_readInto 21 [(0, .ref (x + 56)), (1, .ref (x + 4)), (2, .int (iI (F.1 + 1 : Nat)))] [] T2 := by
        rw [e_X5_readInto_21, if_neg (by rw [iI_lt (by omega) (by omega) (by omega) (by omega)]; omega)]
        simp only [h.i2, h.i1, h.r0, h.2.o, d_tsize h.2, xob_some, cond_true, t_10, t_00, ne_eq, not_true_eq_false, not_false_eq_true, if_true, if_false]
        rw [if_neg (by rw [iI_le (by omega) (by omega) (by omega) (by omega)]; omega)]
        simp only [h.o, r1, r4.o, s1, iI_suc, xob_some, cond_true]
      rw [hd]
      exact z4
theorem d_readInto (H : xCl S x A) (ht : xTs P S) (hz : ∀ k, 1 ≤ k → k ≤ 9 → P k < x) (hg : xGv A.2.2.2.1 (xgv A.2.2.2.1 (xbm A.2.2.2.2))) {a : Nat} (hB : xuo cB (xgv A.2.2.2.1 (xbm A.2.2.2.2)) 0 a) {res : Nat ⊕ xF} (hA : xAl A.2.2.2.1 (xgv A.2.2.2.1 (xbm A.2.2.2.2)) 6 a (0, fun _ => 0, fun _ => 0) res) : xRq S x A.2.2.2.1 (xbm A.2.2.2.2) res (xrun P m_X5_readInto 0 [(0, .ref (x + 56)), (1, .ref (x + 4))] [] S) := by
  have hT := H.2.2.2.2.2.1
  have n200 := hT.1
  obtain ⟨p, q, e⟩ := H.2.2.2.2.2.2.1
  obtain ⟨k, f, g, hfs⟩ := H.2.2.1
  have p1 : xpf S (x + 56) 5 1 0 (.int (iI 0)) = some (xpt S (x + 56) (.inl (5, [.ref (x + 57), .int (iI 0), .int q]))) := (xpf_at e (show 1 < 3 by decide) rfl).trans rfl
  have e1 : (xpt S (x + 56) (.inl (5, [.ref (x + 57), .int (iI 0), .int q]))).1 (x + 56) = some (.inl (5, [.ref (x + 57), .int (iI 0), .int q])) := by rw [xpt_1, if_pos rfl]
  have f1 : xfr S (xpt S (x + 56) (.inl (5, [.ref (x + 57), .int (iI 0), .int q]))) (fun c => c = x + 56) := xfr.pt rfl
  generalize xpt S (x + 56) (.inl (5, [.ref (x + 57), .int (iI 0), .int q])) = S1 at p1 e1 f1
  have p2 : xpf S1 (x + 56) 5 2 0 (.int (iI (-1))) = some (xpt S1 (x + 56) (.inl (5, [.ref (x + 57), .int (iI 0), .int (iI (-1))]))) := (xpf_at e1 (show 2 < 3 by decide) rfl).trans rfl
  have e2 : (xpt S1 (x + 56) (.inl (5, [.ref (x + 57), .int (iI 0), .int (iI (-1))]))).1 (x + 56) = some (.inl (5, [.ref (x + 57), .int (iI 0), .int (iI (-1))])) := by rw [xpt_1, if_pos rfl]
  have f2 : xfr S1 (xpt S1 (x + 56) (.inl (5, [.ref (x + 57), .int (iI 0), .int (iI (-1))]))) (fun c => c = x + 56) := xfr.pt rfl
  generalize xpt S1 (x + 56) (.inl (5, [.ref (x + 57), .int (iI 0), .int (iI (-1))])) = S2 at p2 e2 f2
  have f12 := f1.tr f2
  have h2 : xRd S2 x A.2.2.2.1 (xbm A.2.2.2.2) 0 (-1) := by
    obtain ⟨t1, w, t2, t3, t4⟩ := hT
    exact ⟨e2, t1, w, (f12.2 _ (by omega)).trans t2, (f12.2 _ (by omega)).trans t3, t4⟩
  have hfs2 : xFs S2 (x + 4) k f g := hfs.fr f12 (fun c hc => by unfold x3 at hc; omega)
  have cl := c_X0_clear (P := P) hfs2
  have f3 : xfr S2 (xpt S2 (x + 4) (.inl (0, [.ref (x + 4 + 1), .ref (x + 4 + 2), .int (iI 0)]))) (x3 (x + 4)) := xfr.pt (by unfold x3; omega)
  have hF3 : xFd (xpt S2 (x + 4) (.inl (0, [.ref (x + 4 + 1), .ref (x + 4 + 2), .int (iI 0)]))) (x + 4) (0, fun _ => 0, fun _ => 0) := by
    obtain ⟨a1, a2, a3, a4⟩ := hfs2
    refine ⟨⟨by decide, fun i hi => absurd hi (Nat.not_lt_zero i)⟩, f, g, ⟨by decide, ?_, ?_, ?_⟩, fun i hi => absurd hi (Nat.not_lt_zero i)⟩
    · rw [xpt_1, if_pos rfl]; rfl
    · rw [xpt_1, if_neg (by omega)]; exact a3
    · rw [xpt_1, if_neg (by omega)]; exact a4
  generalize xpt S2 (x + 4) (.inl (0, [.ref (x + 4 + 1), .ref (x + 4 + 2), .int (iI 0)])) = S3 at cl f3 hF3
  have h3 := h2.fr f3 (by unfold x3; omega) (by unfold x3; omega) (by unfold x3; omega)
  obtain ⟨S4, s1, s2, s3⟩ := d_skip (P := P) hg h3 (Nat.zero_le _) hB
  have fr : xfr S S4 (fun c => c = x + 56 ∨ x3 (x + 4) c) := ((f12.mono (fun c hc => Or.inl hc)).tr (f3.mono (fun c hc => Or.inr hc))).tr (s3.mono (fun c hc => Or.inl hc))
  obtain ⟨Z, z1, z2, z3, z4⟩ := l_readInto (P := P) hg hz 6 a (0, fun _ => 0, fun _ => 0) S4 res rfl (hB.le hg nB (Nat.zero_le _)) (ht.fr hz (fr.mono (fun c hc => by unfold x3 at hc; unfold xrg; omega))) s2 (hF3.fr s3 (fun c hc => by unfold x3 at hc; omega)) hA
  refine ⟨Z, fr.tr z1, z2, z3, ?_⟩
  have hd : xrun P m_X5_readInto 0 [(0, .ref (x + 56)), (1, .ref (x + 4))] [] S = xrun P m_X5_readInto 21 [(0, .ref (x + 56)), (1, .ref (x + 4)), (2, .int (iI ((0 : Nat) : Int)))] [] S4 := by
    rw [e_X5_readInto_0, p1, xob_some, p2, xob_some, hfs2.o, cond_true, cl, xob_some, h3.o, cond_true, s1, xob_some]
    rfl
  rw [hd]
  exact z4
end RE
