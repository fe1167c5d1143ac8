-- deps: 47.next
/-! ranks -/
theorem xct_le2 {p q : Nat → Bool} : ∀ n, (∀ j, j < n → p j = true → q j = true) → xct p n ≤ xct q n := by
  intro n
  induction n with
  | zero => intro _; exact Nat.le_refl _
  | succ n ih =>
    intro h
    have h1 := ih (fun j hj => h j (by omega))
    have h2 := h n (by omega)
    simp only [xct]
    by_cases c : p n = true
    · rw [if_pos c, if_pos (h2 c)]; omega
    · rw [if_neg c]; omega
theorem xct_lt2 {p q : Nat → Bool} {i : Nat} : ∀ n, (∀ j, j < n → p j = true → q j = true) → i < n → q i = true → ¬ p i = true → xct p n < xct q n := by
  intro n
  induction n with
  | zero => intro _ hi; omega
  | succ n ih =>
    intro h hi hq hp
    have h2 := h n (by omega)
    simp only [xct]
    by_cases c : i = n
    · subst c
      have h1 := xct_le2 i (fun j hj => h j (by omega))
      rw [if_neg hp, if_pos hq]; omega
    · have h1 := ih (fun j hj => h j (by omega)) (by omega) hq hp
      by_cases d : p n = true
      · rw [if_pos d, if_pos (h2 d)]; omega
      · rw [if_neg d]; omega
/-- by a number, like ones by their places -/
def xlt2 (Q : Nat → Int) (j i : Nat) : Bool := decide (Q j < Q i ∨ Q j = Q i ∧ j < i)
def xrkq (Q : Nat → Int) (k i : Nat) : Nat := xct (fun j => xlt2 Q j i) k
theorem xrkq_lt {Q : Nat → Int} {k i i' : Nat} (hi : i < k) (h : xlt2 Q i i' = true) : xrkq Q k i < xrkq Q k i' := by
  unfold xlt2 at h
  rw [decide_eq_true_eq] at h
  refine xct_lt2 (i := i) k (fun j hj hp => ?_) hi ?_ ?_
  · unfold xlt2 at hp ⊢
    rw [decide_eq_true_eq] at hp ⊢
    omega
  · unfold xlt2
    rw [decide_eq_true_eq]; exact h
  · unfold xlt2
    rw [decide_eq_true_eq]; omega
theorem xrkq_inj {Q : Nat → Int} {k i i' : Nat} (hi : i < k) (hi' : i' < k) (h : xrkq Q k i = xrkq Q k i') : i = i' := by
  by_cases c : i = i'
  · exact c
  · by_cases d : xlt2 Q i i' = true
    · have := xrkq_lt hi d; omega
    · have e : xlt2 Q i' i = true := by
        unfold xlt2 at d ⊢
        rw [decide_eq_true_eq] at d ⊢
        omega
      have := xrkq_lt hi' e
      omega
theorem xrkq_le (Q : Nat → Int) (k i : Nat) : xrkq Q k i ≤ k := xct_le _ k
/-- the time at which it is lonely first -/
def xkr (F : xF) (sc : Int) (r : Nat) (z : Int) : Prop := ∃ n u v, xDt F r sc n u v ∧ z = (if n = 0 then 2 * sc else u 0)
def xmx2 (sc z : Int) : Int := if z = 2 * sc then sc + 1 else z
theorem xkr.bd {F : xF} {sc z : Int} {r : Nat} (h : xkr F sc r z) (hs : 0 < sc) : z = 2 * sc ∨ (0 ≤ z ∧ z ≤ sc) := by
  obtain ⟨n, u, v, h1, h2⟩ := h
  by_cases c : n = 0
  · rw [if_pos c] at h2; exact Or.inl h2
  · rw [if_neg c] at h2
    have b := h1.bd (show 0 < n by omega)
    omega
section FS
variable {P : Nat → Nat} {S : xS} {a b s1 s2 l1 l2 x m : Nat} {sc pt : Int} {F : xF} {A : xAb}
theorem d_findFirst (H : xVl S a s1 s2 l1 l2 sc pt) (hF : xFd S b F) (hab : a + 20 ≤ b ∨ b + 2 < a) (hk1 : 1 ≤ F.1) :
    ∃ S1 s1' s2' l1' l2' sc' pt' f, ∃ Q : Nat → Int, xcV P m_X8_findFirstTimes [.ref a, .ref b] S = some S1 ∧ xVl S1 a s1' s2' l1' l2' sc' pt' ∧ 12 ≤ sc' ∧ sc' ≤ 705266952332342400 ∧ S1.1 (a + 19) = some (.inr (1, (6, .inr (.inl f)))) ∧ (∀ r, r < F.1 → xkr F sc' r (Q r) ∧ f r = jI (xmx2 sc' (Q r))) ∧ xfr S S1 (xrg a 20) := by
  have hk := hF.1.1
  obtain ⟨T, G, sc', pt', k1, k2, k3, k4, k5⟩ := d_measure (P := P) H hF (by omega) x_bit6 (w := F.1) (by omega) (by omega)
  obtain ⟨m1, -, -, m4, m5, m6, m7⟩ := k3.use
  have key := xloopQ (run := fun r (Z : xS) => xrun P m_X8_findFirstTimes 13 [(0, .ref a), (1, .ref b), (2, .int (iI r))] [] Z)
    (Inv := fun r Z => xfr S Z (xrg a 20) ∧ ∃ s1' s2' f, ∃ Q : Nat → Int, xVl Z a s1' s2' l1 l2 sc' pt' ∧ Z.1 (a + 19) = some (.inr (1, (6, .inr (.inl f)))) ∧ ∀ r', r' < r → xkr F sc' r' (Q r') ∧ f r' = jI (xmx2 sc' (Q r')))
    (fun res => ∃ S1 s1' s2' f, ∃ Q : Nat → Int, res = some (none, S1) ∧ xVl S1 a s1' s2' l1 l2 sc' pt' ∧ S1.1 (a + 19) = some (.inr (1, (6, .inr (.inl f)))) ∧ (∀ r, r < F.1 → xkr F sc' r (Q r) ∧ f r = jI (xmx2 sc' (Q r))) ∧ xfr S S1 (xrg a 20)) 0 F.1 (by omega) (fun r Z _ hr hZ => by
      obtain ⟨hfr, s1', s2', f, Q, hV, e19, hQ⟩ := hZ
      have hFZ := hF.fr hfr (fun c hc hz => by unfold x3 at hc; unfold xrg at hz; omega)
      obtain ⟨Z1, s3, s4, n1, u1, v1, g1, g2, g3, g4, g5, g6, g7⟩ := d_watchLonely (P := P) hV.1 hV.2.1 hFZ (by omega) hr k3 (k4 r hr rfl)
      have V3 := hV.w g7 g2 g3
      have e19' : Z1.1 (a + 19) = some (.inr (1, (6, .inr (.inl f)))) := (g7.2 _ (fun z => by unfold xrg at z; omega)).trans e19
      have hDt : xDt F r sc' n1 u1 v1 := ⟨⟨pt', G, k3, k4 r hr rfl⟩, g4.1, g5, g6⟩
      have hkr : xkr F sc' r (if n1 = 0 then 2 * sc' else u1 0) := ⟨n1, u1, v1, hDt, rfl⟩
      generalize hz : (if n1 = 0 then 2 * sc' else u1 0) = z at hkr
      obtain ⟨Z2, w1, w2, w3⟩ := xwrJ_fr (v := jI (xmx2 sc' z)) e19' (i := r) (by omega) (by omega) (by omega)
      have w3' : xfr Z1 Z2 (xrg a 20) := w3.mono (fun c hc => ⟨by omega, by omega⟩)
      have V4 : xVl Z2 a s3 s4 l1 l2 sc' pt' := by
        obtain ⟨⟨q0, q1, q2, q3⟩, q4, q5, q6, -⟩ := V3
        have hs := q0.2.1
        have hl := q0.2.2
        have ny : ∀ c d, d + 2 < a + 19 → x3 d c → ¬ c = a + 19 := fun c d hd hc hz => by unfold x3 at hc; omega
        exact ⟨⟨q0.fr w3 (by omega), q1.fr w3 (fun c => ny c _ (by omega)), q2.fr w3 (fun c => ny c _ (by omega)), q3.fr w3 (fun c => ny c _ (by omega))⟩, q4.fr w3 (fun c => ny c _ (by omega)), q5.fr w3 (fun c => ny c _ (by omega)), q6.fr w3 (fun c => ny c _ (by omega)), _, w2⟩
      refine Or.inr ⟨Z2, ?_, (hfr.tr (g7.mono (fun c hc => by unfold xrg at hc ⊢; omega))).tr w3', s3, s4, _, va_up Q r z, V4, w2, fun r' hr' => ?_⟩
      · rw [e_X8_findFirstTimes_13, hFZ.o, cond_true, d_size hFZ, xob_some]
        simp (disch := omega) only [iI_le]
        rw [if_neg (by omega), if_neg (by omega), hV.1.1.o, cond_true, g1, xob_some, xfR_at (k := 6) V3.1.1.1 rfl, xob_some, xfR_at (k := 2) V3.1.1.1 rfl, xob_some, g4.o, cond_true, d_ssize g4, xob_some]
        by_cases c : n1 = 0
        · have ez : z = 2 * sc' := by rw [← hz, if_pos c]
          have em : xmx2 sc' z = sc' + 1 := by unfold xmx2; rw [if_pos ez]
          rw [em] at w1
          rw [if_neg (fun y => y (by rw [c]; rfl)), xfJ_at (k := 7) V3.1.1.1 rfl, xob_some]
          dsimp only
          rw [jI_add, w1, xob_some, iI_suc]
        · have ez : z = u1 0 := by rw [← hz, if_neg c]
          have b := hDt.bd (show 0 < n1 by omega)
          have em : xmx2 sc' z = u1 0 := by unfold xmx2; rw [if_neg (by omega), ez]
          rw [em] at w1
          rw [if_pos (by rw [ne_eq, iI_0, iI_eq (by omega) (by omega) (by omega) (by omega)]; omega), xfR_at (k := 2) V3.1.1.1 rfl, xob_some]
          dsimp only
          rw [g4.o, cond_true, show (iI 0 : Int32) = iI ((0 : Nat) : Int) from rfl, d_fromAt g4 (by omega), xob_some]
          dsimp only
          rw [w1, xob_some, iI_suc]
      · rw [va_up_at, va_up_at, Int.toNat_natCast]
        by_cases c : r' = r
        · rw [if_pos c, if_pos c, c]; exact ⟨hkr, rfl⟩
        · rw [if_neg c, if_neg c]; exact hQ r' (by omega)) (fun Z hZ => by
      obtain ⟨hfr, s1', s2', f, Q, hV, e19, hQ⟩ := hZ
      have hFZ := hF.fr hfr (fun c hc hz => by unfold x3 at hc; unfold xrg at hz; omega)
      refine ⟨Z, s1', s2', f, Q, ?_, hV, e19, hQ, hfr⟩
      rw [e_X8_findFirstTimes_13, hFZ.o, cond_true, d_size hFZ, xob_some]
      simp (disch := omega) only [iI_le]
      rw [if_pos (by omega)]) (s := T) (by
        obtain ⟨-, -, -, -, f, e⟩ := id k2
        exact ⟨k5.mono (fun c hc => ⟨by omega, by omega⟩), s1, s2, f, fun _ => 0, k2, e, fun r' hr' => by omega⟩)
  obtain ⟨S1, s1', s2', f, Q, y1, y2, y3, y4, y5⟩ := key
  refine ⟨S1, s1', s2', l1, l2, sc', pt', f, Q, xcV_of ((e_X8_findFirstTimes_0 P a b S).trans ?_), y2, m6, m7, y3, y4, y5⟩
  rw [hF.o, cond_true, d_size hF, xob_some]
  dsimp only
  rw [H.1.1.o, cond_true, k1, xob_some]
  exact y1
theorem d_isSooner {f : Nat → Int64} {Q : Nat → Int} {k : Nat} (hV : xVo S a s1 s2 l1 l2 sc pt) (e : S.1 (a + 19) = some (.inr (1, (6, .inr (.inl f))))) (hs : 0 < sc) (sc1 : sc ≤ 705266952332342400) (hk : k ≤ 6) (hQ : ∀ r, r < k → xkr F sc r (Q r) ∧ f r = jI (xmx2 sc (Q r))) {i j : Nat} (hi : i < k) (hj : j < k) : xcI P m_X8_isSooner [.ref a, .int (iI i), .int (iI j)] S = some (iI (if xlt2 Q i j then 1 else 0), S) := by
  have b1 := (hQ i hi).1.bd hs
  have b2 := (hQ j hj).1.bd hs
  have r1 : xrdJ S (a + 19) (iI i) = some (jI (xmx2 sc (Q i))) := by rw [xrdJ_at e (by omega) (by omega) (by omega), Int.toNat_natCast, (hQ i hi).2]
  have r2 : xrdJ S (a + 19) (iI j) = some (jI (xmx2 sc (Q j))) := by rw [xrdJ_at e (by omega) (by omega) (by omega), Int.toNat_natCast, (hQ j hj).2]
  have m1 : 0 ≤ xmx2 sc (Q i) ∧ xmx2 sc (Q i) ≤ 9223372036854775807 := by unfold xmx2; split <;> omega
  have m2 : 0 ≤ xmx2 sc (Q j) ∧ xmx2 sc (Q j) ≤ 9223372036854775807 := by unfold xmx2; split <;> omega
  have c1 : xmx2 sc (Q i) < xmx2 sc (Q j) ↔ Q i < Q j := by unfold xmx2; split <;> split <;> omega
  have c2 : xmx2 sc (Q i) = xmx2 sc (Q j) ↔ Q i = Q j := by unfold xmx2; split <;> split <;> omega
  refine xcI_of ((e_X8_isSooner_0 P a (iI i) (iI j) S).trans ?_)
  have e6 := xfR_at (k := 6) hV.1 rfl
  simp only [e6, r1, r2, xob_some]
  rw [if_neg (by rw [iI_0, iI_lt (by omega) (by omega) (by omega) (by omega)]; omega), if_neg (by rw [iI_le (by omega) (by omega) (by omega) (by omega)]; omega), if_neg (by rw [iI_0, iI_lt (by omega) (by omega) (by omega) (by omega)]; omega), if_pos (by rw [iI_lt (by omega) (by omega) (by omega) (by omega)]; omega)]
  unfold xlt2
  by_cases d : Q i < Q j
  · rw [if_pos (by rw [lg_lt (by omega) (by omega) (by omega) (by omega)]; exact c1.mpr d), if_pos (decide_eq_true (Or.inl d))]
  · rw [if_neg (by rw [lg_lt (by omega) (by omega) (by omega) (by omega)]; exact fun z => d (c1.mp z))]
    by_cases d2 : Q i = Q j
    · rw [if_neg (by rw [ne_eq, lg_z (by omega) (by omega) (by omega) (by omega)]; exact fun z => z (c2.mpr d2))]
      by_cases d3 : i < j
      · rw [if_neg (by rw [iI_le (by omega) (by omega) (by omega) (by omega)]; omega), if_pos (decide_eq_true (Or.inr ⟨d2, d3⟩))]
      · rw [if_pos (by rw [iI_le (by omega) (by omega) (by omega) (by omega)]; omega), if_neg (by rw [decide_eq_true_eq]; omega)]
    · rw [if_pos (by rw [ne_eq, lg_z (by omega) (by omega) (by omega) (by omega)]; exact fun z => d2 (c2.mp z)), if_neg (by rw [decide_eq_true_eq]; omega)]
/-- who is at that rank, none -/
def xat2 (Q : Nat → Int) (k : Nat) (t : Int) (ans : Int) : Prop := (∃ i : Nat, i < k ∧ (xrkq Q k i : Int) = t ∧ ans = i) ∨ ((∀ i, i < k → (xrkq Q k i : Int) ≠ t) ∧ ans = -1)
theorem d_vatRank {f : Nat → Int64} {Q : Nat → Int} (hV : xVo S a s1 s2 l1 l2 sc pt) (e : S.1 (a + 19) = some (.inr (1, (6, .inr (.inl f))))) (hs : 0 < sc) (sc1 : sc ≤ 705266952332342400) (hF : xFd S b F) (hQ : ∀ r, r < F.1 → xkr F sc r (Q r) ∧ f r = jI (xmx2 sc (Q r))) {t : Int} (t0 : 0 ≤ t) (t1 : t < 100) : ∃ ans, xcI P m_X8_atRank [.ref a, .ref b, .int (iI t)] S = some (iI ans, S) ∧ xat2 Q F.1 t ans := by
  have hk := hF.1.1
  have key := xloopQ (run := fun i (_ : Unit) => xrun P m_X8_atRank 2 [(0, .ref a), (1, .ref b), (2, .int (iI t)), (3, .int (iI i))] [] S)
    (Inv := fun i _ => ∀ i', i' < i → (xrkq Q F.1 i' : Int) ≠ t)
    (fun res => ∃ ans, res = some (some (.int (iI ans)), S) ∧ xat2 Q F.1 t ans) 0 F.1 (by omega) (fun i _ _ hi hI => by
      have rk := xrkq_le Q F.1 i
      have inner : xrun P m_X8_atRank 2 [(0, .ref a), (1, .ref b), (2, .int (iI t)), (3, .int (iI i))] [] S = (if iI (xrkq Q F.1 i : Nat) ≠ iI t then xrun P m_X8_atRank 2 [(0, .ref a), (1, .ref b), (2, .int (iI t)), (3, .int (iI (i + 1 : Nat)))] [] S else some (some (.int (iI i)), S)) := by
        rw [e_X8_atRank_2, hF.o, cond_true, d_size hF, xob_some, if_neg (by rw [iI_le (by omega) (by omega) (by omega) (by omega)]; omega)]
        refine (xsteps (fun r => xrun P m_X8_atRank 16 [(0, .ref a), (1, .ref b), (2, .int (iI t)), (3, .int (iI i)), (4, .int (iI (xct (fun j => xlt2 Q j i) r))), (5, .int (iI r))] [] S) F.1 ?_).trans ?_
        · intro r hr
          try dsimp only
          have hb := xct_le (fun j => xlt2 Q j i) r
          rw [e_X8_atRank_16, hF.o, cond_true, d_size hF, xob_some, if_neg (by rw [iI_le (by omega) (by omega) (by omega) (by omega)]; omega), hV.o, cond_true, d_isSooner (P := P) hV e hs sc1 hk hQ hr hi, xob_some]
          simp only [xct]
          by_cases c : xlt2 Q r i = true
          · rw [if_pos c, if_pos c, if_neg (by decide +kernel), iI_suc, iI_suc]
          · rw [if_neg c, if_neg c, if_pos (by decide +kernel), iI_add, iI_suc]
            simp
        · try dsimp only
          rw [e_X8_atRank_16, hF.o, cond_true, d_size hF, xob_some, if_pos (by rw [iI_le (by omega) (by omega) (by omega) (by omega)]; omega), iI_suc]
          rfl
      have ek : (iI (xrkq Q F.1 i : Nat) ≠ iI t) ↔ (xrkq Q F.1 i : Int) ≠ t := by rw [ne_eq, iI_eq (by omega) (by omega) (by omega) (by omega)]
      by_cases c : (xrkq Q F.1 i : Int) = t
      · refine Or.inl ⟨i, ?_, Or.inl ⟨i, hi, c, rfl⟩⟩
        rw [inner, if_neg (fun z => ek.mp z c)]
      · refine Or.inr ⟨(), by rw [inner, if_pos (ek.mpr c)], fun i' hi' => ?_⟩
        by_cases d : i' = i
        · subst d; exact c
        · exact hI i' (by omega)) (fun _ hI => by
      refine ⟨-1, ?_, Or.inr ⟨hI, rfl⟩⟩
      rw [e_X8_atRank_2, hF.o, cond_true, d_size hF, xob_some, if_pos (by rw [iI_le (by omega) (by omega) (by omega) (by omega)]; omega)]) (s := ()) (fun i' hi' => by omega)
  obtain ⟨ans, y1, y2⟩ := key
  exact ⟨ans, xcI_of ((e_X8_atRank_0 P a b (iI t) S).trans y1), y2⟩
/-- beginnings, as the reference has them -/
def xBg (S : xS) (m n : Nat) (sc : Int) (Q : Nat → Int) : Prop := ∃ (tt tb : Nat → Int) (f g : Nat → Int64), S.1 (m + 14) = some (.inr (1, (6, .inr (.inl f)))) ∧ S.1 (m + 15) = some (.inr (1, (6, .inr (.inl g)))) ∧ ∀ k, k < n → f k = jI (tt k) ∧ g k = jI (tb k) ∧ 0 ≤ tt k ∧ tt k ≤ 5760 ∧ 1 ≤ tb k ∧ tb k ≤ 5760 ∧ tt k * sc = Q k * tb k
theorem xBg.fr {S1 : xS} {n : Nat} {Q : Nat → Int} {B : Nat → Prop} (h : xBg S m n sc Q) (hf : xfr S S1 B) (ha : ¬ B (m + 14)) (hb : ¬ B (m + 15)) : xBg S1 m n sc Q := by
  obtain ⟨tt, tb, f, g, e1, e2, h3⟩ := h
  exact ⟨tt, tb, f, g, (hf.2 _ ha).trans e1, (hf.2 _ hb).trans e2, h3⟩
theorem xBg.put {n : Nat} {Q : Nat → Int} (h : xBg S m n sc Q) (hn : n < 6) {p q : Int} (p0 : 0 ≤ p) (p1 : p ≤ 5760) (q0 : 1 ≤ q) (q1 : q ≤ 5760) (he : p * sc = Q n * q) : ∃ S1 S2, xwrJ S (m + 14) (iI n) (jI p) = some S1 ∧ xwrJ S1 (m + 15) (iI n) (jI q) = some S2 ∧ xBg S2 m (n + 1) sc Q ∧ xfr S S1 (fun d => d = m + 14) ∧ xfr S1 S2 (fun d => d = m + 15) := by
  obtain ⟨tt, tb, f, g, e1, e2, h3⟩ := h
  obtain ⟨S1, k1, k2, k3⟩ := xwrJ_fr (v := jI p) e1 (i := n) (by omega) (by omega) (by omega)
  obtain ⟨S2, j1, j2, j3⟩ := xwrJ_fr (v := jI q) ((k3.2 _ (by omega)).trans e2) (i := n) (by omega) (by omega) (by omega)
  rw [Int.toNat_natCast] at k2 j2
  refine ⟨S1, S2, k1, j1, ⟨va_up tt n p, va_up tb n q, _, _, (j3.2 _ (by omega)).trans k2, j2, fun k hk => ?_⟩, k3, j3⟩
  simp only [va_up_at]
  by_cases d : k = n
  · simp only [if_pos d]
    exact ⟨trivial, trivial, p0, p1, q0, q1, by rw [d]; exact he⟩
  · simp only [if_neg d]
    exact h3 k (by omega)
theorem g_isSooner {ob : Nat → Value} {n : Nat} {Q : Nat → Int} (hM : xMo S m ob) (h : xBg S m n sc Q) (hs : 0 < sc) (hn : n ≤ 6) {i j : Nat} (hi : i < n) (hj : j < n) : xcI P m_X11_isSooner [.ref m, .int (iI i), .int (iI j)] S = some (iI (if xlt2 Q i j then 1 else 0), S) := by
  obtain ⟨tt, tb, f, g, e1, e2, h3⟩ := h
  obtain ⟨a1, a2, a3, a4, a5, a6, a7⟩ := h3 i hi
  obtain ⟨b1, b2, b3, b4, b5, b6, b7⟩ := h3 j hj
  have c1 := x_tcmp hs a5 b5 a7 b7
  have q1 := x_mul_bd a3 a4 (show 0 ≤ tb j by omega) b6
  have q2 := x_mul_bd b3 b4 (show 0 ≤ tb i by omega) a6
  refine xcI_of ((e_X11_isSooner_0 P m (iI i) (iI j) S).trans ?_)
  simp (disch := omega) only [hM.r23, hM.r24, xob_some, xrdJ_at e1, xrdJ_at e2, Int.toNat_natCast, a1, a2, b1, b2, jI_mul, jI_sub]
  have ll : lg_cmp (jI (tt i * tb j - tt j * tb i)) (jI 0) < 0 ↔ tt i * tb j - tt j * tb i < 0 := lg_lt (by omega) (by omega) (by omega) (by omega)
  have lz : lg_cmp (jI (tt i * tb j - tt j * tb i)) (jI 0) = 0 ↔ tt i * tb j - tt j * tb i = 0 := lg_z (by omega) (by omega) (by omega) (by omega)
  unfold xlt2
  by_cases d : Q i < Q j
  · rw [if_pos (ll.mpr (by have := c1.1.mpr d; omega)), if_pos (decide_eq_true (Or.inl d))]
  · rw [if_neg (fun z => d (c1.1.mp (by have := ll.mp z; omega)))]
    by_cases d2 : Q i = Q j
    · rw [if_neg (fun z => z (lz.mpr (by have := c1.2.mpr d2; omega)))]
      by_cases d3 : i < j
      · rw [if_neg (by rw [iI_le (by omega) (by omega) (by omega) (by omega)]; omega), if_pos (decide_eq_true (Or.inr ⟨d2, d3⟩))]
      · rw [if_pos (by rw [iI_le (by omega) (by omega) (by omega) (by omega)]; omega), if_neg (by rw [decide_eq_true_eq]; omega)]
    · rw [if_pos (fun z => d2 (c1.2.mp (by have := lz.mp z; omega))), if_neg (by rw [decide_eq_true_eq]; omega)]
theorem z_firsts (H : xCl S x A) {k : Int} (k1 : -2147483648 ≤ k) (k2 : k < 2147483648) : ∃ v A', xKI P S x m_X10_firsts [.int (iI k)] v A' ∧ ∀ S', xMl S' m A → xGI P S' m m_X11_firsts [.int (iI k)] v A' := by
  have hF := H.2.1
  have hk := hF.1.1
  by_cases ck : 0 ≤ k ∧ k < A.1.1
  · obtain ⟨s1, s2, l1, l2, sc0, pt0, hV⟩ := H.va.l
    obtain ⟨S1, s3, s4, l3, l4, sc, pt, f, Q, a1, a2, a3, a4, a5, a6, a7⟩ := d_findFirst (P := P) hV hF (by omega) (by omega)
    have hF1 := hF.fr a7 (fun c hc hz => by unfold x3 at hc; unfold xrg at hz; omega)
    obtain ⟨ans, b1, b2⟩ := d_vatRank (P := P) a2.1.1 a5 (by omega) a4 hF1 a6 ck.1 (by omega)
    obtain ⟨c1, c2⟩ := H.vi a7 a2.va
    refine ⟨iI ans, A, ⟨S1, xcI_of ((e_X10_firsts_0 P x (iI k) S).trans ?_), c1, c2⟩, fun S' M => ?_⟩
    · simp only [H.r0, H.r10, hF.o, d_has hF k1 k2, if_pos ck, hV.1.1.o, a1, c1.r10, c1.r0, a2.1.1.o, b1, xob_some, cond_true, t_10, t_00, ne_eq, not_true_eq_false, not_false_eq_true, if_true, if_false]
    · obtain ⟨ob, e0, e1, e2, e3, e4, e5, e6, e7, e8⟩ := id M
      -- where each begins
      have begins := xloopQ (run := fun i (Z : xS) => xrun P m_X11_firsts 12 [(0, .ref m), (1, .int (iI k)), (2, .int (iI i))] [] Z)
        (Inv := fun i Z => xMl Z m A ∧ xfr S' Z (xrg m 19) ∧ xBg Z m i sc Q)
        (fun res => ∃ Z, res = xrun P m_X11_firsts 85 [(0, .ref m), (1, .int (iI k)), (2, .int (iI (-1))), (3, .int (iI (0 : Nat)))] [] Z ∧ xMl Z m A ∧ xfr S' Z (xrg m 19) ∧ xBg Z m A.1.1 sc Q) 0 A.1.1 (by omega) (fun i Z _ hi hZ => by
          obtain ⟨hM, hfr, hB⟩ := hZ
          obtain ⟨n, u, v, hD, hQ⟩ := (a6 i hi).1
          obtain ⟨Z1, ob1, jf, j1, j2, j3, j4, j5, j6, j7⟩ := d_laysStretches2 (P := P) hM hi hD
          obtain ⟨obz, z0, -, -, hR, -⟩ := hM
          have n201 := hD.2.2.1
          have hB1 : xBg Z1 m i sc Q := hB.fr jf (by omega) (by omega)
          have e20 := j4.i (by omega) j5
          have fin : ∀ (Z2 Z3 : xS), xfr Z1 Z2 (fun d => d = m + 14) → xfr Z2 Z3 (fun d => d = m + 15) → xBg Z3 m (i + 1) sc Q → xMl Z3 m A ∧ xfr S' Z3 (xrg m 19) ∧ xBg Z3 m (i + 1) sc Q := by
            intro Z2 Z3 f1 f2 hB3
            obtain ⟨ob', y0, y1, y2, y3, y4, y5, y6, y7, a1, a2, a3, a4, a5, a6, a7, a8, a9, a10, a11, a12⟩ := j2
            have f := (f1.mono (fun c h => Or.inl h) : xfr Z1 Z2 (fun d => d = m + 14 ∨ d = m + 15)).tr (f2.mono (fun c h => Or.inr h))
            obtain ⟨r1, r2⟩ := xMl.sc (S1 := Z3) (ob1 := ob') y0 y1 y2 y3 y4 y5 y6 y7 (f.mono (fun b hb => by unfold xmc; omega)) (y0.fr f (by omega)) rfl rfl ⟨a1.fr f (by omega), a2.fr f (by omega), a3.fr f (by omega), a4.fr f (by omega), a5.fr f (by omega), a6.fr f (by omega), a7.fr f (by omega), a8.fr f (by omega), a9.fr f (by omega), by obtain ⟨tt, tb, f, g, e1, e2, -⟩ := hB3; exact ⟨f, e1⟩, by obtain ⟨tt, tb, f, g, e1, e2, -⟩ := hB3; exact ⟨g, e2⟩, a12.fr f (by omega)⟩
            exact ⟨r1, (hfr.tr j3).tr r2, hB3⟩
          have start : xrun P m_X11_firsts 12 [(0, .ref m), (1, .int (iI k)), (2, .int (iI i))] [] Z = xrun P m_X11_firsts 12 [(0, .ref m), (1, .int (iI k)), (2, .int (iI i))] [] Z := rfl
          by_cases c : n = 0
          · rw [if_pos c] at hQ
            obtain ⟨Z2, Z3, w1, w2, w3, w4, w5⟩ := hB1.put (by omega) (p := 2) (q := 1) (by omega) (by omega) (by omega) (by omega) (by rw [hQ]; omega)
            have e20' : iI (n : Int) = iI 0 := by rw [c]; rfl
            have j4' := j4.fr w4 (by omega)
            refine Or.inr ⟨Z3, ?_, fin Z2 Z3 w4 w5 w3⟩
            rw [e_X11_firsts_12, z0.r1, xob_some, g_K hR, xob_some, if_neg (by rw [iI_le (by omega) (by omega) (by omega) (by omega)]; omega), z0.o, cond_true, j1, xob_some, j4.r23, xob_some, e20, xob_some, e20', if_neg (fun z => z rfl), w1, xob_some, j4'.r24, xob_some, j4'.i (by omega) j5, xob_some, e20', if_neg (fun z => z rfl), w2, xob_some, iI_suc]
          · rw [if_neg c] at hQ
            obtain ⟨a, b, r1, r2, b0, b1, e⟩ := j6.rd (show 0 < n by omega) (by omega)
            have bd := hD.bd (show 0 < n by omega)
            have ab := x_tt_bd (show 0 < sc by omega) b0 e bd.1 (by omega)
            obtain ⟨Z2, Z3, w1, w2, w3, w4, w5⟩ := hB1.put (by omega) (p := a) (q := b) ab.1 (by omega) b0 b1 (by rw [hQ]; exact e)
            have ne : ¬ (iI (n : Int) = 0) := by rw [iI_0, iI_eq (by omega) (by omega) (by omega) (by omega)]; omega
            have j4' := j4.fr w4 (by omega)
            have r2' : xrdJ Z2 (m + 11) (iI ((0 : Nat) : Int)) = some (jI b) := by unfold xrdJ; unfold xrdJ at r2; rw [w4.2 _ (by omega)]; exact r2
            refine Or.inr ⟨Z3, ?_, fin Z2 Z3 w4 w5 w3⟩
            rw [e_X11_firsts_12, z0.r1, xob_some, g_K hR, xob_some, if_neg (by rw [iI_le (by omega) (by omega) (by omega) (by omega)]; omega), z0.o, cond_true, j1, xob_some, j4.r23, xob_some, e20, xob_some, if_pos ne, j4.r16, xob_some, show (iI 0 : Int32) = iI ((0 : Nat) : Int) from rfl, r1, xob_some, w1, xob_some, j4'.r24, xob_some, j4'.i (by omega) j5, xob_some, if_pos ne, j4'.r17, xob_some, r2', xob_some, w2, xob_some, iI_suc]) (fun Z hZ => by
          obtain ⟨hM, hfr, hB⟩ := hZ
          obtain ⟨obz, z0, -, -, hR, -⟩ := id hM
          refine ⟨Z, ?_, hM, hfr, hB⟩
          rw [e_X11_firsts_12, z0.r1, xob_some, g_K hR, xob_some, if_pos (by rw [iI_le (by omega) (by omega) (by omega) (by omega)]; omega)]
          rfl) (s := S') ⟨M, xfr.rf, by
            obtain ⟨-, -, -, -, -, -, -, -, -, ⟨f, h1⟩, ⟨g, h2⟩, -⟩ := e8
            exact ⟨fun _ => 0, fun _ => 0, f, g, h1, h2, fun k hk => by omega⟩⟩
      obtain ⟨Z, y1, y2, y3, y4⟩ := begins
      obtain ⟨obz, z0, -, -, hR, -⟩ := id y2
      refine ⟨Z, xcI_of ((e_X11_firsts_0 P m (iI k) S').trans ?_), y2, y3⟩
      simp only [e0.o, g_isRunner e0 e3 k1 k2, if_pos ck, xob_some, cond_true, t_10, t_00, ne_eq, not_true_eq_false, not_false_eq_true, if_true, if_false]
      refine y1.trans ?_
      have zb : ∀ i : Nat, -1 ≤ (if 0 ≤ ans ∧ ans < i then ans else -1) := fun i => by split <;> omega
      have loop := xsteps (fun i => xrun P m_X11_firsts 85 [(0, .ref m), (1, .int (iI k)), (2, .int (iI (if 0 ≤ ans ∧ ans < (i : Int) then ans else -1))), (3, .int (iI i))] [] Z) A.1.1 (by
        intro i hi
        try dsimp only
        have rk := xrkq_le Q A.1.1 i
        rw [e_X11_firsts_85, z0.r1, xob_some, g_K hR, xob_some, if_neg (by rw [iI_le (by omega) (by omega) (by omega) (by omega)]; omega)]
        generalize hits : (if 0 ≤ ans ∧ ans < (i : Int) then ans else -1) = its
        refine (xsteps (fun r => xrun P m_X11_firsts 101 [(0, .ref m), (1, .int (iI k)), (2, .int (iI its)), (3, .int (iI i)), (4, .int (iI (xct (fun j => xlt2 Q j i) r))), (5, .int (iI r))] [] Z) A.1.1 ?_).trans ?_
        · intro r hr
          try dsimp only
          have hb := xct_le (fun j => xlt2 Q j i) r
          rw [e_X11_firsts_101, z0.r1, xob_some, g_K hR, xob_some, if_neg (by rw [iI_le (by omega) (by omega) (by omega) (by omega)]; omega)]
          simp only [xct]
          by_cases ce : r = i
          · have c : ¬ xlt2 Q r i = true := by subst ce; unfold xlt2; rw [decide_eq_true_eq]; omega
            rw [if_pos (by rw [ce]), if_neg c, iI_suc]
            rfl
          · rw [if_neg (by rw [iI_eq (by omega) (by omega) (by omega) (by omega)]; omega), z0.o, cond_true, g_isSooner (P := P) z0 y4 (by omega) (by omega) hr hi, xob_some]
            by_cases c : xlt2 Q r i = true
            · rw [if_pos c, if_pos c, if_neg (show ¬ iI 1 = 0 by decide +kernel), iI_suc, iI_suc]
            · rw [if_neg c, if_neg c, if_pos (show iI 0 = 0 by decide +kernel), iI_suc]
              rfl
        · try dsimp only
          rw [e_X11_firsts_101, z0.r1, xob_some, g_K hR, xob_some, if_pos (by rw [iI_le (by omega) (by omega) (by omega) (by omega)]; omega)]
          have ek : (iI ((xct (fun j => xlt2 Q j i) A.1.1 : Nat) : Int) ≠ iI k) ↔ (xrkq Q A.1.1 i : Int) ≠ k := by
            rw [ne_eq, iI_eq (by unfold xrkq at rk; omega) (by unfold xrkq at rk; omega) (by omega) (by omega)]
            rfl
          by_cases c : (xrkq Q A.1.1 i : Int) = k
          · rw [if_neg (fun z => ek.mp z c), iI_suc]
            rcases b2 with ⟨i0, h1, h2, h3⟩ | ⟨h1, h2⟩
            · have : i = i0 := xrkq_inj (Q := Q) hi h1 (by omega)
              rw [if_pos (by omega), h3, this]
            · exact absurd c (h1 i hi)
          · rw [if_pos (ek.mpr c), iI_suc, ← hits]
            rcases b2 with ⟨i0, h1, h2, h3⟩ | ⟨h1, h2⟩
            · have ne : i ≠ i0 := fun z => c (by rw [z]; exact h2)
              by_cases d : i0 < i
              · rw [if_pos (by omega), if_pos (by omega)]
              · rw [if_neg (by omega), if_neg (by omega)]
            · rw [if_neg (by omega), if_neg (by omega)])
      rw [show (if 0 ≤ ans ∧ ans < ((0 : Nat) : Int) then ans else -1) = -1 by rw [if_neg (by omega)]] at loop
      rw [loop, e_X11_firsts_85, z0.r1, xob_some, g_K hR, xob_some, if_pos (by rw [iI_le (by omega) (by omega) (by omega) (by omega)]; omega)]
      rcases b2 with ⟨i0, h1, h2, h3⟩ | ⟨h1, h2⟩
      · rw [if_pos (by omega)]
      · rw [if_neg (by omega), h2]
  · refine ⟨iI (-1), A, ⟨S, xcI_of ((e_X10_firsts_0 P x (iI k) S).trans ?_), H, xfr.rf⟩, fun S' M => ?_⟩
    · simp only [H.r0, hF.o, d_has hF k1 k2, if_neg ck, xob_some, cond_true, t_10, t_00, ne_eq, not_true_eq_false, not_false_eq_true, if_true, if_false]
    · obtain ⟨ob, e0, -, -, hR, -⟩ := id M
      refine ⟨S', xcI_of ((e_X11_firsts_0 P m (iI k) S').trans ?_), M, xfr.rf⟩
      simp only [e0.o, g_isRunner e0 hR k1 k2, if_neg ck, xob_some, cond_true, t_10, t_00, ne_eq, not_true_eq_false, not_false_eq_true, if_true, if_false]
end FS
