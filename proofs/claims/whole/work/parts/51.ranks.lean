-- deps: 50.crowd
/-! at a time: ranked, hole -/
/-- one to one among k: onto -/
theorem xpig : ∀ (k : Nat) (r : Nat → Nat), (∀ i, i < k → r i < k) → (∀ i j, i < k → j < k → r i = r j → i = j) → ∀ n, n < k → ∃ t, t < k ∧ r t = n := by
  intro k
  induction k with
  | zero => intro r _ _ n hn; omega
  | succ k ih =>
    intro r hb hi n hn
    have hv := hb k (by omega)
    have g : ∀ n, n < k → ∃ t, t < k ∧ (if r t = k then r k else r t) = n := ih (fun i => if r i = k then r k else r i) (by
      intro i hik
      show (if r i = k then r k else r i) < k
      have h1 := hb i (by omega)
      by_cases c : r i = k
      · rw [if_pos c]
        by_cases d : r k = k
        · have := hi i k (by omega) (by omega) (c.trans d.symm); omega
        · omega
      · rw [if_neg c]; omega) (by
      intro i j hik hjk hij
      have hij' : (if r i = k then r k else r i) = (if r j = k then r k else r j) := hij
      have e1 := hi i k (by omega) (by omega)
      have e2 := hi j k (by omega) (by omega)
      have e3 := hi i j (by omega) (by omega)
      by_cases c : r i = k
      · by_cases d : r j = k
        · exact e3 (c.trans d.symm)
        · rw [if_pos c, if_neg d] at hij'
          have := e2 hij'.symm; omega
      · by_cases d : r j = k
        · rw [if_neg c, if_pos d] at hij'
          have := e1 hij'; omega
        · rw [if_neg c, if_neg d] at hij'
          exact e3 hij')
    by_cases c : n = r k
    · exact ⟨k, by omega, c.symm⟩
    · by_cases d : n = k
      · obtain ⟨t, h1, h2⟩ := g (r k) (by omega)
        by_cases e : r t = k
        · exact ⟨t, by omega, by omega⟩
        · rw [if_neg e] at h2
          have := hi t k (by omega) (by omega) h2; omega
      · obtain ⟨t, h1, h2⟩ := g n (by omega)
        by_cases e : r t = k
        · rw [if_pos e] at h2; omega
        · rw [if_neg e] at h2
          exact ⟨t, by omega, h2⟩
theorem xrk2_lt {pl : Nat → Int} {k i j : Nat} (hi : i < k) (h : pl i < pl j ∨ pl i = pl j ∧ i < j) : xrk2 pl k i < xrk2 pl k j := xrkq_lt (Q := pl) hi (by unfold xlt2; simpa using h)
theorem xrk2_inj {pl : Nat → Int} {k i j : Nat} (hi : i < k) (hj : j < k) (h : xrk2 pl k i = xrk2 pl k j) : i = j := xrkq_inj (Q := pl) hi hj h
theorem xct_lt {p : Nat → Bool} : ∀ {n i : Nat}, i < n → p i = false → xct p n < n := by
  intro n
  induction n with
  | zero => intro i h; omega
  | succ n ih =>
    intro i hi hp
    simp only [xct]
    by_cases c : i = n
    · subst c
      rw [hp]
      have := xct_le p i
      simp only [Bool.false_eq_true, if_false]
      omega
    · have := ih (show i < n by omega) hp
      split <;> omega
theorem xrk2_bd {pl : Nat → Int} {k i : Nat} (hi : i < k) : xrk2 pl k i < k := xct_lt hi (by simp)
theorem xrk2_on {pl : Nat → Int} {k n : Nat} (hn : n < k) : ∃ t, t < k ∧ xrk2 pl k t = n := xpig k (xrk2 pl k) (fun _ h => xrk2_bd h) (fun _ _ h1 h2 h => xrk2_inj h1 h2 h) n hn
/-- the runners in their order -/
theorem x_ord {pl : Nat → Int} {k : Nat} {f : Nat → Int32} (hf : ∀ i, i < k → f (xrk2 pl k i) = iI i) (hk : k ≤ 6) : ∃ o : Nat → Nat, ∀ n, n < k → o n < k ∧ xrk2 pl k (o n) = n ∧ f n = iI (o n) := by
  refine ⟨fun n => (f n).toInt.toNat, fun n hn => ?_⟩
  obtain ⟨t, h1, h2⟩ := xrk2_on (pl := pl) hn
  have e := hf t h1
  rw [h2] at e
  have e2 : (f n).toInt.toNat = t := by rw [e, iI_toInt (by omega) (by omega)]; rfl
  show (f n).toInt.toNat < k ∧ xrk2 pl k (f n).toInt.toNat = n ∧ f n = iI ((f n).toInt.toNat : Nat)
  rw [e2]
  exact ⟨h1, h2, e⟩
theorem x_ord_le {pl : Nat → Int} {k : Nat} {o : Nat → Nat} (ho : ∀ n, n < k → o n < k ∧ xrk2 pl k (o n) = n) {n n' : Nat} (hn : n < k) (hn' : n' < k) (h : n < n') : pl (o n) ≤ pl (o n') := by
  have a := ho n hn
  have b := ho n' hn'
  by_cases c : pl (o n') < pl (o n)
  · have := xrk2_lt (pl := pl) (k := k) b.1 (Or.inl c)
    omega
  · omega
section RN
variable {P : Nat → Nat} {S : xS} {x m : Nat} {A : xAb}
theorem xMl.ord {T : xS} (M : xMl S m A) (hf : xfr S T (fun b => b = m + 7)) (hr : xIr T (m + 7) 6) : xMl T m A ∧ xfr S T (xrg m 19) := by
  obtain ⟨ob, e0, e1, e2, e3, e4, e5, e6, e7, e8⟩ := M
  obtain ⟨g1, g2, g3, g4, g5, g6, g7, g8, g9, g10, g11, g12⟩ := e8
  exact xMl.sc e0 e1 e2 e3 e4 e5 e6 e7 (hf.mono (fun b hb => by unfold xmc; omega)) (e0.fr hf (by omega)) rfl rfl ⟨g1.fr hf (by omega), g2.fr hf (by omega), hr, g4.fr hf (by omega), g5.fr hf (by omega), g6.fr hf (by omega), g7.fr hf (by omega), g8.fr hf (by omega), g9.fr hf (by omega), g10.fr hf (by omega), g11.fr hf (by omega), g12.fr hf (by omega)⟩
theorem g_ranks (M : xMl S m A) {p q : Int} (p0 : 0 ≤ p) (p1 : p ≤ 9999) (q0 : 1 ≤ q) (q1 : q ≤ 999) : ∃ T f, xcV P m_X11_ranks [.ref m, .int (iI p), .int (iI q)] S = some T ∧ xMl T m A ∧ xfr S T (xrg m 19) ∧ T.1 (m + 7) = some (.inr (0, (6, .inl f))) ∧ ∀ i, i < A.1.1 → f (xrk2 (xplc A.1 p q) A.1.1 i) = iI i := by
  obtain ⟨ob, e0, -, -, hR, -, -, -, -, hs⟩ := id M
  obtain ⟨-, -, ⟨f0, hf0⟩, -⟩ := hs
  have hk := hR.1.1
  have key := xloopQ (run := fun r (Z : xS) => xrun P m_X11_ranks 2 [(0, .ref m), (1, .int (iI p)), (2, .int (iI q)), (3, .int (iI r))] [] Z)
    (Inv := fun r Z => xfr S Z (fun b => b = m + 7) ∧ ∃ f, Z.1 (m + 7) = some (.inr (0, (6, .inl f))) ∧ ∀ i, i < r → f (xrk2 (xplc A.1 p q) A.1.1 i) = iI i)
    (fun res => ∃ T f, res = some (none, T) ∧ xfr S T (fun b => b = m + 7) ∧ T.1 (m + 7) = some (.inr (0, (6, .inl f))) ∧ ∀ i, i < A.1.1 → f (xrk2 (xplc A.1 p q) A.1.1 i) = iI i)
    0 A.1.1 (Nat.zero_le _) (by
      rintro r Z - hr ⟨hfr, f, hf, hi⟩
      right
      have Zo := e0.fr hfr (by omega)
      have ZR := hR.fr hfr (by omega)
      have br := xplc_bd A.1 (p := p) (q := q) (by omega) r
      have st := xsteps (fun n => xrun P m_X11_ranks 29 [(0, .ref m), (1, .int (iI p)), (2, .int (iI q)), (3, .int (iI r)), (4, .int (iI (xct (fun j => decide (xplc A.1 p q j < xplc A.1 p q r ∨ xplc A.1 p q j = xplc A.1 p q r ∧ j < r)) n : Nat))), (5, .long (jI (xplc A.1 p q r))), (7, .int (iI n))] [] Z) A.1.1 (by
        intro n hn
        try dsimp only
        have bn := xplc_bd A.1 (p := p) (q := q) (by omega) n
        rw [e_X11_ranks_29, Zo.r1, xob_some, g_K ZR, xob_some, if_neg (by rw [iI_le (by omega) (by omega) (by omega) (by omega)]; omega)]
        simp only [Zo.o, iI_ji (show -2147483648 ≤ p by omega) (show p < 2147483648 by omega), iI_ji (show -2147483648 ≤ q by omega) (show q < 2147483648 by omega), g_placeTop Zo ZR hn p0 (show p ≤ 1000000000000 by omega) q0 (show q ≤ 1000000000000 by omega), iI_suc, xob_some, cond_true, xct]
        rw [jI_cmp_lt (by omega) (by omega) (by omega) (by omega)]
        by_cases c : xplc A.1 p q n < xplc A.1 p q r
        · rw [if_neg (show ¬ xplc A.1 p q r < xplc A.1 p q n by omega), if_neg (show ¬ xplc A.1 p q n = xplc A.1 p q r by omega), if_pos (show iI (-1) < 0 by decide +kernel), if_pos (by simp; omega)]
        · by_cases d : xplc A.1 p q n = xplc A.1 p q r
          · rw [if_neg (show ¬ xplc A.1 p q r < xplc A.1 p q n by omega), if_pos d, if_neg (show ¬ iI 0 < 0 by decide +kernel), if_neg (show ¬ iI 0 ≠ 0 by decide +kernel)]
            by_cases e : r ≤ n
            · rw [if_pos (by rw [iI_le (by omega) (by omega) (by omega) (by omega)]; omega), if_neg (by simp; omega)]
              rfl
            · rw [if_neg (by rw [iI_le (by omega) (by omega) (by omega) (by omega)]; omega), if_pos (by simp; omega)]
          · rw [if_pos (show xplc A.1 p q r < xplc A.1 p q n by omega), if_neg (show ¬ iI 1 < 0 by decide +kernel), if_pos (show iI 1 ≠ 0 by decide +kernel), if_neg (by simp; omega)]
            rfl)
      try dsimp only at st
      have rb := xrk2_bd (pl := xplc A.1 p q) hr
      obtain ⟨Z2, w1, w2, w3⟩ := xwrI_fr (v := iI r) hf (i := (xrk2 (xplc A.1 p q) A.1.1 r : Nat)) (by omega) (by omega) (by omega)
      refine ⟨Z2, ?_, hfr.tr w3, _, w2, ?_⟩
      · rw [e_X11_ranks_2, Zo.r1, xob_some, g_K ZR, xob_some, if_neg (by rw [iI_le (by omega) (by omega) (by omega) (by omega)]; omega)]
        simp only [Zo.o, iI_ji (show -2147483648 ≤ p by omega) (show p < 2147483648 by omega), iI_ji (show -2147483648 ≤ q by omega) (show q < 2147483648 by omega), g_placeTop Zo ZR hr p0 (show p ≤ 1000000000000 by omega) q0 (show q ≤ 1000000000000 by omega), xob_some, cond_true]
        refine st.trans ?_
        rw [e_X11_ranks_29, Zo.r1, xob_some, g_K ZR, xob_some, if_pos (by rw [iI_le (by omega) (by omega) (by omega) (by omega)]; omega), Zo.r8, xob_some]
        have w1' : xwrI Z (m + 7) (iI (xct (fun j => decide (xplc A.1 p q j < xplc A.1 p q r ∨ xplc A.1 p q j = xplc A.1 p q r ∧ j < r)) A.1.1 : Nat)) (iI r) = some Z2 := w1
        rw [w1', xob_some, iI_suc]
      · intro i hi2
        show va_up f (xrk2 (xplc A.1 p q) A.1.1 r) (iI r) (xrk2 (xplc A.1 p q) A.1.1 i) = iI i
        by_cases c : i = r
        · subst c
          simp [va_up]
        · have ne : xrk2 (xplc A.1 p q) A.1.1 i ≠ xrk2 (xplc A.1 p q) A.1.1 r := fun h => c (xrk2_inj (by omega) hr h)
          have := hi i (by omega)
          simp [va_up, ne, this])
    (by
      rintro Z ⟨hfr, f, hf, hi⟩
      have Zo := e0.fr hfr (by omega)
      have ZR := hR.fr hfr (by omega)
      refine ⟨Z, f, ?_, hfr, hf, hi⟩
      rw [e_X11_ranks_2, Zo.r1, xob_some, g_K ZR, xob_some, if_pos (by rw [iI_le (by omega) (by omega) (by omega) (by omega)]; omega)])
    (s := S) ⟨xfr.rf, f0, hf0, fun i hi => by omega⟩
  obtain ⟨T, f, k1, k2, k3, k4⟩ := key
  have M2 := M.ord k2 ⟨f, k3⟩
  exact ⟨T, f, xcV_of ((e_X11_ranks_0 P m (iI p) (iI q) S).trans k1), M2.1, M2.2, k3, k4⟩
theorem z_ranked (H : xCl S x A) {p q t : Int} (p1 : -2147483648 ≤ p) (p2 : p < 2147483648) (q1 : -2147483648 ≤ q) (q2 : q < 2147483648) (t1 : -2147483648 ≤ t) (t2 : t < 2147483648) : ∃ v A', xKI P S x m_X10_ranked [.int (iI p), .int (iI q), .int (iI t)] v A' ∧ ∀ S', xMl S' m A → xGI P S' m m_X11_ranked [.int (iI p), .int (iI q), .int (iI t)] v A' := by
  have hF := H.2.1
  have hk := hF.1.1
  by_cases ct : (0 ≤ p ∧ p ≤ 9999 ∧ 1 ≤ q ∧ q ≤ 999)
  · by_cases ci : 0 ≤ t ∧ t < A.1.1
    · obtain ⟨n, rfl⟩ : ∃ n : Nat, t = n := ⟨t.toNat, by omega⟩
      have hn : n < A.1.1 := by omega
      obtain ⟨j, j1, j2⟩ := xrk2_on (pl := xplc A.1 p q) hn
      obtain ⟨T, k1, k2, H1, fr⟩ := H.see (P := P) ct
      refine ⟨iI j, A, ⟨T, xcI_of ((e_X10_ranked_0 P x (iI p) (iI q) (iI n) S).trans ?_), H1, fr⟩, fun S' M => ?_⟩
      · simp only [H.r0, H.r7, H.io, hF.o, d_has hF t1 t2, if_pos ci, d_isTime p1 p2 q1 q2, if_pos ct, k1, H1.r7, k2.o, d_atRank k2 (show n < 6 by omega) j1 j2 (fun i hi h => by have := xrk2_inj (pl := xplc A.1 p q) (show i < A.1.1 by omega) j1 (h.trans j2.symm); omega), xob_some, cond_true, t_10, t_00, ne_eq, not_true_eq_false, not_false_eq_true, if_true, if_false]
      · obtain ⟨ob, e0, -, -, hR, -⟩ := id M
        obtain ⟨T', f, g1, M2, fr2, g3, g4⟩ := g_ranks (P := P) M ct.1 ct.2.1 ct.2.2.1 ct.2.2.2
        obtain ⟨ob', e0', -⟩ := id M2
        refine ⟨T', xcI_of ((e_X11_ranked_0 P m (iI p) (iI q) (iI n) S').trans ?_), M2, fr2⟩
        simp only [e0.o, g_isRunner e0 hR t1 t2, if_pos ci, g_isTime p1 p2 q1 q2, if_pos ct, g1, e0'.r8, xob_some, cond_true, t_10, t_00, ne_eq, not_true_eq_false, not_false_eq_true, if_true, if_false]
        rw [xrdI_at g3 (by omega) (by omega) (by omega), xob_some]
        have := g4 j j1
        rw [j2] at this
        show some (some (Value.int (f n)), T') = _
        rw [this]
    · refine ⟨iI (-1), A, ⟨S, xcI_of ((e_X10_ranked_0 P x (iI p) (iI q) (iI t) S).trans ?_), H, xfr.rf⟩, fun S' M => ?_⟩
      · simp only [H.r0, hF.o, d_has hF t1 t2, if_neg ci, d_isTime p1 p2 q1 q2, if_pos ct, xob_some, cond_true, t_10, t_00, ne_eq, not_true_eq_false, not_false_eq_true, if_true, if_false]
      · obtain ⟨ob, e0, -, -, hR, -⟩ := id M
        refine ⟨S', xcI_of ((e_X11_ranked_0 P m (iI p) (iI q) (iI t) S').trans ?_), M, xfr.rf⟩
        simp only [e0.o, g_isRunner e0 hR t1 t2, if_neg ci, g_isTime p1 p2 q1 q2, if_pos ct, xob_some, cond_true, t_10, t_00, ne_eq, not_true_eq_false, not_false_eq_true, if_true, if_false]
  · refine ⟨iI (-1), A, ⟨S, xcI_of ((e_X10_ranked_0 P x (iI p) (iI q) (iI t) S).trans ?_), H, xfr.rf⟩, fun S' M => ⟨S', xcI_of ((e_X11_ranked_0 P m (iI p) (iI q) (iI t) S').trans ?_), M, xfr.rf⟩⟩
    · simp only [d_isTime p1 p2 q1 q2, if_neg ct, xob_some, cond_true, t_10, t_00, ne_eq, not_true_eq_false, not_false_eq_true, if_true, if_false]
    · simp only [g_isTime p1 p2 q1 q2, if_neg ct, xob_some, cond_true, t_10, t_00, ne_eq, not_true_eq_false, not_false_eq_true, if_true, if_false]
/-! the longest hole -/
theorem xwn_le {pl : Nat → Int} {W : Int} {r j : Nat} {z : Int} (hj : j ≠ r) (hz : z ≤ xwy pl W r j) : ∀ n, j < n → xwn pl W r z n ≤ xwy pl W r j := by
  intro n
  induction n with
  | zero => intro h; omega
  | succ n ih =>
    intro hn
    rw [xwn_suc]
    by_cases c : j = n
    · subst c
      rw [if_neg (by omega), if_neg (by omega)]
      split <;> omega
    · have := ih (by omega)
      repeat' split
      all_goals omega
theorem xwn_ge {pl : Nat → Int} {W : Int} {r : Nat} {z g : Int} (hW : g ≤ W) : ∀ n, (∀ j, j < n → j ≠ r → z ≤ xwy pl W r j → g ≤ xwy pl W r j) → g ≤ xwn pl W r z n := by
  intro n
  induction n with
  | zero => intro _; exact hW
  | succ n ih =>
    intro h
    have := ih (fun j hj => h j (by omega))
    rw [xwn_suc]
    by_cases c : (n : Int) = r
    · rw [if_pos c]; exact this
    · rw [if_neg c]
      by_cases d : xwy pl W r n < z
      · rw [if_pos d]; exact this
      · rw [if_neg d]
        have := h n (by omega) (by omega) (by omega)
        split <;> omega
theorem xwn_top {pl : Nat → Int} {W : Int} {r : Nat} {z : Int} : ∀ n, xwn pl W r z n ≤ W := by
  intro n
  induction n with
  | zero => exact Int.le_refl _
  | succ n ih =>
    rw [xwn_suc]
    repeat' split
    all_goals omega
/-- the gap behind rank n -/
def xgp (pl : Nat → Int) (W : Int) (k : Nat) (o : Nat → Nat) (n : Nat) : Int := if n + 1 < k then pl (o (n + 1)) - pl (o n) else W + pl (o 0) - pl (o n)
theorem xmaxf_le {g : Nat → Int} {B : Int} (hB : 0 ≤ B) : ∀ n, (∀ r, r < n → g r ≤ B) → xfo (fun r s => max s (g r)) 0 n ≤ B := by
  intro n
  induction n with
  | zero => intro _; exact hB
  | succ n ih =>
    intro h
    have h1 := ih (fun r hr => h r (by omega))
    have h2 := h n (by omega)
    show max (xfo (fun r s => max s (g r)) 0 n) (g n) ≤ B
    omega
theorem xmaxf_ge {g : Nat → Int} : ∀ n, 0 ≤ xfo (fun r s => max s (g r)) 0 n ∧ ∀ r, r < n → g r ≤ xfo (fun r s => max s (g r)) 0 n := by
  intro n
  induction n with
  | zero => exact ⟨Int.le_refl _, fun r h => by omega⟩
  | succ n ih =>
    show 0 ≤ max (xfo (fun r s => max s (g r)) 0 n) (g n) ∧ ∀ r, r < n + 1 → g r ≤ max (xfo (fun r s => max s (g r)) 0 n) (g n)
    refine ⟨by omega, fun r hr => ?_⟩
    by_cases c : r = n
    · subst c; omega
    · have := ih.2 r (by omega)
      omega
theorem xwy_of {pl : Nat → Int} {W : Int} {i j : Nat} (hi : 0 ≤ pl i ∧ pl i < W) (hj : 0 ≤ pl j ∧ pl j < W) : xwy pl W i j = if pl i ≤ pl j then pl j - pl i else W + pl j - pl i := by
  unfold xwy
  split
  · exact Int.emod_eq_of_lt (by omega) (by omega)
  · rw [show pl j - pl i = (W + pl j - pl i) - W by omega, Int.sub_emod_right]
    exact Int.emod_eq_of_lt (by omega) (by omega)
theorem x_hole {pl : Nat → Int} {W : Int} {k : Nat} {o : Nat → Nat} (hp : ∀ i, i < k → 0 ≤ pl i ∧ pl i < W) (ho : ∀ n, n < k → o n < k ∧ xrk2 pl k (o n) = n) : xfo (fun r s => max s (xwn pl W r 1 k)) 0 k = xfo (fun n s => max s (xgp pl W k o n)) 0 k := by
  have mx1 := xmaxf_ge (g := fun r => xwn pl W r 1 k) k
  have mx2 := xmaxf_ge (g := xgp pl W k o) k
  refine Int.le_antisymm (xmaxf_le mx2.1 k (fun r hr => ?_)) (xmaxf_le mx1.1 k (fun n hn => ?_))
  · -- the last of those at its place
    have ex : ∀ d n, n + d + 1 = k → pl (o n) = pl r → ∃ n', n' < k ∧ pl (o n') = pl r ∧ (n' + 1 < k → pl r < pl (o (n' + 1))) := by
      intro d
      induction d with
      | zero => intro n hn he; exact ⟨n, by omega, he, fun h => by omega⟩
      | succ d ih =>
        intro n hn he
        by_cases c : pl (o (n + 1)) = pl r
        · exact ih (n + 1) (by omega) c
        · have := x_ord_le ho (show n < k by omega) (show n + 1 < k by omega) (by omega)
          exact ⟨n, by omega, he, fun _ => by omega⟩
    have rb := xrk2_bd (pl := pl) hr
    have er : o (xrk2 pl k r) = r := xrk2_inj (pl := pl) (ho _ rb).1 hr (ho _ rb).2
    obtain ⟨n, n1, n2, n3⟩ := ex (k - 1 - xrk2 pl k r) (xrk2 pl k r) (by omega) (by rw [er])
    refine Int.le_trans ?_ (mx2.2 n n1)
    have pr := hp r hr
    unfold xgp
    by_cases c : n + 1 < k
    · rw [if_pos c, n2]
      have h3 := n3 c
      have pj := hp _ (ho (n + 1) c).1
      have w := xwy_of (W := W) pr pj
      rw [if_pos (by omega)] at w
      rw [← w]
      exact xwn_le (fun h => by rw [h] at h3; omega) (by omega) k (ho (n + 1) c).1
    · rw [if_neg c, n2]
      have h0 := ho 0 (by omega)
      have pj := hp _ h0.1
      by_cases d : pl (o 0) = pl r
      · rw [d]
        have := (xwn_top (pl := pl) (W := W) (r := r) (z := 1) k)
        omega
      · have lt : pl (o 0) < pl r := by
          by_cases e : n = 0
          · rw [e] at n2; exact absurd n2 d
          · have := x_ord_le ho (show 0 < k by omega) n1 (by omega)
            omega
        have w := xwy_of (W := W) pr pj
        rw [if_neg (by omega)] at w
        rw [← w]
        exact xwn_le (fun h => by rw [h] at lt; omega) (by omega) k h0.1
  · have hon := ho n hn
    have pn := hp _ hon.1
    unfold xgp
    by_cases c : n + 1 < k
    · rw [if_pos c]
      have hon1 := ho (n + 1) c
      have pn1 := hp _ hon1.1
      by_cases d : pl (o (n + 1)) = pl (o n)
      · rw [d, Int.sub_self]; exact mx1.1
      · refine Int.le_trans ?_ (mx1.2 (o n) hon.1)
        refine xwn_ge (by omega) k (fun j hj hjn hz => ?_)
        have pj := hp j hj
        have w := xwy_of (W := W) pn pj
        have ord := x_ord_le ho hn c (by omega)
        by_cases e : pl (o n) ≤ pl j
        · rw [if_pos e] at w
          have jr : n < xrk2 pl k j := by
            have := xrk2_lt (pl := pl) (k := k) (i := o n) (j := j) hon.1 (Or.inl (by omega))
            omega
          have jb := xrk2_bd (pl := pl) hj
          have ej : o (xrk2 pl k j) = j := xrk2_inj (pl := pl) (ho _ jb).1 hj (ho _ jb).2
          have le : pl (o (n + 1)) ≤ pl j := by
            by_cases f : xrk2 pl k j = n + 1
            · rw [f] at ej; rw [ej]; exact Int.le_refl _
            · have := x_ord_le ho c jb (by omega)
              rw [ej] at this
              exact this
          omega
        · rw [if_neg e] at w
          omega
    · rw [if_neg c]
      have h0 := ho 0 (by omega)
      have p0 := hp _ h0.1
      have mn : ∀ j, j < k → pl (o 0) ≤ pl j := by
        intro j hj
        have jb := xrk2_bd (pl := pl) hj
        have ej : o (xrk2 pl k j) = j := xrk2_inj (pl := pl) (ho _ jb).1 hj (ho _ jb).2
        by_cases f : xrk2 pl k j = 0
        · rw [f] at ej; rw [ej]; exact Int.le_refl _
        · have := x_ord_le ho (show 0 < k by omega) jb (by omega)
          rw [ej] at this
          exact this
      have top : ∀ j, j < k → pl j ≤ pl (o n) := by
        intro j hj
        have jb := xrk2_bd (pl := pl) hj
        have ej : o (xrk2 pl k j) = j := xrk2_inj (pl := pl) (ho _ jb).1 hj (ho _ jb).2
        by_cases f : xrk2 pl k j = n
        · rw [f] at ej; rw [ej]; exact Int.le_refl _
        · have := x_ord_le ho jb hn (by omega)
          rw [ej] at this
          exact this
      have m0 := mn _ hon.1
      refine Int.le_trans ?_ (mx1.2 (o n) hon.1)
      refine xwn_ge (by omega) k (fun j hj hjn hz => ?_)
      have pj := hp j hj
      have w := xwy_of (W := W) pn pj
      have m1 := mn j hj
      have t1 := top j hj
      by_cases e : pl (o n) ≤ pl j
      · rw [if_pos e] at w
        omega
      · rw [if_neg e] at w
        omega
end RN
section HO
variable {P : Nat → Nat} {S : xS} {x m : Nat} {A : xAb}
theorem xgp_bd {pl : Nat → Int} {W : Int} {k : Nat} {o : Nat → Nat} (hp : ∀ i, i < k → 0 ≤ pl i ∧ pl i < W) (ho : ∀ n, n < k → o n < k ∧ xrk2 pl k (o n) = n) {n : Nat} (hn : n < k) : 0 ≤ xgp pl W k o n ∧ xgp pl W k o n ≤ W := by
  have a := hp _ (ho n hn).1
  have b := hp _ (ho 0 (by omega)).1
  unfold xgp
  by_cases c : n + 1 < k
  · rw [if_pos c]
    have d := hp _ (ho (n + 1) c).1
    have := x_ord_le ho hn c (by omega)
    omega
  · rw [if_neg c]
    by_cases e : n = 0
    · subst e; omega
    · have := x_ord_le ho (show 0 < k by omega) hn (by omega)
      omega
theorem z_hole (H : xCl S x A) {p q : Int} (p1 : -2147483648 ≤ p) (p2 : p < 2147483648) (q1 : -2147483648 ≤ q) (q2 : q < 2147483648) (t : Bool) : ∃ v A', xKI P S x m_X10_hole [.int (iI p), .int (iI q), .int (iI (xb t))] v A' ∧ ∀ S', xMl S' m A → xGI P S' m m_X11_hole [.int (iI p), .int (iI q), .int (iI (xb t))] v A' := by
  have hF := H.2.1
  have hk := hF.1.1
  by_cases ct : (0 ≤ p ∧ p ≤ 9999 ∧ 1 ≤ q ∧ q ≤ 999)
  · by_cases c0 : A.1.1 = 0
    · refine ⟨iI (-1), A, ⟨S, xcI_of ((e_X10_hole_0 P x (iI p) (iI q) (iI (xb t)) S).trans ?_), H, xfr.rf⟩, fun S' M => ?_⟩
      · simp only [H.r0, hF.o, d_size hF, c0, d_isTime p1 p2 q1 q2, if_pos ct, xob_some, cond_true, t_10, t_00, ne_eq, not_true_eq_false, not_false_eq_true, if_true, if_false]
        rw [if_neg (show ¬ ¬ iI ((0 : Nat) : Int) = 0 by decide +kernel)]
      · obtain ⟨ob, e0, -, -, hR, -⟩ := id M
        refine ⟨S', xcI_of ((e_X11_hole_0 P m (iI p) (iI q) (iI (xb t)) S').trans ?_), M, xfr.rf⟩
        simp only [e0.r1, g_K hR, c0, g_isTime p1 p2 q1 q2, if_pos ct, xob_some, cond_true, t_10, t_00, ne_eq, not_true_eq_false, not_false_eq_true, if_true, if_false]
        rw [if_neg (show ¬ ¬ iI ((0 : Nat) : Int) = 0 by decide +kernel)]
    · have nz := t_nz (a := A.1.1) (by omega) (by omega) (by omega)
      have hp : ∀ i, i < A.1.1 → 0 ≤ xplc A.1 p q i ∧ xplc A.1 p q i < 12 * q := fun i _ => xplc_bd A.1 (by omega) i
      obtain ⟨T, k1, k2, H1, fr⟩ := H.see (P := P) ct
      generalize hL : xfo (fun r s => max s (xwn (xplc A.1 p q) (12 * q) r 1 A.1.1)) 0 A.1.1 = L
      have bL : 0 ≤ L ∧ L ≤ 12 * q := by
        rw [← hL]
        exact ⟨(xmaxf_ge (g := fun r => xwn (xplc A.1 p q) (12 * q) r 1 A.1.1) A.1.1).1, xmaxf_le (by omega) A.1.1 (fun r _ => xwn_top A.1.1)⟩
      refine ⟨iI (xpo L (12 * q) t), A, ⟨T, xcI_of ((e_X10_hole_0 P x (iI p) (iI q) (iI (xb t)) S).trans ?_), H1, fr⟩, fun S' M => ?_⟩
      · simp only [H.r0, H.r7, H.io, hF.o, d_size hF, nz, d_isTime p1 p2 q1 q2, if_pos ct, k1, H1.r7, k2.o, d_longestHole k2, hL, d_whole k2, xob_some, cond_true, t_10, t_00, ne_eq, not_true_eq_false, not_false_eq_true, if_true, if_false]
        rw [iI_ji (by omega) (by omega), iI_ji (by omega) (by omega), d_partOf (by omega) (by omega) (by omega) (by omega), xob_some, jI_ij]
      · obtain ⟨ob, e0, -, -, hR, -⟩ := id M
        obtain ⟨T', f, g1, M2, fr2, g3, g4⟩ := g_ranks (P := P) M ct.1 ct.2.1 ct.2.2.1 ct.2.2.2
        obtain ⟨ob', e0', -, -, hR', -⟩ := id M2
        obtain ⟨o, ho⟩ := x_ord g4 hk
        have ho2 : ∀ n, n < A.1.1 → o n < A.1.1 ∧ xrk2 (xplc A.1 p q) A.1.1 (o n) = n := fun n hn => ⟨(ho n hn).1, (ho n hn).2.1⟩
        have hL2 := (x_hole hp ho2).symm.trans hL
        have rd : ∀ n : Nat, n < A.1.1 → xrdI T' (m + 7) (iI n) = some (iI (o n)) := fun n hn => by
          rw [xrdI_at g3 (by omega) (by omega) (by omega)]
          exact congrArg some (ho n hn).2.2
        have rd0 : xrdI T' (m + 7) (iI 0) = some (iI (o 0)) := rd 0 (by omega)
        refine ⟨T', xcI_of ((e_X11_hole_0 P m (iI p) (iI q) (iI (xb t)) S').trans ?_), M2, fr2⟩
        simp only [e0.o, e0.r1, g_K hR, nz, g_isTime p1 p2 q1 q2, if_pos ct, g1, iI_ji q1 q2, jI_mul, xob_some, cond_true, t_10, t_00, ne_eq, not_true_eq_false, not_false_eq_true, if_true, if_false]
        have st := xsteps (fun n => xrun P m_X11_hole 39 [(0, .ref m), (1, .int (iI p)), (2, .int (iI q)), (3, .int (iI (xb t))), (4, .long (jI (12 * q))), (6, .long (jI (xfo (fun n s => max s (xgp (xplc A.1 p q) (12 * q) A.1.1 o n)) 0 n))), (8, .int (iI n))] [] T') A.1.1 (by
          intro n hn
          try dsimp only
          have pg := g_placeTop (P := P) e0' hR' (ho n hn).1 (p := p) (q := q) (by omega) (by omega) (by omega) (by omega)
          have pg0 := g_placeTop (P := P) e0' hR' (ho 0 (by omega)).1 (p := p) (q := q) (by omega) (by omega) (by omega) (by omega)
          have b1 := hp _ (ho n hn).1
          have b0 := hp _ (ho 0 (by omega)).1
          have bg := xgp_bd hp ho2 hn
          have bm := (xmaxf_ge (g := xgp (xplc A.1 p q) (12 * q) A.1.1 o) n).1
          have bm2 := xmaxf_le (g := xgp (xplc A.1 p q) (12 * q) A.1.1 o) (B := 12 * q) (by omega) n (fun r hr => (xgp_bd hp ho2 (by omega)).2)
          have em : xfo (fun n s => max s (xgp (xplc A.1 p q) (12 * q) A.1.1 o n)) 0 (n + 1) = max (xfo (fun n s => max s (xgp (xplc A.1 p q) (12 * q) A.1.1 o n)) 0 n) (xgp (xplc A.1 p q) (12 * q) A.1.1 o n) := rfl
          rw [em]
          generalize xfo (fun n s => max s (xgp (xplc A.1 p q) (12 * q) A.1.1 o n)) 0 n = w at bm bm2 ⊢
          have fin : (if lg_cmp (jI (xgp (xplc A.1 p q) (12 * q) A.1.1 o n)) (jI w) ≤ 0 then xrun P m_X11_hole 39 [(0, .ref m), (1, .int (iI p)), (2, .int (iI q)), (3, .int (iI (xb t))), (4, .long (jI (12 * q))), (6, .long (jI w)), (8, .int (iI (n + 1 : Nat)))] [] T' else xrun P m_X11_hole 39 [(0, .ref m), (1, .int (iI p)), (2, .int (iI q)), (3, .int (iI (xb t))), (4, .long (jI (12 * q))), (6, .long (jI (xgp (xplc A.1 p q) (12 * q) A.1.1 o n))), (8, .int (iI (n + 1 : Nat)))] [] T') = xrun P m_X11_hole 39 [(0, .ref m), (1, .int (iI p)), (2, .int (iI q)), (3, .int (iI (xb t))), (4, .long (jI (12 * q))), (6, .long (jI (max w (xgp (xplc A.1 p q) (12 * q) A.1.1 o n)))), (8, .int (iI (n + 1 : Nat)))] [] T' := by
            rw [jI_cmp_lt (by omega) (by omega) (by omega) (by omega)]
            by_cases c : w < xgp (xplc A.1 p q) (12 * q) A.1.1 o n
            · rw [if_pos c, if_neg (show ¬ iI 1 ≤ 0 by decide +kernel), Int.max_eq_right (by omega)]
            · rw [if_neg c, if_pos (by split <;> decide +kernel), Int.max_eq_left (by omega)]
          rw [e_X11_hole_39, e0'.r1, xob_some, g_K hR', xob_some, if_neg (by rw [iI_le (by omega) (by omega) (by omega) (by omega)]; omega), e0'.r8, xob_some, rd n hn, xob_some, e0'.o, cond_true]
          simp only [iI_ji p1 p2, iI_ji q1 q2, pg, pg0, xob_some, e0'.r1, g_K hR', iI_suc]
          by_cases c : n + 1 < A.1.1
          · have pg1 := g_placeTop (P := P) e0' hR' (ho (n + 1) c).1 (p := p) (q := q) (by omega) (by omega) (by omega) (by omega)
            have eg : xgp (xplc A.1 p q) (12 * q) A.1.1 o n = xplc A.1 p q (o (n + 1)) - xplc A.1 p q (o n) := by unfold xgp; rw [if_pos c]
            rw [if_neg (by rw [iI_le (by omega) (by omega) (by omega) (by omega)]; omega), e0'.r8, xob_some, rd (n + 1) c, xob_some, e0'.o, cond_true, pg1, xob_some]
            dsimp only
            rw [jI_sub, ← eg]
            exact fin
          · have eg : xgp (xplc A.1 p q) (12 * q) A.1.1 o n = 12 * q + xplc A.1 p q (o 0) - xplc A.1 p q (o n) := by unfold xgp; rw [if_neg c]
            rw [if_pos (by rw [iI_le (by omega) (by omega) (by omega) (by omega)]; omega), e0'.r8, xob_some, rd0, xob_some, e0'.o, cond_true, pg0, xob_some]
            dsimp only
            rw [jI_add, jI_sub, ← eg]
            exact fin)
        try dsimp only at st
        refine st.trans ?_
        rw [e_X11_hole_39, e0'.r1, xob_some, g_K hR', xob_some, if_pos (by rw [iI_le (by omega) (by omega) (by omega) (by omega)]; omega), hL2, d_part (by omega) (by omega) (by omega) (by omega), xob_some, jI_ij]
  · refine ⟨iI (-1), A, ⟨S, xcI_of ((e_X10_hole_0 P x (iI p) (iI q) (iI (xb t)) S).trans ?_), H, xfr.rf⟩, fun S' M => ⟨S', xcI_of ((e_X11_hole_0 P m (iI p) (iI q) (iI (xb t)) S').trans ?_), M, xfr.rf⟩⟩
    · simp only [d_isTime p1 p2 q1 q2, if_neg ct, xob_some, cond_true, t_10, t_00, ne_eq, not_true_eq_false, not_false_eq_true, if_true, if_false]
    · simp only [g_isTime p1 p2 q1 q2, if_neg ct, xob_some, cond_true, t_10, t_00, ne_eq, not_true_eq_false, not_false_eq_true, if_true, if_false]
end HO
