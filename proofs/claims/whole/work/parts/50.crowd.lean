-- deps: 49.attime2
/-! at a time: crowd, closest -/
section CW
variable {P : Nat → Nat} {S : xS} {x m : Nat} {A : xAb}
def xcw (pl : Nat → Int) (k : Nat) : Nat → Int := xfo (fun r s => max s (xct (fun j => decide (pl j = pl r)) k : Nat)) 0
theorem xcw_bd (pl : Nat → Int) (k : Nat) : ∀ n, 0 ≤ xcw pl k n ∧ xcw pl k n ≤ k := by
  intro n
  induction n with
  | zero => exact ⟨Int.le_refl _, Int.natCast_nonneg _⟩
  | succ n ih =>
    have b := xct_le (fun j => decide (pl j = pl n)) k
    show 0 ≤ max (xcw pl k n) _ ∧ max (xcw pl k n) _ ≤ (k : Int)
    omega
theorem z_crowd (H : xCl S x A) {p q : Int} (p1 : -2147483648 ≤ p) (p2 : p < 2147483648) (q1 : -2147483648 ≤ q) (q2 : q < 2147483648) : ∃ v A', xKI P S x m_X10_crowd [.int (iI p), .int (iI q)] v A' ∧ ∀ S', xMl S' m A → xGI P S' m m_X11_crowd [.int (iI p), .int (iI q)] v A' := by
  have hF := H.2.1
  have hk := hF.1.1
  by_cases ct : (0 ≤ p ∧ p ≤ 9999 ∧ 1 ≤ q ∧ q ≤ 999)
  · by_cases c0 : A.1.1 = 0
    · refine ⟨iI (-1), A, ⟨S, xcI_of ((e_X10_crowd_0 P x (iI p) (iI q) S).trans ?_), H, xfr.rf⟩, fun S' M => ?_⟩
      · simp only [H.r0, hF.o, d_size hF, c0, d_isTime p1 p2 q1 q2, if_pos ct, xob_some, cond_true, t_10, t_00, ne_eq, not_true_eq_false, not_false_eq_true, if_true, if_false]
        rw [if_neg (show ¬ ¬ iI ((0 : Nat) : Int) = 0 by decide +kernel)]
      · obtain ⟨ob, e0, -, -, hR, -⟩ := id M
        refine ⟨S', xcI_of ((e_X11_crowd_0 P m (iI p) (iI q) S').trans ?_), M, xfr.rf⟩
        simp only [e0.r1, g_K hR, c0, g_isTime p1 p2 q1 q2, if_pos ct, xob_some, cond_true, t_10, t_00, ne_eq, not_true_eq_false, not_false_eq_true, if_true, if_false]
        rw [if_neg (show ¬ ¬ iI ((0 : Nat) : Int) = 0 by decide +kernel)]
    · have nz := t_nz (a := A.1.1) (by omega) (by omega) (by omega)
      obtain ⟨T, k1, k2, H1, fr⟩ := H.see (P := P) ct
      have hF1 := H1.2.1
      refine ⟨iI (xcw (xplc A.1 p q) A.1.1 A.1.1), A, ⟨T, xcI_of ((e_X10_crowd_0 P x (iI p) (iI q) S).trans ?_), H1, fr⟩, fun S' M => ?_⟩
      · simp only [H.r0, H.r7, H.io, hF.o, d_size hF, nz, d_isTime p1 p2 q1 q2, if_pos ct, k1, xob_some, cond_true, t_10, t_00, ne_eq, not_true_eq_false, not_false_eq_true, if_true, if_false]
        refine (xsteps (fun r => xrun P m_X10_crowd 38 [(0, .ref x), (3, .int (iI (xcw (xplc A.1 p q) A.1.1 r))), (4, .int (iI r))] [] T) A.1.1 ?_).trans ?_
        · intro r hr
          try dsimp only
          have b := xct_le (fun j => decide (xplc A.1 p q j = xplc A.1 p q r)) A.1.1
          have b2 := xcw_bd (xplc A.1 p q) A.1.1 r
          rw [e_X10_crowd_38, H1.r0, xob_some, hF1.o, cond_true, d_size hF1, xob_some, if_neg (by rw [iI_le (by omega) (by omega) (by omega) (by omega)]; omega)]
          simp only [H1.r7, k2.o, d_atPlaceOf k2 hr, iI_suc, xob_some, cond_true]
          rw [c_max (by omega) (by omega) (by omega) (by omega), xob_some]
          rfl
        · try dsimp only
          rw [e_X10_crowd_38, H1.r0, xob_some, hF1.o, cond_true, d_size hF1, xob_some, if_pos (by rw [iI_le (by omega) (by omega) (by omega) (by omega)]; omega)]
      · obtain ⟨ob, e0, -, -, hR, -⟩ := id M
        refine ⟨S', xcI_of ((e_X11_crowd_0 P m (iI p) (iI q) S').trans ?_), M, xfr.rf⟩
        simp only [e0.r1, g_K hR, nz, g_isTime p1 p2 q1 q2, if_pos ct, xob_some, cond_true, t_10, t_00, ne_eq, not_true_eq_false, not_false_eq_true, if_true, if_false]
        refine (xsteps (fun r => xrun P m_X11_crowd 24 [(0, .ref m), (1, .int (iI p)), (2, .int (iI q)), (3, .int (iI (xcw (xplc A.1 p q) A.1.1 r))), (4, .int (iI r))] [] S') A.1.1 ?_).trans ?_
        · intro r hr
          try dsimp only
          have b := xct_le (fun j => decide (xplc A.1 p q j = xplc A.1 p q r)) A.1.1
          have b2 := xcw_bd (xplc A.1 p q) A.1.1 r
          rw [e_X11_crowd_24, e0.r1, xob_some, g_K hR, xob_some, if_neg (by rw [iI_le (by omega) (by omega) (by omega) (by omega)]; omega)]
          have st := xsteps (fun n => xrun P m_X11_crowd 41 [(0, .ref m), (1, .int (iI p)), (2, .int (iI q)), (3, .int (iI (xcw (xplc A.1 p q) A.1.1 r))), (4, .int (iI r)), (5, .int (iI (xct (fun j => decide (xplc A.1 p q j = xplc A.1 p q r)) n : Nat))), (6, .int (iI n))] [] S') A.1.1 (by
            intro n hn
            try dsimp only
            have br := xplc_bd A.1 (p := p) (q := q) (by omega) r
            have bn := xplc_bd A.1 (p := p) (q := q) (by omega) n
            rw [e_X11_crowd_41, e0.r1, xob_some, g_K hR, xob_some, if_neg (by rw [iI_le (by omega) (by omega) (by omega) (by omega)]; omega)]
            simp only [e0.o, iI_ji p1 p2, iI_ji q1 q2, g_placeTop e0 hR hn (show 0 ≤ p by omega) (show p ≤ 1000000000000 by omega) (show 1 ≤ q by omega) (show q ≤ 1000000000000 by omega), g_placeTop e0 hR hr (show 0 ≤ p by omega) (show p ≤ 1000000000000 by omega) (show 1 ≤ q by omega) (show q ≤ 1000000000000 by omega), iI_suc, xob_some, cond_true, xct]
            rw [jI_cmp_lt (by omega) (by omega) (by omega) (by omega)]
            by_cases c : xplc A.1 p q n = xplc A.1 p q r
            · rw [if_neg (show ¬ xplc A.1 p q r < xplc A.1 p q n by omega), if_pos c, if_neg (show ¬ iI 0 ≠ 0 by decide +kernel), if_pos (by simpa using c)]
            · rw [if_pos (show (iI (if xplc A.1 p q r < xplc A.1 p q n then 1 else if xplc A.1 p q n = xplc A.1 p q r then 0 else -1) ≠ 0) by rw [if_neg c]; split <;> decide +kernel), if_neg (by simpa using c)]
              rfl)
          try dsimp only at st
          refine st.trans ?_
          rw [e_X11_crowd_41, e0.r1, xob_some, g_K hR, xob_some, if_pos (by rw [iI_le (by omega) (by omega) (by omega) (by omega)]; omega)]
          simp only [iI_suc]
          have em : xcw (xplc A.1 p q) A.1.1 (r + 1) = max (xcw (xplc A.1 p q) A.1.1 r) (xct (fun j => decide (xplc A.1 p q j = xplc A.1 p q r)) A.1.1 : Nat) := rfl
          rw [em]
          by_cases c : ((xct (fun j => decide (xplc A.1 p q j = xplc A.1 p q r)) A.1.1 : Nat) : Int) ≤ xcw (xplc A.1 p q) A.1.1 r
          · rw [if_pos (by rw [iI_le (by omega) (by omega) (by omega) (by omega)]; exact c), Int.max_eq_left c]
          · rw [if_neg (by rw [iI_le (by omega) (by omega) (by omega) (by omega)]; exact c), Int.max_eq_right (by omega)]
        · try dsimp only
          rw [e_X11_crowd_24, e0.r1, xob_some, g_K hR, xob_some, if_pos (by rw [iI_le (by omega) (by omega) (by omega) (by omega)]; omega)]
  · refine ⟨iI (-1), A, ⟨S, xcI_of ((e_X10_crowd_0 P x (iI p) (iI q) S).trans ?_), H, xfr.rf⟩, fun S' M => ⟨S', xcI_of ((e_X11_crowd_0 P m (iI p) (iI q) S').trans ?_), M, xfr.rf⟩⟩
    · simp only [d_isTime p1 p2 q1 q2, if_neg ct, xob_some, cond_true, t_10, t_00, ne_eq, not_true_eq_false, not_false_eq_true, if_true, if_false]
    · simp only [g_isTime p1 p2 q1 q2, if_neg ct, xob_some, cond_true, t_10, t_00, ne_eq, not_true_eq_false, not_false_eq_true, if_true, if_false]
/-- the closest pair: the class's fold against the reference's -/
def xmpf (F : xF) (p q : Int) (a b : Nat) (s : Int × Int) : Int × Int := if b ≤ a then s else if xdd F a b (12 * p) q < s.1 then (xdd F a b (12 * p) q, 10 * a + b) else s
def xmp (F : xF) (p q : Int) : Nat → Int × Int := xfo (fun a s => xfo (xmpf F p q a) s F.1) (12 * q, -1)
theorem xmpf_id {F : xF} {p q : Int} {a : Nat} {s : Int × Int} : ∀ n, n ≤ a + 1 → xfo (xmpf F p q a) s n = s := by
  intro n
  induction n with
  | zero => intro _; rfl
  | succ n ih =>
    intro hn
    show xmpf F p q a n _ = s
    rw [ih (by omega), xmpf, if_pos (by omega)]
/-- what stands: the way apart of the pair, or none yet -/
def xpI (F : xF) (p q : Int) (s : Int × Int) : Prop := s.1 = 12 * q ∨ ∃ a b : Nat, a < F.1 ∧ b < F.1 ∧ s = (xdd F a b (12 * p) q, 10 * (a : Int) + b)
theorem xmpf_in {F : xF} {p q : Int} {a : Nat} (ha : a < F.1) {s : Int × Int} (hs : xpI F p q s) : ∀ n, n ≤ F.1 → xpI F p q (xfo (xmpf F p q a) s n) ∧ (xfo (xmpf F p q a) s n).1 ≤ s.1 := by
  intro n
  induction n with
  | zero => intro _; exact ⟨hs, Int.le_refl _⟩
  | succ n ih =>
    intro hn
    have g := ih (by omega)
    show xpI F p q (xmpf F p q a n _) ∧ (xmpf F p q a n _).1 ≤ s.1
    generalize xfo (xmpf F p q a) s n = u at g ⊢
    unfold xmpf
    split
    · exact g
    · split
      · refine ⟨Or.inr ⟨a, n, ha, by omega, rfl⟩, ?_⟩
        have := g.2
        dsimp only
        omega
      · exact g
theorem xmp_in {F : xF} {p q : Int} : ∀ n, n ≤ F.1 → xpI F p q (xmp F p q n) ∧ (xmp F p q n).1 ≤ 12 * q := by
  intro n
  induction n with
  | zero => intro _; exact ⟨Or.inl rfl, Int.le_refl _⟩
  | succ n ih =>
    intro hn
    have g := ih (by omega)
    have h := xmpf_in (show n < F.1 by omega) g.1 F.1 (Nat.le_refl _)
    exact ⟨h.1, Int.le_trans h.2 g.2⟩
theorem xmp_lt {F : xF} {p q : Int} (hq : 0 < q) (h2 : 2 ≤ F.1) : ∀ n, n < F.1 → (xmp F p q (n + 1)).1 < 12 * q := by
  intro n
  induction n with
  | zero =>
    intro _
    show (xfo (xmpf F p q 0) (12 * q, -1) F.1).1 < 12 * q
    have key : ∀ t, t + 2 ≤ F.1 → (xfo (xmpf F p q 0) (12 * q, -1) (t + 2)).1 < 12 * q := by
      intro t
      induction t with
      | zero =>
        intro _
        have b := xdd_bd F 0 1 (x := 12 * p) hq
        show (xmpf F p q 0 1 (xmpf F p q 0 0 (12 * q, -1))).1 < 12 * q
        have e1 : xmpf F p q 0 0 (12 * q, -1) = (12 * q, -1) := by unfold xmpf; rw [if_pos (Nat.le_refl _)]
        rw [e1]
        unfold xmpf
        rw [if_neg (by omega), if_pos (show xdd F 0 1 (12 * p) q < (12 * q, (-1 : Int)).1 by show xdd F 0 1 (12 * p) q < 12 * q; omega)]
        show xdd F 0 1 (12 * p) q < 12 * q
        omega
      | succ t ih =>
        intro ht
        have g := ih (by omega)
        show (xmpf F p q 0 (t + 2) (xfo (xmpf F p q 0) (12 * q, -1) (t + 2))).1 < 12 * q
        generalize xfo (xmpf F p q 0) (12 * q, -1) (t + 2) = u at g ⊢
        unfold xmpf
        split
        · exact g
        · split
          · dsimp only; omega
          · exact g
    have := key (F.1 - 2) (by omega)
    rwa [show F.1 - 2 + 2 = F.1 by omega] at this
  | succ n ih =>
    intro hn
    have g := ih (by omega)
    have h := xmpf_in (show n + 1 < F.1 by omega) (xmp_in (p := p) (q := q) (n + 1) (by omega)).1 F.1 (Nat.le_refl _)
    exact Int.lt_of_le_of_lt h.2 g
/-- class and reference: the same way, and the same pair where there is one -/
def xpE (q : Int) (s t : Int × Int) : Prop := s.1 = t.1 ∧ (t.1 < 12 * q → s.2 = t.2)
theorem xcp_mp {F : xF} {p q : Int} (hq : 0 < q) : ∀ n, xpE q (xcp (xplc F p q) (12 * q) F.1 n) (xmp F p q n) := by
  have inner : ∀ (a : Nat) (s t : Int × Int), xpE q s t → ∀ n, xpE q (xfo (xcpf (xplc F p q) (12 * q) F.1 a) s n) (xfo (xmpf F p q a) t n) := by
    intro a s t h n
    induction n with
    | zero => exact h
    | succ n ih =>
      show xpE q (xcpf (xplc F p q) (12 * q) F.1 a n (xfo (xcpf (xplc F p q) (12 * q) F.1 a) s n)) (xmpf F p q a n (xfo (xmpf F p q a) t n))
      generalize xfo (xcpf (xplc F p q) (12 * q) F.1 a) s n = u at ih ⊢
      generalize xfo (xmpf F p q a) t n = v at ih ⊢
      have b := xdd_bd F a n (x := 12 * p) hq
      unfold xcpf xmpf
      rw [xap_dd F p q hq]
      split
      · exact ih
      · rw [ih.1]
        split
        · exact ⟨rfl, fun _ => rfl⟩
        · exact ih
  intro n
  induction n with
  | zero => exact ⟨rfl, fun h => by have : (12 * q : Int) < 12 * q := h; omega⟩
  | succ n ih => exact inner n _ _ ih F.1
theorem z_closest (H : xCl S x A) {p q w : Int} (p1 : -2147483648 ≤ p) (p2 : p < 2147483648) (q1 : -2147483648 ≤ q) (q2 : q < 2147483648) (w1 : -2147483648 ≤ w) (w2 : w < 2147483648) : ∃ v A', xKI P S x m_X10_closest [.int (iI p), .int (iI q), .int (iI w)] v A' ∧ ∀ S', xMl S' m A → xGI P S' m m_X11_closest [.int (iI p), .int (iI q), .int (iI w)] v A' := by
  have hF := H.2.1
  have hk := hF.1.1
  have w0 : (iI w < 0) ↔ w < 0 := by rw [iI_0, iI_lt w1 w2 (by decide) (by decide)]
  have w3 : (iI 2 < iI w) ↔ 2 < w := by rw [iI_lt (by decide) (by decide) w1 w2]
  by_cases ct : (0 ≤ p ∧ p ≤ 9999 ∧ 1 ≤ q ∧ q ≤ 999)
  · by_cases cw : 0 ≤ w ∧ w ≤ 2
    · by_cases c2 : 2 ≤ A.1.1
      · obtain ⟨T, k1, k2, H1, fr⟩ := H.see (P := P) ct
        have hF1 := H1.2.1
        have E := xcp_mp (F := A.1) (p := p) (q := q) (by omega) A.1.1
        have L : (xmp A.1 p q A.1.1).1 < 12 * q := by
          have := xmp_lt (F := A.1) (p := p) (q := q) (by omega) c2 (A.1.1 - 1) (by omega)
          rwa [show A.1.1 - 1 + 1 = A.1.1 by omega] at this
        obtain ⟨a, b, ha, hb, es⟩ : ∃ a b : Nat, a < A.1.1 ∧ b < A.1.1 ∧ xmp A.1 p q A.1.1 = (xdd A.1 a b (12 * p) q, 10 * (a : Int) + b) := by
          rcases (xmp_in (F := A.1) (p := p) (q := q) A.1.1 (Nat.le_refl _)).1 with h | h
          · omega
          · exact h
        have es1 : (xmp A.1 p q A.1.1).1 = xdd A.1 a b (12 * p) q := by rw [es]
        have es2 : (xmp A.1 p q A.1.1).2 = 10 * (a : Int) + b := by rw [es]
        have ec2 : (xcp (xplc A.1 p q) (12 * q) A.1.1 A.1.1).2 = 10 * (a : Int) + b := (E.2 L).trans es2
        have bd := xdd_bd A.1 a b (x := 12 * p) (e := q) (by omega)
        have n2 : (iI 2 ≤ iI A.1.1) = True := eq_true (by rw [iI_le (by decide) (by decide) (by omega) (by omega)]; omega)
        have z2 : (iI w = iI 2) ↔ w = 2 := iI_eq w1 w2 (by decide) (by decide)
        have z0 : (iI w = 0) ↔ w = 0 := by rw [iI_0, iI_eq w1 w2 (by decide) (by decide)]
        refine ⟨iI (if w = 0 then 10 * (a : Int) + b else xpo (xdd A.1 a b (12 * p) q) (12 * q) (decide (w = 2))), A, ⟨T, xcI_of ((e_X10_closest_0 P x (iI p) (iI q) (iI w) S).trans ?_), H1, fr⟩, fun S' M => ?_⟩
        · rw [d_isTime p1 p2 q1 q2, xob_some, if_pos ct, if_neg (show ¬ iI 1 = 0 by decide +kernel), if_neg (by rw [w0]; omega), if_neg (by rw [w3]; omega)]
          simp only [H.r0, H.r7, H.io, hF.o, d_size hF, n2, k1, H1.r7, k2.o, d_closestPair k2, ec2, xob_some, cond_true, t_10, t_00, ne_eq, not_true_eq_false, not_false_eq_true, if_true, if_false]
          by_cases c : w = 0
          · rw [if_neg (show ¬ ¬ iI w = 0 by rw [z0]; omega), if_pos c]
          · rw [if_pos (show ¬ iI w = 0 by rw [z0]; omega), if_neg c, iI_div (by omega) (by omega) (by decide) (by decide), iI_mul, iI_sub, show (10 * (a : Int) + b) / 10 = a by omega, show 10 * (a : Int) + b - a * 10 = b by omega, d_apartOf k2 ha hb, xob_some, xap_dd A.1 p q (by omega), H1.r7, xob_some, k2.o, cond_true, d_whole k2, xob_some, iI_ji (by omega) (by omega), iI_ji (by omega) (by omega)]
            have dp := fun t => d_partOf (P := P) (S := T) (u := xdd A.1 a b (12 * p) q) (l := 12 * q) (by omega) (by omega) (by omega) (by omega) t
            have f0 := dp false
            have f1 := dp true
            simp only [xb, Bool.false_eq_true, if_false, if_true] at f0 f1
            by_cases d : w = 2
            · rw [if_neg (show ¬ iI w ≠ iI 2 by rw [ne_eq, z2]; omega), f1, xob_some, jI_ij, decide_eq_true d]
            · rw [if_pos (show iI w ≠ iI 2 by rw [ne_eq, z2]; omega), f0, xob_some, jI_ij, decide_eq_false d]
        · obtain ⟨ob, e0, -, -, hR, -⟩ := id M
          refine ⟨S', xcI_of ((e_X11_closest_0 P m (iI p) (iI q) (iI w) S').trans ?_), M, xfr.rf⟩
          rw [g_isTime p1 p2 q1 q2, xob_some, if_pos ct, if_neg (show ¬ iI 1 = 0 by decide +kernel), iI_ji w1 w2, d_in (by omega) (by omega) (by decide) (by decide) (by decide) (by decide), xob_some, if_pos cw, if_neg (show ¬ iI 1 = 0 by decide +kernel)]
          simp only [e0.r1, g_K hR, n2, iI_ji q1 q2, jI_mul, xob_some, cond_true, t_10, t_00, ne_eq, not_true_eq_false, not_false_eq_true, if_true, if_false]
          refine (xsteps (fun r => xrun P m_X11_closest 46 [(0, .ref m), (1, .int (iI p)), (2, .int (iI q)), (3, .int (iI w)), (4, .long (jI (xmp A.1 p q r).1)), (6, .int (iI (xmp A.1 p q r).2)), (7, .int (iI r))] [] S') A.1.1 ?_).trans ?_
          · intro r hr
            try dsimp only
            rw [e_X11_closest_46, e0.r1, xob_some, g_K hR, xob_some, if_neg (by rw [iI_le (by omega) (by omega) (by omega) (by omega)]; omega)]
            have st := xstepsF (fun n => xrun P m_X11_closest 63 [(0, .ref m), (1, .int (iI p)), (2, .int (iI q)), (3, .int (iI w)), (4, .long (jI (xfo (xmpf A.1 p q r) (xmp A.1 p q r) n).1)), (6, .int (iI (xfo (xmpf A.1 p q r) (xmp A.1 p q r) n).2)), (7, .int (iI r)), (8, .int (iI n))] [] S') (r + 1) A.1.1 (by omega) (by
              intro n hn1 hn2
              try dsimp only
              have b1 := xdd_bd A.1 r n (x := 12 * p) (e := q) (by omega)
              have g0 := xmp_in (F := A.1) (p := p) (q := q) r (by omega)
              have g1 := xmpf_in hr g0.1 n (by omega)
              have g2 : 0 ≤ (xfo (xmpf A.1 p q r) (xmp A.1 p q r) n).1 := by
                rcases g1.1 with h | ⟨a', b', -, -, h⟩
                · omega
                · rw [h]; exact (xdd_bd A.1 a' b' (x := 12 * p) (e := q) (by omega)).1
              have g3 := g1.2
              have g4 := g0.2
              rw [e_X11_closest_63, e0.r1, xob_some, g_K hR, xob_some, if_neg (by rw [iI_le (by omega) (by omega) (by omega) (by omega)]; omega)]
              simp only [e0.o, iI_ji p1 p2, iI_ji q1 q2, g_apartTop e0 hR hr hn2 (show 0 ≤ p by omega) (show p ≤ 1000000000000 by omega) (show 1 ≤ q by omega) (show q ≤ 1000000000000 by omega), iI_suc, iI_mul, iI_add, xob_some, cond_true]
              rw [jI_cmp_lt (by omega) (by omega) (by omega) (by omega)]
              simp only [xfo]
              have em : xmpf A.1 p q r n (xfo (xmpf A.1 p q r) (xmp A.1 p q r) n) = if xdd A.1 r n (12 * p) q < (xfo (xmpf A.1 p q r) (xmp A.1 p q r) n).1 then (xdd A.1 r n (12 * p) q, 10 * (r : Int) + n) else xfo (xmpf A.1 p q r) (xmp A.1 p q r) n := by
                show (if n ≤ r then _ else _) = _
                rw [if_neg (by omega)]
              rw [em]
              by_cases c : xdd A.1 r n (12 * p) q < (xfo (xmpf A.1 p q r) (xmp A.1 p q r) n).1
              · rw [if_pos c, if_neg (show ¬ (xfo (xmpf A.1 p q r) (xmp A.1 p q r) n).1 < xdd A.1 r n (12 * p) q by omega), if_neg (show ¬ xdd A.1 r n (12 * p) q = (xfo (xmpf A.1 p q r) (xmp A.1 p q r) n).1 by omega), if_pos (by decide +kernel)]
                rfl
              · rw [if_neg c, if_neg (show ¬ (iI (if (xfo (xmpf A.1 p q r) (xmp A.1 p q r) n).1 < xdd A.1 r n (12 * p) q then 1 else if xdd A.1 r n (12 * p) q = (xfo (xmpf A.1 p q r) (xmp A.1 p q r) n).1 then 0 else -1) < 0) by
                  by_cases d : (xfo (xmpf A.1 p q r) (xmp A.1 p q r) n).1 < xdd A.1 r n (12 * p) q
                  · rw [if_pos d]; decide +kernel
                  · rw [if_neg d, if_pos (by omega)]; decide +kernel)]
                rfl)
            try dsimp only at st
            rw [xmpf_id (r + 1) (by omega)] at st
            simp only [iI_suc]
            refine st.trans ?_
            rw [e_X11_closest_63, e0.r1, xob_some, g_K hR, xob_some, if_pos (by rw [iI_le (by omega) (by omega) (by omega) (by omega)]; omega)]
            simp only [iI_suc]
            rfl
          · try dsimp only
            rw [e_X11_closest_46, e0.r1, xob_some, g_K hR, xob_some, if_pos (by rw [iI_le (by omega) (by omega) (by omega) (by omega)]; omega)]
            rw [es1, es2]
            by_cases c : w = 0
            · rw [if_neg (show ¬ iI w ≠ 0 by rw [ne_eq, z0]; omega), if_pos c]
            · rw [if_pos (show iI w ≠ 0 by rw [ne_eq, z0]; omega), if_neg c]
              have dp := fun t => d_part (P := P) (S := S') (u := xdd A.1 a b (12 * p) q) (l := 12 * q) (by omega) (by omega) (by omega) (by omega) t
              have f0 := dp false
              have f1 := dp true
              simp only [xb, Bool.false_eq_true, if_false, if_true] at f0 f1
              simp only [iI_ji q1 q2, jI_mul]
              by_cases d : w = 2
              · rw [if_neg (show ¬ iI w ≠ iI 2 by rw [ne_eq, z2]; omega), f1, xob_some, jI_ij, decide_eq_true d]
              · rw [if_pos (show iI w ≠ iI 2 by rw [ne_eq, z2]; omega), f0, xob_some, jI_ij, decide_eq_false d]
      · have n2 : (iI 2 ≤ iI A.1.1) = False := eq_false (by rw [iI_le (by decide) (by decide) (by omega) (by omega)]; omega)
        refine ⟨iI (-1), A, ⟨S, xcI_of ((e_X10_closest_0 P x (iI p) (iI q) (iI w) S).trans ?_), H, xfr.rf⟩, fun S' M => ?_⟩
        · rw [d_isTime p1 p2 q1 q2, xob_some, if_pos ct, if_neg (show ¬ iI 1 = 0 by decide +kernel), if_neg (by rw [w0]; omega), if_neg (by rw [w3]; omega)]
          simp only [H.r0, hF.o, d_size hF, n2, xob_some, cond_true, t_10, t_00, ne_eq, not_true_eq_false, not_false_eq_true, if_true, if_false]
        · obtain ⟨ob, e0, -, -, hR, -⟩ := id M
          refine ⟨S', xcI_of ((e_X11_closest_0 P m (iI p) (iI q) (iI w) S').trans ?_), M, xfr.rf⟩
          rw [g_isTime p1 p2 q1 q2, xob_some, if_pos ct, if_neg (show ¬ iI 1 = 0 by decide +kernel), iI_ji w1 w2, d_in (by omega) (by omega) (by decide) (by decide) (by decide) (by decide), xob_some, if_pos cw, if_neg (show ¬ iI 1 = 0 by decide +kernel)]
          simp only [e0.r1, g_K hR, n2, xob_some, cond_true, t_10, t_00, ne_eq, not_true_eq_false, not_false_eq_true, if_true, if_false]
    · refine ⟨iI (-1), A, ⟨S, xcI_of ((e_X10_closest_0 P x (iI p) (iI q) (iI w) S).trans ?_), H, xfr.rf⟩, fun S' M => ⟨S', xcI_of ((e_X11_closest_0 P m (iI p) (iI q) (iI w) S').trans ?_), M, xfr.rf⟩⟩
      · rw [d_isTime p1 p2 q1 q2, xob_some, if_pos ct, if_neg (show ¬ iI 1 = 0 by decide +kernel)]
        by_cases c : w < 0
        · rw [if_pos (by rw [w0]; omega)]
        · rw [if_neg (by rw [w0]; omega), if_pos (by rw [w3]; omega)]
      · rw [g_isTime p1 p2 q1 q2, xob_some, if_pos ct, if_neg (show ¬ iI 1 = 0 by decide +kernel), iI_ji w1 w2, d_in (by omega) (by omega) (by decide) (by decide) (by decide) (by decide), xob_some, if_neg cw, if_pos (show iI 0 = 0 by decide +kernel)]
  · refine ⟨iI (-1), A, ⟨S, xcI_of ((e_X10_closest_0 P x (iI p) (iI q) (iI w) S).trans ?_), H, xfr.rf⟩, fun S' M => ⟨S', xcI_of ((e_X11_closest_0 P m (iI p) (iI q) (iI w) S').trans ?_), M, xfr.rf⟩⟩
    · simp only [d_isTime p1 p2 q1 q2, if_neg ct, xob_some, cond_true, t_10, t_00, ne_eq, not_true_eq_false, not_false_eq_true, if_true, if_false]
    · simp only [g_isTime p1 p2 q1 q2, if_neg ct, xob_some, cond_true, t_10, t_00, ne_eq, not_true_eq_false, not_false_eq_true, if_true, if_false]
end CW
