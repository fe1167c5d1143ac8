-- deps: 71.mwrite
/-! spell, tells, report -/
section TX
variable {P : Nat → Nat} {S S0 T : xS} {x m : Nat} {A : xAb} {ob ob0 : Nat → Value} {F : xF} {ts : List Int32}
theorem xMl.i16 (M : xMl S m A) : xIr S (m + 16) 16000 := by
  obtain ⟨ob, e0, e1, e2, e3, e4, e5, e6, e7, g1, g2, g3, g4, g5, g6, g7, g8, g9, g10, g11, g12⟩ := M
  exact g12
theorem xMl.w18 (M : xMl S m A) : xMw S (m + 18) := by
  obtain ⟨ob, e0, e1, e2, e3, e4, e5, e6, e7, -⟩ := M
  exact e7
theorem g_ranks2 (M : xMl S m A) {p q : Int} (p0 : 0 ≤ p) (p1 : p ≤ 9999) (q0 : 1 ≤ q) (q1 : q ≤ 999) : ∃ T f, xcV P m_X11_ranks [.ref m, .int (iI p), .int (iI q)] S = some T ∧ xfr S T (fun b => b = m + 7) ∧ T.1 (m + 7) = some (.inr (0, (6, .inl f))) ∧ ∀ i, i < A.1.1 → f (xrk2 (xplc A.1 p q) A.1.1 i) = iI i := by
  obtain ⟨ob, e0, -, -, hR, -, -, -, -, hs⟩ := id M
  obtain ⟨-, -, ⟨f0, hf0⟩, -⟩ := hs
  have hk := hR.1.1
  have key := xloopQ (run := fun r (Z : xS) => xrun P m_X11_ranks 2 [(0, .ref m), (1, .int (iI p)), (2, .int (iI q)), (3, .int (iI r))] [] Z)
    (Inv := fun r Z => xfr S Z (fun b => b = m + 7) ∧ ∃ f, Z.1 (m + 7) = some (.inr (0, (6, .inl f))) ∧ ∀ i, i < r → f (xrk2 (xplc A.1 p q) A.1.1 i) = iI i)
    (fun res => ∃ T f, res = some (none, T) ∧ xfr S T (fun b => b = m + 7) ∧ T.1 (m + 7) = some (.inr (0, (6, .inl f))) ∧ ∀ i, i < A.1.1 → f (xrk2 (xplc A.1 p q) A.1.1 i) = iI i)
    0 A.1.1 (Nat.zero_le _) (by
      rintro r Z - hr ⟨hfr, f, hf, hi⟩
      right
      have Zo := e0.fr hfr (by omega)
      have ZR := hR.fr hfr (by omega)
      have br := xplc_bd A.1 (p := p) (q := q) (by omega) r
      have st := xsteps (fun n => xrun P m_X11_ranks 29 [(0, .ref m), (1, .int (iI p)), (2, .int (iI q)), (3, .int (iI r)), (4, .int (iI (xct (fun j => decide (xplc A.1 p q j < xplc A.1 p q r ∨ xplc A.1 p q j = xplc A.1 p q r ∧ j < r)) n : Nat))), (5, .long (jI (xplc A.1 p q r))), (7, .int (iI n))] [] Z) A.1.1 (by
        intro n hn
        try dsimp only
        have bn := xplc_bd A.1 (p := p) (q := q) (by omega) n
        rw [e_X11_ranks_29, Zo.r1, xob_some, g_K ZR, xob_some, if_neg (by rw [iI_le (by omega) (by omega) (by omega) (by omega)]; omega)]
        simp only [Zo.o, iI_ji (show -2147483648 ≤ p by omega) (show p < 2147483648 by omega), iI_ji (show -2147483648 ≤ q by omega) (show q < 2147483648 by omega), g_placeTop Zo ZR hn p0 (show p ≤ 1000000000000 by omega) q0 (show q ≤ 1000000000000 by omega), iI_suc, xob_some, cond_true, xct]
        rw [jI_cmp_lt (by omega) (by omega) (by omega) (by omega)]
        by_cases c : xplc A.1 p q n < xplc A.1 p q r
        · rw [if_neg (show ¬ xplc A.1 p q r < xplc A.1 p q n by omega), if_neg (show ¬ xplc A.1 p q n = xplc A.1 p q r by omega), if_pos (show iI (-1) < 0 by decide +kernel), if_pos (by simp; omega)]
        · by_cases d : xplc A.1 p q n = xplc A.1 p q r
          · rw [if_neg (show ¬ xplc A.1 p q r < xplc A.1 p q n by omega), if_pos d, if_neg (show ¬ iI 0 < 0 by decide +kernel), if_neg (show ¬ iI 0 ≠ 0 by decide +kernel)]
            by_cases e : r ≤ n
            · rw [if_pos (by rw [iI_le (by omega) (by omega) (by omega) (by omega)]; omega), if_neg (by simp; omega)]
              rfl
            · rw [if_neg (by rw [iI_le (by omega) (by omega) (by omega) (by omega)]; omega), if_pos (by simp; omega)]
          · rw [if_pos (show xplc A.1 p q r < xplc A.1 p q n by omega), if_neg (show ¬ iI 1 < 0 by decide +kernel), if_pos (show iI 1 ≠ 0 by decide +kernel), if_neg (by simp; omega)]
            rfl)
      try dsimp only at st
      have rb := xrk2_bd (pl := xplc A.1 p q) hr
      obtain ⟨Z2, w1, w2, w3⟩ := xwrI_fr (v := iI r) hf (i := (xrk2 (xplc A.1 p q) A.1.1 r : Nat)) (by omega) (by omega) (by omega)
      refine ⟨Z2, ?_, hfr.tr w3, _, w2, ?_⟩
      · rw [e_X11_ranks_2, Zo.r1, xob_some, g_K ZR, xob_some, if_neg (by rw [iI_le (by omega) (by omega) (by omega) (by omega)]; omega)]
        simp only [Zo.o, iI_ji (show -2147483648 ≤ p by omega) (show p < 2147483648 by omega), iI_ji (show -2147483648 ≤ q by omega) (show q < 2147483648 by omega), g_placeTop Zo ZR hr p0 (show p ≤ 1000000000000 by omega) q0 (show q ≤ 1000000000000 by omega), xob_some, cond_true]
        refine st.trans ?_
        rw [e_X11_ranks_29, Zo.r1, xob_some, g_K ZR, xob_some, if_pos (by rw [iI_le (by omega) (by omega) (by omega) (by omega)]; omega), Zo.r8, xob_some]
        have w1' : xwrI Z (m + 7) (iI (xct (fun j => decide (xplc A.1 p q j < xplc A.1 p q r ∨ xplc A.1 p q j = xplc A.1 p q r ∧ j < r)) A.1.1 : Nat)) (iI r) = some Z2 := w1
        rw [w1', xob_some, iI_suc]
      · intro i hi2
        show va_up f (xrk2 (xplc A.1 p q) A.1.1 r) (iI r) (xrk2 (xplc A.1 p q) A.1.1 i) = iI i
        by_cases c : i = r
        · subst c
          simp [va_up]
        · have ne : xrk2 (xplc A.1 p q) A.1.1 i ≠ xrk2 (xplc A.1 p q) A.1.1 r := fun h => c (xrk2_inj (by omega) hr h)
          have := hi i (by omega)
          simp [va_up, ne, this])
    (by
      rintro Z ⟨hfr, f, hf, hi⟩
      have Zo := e0.fr hfr (by omega)
      have ZR := hR.fr hfr (by omega)
      refine ⟨Z, f, ?_, hfr, hf, hi⟩
      rw [e_X11_ranks_2, Zo.r1, xob_some, g_K ZR, xob_some, if_pos (by rw [iI_le (by omega) (by omega) (by omega) (by omega)]; omega)])
    (s := S) ⟨xfr.rf, f0, hf0, fun i hi => by omega⟩
  obtain ⟨T, f, k1, k2, k3, k4⟩ := key
  exact ⟨T, f, xcV_of ((e_X11_ranks_0 P m (iI p) (iI q) S).trans k1), k2, k3, k4⟩
theorem d_laysStretches3 (H : xMl S m A) (e0 : xMo S m ob) {i : Nat} (hi : i < A.1.1) {sc : Int} {n : Nat} {u v : Nat → Int} (hD : xDt A.1 i sc n u v) :
    ∃ S1 ob1, (∀ k, k ≠ 15 → k ≠ 20 → ob1 k = ob k) ∧ xfr S S1 (fun c => c = m ∨ (m + 8 ≤ c ∧ c ≤ m + 13)) ∧ xcV P m_X11_laysStretches [.ref m, .int (iI i)] S = some S1 ∧ xMl S1 m A ∧ xfr S S1 (xrg m 19) ∧ xMo S1 m ob1 ∧ ob1 20 = .int (iI n) ∧ xEn S1 (m + 10) (m + 11) n sc u ∧ xEn S1 (m + 12) (m + 13) n sc v := by
  obtain ⟨⟨pt, G, hm, hg⟩, hSo, hn, hsl⟩ := hD
  obtain ⟨ob', e0', e1, e2, e3, e4, e5, e6, e7, e8⟩ := id H
  have hk := e3.1.1
  obtain ⟨m1, ⟨pw, m2⟩, ⟨p12, m3⟩, m4, m5, m6, m7⟩ := hm.use
  obtain ⟨Z1, n1, k1, k2, k3⟩ := d_beginsTurns (P := P) e0 e8.2.2.2.1 e8.2.2.2.2.1 (show 0 < sc by omega)
  have hR : ∀ (Z : xS) (n' : Nat) (D' : Int → Prop), xLT S m ob sc Z n' D' → xRo Z (m + 1) A.1 := by
    intro Z n' D' h
    obtain ⟨ob', T', -, -, -, -, hf⟩ := h
    exact e3.fr hf (by omega)
  obtain ⟨ob1, T1, hM1, q1, q2, q3, q4⟩ := id k3
  obtain ⟨Z2, n2, j1, j2, j3, j4⟩ := d_laysTurnsOf (P := P) hM1 (hR _ _ _ k3) (show 0 < sc by omega) hi (u := 1) (w := A.1.1) (by omega) (by omega) (by omega) (by omega) m1 m2 m3 (xhg_mg hg) (q1 1 (by decide)) k3 hR (by omega)
  obtain ⟨ob2, T2, hM2, w1, w2, w3, w4⟩ := id j4
  have hW : xSW n2 T2 sc n u v := xSW_of hi (by omega) hm hg hSo hsl w2 w3
  obtain ⟨Z3, i1, i2, i3⟩ := hM2.put (k := 20) (by omega) rfl (tag := 0) (v := .int (iI (0 : Nat))) rfl
  have f13 : xfr S Z3 (fun c => c = m ∨ c = m + 8 ∨ c = m + 9) := w4.tr (i3.mono (fun c h => Or.inl h))
  have hL : xLS Z3 m (va_up ob2 20 (.int (iI (0 : Nat)))) A.1 n2 T2 sc n u v Z3 0 0 := ⟨_, i2, by rw [va_up_at, if_pos rfl], fun k _ => rfl, w2.fr i3 (by omega) (by omega) (by rw [va_up_at, if_neg (by decide)]), e3.fr f13 (by omega), xEn.z (e8.2.2.2.2.2.1.fr f13 (by omega)) (e8.2.2.2.2.2.2.1.fr f13 (by omega)), xEn.z (e8.2.2.2.2.2.2.2.1.fr f13 (by omega)) (e8.2.2.2.2.2.2.2.2.1.fr f13 (by omega)), xfr.rf⟩
  obtain ⟨Z4, g1, ob4, g2, g3, g4, g5, g6, g7, g8, g9⟩ := d_stretchLoop (P := P) hi (by omega) hW hn hsl hL
  have fo : ∀ k, k ≠ 15 → k ≠ 20 → ob4 k = ob k := fun k h1 h2 => by rw [g4 k h2, va_up_at, if_neg h2, w1 k h1]
  have ff : xfr S Z4 (fun c => c = m ∨ (m + 8 ≤ c ∧ c ≤ m + 13)) := (f13.mono (fun c h => by omega)).tr (g9.mono (fun c h => by omega))
  obtain ⟨r1, r2⟩ := H.re e0 ff g2 (fo 5 (by decide) (by decide)) (fo 28 (by decide) (by decide)) (fun d d0 d1 => by
    have hd : d = 8 ∨ d = 9 ∨ d = 10 ∨ d = 11 ∨ d = 12 ∨ d = 13 := by omega
    rcases hd with rfl | rfl | rfl | rfl | rfl | rfl
    · exact g5.jr.1
    · exact g5.jr.2
    · exact g7.jr.1
    · exact g7.jr.2
    · exact g8.jr.1
    · exact g8.jr.2)
  refine ⟨Z4, ob4, fo, ff, xcV_of ((e_X11_laysStretches_0 P m (iI i) S).trans ?_), r1, r2, g2, g3, g7, g8⟩
  rw [e0.o, cond_true, k1, xob_some, hM1.r1, xob_some, g_K (hR _ _ _ k3), xob_some, hM1.o, cond_true, j1, xob_some, show (iI 0 : Int32) = iI ((0 : Nat) : Int) from rfl, i1, xob_some]
  exact g1
/-- all runners, told -/
noncomputable def xspl (F : xF) : Nat → List Int32
  | 0 => []
  | n + 1 => xspl F n ++ ([114, 117, 110, 32].map iI ++ (xnu (F.2.1 n) ++ (if F.2.2 n = 0 then [59].map iI else [32, 102, 114, 111, 109, 32].map iI ++ (xnu (F.2.2 n) ++ [59].map iI))))
theorem xspl_len {F : xF} (h : xFok F) : ∀ n, n ≤ F.1 → (xspl F n).length ≤ 40 * n := by
  intro n
  induction n with
  | zero => intro _; exact Nat.le_refl 0
  | succ n ih =>
    intro hn
    have b := h.2 n (by omega)
    have l1 := xnu_len b.1 (show F.2.1 n < 100000000000 by omega)
    have l2 := xnu_len b.2.2.1 (show F.2.2 n < 100000000000 by omega)
    have := ih (by omega)
    simp only [xspl]
    split
    · simp only [List.length_append, List.length_map, List.length_cons, List.length_nil]
      omega
    · simp only [List.length_append, List.length_map, List.length_cons, List.length_nil]
      omega
end TX
