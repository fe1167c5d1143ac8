-- deps: 43.hours2
/-! both, someone: the class and the reference -/
theorem x_constL {F : xF} {i G : Nat} {sc pt a b t t' : Int} (hi : i < F.1) (hm : xsc2 sc pt G F.1) (hg : xhg F i F.1 G) (a0 : 0 ≤ a) (b0 : b ≤ sc) (hno : ∀ Y, a < Y → Y < b → ∀ j, j < F.1 → j ≠ i → ¬ xcr F i j 1 F.1 sc Y) (h1 : 2 * a < t) (h2 : t < 2 * b) (h3 : 2 * a ≤ t') (h4 : t' ≤ 2 * b) (h : xlo F i (12 * t) (2 * sc) = true) : xlo F i (12 * t') (2 * sc) = true := by
  obtain ⟨m1, ⟨pw, m2⟩, ⟨p12, m3⟩, m4, m5, m6, m7⟩ := hm.use
  have bG := xLc_le hm.2.2.1
  rw [xlo_iff (by omega) (by omega)] at h ⊢
  have hsg : xsg F i F.1 pt pw p12 G sc := ⟨m1, m2, m3, by omega, by omega, xhg_mg hg⟩
  refine x_const hsg (by omega) (by split <;> omega) a0 b0 (fun Y y1 y2 j hj hji hc => ?_) h1 h2 h3 h4 h
  by_cases c : F.1 = 1
  · omega
  · rw [if_neg c] at hc
    exact hno Y y1 y2 j hj hji hc
theorem x_sc6 {sc pt : Int} {G w : Nat} (hm : xsc2 sc pt G w) (hw : w ≤ 6) : sc ≤ 384307168202282325 := by
  obtain ⟨h1, h2, h3, h4, h5⟩ := hm
  have bG := xLc_le h3
  have k : ∀ w : Fin 7, Nat.lcm 12 w.val ≤ 60 := by decide +kernel
  have k2 := Nat.mul_le_mul (k ⟨w, by omega⟩) bG.2
  dsimp only at k2
  omega
section BO
variable {P : Nat → Nat} {S : xS} {a b s1 s2 l1 l2 x m : Nat} {sc pt : Int} {F : xF} {A : xAb}
/-- Vigil, all its rows -/
def xVl (S : xS) (a s1 s2 l1 l2 : Nat) (sc pt : Int) : Prop := xVw S a s1 s2 l1 l2 sc pt ∧ xOa S (a + 1) ∧ xQa S l1 1230 ∧ xQa S l2 1230 ∧ ∃ f, S.1 (a + 19) = some (.inr (1, (6, .inr (.inl f))))
theorem xVa.l (h : xVa S a) : ∃ s1 s2 l1 l2 sc pt, xVl S a s1 s2 l1 l2 sc pt := by
  obtain ⟨⟨s1, s2, l1, l2, sc, pt, e0⟩, e1, e2, e3, e4, e5, e6, e7⟩ := h
  obtain ⟨-, hs, hl⟩ := id e0
  refine ⟨s1, s2, l1, l2, sc, pt, ⟨e0, e2, ?_, ?_⟩, e1, ?_, ?_, e7⟩
  · rcases hs with ⟨h1, h2⟩ | ⟨h1, h2⟩ <;> rw [h1] <;> assumption
  · rcases hs with ⟨h1, h2⟩ | ⟨h1, h2⟩ <;> rw [h2] <;> assumption
  · rcases hl with ⟨h1, h2⟩ | ⟨h1, h2⟩ <;> rw [h1] <;> assumption
  · rcases hl with ⟨h1, h2⟩ | ⟨h1, h2⟩ <;> rw [h2] <;> assumption
theorem xVl.va (h : xVl S a s1 s2 l1 l2 sc pt) : xVa S a := by
  obtain ⟨⟨e0, e2, e3, e4⟩, e1, e5, e6, e7⟩ := h
  obtain ⟨-, hs, hl⟩ := id e0
  refine ⟨⟨s1, s2, l1, l2, sc, pt, e0⟩, e1, e2, ?_, ?_, ?_, ?_, e7⟩
  · rcases hs with ⟨h1, h2⟩ | ⟨h1, h2⟩
    · rw [← h1]; exact e3
    · rw [← h2]; exact e4
  · rcases hs with ⟨h1, h2⟩ | ⟨h1, h2⟩
    · rw [← h2]; exact e4
    · rw [← h1]; exact e3
  · rcases hl with ⟨h1, h2⟩ | ⟨h1, h2⟩
    · rw [← h1]; exact e5
    · rw [← h2]; exact e6
  · rcases hl with ⟨h1, h2⟩ | ⟨h1, h2⟩
    · rw [← h2]; exact e6
    · rw [← h1]; exact e5
theorem xVl.w {S1 : xS} {s1' s2' : Nat} (h : xVl S a s1 s2 l1 l2 sc pt) (hf : xfr S S1 (xrg a 13)) (w : xVw S1 a s1' s2' l1 l2 sc pt) (o : xOa S1 (a + 1)) : xVl S1 a s1' s2' l1 l2 sc pt := by
  obtain ⟨e0, -, e5, e6, f, e7⟩ := h
  have hl := e0.1.2.2
  have k : ∀ b, ¬ xrg a 13 b ↔ ¬ (a ≤ b ∧ b < a + 13) := fun b => Iff.rfl
  exact ⟨w, o, e5.fr hf (fun b hb => (k b).mpr (by unfold x3 at hb; omega)), e6.fr hf (fun b hb => (k b).mpr (by unfold x3 at hb; omega)), f, (hf.2 _ ((k _).mpr (by omega))).trans e7⟩
theorem d_gatherSpans (H : xVl S a s1 s2 l1 l2 sc pt) {n1 n2 : Nat} {u1 v1 u2 v2 : Nat → Int} (h1 : xSp S l1 1230 n1 u1 v1) (h2 : xSp S s1 210 n2 u2 v2) (hn : n1 + n2 ≤ 1230) :
    ∃ S1 n u v, xcV P m_X8_gatherSpans [.ref a] S = some S1 ∧ xVl S1 a s1 s2 l2 l1 sc pt ∧ xSp S1 l2 1230 n u v ∧ n ≤ n1 + n2 ∧ (∀ t, xme n u v t ↔ xme n1 u1 v1 t ∨ xme n2 u2 v2 t) ∧ xfr S S1 (xrg a 20) := by
  obtain ⟨⟨e0, e2, e3, e4⟩, e1, e5, e6, f, e7⟩ := id H
  obtain ⟨-, hs, hl⟩ := id e0
  obtain ⟨S1, n, u, v, k1, k2, k3, k4, k5⟩ := d_becomeUnion (P := P) e6 h1 h2 (by omega) (by omega) hn
  have e0' := e0.fr k5 (by unfold x3; omega)
  let Z3 : xS := xpt S1 a (.inl (8, [.ref (a + 1), .ref (a + 4), .ref s1, .ref s2, .ref l2, .ref l2, .ref (a + 19), .long (jI sc), .int (iI pt)]))
  have g3 : Z3.1 a = some (.inl (8, [.ref (a + 1), .ref (a + 4), .ref s1, .ref s2, .ref l2, .ref l2, .ref (a + 19), .long (jI sc), .int (iI pt)])) := by rw [xpt_1, if_pos rfl]
  have p3 : xpf S1 a 8 4 2 (.ref l2) = some Z3 := (xpf_at e0'.1 (show 4 < 9 by decide) rfl).trans rfl
  let Z4 : xS := xpt Z3 a (.inl (8, [.ref (a + 1), .ref (a + 4), .ref s1, .ref s2, .ref l2, .ref l1, .ref (a + 19), .long (jI sc), .int (iI pt)]))
  have p4 : xpf Z3 a 8 5 2 (.ref l1) = some Z4 := (xpf_at g3 (show 5 < 9 by decide) rfl).trans rfl
  have f3 : xfr S1 Z3 (fun c => c = a) := xfr.pt rfl
  have f4 : xfr Z3 Z4 (fun c => c = a) := xfr.pt rfl
  have f34 := f3.tr f4
  have nx : ∀ c d, (d + 2 < l2 ∨ l2 + 2 < d) → x3 d c → ¬ x3 l2 c := fun c d hd hc hz => by unfold x3 at hc hz; omega
  have ny : ∀ c d, a < d → x3 d c → ¬ c = a := fun c d hd hc hz => by unfold x3 at hc; omega
  refine ⟨Z4, n, u, v, xcV_of ((e_X8_gatherSpans_0 P a S).trans ?_), ⟨⟨⟨by rw [xpt_1, if_pos rfl], hs, by omega⟩, (e2.fr k5 (fun c => nx c _ (by omega))).fr f34 (fun c => ny c _ (by omega)), (e3.fr k5 (fun c => nx c _ (by omega))).fr f34 (fun c => ny c _ (by omega)), (e4.fr k5 (fun c => nx c _ (by omega))).fr f34 (fun c => ny c _ (by omega))⟩, (e1.fr k5 (fun c => nx c _ (by omega))).fr f34 (fun c => ny c _ (by omega)), k2.a.fr f34 (fun c => ny c _ (by omega)), (e5.fr k5 (fun c => nx c _ (by omega))).fr f34 (fun c => ny c _ (by omega)), f, (f34.2 _ (by omega)).trans ((k5.2 _ (by unfold x3; omega)).trans e7)⟩, k2.fr f34 (fun c => ny c _ (by omega)), k3, k4, (k5.mono (fun c hc => by unfold x3 at hc; exact ⟨by omega, by omega⟩)).tr (f34.mono (fun c hc => ⟨by omega, by omega⟩))⟩
  obtain ⟨nq, fq, gq, eq⟩ := e6
  rw [xfR_at (k := 5) e0.1 rfl, xob_some, xfR_at (k := 4) e0.1 rfl, xob_some, xfR_at (k := 2) e0.1 rfl, xob_some, xisO_at eq.2.2.1, cond_true, k1, xob_some, xfR_at (k := 4) e0'.1 rfl, xob_some, xfR_at (k := 5) e0'.1 rfl, xob_some, p3, xob_some, p4, xob_some]
/-- measured, for these ones -/
theorem d_measure (H : xVl S a s1 s2 l1 l2 sc pt) (hF : xFd S b F) (hab : a < b ∨ b + 2 < a) {bits : Int32} {B : Nat → Bool} (hB : ∀ r : Nat, r < 6 → (bits >>> (iI r &&& 31)) &&& iI 1 = iI (if B r then 1 else 0)) {w : Nat} (w0 : 1 ≤ w) (w1 : w ≤ 12) :
    ∃ S1 G sc' pt', xcV P m_X8_measureFor [.ref a, .ref b, .int bits, .int (iI w)] S = some S1 ∧ xVl S1 a s1 s2 l1 l2 sc' pt' ∧ xsc2 sc' pt' G w ∧ (∀ r, r < F.1 → B r = true → xhg F r F.1 G) ∧ xfr S S1 (fun c => c = a) := by
  obtain ⟨⟨e0, e2, e3, e4⟩, e1, e5, e6, f, e7⟩ := id H
  obtain ⟨-, hs, hl⟩ := id e0
  obtain ⟨S1, G, k1, k2, k3, k4, k5, k6⟩ := d_measureFor (P := P) e0 hF hab hB w0 w1
  have ny : ∀ c d, a < d → x3 d c → ¬ c = a := fun c d hd hc hz => by unfold x3 at hc; omega
  exact ⟨S1, G, _, _, k1, ⟨⟨k2, e2.fr k6 (fun c => ny c _ (by omega)), e3.fr k6 (fun c => ny c _ (by omega)), e4.fr k6 (fun c => ny c _ (by omega))⟩, e1.fr k6 (fun c => ny c _ (by omega)), e5.fr k6 (fun c => ny c _ (by omega)), e6.fr k6 (fun c => ny c _ (by omega)), f, (k6.2 _ (by omega)).trans e7⟩, ⟨rfl, rfl, k3, w0, w1⟩, k4, k6⟩
theorem d_lengthOfBoth (H : xVl S a s1 s2 l1 l2 sc pt) (hF : xFd S b F) (hab : a + 20 ≤ b ∨ b + 2 < a) {i j : Nat} (hi : i < F.1) (hj : j < F.1) :
    ∃ S1 s1' s2' l1' l2' sc' pt' G n u v, xcJ P m_X8_lengthOfBoth [.ref a, .ref b, .int (iI i), .int (iI j)] S = some (jI (xln u v n), S1) ∧ xVl S1 a s1' s2' l1' l2' sc' pt' ∧ xsc2 sc' pt' G F.1 ∧ xhg F i F.1 G ∧ xhg F j F.1 G ∧ xSo n u v ∧ (∀ t, xme n u v t ↔ 0 ≤ t ∧ t ≤ 2 * sc' ∧ (xlo F i (12 * t) (2 * sc') = true ∧ xlo F j (12 * t) (2 * sc') = true)) ∧ xfr S S1 (xrg a 20) := by
  have hk := hF.1.1
  obtain ⟨T, G, sc', pt', k1, k2, k3, k4, k5⟩ := d_measure (P := P) H hF (by omega) (x_bit2 (i := i) (j := j) (by omega) (by omega)) (w := F.1) (by omega) (by omega)
  have hgi := k4 i hi (by simp)
  have hgj := k4 j hj (by simp)
  have hF1 := hF.fr k5 (fun c hc hz => by unfold x3 at hc; omega)
  obtain ⟨⟨e0, -⟩, -, ⟨n0, f0, g0, e5⟩, e6, -⟩ := id k2
  obtain ⟨-, hs, hl⟩ := id e0
  obtain ⟨T2, m1, m2, m3⟩ := d_sclear (P := P) (u := fun _ => 0) (v := fun _ => 0) ⟨f0, g0, (show xPq T l1 1230 n0 f0 g0 from e5)⟩
  have cl : ∀ c d, (d + 2 < l1 ∨ l1 + 2 < d) → x3 d c → ¬ x3 l1 c := fun c d hd hc hz => by unfold x3 at hc hz; omega
  have V2 : xVl T2 a s1 s2 l1 l2 sc' pt' := by
    obtain ⟨⟨q0, q1, q2, q3⟩, q4, -, q6, f, q7⟩ := k2
    exact ⟨⟨q0.fr m3 (by unfold x3; omega), q1.fr m3 (fun c => cl c _ (by omega)), q2.fr m3 (fun c => cl c _ (by omega)), q3.fr m3 (fun c => cl c _ (by omega))⟩, q4.fr m3 (fun c => cl c _ (by omega)), m2.a, q6.fr m3 (fun c => cl c _ (by omega)), f, (m3.2 _ (by unfold x3; omega)).trans q7⟩
  have hF2 := hF1.fr m3 (fun c hc hz => by unfold x3 at hc hz; omega)
  obtain ⟨T3, s1', s2', n1, u1, v1, g1, g2, g3, g4, g5, g6, g7⟩ := d_watchLonely (P := P) V2.1 V2.2.1 hF2 (by omega) hi k3 hgi
  have V3 := V2.w g7 g2 g3
  have z3 : xSp T3 l1 1230 0 (fun _ => 0) (fun _ => 0) := m2.fr g7 (fun c hc hz => by unfold x3 at hc; unfold xrg at hz; omega)
  have hF3 := hF2.fr g7 (fun c hc hz => by unfold x3 at hc; unfold xrg at hz; omega)
  obtain ⟨T4, n2, u2, v2, w1, w2, w3, w4, w5, w6⟩ := d_gatherSpans (P := P) V3 z3 g4 (by omega)
  have hF4 := hF3.fr w6 (fun c hc hz => by unfold x3 at hc; unfold xrg at hz; omega)
  obtain ⟨T5, s3, s4, n3, u3, v3, y1, y2, y3, y4, y5, y6, y7⟩ := d_watchLonely (P := P) w2.1 w2.2.1 hF4 (by omega) hj k3 hgj
  have V5 := w2.w y7 y2 y3
  have hl5 := V5.1.1.2.2
  have hs5 := V5.1.1.2.1
  have z5 := w3.fr y7 (fun c hc hz => by unfold x3 at hc; unfold xrg at hz; omega)
  obtain ⟨T6, n, u, v, r1, r2, r3, r4, r5⟩ := d_becomeCommon (P := P) V5.2.2.2.1 z5 y4 (by omega) (by omega) (by omega)
  have cl6 : ∀ c d, (d + 2 < l1 ∨ l1 + 2 < d) → x3 d c → ¬ x3 l1 c := fun c d hd hc hz => by unfold x3 at hc hz; omega
  have V6 : xVl T6 a s3 s4 l2 l1 sc' pt' := by
    obtain ⟨⟨q0, q1, q2, q3⟩, q4, q5, -, f, q7⟩ := V5
    exact ⟨⟨q0.fr r5 (by unfold x3; omega), q1.fr r5 (fun c => cl6 c _ (by omega)), q2.fr r5 (fun c => cl6 c _ (by omega)), q3.fr r5 (fun c => cl6 c _ (by omega))⟩, q4.fr r5 (fun c => cl6 c _ (by omega)), q5.fr r5 (fun c => cl6 c _ (by omega)), r2.a, f, (r5.2 _ (by unfold x3; omega)).trans q7⟩
  have fr := ((((k5.mono (fun c hc => ⟨by omega, by omega⟩) : xfr S T (xrg a 20)).tr (m3.mono (fun c hc => by unfold x3 at hc; exact ⟨by omega, by omega⟩))).tr (g7.mono (fun c hc => by unfold xrg at hc ⊢; omega))).tr w6).tr ((y7.mono (fun c hc => by unfold xrg at hc ⊢; omega)).tr (r5.mono (fun c hc => by unfold x3 at hc; exact ⟨by omega, by omega⟩)))
  refine ⟨T6, s3, s4, l2, l1, sc', pt', G, n, u, v, xcJ_of ((e_X8_lengthOfBoth_0 P a b (iI i) (iI j) S).trans ?_), V6, k3, hgi, hgj, r2.1, fun t => ?_, fr⟩
  · have q8 : xisO T5 l1 6 = true := by
      obtain ⟨nq, fq, gq, eq⟩ := V5.2.2.2.1
      exact xisO_at eq.2.2.1
    simp only [hF.o, d_size hF, H.1.1.o, k1, k2.1.1.o, xfR_at (k := 4) e0.1 rfl, xisO_at e5.2.2.1, m1, V2.1.1.o, g1, V3.1.1.o, w1, w2.1.1.o, y1, xfR_at (k := 5) V5.1.1.1 rfl, xfR_at (k := 4) V5.1.1.1 rfl, xfR_at (k := 2) V5.1.1.1 rfl, q8, r1, xfR_at (k := 5) V6.1.1.1 rfl, r2.o, d_slength r2, xob_some, cond_true]
  · rw [r4, w5, g6 t, y6 t]
    constructor
    · rintro ⟨⟨k, hk, -⟩ | ⟨h1, h2, h3⟩, -, -, h4⟩
      · omega
      · exact ⟨h1, h2, h3, h4⟩
    · rintro ⟨h1, h2, h3, h4⟩
      exact ⟨Or.inr ⟨h1, h2, h3⟩, h1, h2, h4⟩
theorem d_lengthOfAny (H : xVl S a s1 s2 l1 l2 sc pt) (hF : xFd S b F) (hab : a + 20 ≤ b ∨ b + 2 < a) (hk1 : 1 ≤ F.1) :
    ∃ S1 s1' s2' l1' l2' sc' pt' G n u v, xcJ P m_X8_lengthOfAny [.ref a, .ref b] S = some (jI (xln u v n), S1) ∧ xVl S1 a s1' s2' l1' l2' sc' pt' ∧ xsc2 sc' pt' G F.1 ∧ (∀ i, i < F.1 → xhg F i F.1 G) ∧ xSo n u v ∧ (∀ t, xme n u v t ↔ 0 ≤ t ∧ t ≤ 2 * sc' ∧ ∃ i, i < F.1 ∧ xlo F i (12 * t) (2 * sc') = true) ∧ xfr S S1 (xrg a 20) := by
  have hk := hF.1.1
  obtain ⟨T, G, sc', pt', k1, k2, k3, k4, k5⟩ := d_measure (P := P) H hF (by omega) x_bit6 (w := F.1) (by omega) (by omega)
  have hF1 := hF.fr k5 (fun c hc hz => by unfold x3 at hc; omega)
  obtain ⟨⟨e0, -⟩, -, ⟨n0, f0, g0, e5⟩, e6, -⟩ := id k2
  obtain ⟨-, hs, hl⟩ := id e0
  obtain ⟨T2, m1, m2, m3⟩ := d_sclear (P := P) (u := fun _ => 0) (v := fun _ => 0) ⟨f0, g0, (show xPq T l1 1230 n0 f0 g0 from e5)⟩
  have cl : ∀ c d, (d + 2 < l1 ∨ l1 + 2 < d) → x3 d c → ¬ x3 l1 c := fun c d hd hc hz => by unfold x3 at hc hz; omega
  have V2 : xVl T2 a s1 s2 l1 l2 sc' pt' := by
    obtain ⟨⟨q0, q1, q2, q3⟩, q4, -, q6, f, q7⟩ := k2
    exact ⟨⟨q0.fr m3 (by unfold x3; omega), q1.fr m3 (fun c => cl c _ (by omega)), q2.fr m3 (fun c => cl c _ (by omega)), q3.fr m3 (fun c => cl c _ (by omega))⟩, q4.fr m3 (fun c => cl c _ (by omega)), m2.a, q6.fr m3 (fun c => cl c _ (by omega)), f, (m3.2 _ (by unfold x3; omega)).trans q7⟩
  have fr2 := (k5.mono (fun c hc => ⟨by omega, by omega⟩) : xfr S T (xrg a 20)).tr (m3.mono (fun c hc => by unfold x3 at hc; exact ⟨by omega, by omega⟩))
  have hF2 := hF1.fr m3 (fun c hc hz => by unfold x3 at hc hz; omega)
  have key := xloopQ (run := fun r (Z : xS) => xrun P m_X8_lengthOfAny 20 [(0, .ref a), (1, .ref b), (2, .int (iI r))] [] Z)
    (Inv := fun r Z => xfr S Z (xrg a 20) ∧ ∃ s1' s2' l1' l2' n u v, xVl Z a s1' s2' l1' l2' sc' pt' ∧ xSp Z l1' 1230 n u v ∧ n ≤ 201 * r ∧ ∀ t, xme n u v t ↔ ∃ i, i < r ∧ 0 ≤ t ∧ t ≤ 2 * sc' ∧ xlo F i (12 * t) (2 * sc') = true)
    (fun res => ∃ S1 s1' s2' l1' l2' n u v, res = some (some (.long (jI (xln u v n))), S1) ∧ xVl S1 a s1' s2' l1' l2' sc' pt' ∧ xSo n u v ∧ (∀ t, xme n u v t ↔ ∃ i, i < F.1 ∧ 0 ≤ t ∧ t ≤ 2 * sc' ∧ xlo F i (12 * t) (2 * sc') = true) ∧ xfr S S1 (xrg a 20)) 0 F.1 (by omega) (fun r Z _ hr hZ => by
      obtain ⟨hfr, s1', s2', l1', l2', n, u, v, hV, hSp, hn, hm⟩ := hZ
      have hFZ := hF.fr hfr (fun c hc hz => by unfold x3 at hc; unfold xrg at hz; omega)
      have hl' := hV.1.1.2.2
      obtain ⟨Z1, s3, s4, n1, u1, v1, g1, g2, g3, g4, g5, g6, g7⟩ := d_watchLonely (P := P) hV.1 hV.2.1 hFZ (by omega) hr k3 (k4 r hr rfl)
      have V3 := hV.w g7 g2 g3
      have z3 := hSp.fr g7 (fun c hc hz => by unfold x3 at hc; unfold xrg at hz; omega)
      obtain ⟨Z2, n2, u2, v2, w1, w2, w3, w4, w5, w6⟩ := d_gatherSpans (P := P) V3 z3 g4 (by omega)
      refine Or.inr ⟨Z2, ?_, (hfr.tr (g7.mono (fun c hc => by unfold xrg at hc ⊢; omega))).tr w6, s3, s4, l2', l1', n2, u2, v2, w2, w3, by omega, fun t => ?_⟩
      · rw [e_X8_lengthOfAny_20, hFZ.o, cond_true, d_size hFZ, xob_some]
        simp (disch := omega) only [iI_le]
        rw [if_neg (by omega), hV.1.1.o, cond_true, g1, xob_some, V3.1.1.o, cond_true, w1, xob_some, iI_suc]
      · rw [w5, hm, g6 t]
        constructor
        · rintro (⟨i, hi, h⟩ | h)
          · exact ⟨i, by omega, h⟩
          · exact ⟨r, by omega, h⟩
        · rintro ⟨i, hi, h⟩
          by_cases c : i = r
          · subst c; exact Or.inr h
          · exact Or.inl ⟨i, by omega, h⟩) (fun Z hZ => by
      obtain ⟨hfr, s1', s2', l1', l2', n, u, v, hV, hSp, hn, hm⟩ := hZ
      have hFZ := hF.fr hfr (fun c hc hz => by unfold x3 at hc; unfold xrg at hz; omega)
      refine ⟨Z, s1', s2', l1', l2', n, u, v, ?_, hV, hSp.1, hm, hfr⟩
      rw [e_X8_lengthOfAny_20, hFZ.o, cond_true, d_size hFZ, xob_some]
      simp (disch := omega) only [iI_le]
      rw [if_pos (by omega), xfR_at (k := 4) hV.1.1.1 rfl, xob_some, hSp.o, cond_true, d_slength hSp, xob_some]) (s := T2) ⟨fr2, s1, s2, l1, l2, 0, _, _, V2, m2, by omega, fun t => ⟨fun ⟨k, hk, _⟩ => by omega, fun ⟨i, hi, _⟩ => by omega⟩⟩
  obtain ⟨S1, s1', s2', l1', l2', n, u, v, y1, y2, y3, y4, y5⟩ := key
  refine ⟨S1, s1', s2', l1', l2', sc', pt', G, n, u, v, xcJ_of ((e_X8_lengthOfAny_0 P a b S).trans ?_), y2, k3, fun i hi => k4 i hi rfl, y3, fun t => ?_, y5⟩
  · rw [hF.o, cond_true, d_size hF, xob_some]
    dsimp only
    rw [H.1.1.o, cond_true, k1, xob_some, xfR_at (k := 4) e0.1 rfl, xob_some, xisO_at e5.2.2.1, cond_true, m1, xob_some]
    exact y1
  · rw [y4]
    constructor
    · rintro ⟨i, h0, h1, h2, h3⟩
      exact ⟨h1, h2, i, h0, h3⟩
    · rintro ⟨h1, h2, i, h0, h3⟩
      exact ⟨i, h0, h1, h2, h3⟩
end BO
