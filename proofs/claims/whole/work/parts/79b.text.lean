-- deps: 79a.readn
/-! text -/
section TXT
variable {P : Nat → Nat} {S S0 T : xS} {x m n sp a : Nat} {A : xAb} {F : xF} {b : Nat → Int32} {tok : Int} {bg nu : Value} {ob ob0 : Nat → Value}
/-- the reader alone -/
theorem xCl.rea (H : xCl S x A) (hf : xfr S T (fun c => c = x + 56 ∨ x3 (x + 4) c)) (e2 : xFa T (x + 4)) (e6 : xRe T x) : xCl T x A ∧ xfr S T (xrg x 89) := by
  obtain ⟨-, -, -, -, -, -, -, e7, e8, e9, e10, e11⟩ := id H
  have n : ∀ b, ¬ (b = x + 56 ∨ x3 (x + 4) b) ↔ ¬ (b = x + 56 ∨ x + 4 ≤ b ∧ b ≤ x + 4 + 2) := fun b => Iff.rfl
  exact ⟨H.sc (hf.mono (fun b hb => by unfold xsc; unfold x3 at hb; omega)) e2 e6 (e7.fr hf (fun b hb => (n b).mpr (by unfold xrg at hb; omega))) (e8.fr hf (fun b hb => (n b).mpr (by unfold x3 at hb; omega))) (e9.fr hf (fun b hb => (n b).mpr (by unfold xrg at hb; omega))) (e10.fr hf (fun b hb => (n b).mpr (by unfold xrg at hb; omega))) (e11.fr hf ((n _).mpr (by omega))), hf.mono (fun b hb => by unfold x3 at hb; unfold xrg; omega)⟩
/-- how the reference's loop ends -/
def xRz (P : Nat → Nat) (S0 : xS) (m n : Nat) (b : Nat → Int32) (ob0 : Nat → Value) (res : Nat ⊕ xF) (o : Option (Option Value × xS)) : Prop := ∃ Z sp tok bg nu, xfr S0 Z (fun c => c = m ∨ c = m + 2) ∧ o = xrun P m_X11_text 40 [(0, .ref m)] [] Z ∧ match res with
  | .inl f => xTk Z m n b sp tok (.int (iI f)) nu true ob0 ∧ f ≤ n ∧ xIr Z (m + 2) 13
  | .inr F => xTk Z m n b sp 0 bg nu false ob0 ∧ xRo Z (m + 2) F
theorem l_text40 (hg : xGv n (xgv n b)) : ∀ (r a : Nat) (F : xF) (S : xS) (sp : Nat) (tok : Int) (nu : Value) (res : Nat ⊕ xF), F.1 + r = 6 → a ≤ n → xTk S m n b sp tok (.int (iI a)) nu false ob0 → xTok (xgv n b) a false tok sp nu → xRo S (m + 2) F → xAl n (xgv n b) r a F res → xRz P S m n b ob0 res (xrun P m_X11_text 40 [(0, .ref m)] [] S) := by
  have step : ∀ (a : Nat) (S T : xS) (sp : Nat) (tok : Int) (nu : Value), a < n → xTk S m n b sp tok (.int (iI a)) nu false ob0 → xTok (xgv n b) a false tok sp nu → xcV P m_X11_readsOne [.ref m] S = some T → xrun P m_X11_text 40 [(0, .ref m)] [] S = xrun P m_X11_text 40 [(0, .ref m)] [] T := by
    intro a S T sp tok nu ha h ht hT
    have tb := ht.tb
    have g0 := (hg a).1 ha
    have t0 : (iI tok = 0) = False := t_nz (by omega) (by omega) (fun q => by have := ht.t0.mp q; omega)
    rw [e_X11_text_40]
    simp only [h.f34, h.f31, t_xb0, t0, h.o, hT, xob_some, cond_true, t_10, t_00, ne_eq, not_true_eq_false, not_false_eq_true, if_true, if_false]
  have fault : ∀ (a f : Nat) (F : xF) (S : xS) (sp : Nat) (tok : Int) (nu : Value), a < n → xTk S m n b sp tok (.int (iI a)) nu false ob0 → xTok (xgv n b) a false tok sp nu → xRo S (m + 2) F → xRn (xgv n b) a F.1 (.inl f) → xRz P S m n b ob0 (.inl f) (xrun P m_X11_text 40 [(0, .ref m)] [] S) := by
    intro a f F S sp tok nu ha h ht hR ho
    obtain ⟨T, sp', tok', nu', p1, h1, h2, h3, f1⟩ := (g_readsOne (P := P) hg h ht (by omega) hR ho).1 f rfl
    exact ⟨T, sp', tok', nu', nu', f1, step a S T sp tok nu ha h ht p1, h1, h2, h3⟩
  have stop : ∀ (a : Nat) (F : xF) (S : xS) (sp : Nat) (tok : Int) (nu : Value), n ≤ a → xTk S m n b sp tok (.int (iI a)) nu false ob0 → xTok (xgv n b) a false tok sp nu → xRo S (m + 2) F → xRz P S m n b ob0 (.inr F) (xrun P m_X11_text 40 [(0, .ref m)] [] S) := by
    intro a F S sp tok nu ha h ht hR
    have t0 : tok = 0 := ht.t0.mpr ((hg a).2 ha)
    rw [t0] at h
    exact ⟨S, sp, 0, _, nu, xfr.rf, rfl, h, hR⟩
  intro r
  induction r with
  | zero =>
    intro a F S sp tok nu res hr ha h ht hR hA
    rcases hA with ⟨c, rfl⟩ | ⟨c, f, ho, rfl⟩
    · exact stop a F S sp tok nu c h ht hR
    · exact fault a f F S sp tok nu c h ht hR ho
  | succ r ih =>
    intro a F S sp tok nu res hr ha h ht hR hA
    rcases hA with ⟨c, rfl⟩ | ⟨c, ⟨f, ho, rfl⟩ | ⟨p, v, s, a7, ho, x7, hA⟩⟩
    · exact stop a F S sp tok nu c h ht hR
    · exact fault a f F S sp tok nu c h ht hR ho
    · have ok := ho.ok hg
      obtain ⟨T, sp', tok', nu', p1, h1, ht1, R1, f1⟩ := (g_readsOne (P := P) hg h ht (by omega) hR ho).2 p v s rfl a7 x7
      have y7 := x7.le hg nB ok.2.2.2.2.2.1
      obtain ⟨Z, sp2, tok2, bg2, nu2, z1, z2, z3⟩ := ih a7 (F.1 + 1, va_up F.2.1 F.1 v, va_up F.2.2 F.1 s) T sp' tok' nu' res (by show F.1 + 1 + r = 6; omega) y7 h1 ht1 R1 hA
      exact ⟨Z, sp2, tok2, bg2, nu2, f1.tr z1, (step a S T sp tok nu c h ht p1).trans z2, z3⟩
/-- the reference reads -/
theorem l_text0 (M : xMl S m A) (e0 : xMo S m ob) (h28 : ob 28 = .int (iI A.2.2.2.1)) (hg : xGv A.2.2.2.1 (xgv A.2.2.2.1 (xbm A.2.2.2.2))) {a : Nat} (hB : xuo cB (xgv A.2.2.2.1 (xbm A.2.2.2.2)) 0 a) {res : Nat ⊕ xF} (hA : xAl A.2.2.2.1 (xgv A.2.2.2.1 (xbm A.2.2.2.2)) 6 a (0, fun _ => 0, fun _ => 0) res) : xRz P S m A.2.2.2.1 (xbm A.2.2.2.2) ob res (xrun P m_X11_text 2 [(0, .ref m), (1, .int (iI ((0 : Nat) : Int)))] [] S) := by
  obtain ⟨ob', -, -, -, -, -, -, hMt, hMw, hMs⟩ := id M
  obtain ⟨⟨f0, hf0⟩, -⟩ := hMs
  refine xloopQ (run := fun v (Z : xS) => xrun P m_X11_text 2 [(0, .ref m), (1, .int (iI v))] [] Z)
    (Inv := fun v Z => xfr S Z (fun c => c = m + 2) ∧ ∃ g, Z.1 (m + 2) = some (.inr (0, (13, .inl g))) ∧ ∀ k, k < v → g k = iI 0)
    (fun o => xRz P S m A.2.2.2.1 (xbm A.2.2.2.2) ob res o) 0 13 (by decide) ?_ ?_ (s := S) ⟨xfr.rf, f0, hf0, fun k hk => absurd hk (Nat.not_lt_zero k)⟩
  · rintro v Z - hv ⟨fZ, g, hgz, hgk⟩
    right
    have Zo := e0.fr fZ (by omega)
    obtain ⟨Z2, w1, w2, w3⟩ := xwrI_fr (v := iI 0) hgz (i := (v : Nat)) (by omega) (by omega) (by omega)
    refine ⟨Z2, ?_, fZ.tr w3, _, w2, fun k hk => ?_⟩
    · try dsimp only
      rw [e_X11_text_2, if_neg (by rw [iI_le (by omega) (by omega) (by omega) (by omega)]; omega), Zo.r2, xob_some, w1, xob_some, iI_suc]
    · show va_up g v (iI 0) k = iI 0
      rw [va_up_at]
      by_cases c : k = v
      · rw [if_pos c]
      · rw [if_neg c]; exact hgk k (by omega)
  · rintro Z ⟨fZ, g, hgz, hgk⟩
    have Zo := e0.fr fZ (by omega)
    obtain ⟨Y1, p1, e1, f1⟩ := Zo.put (k := 30) (by decide) (by decide) (tag := 0) (v := .int (iI 0)) rfl
    obtain ⟨Y2, p2, e2, f2⟩ := e1.put (k := 31) (by decide) (by decide) (tag := 0) (v := .int (iI 3)) rfl
    obtain ⟨Y3, p3, e3, f3⟩ := e2.put (k := 34) (by decide) (by decide) (tag := 3) (v := .int (iI 0)) (by decide +kernel)
    have f13 : xfr Z Y3 (fun c => c = m) := (f1.tr f2).tr f3
    have tk : xTk Y3 m A.2.2.2.1 (xbm A.2.2.2.2) 0 3 (ob 32) (ob 33) false ob := ⟨_, e3, fun k hk => by rw [va_up_at, va_up_at, va_up_at, if_neg (by omega), if_neg (by omega), if_neg (by omega)], by rw [va_up_at, va_up_at, va_up_at, if_neg (by decide), if_neg (by decide), if_neg (by decide)]; exact h28, by rw [va_up_at, va_up_at, va_up_at, if_neg (by decide), if_neg (by decide), if_pos rfl]; rfl, by rw [va_up_at, va_up_at, if_neg (by decide), if_pos rfl], by rw [va_up_at, va_up_at, va_up_at, if_neg (by decide), if_neg (by decide), if_neg (by decide)], by rw [va_up_at, va_up_at, va_up_at, if_neg (by decide), if_neg (by decide), if_neg (by decide)], by rw [va_up_at, if_pos rfl]; rfl, (hMt.fr fZ (by omega)).fr f13 (by omega), (hMw.fr fZ (by omega)).fr f13 (by omega)⟩
    have R3 : xRo Y3 (m + 2) (0, fun _ => 0, fun _ => 0) := by
      refine ⟨⟨by decide, fun i hi => absurd hi (Nat.not_lt_zero i)⟩, g, (f13.2 _ (by omega)).trans hgz, fun k hk => ?_⟩
      rw [hgk k hk]
      unfold xrw
      try dsimp only
      rw [if_neg (Nat.not_lt_zero _), if_neg (Nat.not_lt_zero _)]
      repeat' split
      all_goals rfl
    obtain ⟨Y4, sp4, tok4, nu4, p4, h4, ht4, f4⟩ := g_goesOn (P := P) (gl := false) hg tk (by decide) (by decide) (Nat.zero_le _) hB (by symm; rw [decide_eq_false_iff_not]; intro q; omega)
    have y := hB.le hg nB (Nat.zero_le _)
    obtain ⟨Z', sp', tok', bg', nu', z1, z2, z3⟩ := l_text40 (P := P) hg 6 a (0, fun _ => 0, fun _ => 0) Y4 sp4 tok4 nu4 res rfl y h4 ht4 (R3.fr f4 (by omega)) hA
    refine ⟨Z', sp', tok', bg', nu', (((fZ.mono (fun c hc => Or.inr hc)).tr (f13.mono (fun c hc => Or.inl hc))).tr (f4.mono (fun c hc => Or.inl hc))).tr z1, ?_, z3⟩
    refine Eq.trans ?_ z2
    try dsimp only
    rw [e_X11_text_2, if_pos (by decide +kernel), p1, xob_some, p2, xob_some, p3, xob_some, e3.o, cond_true, p4, xob_some]
/-- the marks go -/
theorem l_marksC (H : xCl S x A) : ∃ T, xrun P m_X10_text 56 [(0, .ref x), (2, .int (iI ((0 : Nat) : Int)))] [] S = some (some (.int (iI (A.1.1 : Int))), T) ∧ xCl T x (A.1, A.2.1, (fun _ => none), A.2.2.2) ∧ xfr S T (xrg x 89) := by
  obtain ⟨⟨fr, hfr, hfr2⟩, ⟨f0, hf0, -⟩, hm⟩ := H.2.2.2.1
  refine xloopQ (run := fun v (Z : xS) => xrun P m_X10_text 56 [(0, .ref x), (2, .int (iI v))] [] Z)
    (Inv := fun v Z => xfr S Z (fun c => c = x + 17) ∧ ∃ g, Z.1 (x + 17) = some (.inr (2, (3, .inl g))) ∧ ∀ k, k < v → g k = iI 0)
    (fun o => ∃ T, o = some (some (.int (iI (A.1.1 : Int))), T) ∧ xCl T x (A.1, A.2.1, (fun _ => none), A.2.2.2) ∧ xfr S T (xrg x 89)) 0 3 (by decide) ?_ ?_ (s := S) ⟨xfr.rf, f0, hf0, fun k hk => absurd hk (Nat.not_lt_zero k)⟩
  · rintro v Z - hv ⟨fZ, g, hgz, hgk⟩
    right
    have c0 : xC0 Z x := (fZ.2 _ (by omega)).trans H.1
    have r3 : xfR Z x 10 3 = some (x + 17) := xfR_at c0 rfl
    obtain ⟨Z2, w1, w2, w3⟩ := xwrB_fr (v := iI 0) hgz (i := (v : Nat)) (by omega) (by omega) (by omega) nar_0
    refine ⟨Z2, ?_, fZ.tr w3, _, w2, fun k hk => ?_⟩
    · try dsimp only
      rw [e_X10_text_56, if_neg (by rw [iI_le (by omega) (by omega) (by omega) (by omega)]; omega), r3, xob_some, w1, xob_some, iI_suc]
    · show va_up g v (iI 0) k = iI 0
      rw [va_up_at]
      by_cases c : k = v
      · rw [if_pos c]
      · rw [if_neg c]; exact hgk k (by omega)
  · rintro Z ⟨fZ, g, hgz, hgk⟩
    have mk : xMk Z x (fun _ => none) := ⟨⟨fr, (fZ.2 _ (by omega)).trans hfr, hfr2⟩, ⟨g, hgz, fun j hj => hgk j hj⟩, fun j hj => ⟨(hm j hj).1.fr fZ (fun c hc => by unfold x3 at hc; omega), fun G hG => by cases hG⟩⟩
    obtain ⟨H1, f1⟩ := H.mk (fZ.mono (fun c hc => by unfold xrg; omega)) mk
    have hF : xFd Z (x + 1) A.1 := H1.2.1
    refine ⟨Z, ?_, H1, f1⟩
    try dsimp only
    rw [e_X10_text_56, if_pos (by decide +kernel), H1.r0, xob_some, hF.o, cond_true, d_size hF, xob_some]
theorem l_marksM {K : Nat} (e0 : xMo S m ob) (hR : xRo S (m + 1) F) (hb : ∃ f, S.1 (m + 6) = some (.inr (2, (3, .inl f)))) : ∃ T, xrun P m_X11_text 99 [(0, .ref m), (1, .int (iI ((0 : Nat) : Int)))] [] S = some (some (.int (iI (F.1 : Int))), T) ∧ (∃ g, T.1 (m + 6) = some (.inr (2, (3, .inl g))) ∧ ∀ k, k < 3 → g k = iI 0) ∧ xfr S T (fun c => c = m + 6) := by
  obtain ⟨f0, hf0⟩ := hb
  refine xloopQ (run := fun v (Z : xS) => xrun P m_X11_text 99 [(0, .ref m), (1, .int (iI v))] [] Z)
    (Inv := fun v Z => xfr S Z (fun c => c = m + 6) ∧ ∃ g, Z.1 (m + 6) = some (.inr (2, (3, .inl g))) ∧ ∀ k, k < v → g k = iI 0)
    (fun o => ∃ T, o = some (some (.int (iI (F.1 : Int))), T) ∧ (∃ g, T.1 (m + 6) = some (.inr (2, (3, .inl g))) ∧ ∀ k, k < 3 → g k = iI 0) ∧ xfr S T (fun c => c = m + 6)) 0 3 (by decide) ?_ ?_ (s := S) ⟨xfr.rf, f0, hf0, fun k hk => absurd hk (Nat.not_lt_zero k)⟩
  · rintro v Z - hv ⟨fZ, g, hgz, hgk⟩
    right
    have Zo := e0.fr fZ (by omega)
    obtain ⟨Z2, w1, w2, w3⟩ := xwrB_fr (v := iI 0) hgz (i := (v : Nat)) (by omega) (by omega) (by omega) nar_0
    refine ⟨Z2, ?_, fZ.tr w3, _, w2, fun k hk => ?_⟩
    · try dsimp only
      rw [e_X11_text_99, if_neg (by rw [iI_le (by omega) (by omega) (by omega) (by omega)]; omega), Zo.r7, xob_some, w1, xob_some, iI_suc]
    · show va_up g v (iI 0) k = iI 0
      rw [va_up_at]
      by_cases c : k = v
      · rw [if_pos c]
      · rw [if_neg c]; exact hgk k (by omega)
  · rintro Z ⟨fZ, g, hgz, hgk⟩
    have Zo := e0.fr fZ (by omega)
    have ZR := hR.fr fZ (by omega)
    refine ⟨Z, ?_, ⟨g, hgz, hgk⟩, fZ⟩
    try dsimp only
    rw [e_X11_text_99, if_pos (by decide +kernel), Zo.r1, xob_some, g_K ZR, xob_some]
theorem z_text (H : xCl S x A) (ht : xTs P S) (hz : ∀ k, 1 ≤ k → k ≤ 9 → P k < x) : ∃ z A', xKI P S x m_X10_text [] z A' ∧ ∀ S', xMl S' m A → xGI P S' m m_X11_text [] z A' := by
  have hT := H.2.2.2.2.2.1
  have n200 := hT.1
  have hg := xGv_of A.2.2.2.1 A.2.2.2.2
  obtain ⟨a, hB, -⟩ := xuo_at hg nB (Nat.zero_le A.2.2.2.1)
  obtain ⟨res, hA⟩ := xAl_ex hg 6 a (0, fun _ => 0, fun _ => 0) rfl
  have rc := d_readInto (P := P) H ht hz hg hB hA
  obtain ⟨T, fT, tT, reT, rc⟩ := rc
  have nn : A.2.2.2.1 - ((A.2.2.2.1 : Int)).toNat = 0 := by rw [Int.toNat_natCast, Nat.sub_self]
  have o5 : xisO S (x + 56) 5 = true := by
    obtain ⟨p, q, e⟩ := H.2.2.2.2.2.2.1
    exact xisO_at e
  cases res with
  | inl f =>
    obtain ⟨r1, r2, r3⟩ := rc
    obtain ⟨H1, f1⟩ := H.rea fT r3 reT
    have hT1 := H1.2.2.2.2.2.1
    obtain ⟨T2, p1, p2, p3⟩ := d_shorten (P := P) hT1 (z := A.2.2.2.1) (by omega) (by omega)
    rw [nn] at p2
    obtain ⟨H2, f2⟩ := H1.tape p3 p2
    refine ⟨iI (-4 - f), (A.1, A.2.1, A.2.2.1, 0, A.2.2.2.2), ⟨T2, xcI_of ((e_X10_text_0 P x S).trans ?_), H2, f1.tr f2⟩, fun S' M => ?_⟩
    · have ri : xcI P m_X5_readInto [.ref (x + 56), .ref (x + 4)] S = some (iI f, T) := xcI_of r1
      simp only [H.r6, H.r1, o5, ri, H1.r5, hT1.o, d_tsize hT1, p1, t_m1 (show f < 100000 by omega), iI_sub, xob_some, cond_true, t_10, t_00, ne_eq, not_true_eq_false, not_false_eq_true, if_true, if_false]
    · obtain ⟨ob, e0, h5, h28, hR, hBf, hMm, hMt, hMw, hMs⟩ := id M
      obtain ⟨Z, sp, tok, bg, nu, fZ, z1, z2, z3, z4⟩ := l_text0 (P := P) M e0 h28 hg hB hA
      obtain ⟨ob1, e1, k1, -, -, -, k32, -, k34, -, -⟩ := id z2
      obtain ⟨Z2, q1, q2, q3⟩ := e1.put (k := 28) (by decide) (by decide) (tag := 0) (v := .int (iI 0)) rfl
      have q32 : xfI Z2 m 11 32 = some (iI f) := q2.i (by decide) (by rw [va_up_at, if_neg (by decide)]; exact k32)
      have q34 : xfI Z2 m 11 34 = some (iI (xb true)) := q2.i (by decide) (by rw [va_up_at, if_neg (by decide)]; exact k34)
      have ff : xfr S' Z2 (fun c => c = m ∨ c = m + 2) := fZ.tr (q3.mono (fun c hc => Or.inl hc))
      refine ⟨Z2, xcI_of ((e_X11_text_0 P m S').trans (z1.trans ?_)), ⟨_, q2, ?_, ?_, hR.fr ff (by omega), hBf.fr ff (by omega), hMm.fr ff (by omega) (by omega), ⟨Nat.zero_le _, ?_⟩, hMw.fr ff (by omega), ?_⟩, ff.mono (fun c hc => by unfold xrg; omega)⟩
      · rw [e_X11_text_40]
        simp only [z2.f34, t_xb1, q1, q34, q32, iI_sub, xob_some, cond_true, t_10, t_00, ne_eq, not_true_eq_false, not_false_eq_true, if_true, if_false]
      · rw [va_up_at, if_neg (by decide), k1 5 (by decide)]
        exact h5
      · rw [va_up_at, if_pos rfl]
        rfl
      · obtain ⟨-, w, w1, -⟩ := hMt
        exact ⟨w, (ff.2 _ (by omega)).trans w1, fun i hi => absurd hi (Nat.not_lt_zero i)⟩
      · obtain ⟨-, g2, g3, g4, g5, g6, g7, g8, g9, g10, g11, g12⟩ := hMs
        exact ⟨z4.fr q3 (by omega), g2.fr ff (by omega), g3.fr ff (by omega), g4.fr ff (by omega), g5.fr ff (by omega), g6.fr ff (by omega), g7.fr ff (by omega), g8.fr ff (by omega), g9.fr ff (by omega), g10.fr ff (by omega), g11.fr ff (by omega), g12.fr ff (by omega)⟩
  | inr F =>
    obtain ⟨r1, r2⟩ := rc
    obtain ⟨H1, f1⟩ := H.rea fT r2.a reT
    have hT1 := H1.2.2.2.2.2.1
    obtain ⟨T2, p1, p2, p3⟩ := d_shorten (P := P) hT1 (z := A.2.2.2.1) (by omega) (by omega)
    rw [nn] at p2
    obtain ⟨H2, f2⟩ := H1.tape p3 p2
    have hF2 : xFd T2 (x + 1) A.1 := H2.2.1
    have r2' : xFd T2 (x + 4) F := r2.fr p3 (fun c hc => by unfold x3 at hc; unfold xrg; omega)
    obtain ⟨-, fa, ga, hfs, -⟩ := id hF2
    obtain ⟨T3, q1, q2, q3⟩ := d_become (P := P) (Or.inl (show x + 1 + 2 < x + 4 by omega)) hfs r2'
    obtain ⟨H3, f3⟩ := H2.now q3 q2
    obtain ⟨T4, w1, w2, w3⟩ := d_hclear (P := P) H3.hi
    obtain ⟨H4, f4⟩ := H3.hist w3 w2
    obtain ⟨T5, y1, H5, f5⟩ := l_marksC (P := P) H4
    refine ⟨iI F.1, (F, [], (fun _ => none), 0, A.2.2.2.2), ⟨T5, xcI_of ((e_X10_text_0 P x S).trans ?_), H5, (((f1.tr f2).tr f3).tr f4).tr f5⟩, fun S' M => ?_⟩
    · have ri : xcI P m_X5_readInto [.ref (x + 56), .ref (x + 4)] S = some (iI (-1), T) := xcI_of r1
      simp only [H.r6, H.r1, o5, ri, H1.r5, hT1.o, d_tsize hT1, p1, H2.r0, H2.r1, hF2.o, q1, H3.r4, H3.ho, w1, xob_some, cond_true, t_10, t_00, ne_eq, not_true_eq_false, not_false_eq_true, if_true, if_false]
      exact y1
    · obtain ⟨ob, e0, h5, h28, hR, hBf, hMm, hMt, hMw, hMs⟩ := id M
      obtain ⟨Z, sp, tok, bg, nu, fZ, z1, z2, z3⟩ := l_text0 (P := P) M e0 h28 hg hB hA
      obtain ⟨ob1, e1, k1, -, -, -, -, -, k34, -, -⟩ := id z2
      obtain ⟨Z2, q1, q2, q3⟩ := e1.put (k := 28) (by decide) (by decide) (tag := 0) (v := .int (iI 0)) rfl
      have q34 : xfI Z2 m 11 34 = some (iI (xb false)) := q2.i (by decide) (by rw [va_up_at, if_neg (by decide)]; exact k34)
      have ff : xfr S' Z2 (fun c => c = m ∨ c = m + 2) := fZ.tr (q3.mono (fun c hc => Or.inl hc))
      have R2 := z3.fr q3 (by omega)
      obtain ⟨Z3, t1, t2, t3⟩ := g_copyRow (P := P) (show m + 2 ≠ m + 1 by omega) R2 (hR.fr ff (by omega)).ir
      have e3 := q2.fr t3 (by omega)
      obtain ⟨Z4, u1, u2, u3⟩ := e3.put (k := 5) (by decide) (by decide) (tag := 0) (v := .int (iI 0)) rfl
      have f24 : xfr S' Z4 (fun c => c = m ∨ c = m + 1 ∨ c = m + 2) := ((ff.mono (fun c hc => by omega)).tr (t3.mono (fun c hc => Or.inr (Or.inl hc)))).tr (u3.mono (fun c hc => Or.inl hc))
      obtain ⟨⟨fm, hfm, -⟩, f6, hf6, -⟩ := hMm
      obtain ⟨Z5, v1, ⟨g, v2, v3⟩, v4⟩ := l_marksM (P := P) (K := 0) u2 (t2.fr u3 (by omega)) ⟨f6, (f24.2 _ (by omega)).trans hf6⟩
      have f5 : xfr S' Z5 (fun c => c = m ∨ c = m + 1 ∨ c = m + 2 ∨ c = m + 6) := (f24.mono (fun c hc => by omega)).tr (v4.mono (fun c hc => Or.inr (Or.inr (Or.inr hc))))
      refine ⟨Z5, xcI_of ((e_X11_text_0 P m S').trans (z1.trans ?_)), ⟨_, u2.fr v4 (by omega), ?_, ?_, (t2.fr u3 (by omega)).fr v4 (by omega), ⟨Nat.zero_le _, ?_⟩, ⟨⟨fm, (f5.2 _ (by omega)).trans hfm, fun j hj G hG => by cases hG⟩, g, v2, fun j hj => v3 j hj⟩, ⟨Nat.zero_le _, ?_⟩, hMw.fr f5 (by omega), ?_⟩, f5.mono (fun c hc => by unfold xrg; omega)⟩
      · rw [e_X11_text_40]
        simp only [z2.f34, z2.f31, t_xb0, t_00, q1, q34, q2.r2, q2.r1, t1, u1, xob_some, cond_true, t_10, t_00, ne_eq, not_true_eq_false, not_false_eq_true, if_true, if_false]
        exact v1
      · rw [va_up_at, if_pos rfl]
        rfl
      · rw [va_up_at, va_up_at, if_neg (by decide), if_pos rfl]
        rfl
      · obtain ⟨-, w, w1, -⟩ := hBf
        exact ⟨w, (f5.2 _ (by omega)).trans w1, fun i hi => absurd hi (Nat.not_lt_zero i)⟩
      · obtain ⟨-, w, w1, -⟩ := hMt
        exact ⟨w, (f5.2 _ (by omega)).trans w1, fun i hi => absurd hi (Nat.not_lt_zero i)⟩
      · obtain ⟨-, g2, g3, g4, g5, g6, g7, g8, g9, g10, g11, g12⟩ := hMs
        exact ⟨((R2.ir.fr t3 (by omega)).fr u3 (by omega)).fr v4 (by omega), g2.fr f5 (by omega), g3.fr f5 (by omega), g4.fr f5 (by omega), g5.fr f5 (by omega), g6.fr f5 (by omega), g7.fr f5 (by omega), g8.fr f5 (by omega), g9.fr f5 (by omega), g10.fr f5 (by omega), g11.fr f5 (by omega), g12.fr f5 (by omega)⟩
end TXT
