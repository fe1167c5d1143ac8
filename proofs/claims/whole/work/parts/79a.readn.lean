-- deps: 79.readm
/-! reading: the reference's runs -/
section RN2
variable {P : Nat → Nat} {S S0 T : xS} {x m n sp a : Nat} {A : xAb} {F : xF} {b : Nat → Int32} {tok : Int} {bg nu : Value} {wr gl : Bool} {ob ob0 : Nat → Value}
/-- a row under way: the next one's speed and start stand there -/
def xRk (S : xS) (a : Nat) (F : xF) (v s : Int) : Prop := xFok F ∧ F.1 < 6 ∧ ∃ f, S.1 a = some (.inr (0, (13, .inl f))) ∧ ∀ k, k < 13 → f k = if k = 1 + F.1 then iI v else if k = 7 + F.1 then iI s else iI (xrw F k)
theorem xRk.fr {B : Nat → Prop} {v s : Int} (h : xRk S a F v s) (hf : xfr S T B) (h0 : ¬ B a) : xRk T a F v s := by
  obtain ⟨ok, hk, f, e, h2⟩ := h
  exact ⟨ok, hk, f, (hf.2 _ h0).trans e, h2⟩
theorem xRk.ir {v s : Int} (h : xRk S a F v s) : xIr S a 13 := by
  obtain ⟨ok, hk, f, e, h2⟩ := h
  exact ⟨f, e⟩
theorem xRk.of (h : xRo S a F) (hk : F.1 < 6) : xRk S a F 0 0 := by
  obtain ⟨ok, f, e, h2⟩ := h
  refine ⟨ok, hk, f, e, fun k hk2 => ?_⟩
  rw [h2 k hk2]
  unfold xrw
  by_cases c1 : k = 1 + F.1
  · rw [if_pos c1, if_neg (by omega), if_pos (by omega), if_neg (by omega)]
  · rw [if_neg c1]
    by_cases c2 : k = 7 + F.1
    · rw [if_pos c2, if_neg (by omega), if_neg (by omega), if_neg (by omega)]
    · rw [if_neg c2]
theorem xRk.k {v s : Int} (h : xRk S a F v s) : xrdI S a (iI 0) = some (iI F.1) := by
  obtain ⟨ok, hk, f, e, h2⟩ := h
  rw [xrdI_at e (by omega) (by omega) (by omega)]
  show some (f 0) = _
  rw [h2 0 (by decide), if_neg (by omega), if_neg (by omega), xrw_0]
theorem xRk.ps {v s : Int} (h : xRk S a F v s) (v' : Int) : ∃ T, xwrI S a (iI 1 + iI F.1) (iI v') = some T ∧ xRk T a F v' s ∧ xfr S T (fun c => c = a) := by
  obtain ⟨ok, hk, f, e, h2⟩ := h
  obtain ⟨T, u1, u2, u3⟩ := xwrI_fr (v := iI v') e (i := (1 + F.1 : Nat)) (by omega) (by omega) (by omega)
  have x1 : iI 1 + iI (F.1 : Int) = iI ((1 + F.1 : Nat) : Int) := by rw [iI_add]; congr 1
  refine ⟨T, by rw [x1]; exact u1, ⟨ok, hk, _, u2, fun k hk2 => ?_⟩, u3⟩
  show va_up f (1 + F.1) (iI v') k = _
  rw [va_up_at]
  by_cases c : k = 1 + F.1
  · rw [if_pos c, if_pos c]
  · rw [if_neg c, if_neg c, h2 k hk2, if_neg c]
theorem xRk.st {v s : Int} (h : xRk S a F v s) (s' : Int) : ∃ T, xwrI S a (iI 7 + iI F.1) (iI s') = some T ∧ xRk T a F v s' ∧ xfr S T (fun c => c = a) := by
  obtain ⟨ok, hk, f, e, h2⟩ := h
  obtain ⟨T, u1, u2, u3⟩ := xwrI_fr (v := iI s') e (i := (7 + F.1 : Nat)) (by omega) (by omega) (by omega)
  have x1 : iI 7 + iI (F.1 : Int) = iI ((7 + F.1 : Nat) : Int) := by rw [iI_add]; congr 1
  refine ⟨T, by rw [x1]; exact u1, ⟨ok, hk, _, u2, fun k hk2 => ?_⟩, u3⟩
  show va_up f (7 + F.1) (iI s') k = _
  rw [va_up_at]
  by_cases c : k = 7 + F.1
  · rw [if_pos c, if_neg (by omega), if_pos c]
  · rw [if_neg c, h2 k hk2, if_neg c, if_neg c]
theorem xRk.done {v s : Int} (h : xRk S a F v s) (v0 : 0 ≤ v) (v1 : v ≤ 40) (s0 : 0 ≤ s) (s1 : s < 12) : ∃ T, xwrI S a (iI 0) (iI (F.1 + 1 : Nat)) = some T ∧ xRo T a (F.1 + 1, va_up F.2.1 F.1 v, va_up F.2.2 F.1 s) ∧ xfr S T (fun c => c = a) := by
  obtain ⟨ok, hk, f, e, h2⟩ := h
  obtain ⟨T, u1, u2, u3⟩ := xwrI_fr (v := iI (F.1 + 1 : Nat)) e (i := 0) (by omega) (by omega) (by omega)
  refine ⟨T, u1, ⟨⟨by show F.1 + 1 ≤ 6; omega, fun i hi => ?_⟩, _, u2, fun k hk2 => ?_⟩, u3⟩
  · dsimp only at hi ⊢
    rw [va_up_at, va_up_at]
    by_cases c : i = F.1
    · rw [if_pos c, if_pos c]; omega
    · rw [if_neg c, if_neg c]; exact ok.2 i (by omega)
  · show va_up f 0 (iI (F.1 + 1 : Nat)) k = _
    rw [va_up_at]
    unfold xrw
    try dsimp only
    by_cases c0 : k = 0
    · rw [if_pos c0, if_pos c0]
    · rw [if_neg c0, if_neg c0, h2 k hk2]
      unfold xrw
      rw [if_neg c0]
      by_cases c1 : k < 7
      · rw [if_pos c1, if_pos c1, va_up_at]
        by_cases c2 : k = 1 + F.1
        · rw [if_pos c2, if_pos (by omega), if_pos (by omega)]
        · rw [if_neg c2, if_neg (by omega), if_neg (show ¬ k - 1 = F.1 by omega)]
          by_cases c3 : k - 1 < F.1
          · rw [if_pos c3, if_pos (by omega)]
          · rw [if_neg c3, if_neg (by omega)]
      · rw [if_neg c1, if_neg c1, va_up_at, if_neg (by omega)]
        by_cases c2 : k = 7 + F.1
        · rw [if_pos c2, if_pos (by omega), if_pos (by omega)]
        · rw [if_neg c2, if_neg (show ¬ k - 7 = F.1 by omega)]
          by_cases c3 : k - 7 < F.1
          · rw [if_pos c3, if_pos (by omega)]
          · rw [if_neg c3, if_neg (by omega)]
/-- the token by its first byte -/
theorem xTok.t1 {g : Nat → Int} (h : xTok g a gl tok sp nu) : tok = 1 ↔ cL (g a) ∧ gl = false := by
  rcases h with ⟨e1, e2, -⟩ | ⟨e1, -, e2⟩ | ⟨e1, -, e2, -⟩ | ⟨-, e1, -, -, e2⟩
  · constructor
    · intro q; omega
    · intro q; omega
  · rcases e2 with ⟨e2, e3⟩ | ⟨e2, e3⟩
    · constructor
      · intro q; omega
      · intro q; rw [e2] at q; cases q.2
    · exact ⟨fun _ => ⟨e1, e2⟩, fun _ => e3⟩
  · constructor
    · intro q; omega
    · intro q; omega
  · constructor
    · intro q; omega
    · intro q; exact absurd q.1 e1
theorem xTok.t3 {g : Nat → Int} (h : xTok g a gl tok sp nu) : (tok = 3 ↔ g a = 59) ∧ (tok = 3 → sp = a + 1) := by
  rcases h with ⟨e1, e2, -⟩ | ⟨e1, -, e2⟩ | ⟨e1, -, e2, -⟩ | ⟨-, e1, -, e3, e2⟩
  · exact ⟨⟨fun q => by omega, fun q => by omega⟩, fun q => by omega⟩
  · exact ⟨⟨fun q => by omega, fun q => by omega⟩, fun q => by omega⟩
  · exact ⟨⟨fun q => by omega, fun q => by omega⟩, fun q => by omega⟩
  · exact ⟨⟨fun q => by omega, fun q => by omega⟩, fun q => e3⟩
theorem xTok.t0 {g : Nat → Int} (h : xTok g a gl tok sp nu) : tok = 0 ↔ g a = -1 := by
  rcases h with ⟨e1, e2, -⟩ | ⟨e1, -, e2⟩ | ⟨e1, -, e2, -⟩ | ⟨e4, e1, -, e3, e2⟩
  · exact ⟨fun _ => e1, fun _ => e2⟩
  · exact ⟨fun q => by omega, fun q => by omega⟩
  · exact ⟨fun q => by omega, fun q => by omega⟩
  · exact ⟨fun q => by omega, fun q => by omega⟩
theorem xwrd.c {g : Nat → Int} {l : List Int} (h : xwrd l g a) (h0 : 0 < l.length) (hl : cL (l.getD 0 0)) : cL (g a) := by
  have := h.1 0 h0
  rw [Nat.add_zero] at this
  rw [this]
  exact hl
/-- one run is read -/
theorem g_readsOne (hg : xGv n (xgv n b)) (h : xTk S m n b sp tok (.int (iI a)) nu false ob0) (ht : xTok (xgv n b) a false tok sp nu) (ha : a ≤ n) (hR : xRo S (m + 2) F) {out : Nat ⊕ (Nat × Int × Int)} (hr : xRn (xgv n b) a F.1 out) :
    (∀ f, out = .inl f → ∃ T sp' tok' nu', xcV P m_X11_readsOne [.ref m] S = some T ∧ xTk T m n b sp' tok' (.int (iI f)) nu' true ob0 ∧ f ≤ n ∧ xIr T (m + 2) 13 ∧ xfr S T (fun c => c = m ∨ c = m + 2)) ∧
    (∀ p v s, out = .inr (p, v, s) → ∀ a7, xuo cB (xgv n b) p a7 → ∃ T sp' tok' nu', xcV P m_X11_readsOne [.ref m] S = some T ∧ xTk T m n b sp' tok' (.int (iI a7)) nu' false ob0 ∧ xTok (xgv n b) a7 false tok' sp' nu' ∧ xRo T (m + 2) (F.1 + 1, va_up F.2.1 F.1 v, va_up F.2.2 F.1 s) ∧ xfr S T (fun c => c = m ∨ c = m + 2)) := by
  have n200 := h.n200
  have hk6 := hR.1.1
  have fm : ∀ {Y Z : xS}, xfr Y Z (fun d => d = m) → xfr Y Z (fun c => c = m ∨ c = m + 2) := fun hf => hf.mono (fun c hc => Or.inl hc)
  have fn : ∀ {Y Z : xS}, xfr Y Z (fun d => d = m + 2) → xfr Y Z (fun c => c = m ∨ c = m + 2) := fun hf => hf.mono (fun c hc => Or.inr hc)
  have tw := g_takes (P := P) (w := 0) (r := 0) (l := [114, 117, 110]) hg h ht ha (by decide) (by decide) (by decide) (by decide) (by decide) (by decide)
  have tw0 : xcI P m_X11_takesWord [.ref m, .int (iI 0)] S = xcI P m_X11_takesWord [.ref m, .int (iI ((0 : Nat) : Int))] S := rfl
  by_cases cw : xwrd [114, 117, 110] (xgv n b) a
  · have le3 := xwrd.le hg cw (by decide) (by decide)
    have t1 : tok = 1 := ht.t1.mpr ⟨cw.c (by decide) (by decide), rfl⟩
    obtain ⟨es, w⟩ := tw.1 ⟨t1, cw⟩
    obtain ⟨a1, hB1, y1⟩ := xuo_at hg nB (show a + 3 ≤ n from le3)
    obtain ⟨T1, sp1, tok1, nu1, p1, h1, ht1, f1⟩ := w a1 hB1
    have hR1 : xRo T1 (m + 2) F := hR.fr f1 (by omega)
    by_cases c6 : F.1 < 6
    · -- a number
      have k1 := xRk.of hR1 c6
      have c6' : (iI (F.1 : Int) = iI 6) = False := t_e (by omega) (by omega) (by omega) (by omega) (by omega)
      obtain ⟨a2, hD1', y2⟩ := xuo_at hg nD y1
      obtain ⟨d, rfl⟩ : ∃ d, a2 = a1 + d := ⟨a2 - a1, by have := hD1'.1; omega⟩
      have hD1 := hD1'
      have vb := xvl_bd hD1
      have nn := g_needs (P := P) hg h1 ht1 (by have := hB1.1; exact this) y1 (most := 40) (by decide) (by decide) hD1
      rcases hr with ⟨c, -⟩ | ⟨-, b1, d', hB1', hD1'', hr⟩
      · exact absurd ⟨cw, c6⟩ c
      · have e1 := hB1'.uq hB1
        subst e1
        have e2 := hD1''.uq hD1
        have e2' : d' = d := by omega
        subst e2'
        rcases hr with ⟨c1, rfl⟩ | ⟨c1, a3, hB3, hr⟩
        · -- that can't stand
          refine ⟨fun f q => ?_, fun p v s q => by cases q⟩
          cases q
          obtain ⟨T2, p2, h2, f2⟩ := nn.2 c1
          obtain ⟨T3, p3, k3, f3⟩ := (k1.fr f2 (by omega)).ps 0
          have h3 := h2.fr f3 (by omega) (by omega) (by omega)
          refine ⟨T3, _, _, _, xcV_of ((e_X11_readsOne_0 P m S).trans ?_), h3, y1, k3.ir, ((fm f1).tr (fm f2)).tr (fn f3)⟩
          simp only [h.f32, h.o, tw0, p1, t_10, h1.r2, k1.k, c6', h1.o, p2, p3, h3.o, g_takesWrong h3, h3.f34, t_00, t_xb1, xob_some, cond_true, t_10, t_00, ne_eq, not_true_eq_false, not_false_eq_true, if_true, if_false]
        · -- behind the number
          obtain ⟨T2, sp2, tok2, nu2, p2, h2, ht2, f2⟩ := nn.1 c1 a3 hB3
          have y3 := hB3.le hg nB y2
          obtain ⟨T3, p3, k3, f3⟩ := (k1.fr f2 (by omega)).ps (xvl (xgv n b) b1 d')
          have h3 := h2.fr f3 (by omega) (by omega) (by omega)
          have f123 := ((fm f1).tr (fm f2)).tr (fn f3)
          have tw2 := g_takes (P := P) (w := 1) (r := 4) (l := [102, 114, 111, 109]) hg h3 ht2 y3 (by decide) (by decide) (by decide) (by decide) (by decide) (by decide)
          have tw1 : ∀ Z, xcI P m_X11_takesWord [.ref m, .int (iI 1)] Z = xcI P m_X11_takesWord [.ref m, .int (iI ((1 : Nat) : Int))] Z := fun _ => rfl
          -- no word from: the end of the run
          have noFrom : ¬ (tok2 = 1 ∧ xwrd [102, 114, 111, 109] (xgv n b) a3) → (xgv n b a3 ≠ 59 → ∃ T sp' tok' nu', xcV P m_X11_readsOne [.ref m] S = some T ∧ xTk T m n b sp' tok' (.int (iI a3)) nu' true ob0 ∧ a3 ≤ n ∧ xIr T (m + 2) 13 ∧ xfr S T (fun c => c = m ∨ c = m + 2)) ∧ (xgv n b a3 = 59 → ∀ a7, xuo cB (xgv n b) (a3 + 1) a7 → ∃ T sp' tok' nu', xcV P m_X11_readsOne [.ref m] S = some T ∧ xTk T m n b sp' tok' (.int (iI a7)) nu' false ob0 ∧ xTok (xgv n b) a7 false tok' sp' nu' ∧ xRo T (m + 2) (F.1 + 1, va_up F.2.1 F.1 (xvl (xgv n b) b1 d'), va_up F.2.2 F.1 0) ∧ xfr S T (fun c => c = m ∨ c = m + 2)) := by
            intro cn
            have p4 := tw2.2 cn
            obtain ⟨T4, p5, R4, f4⟩ := k3.done vb.1 c1.2.2.2 (by decide) (by decide)
            have h4 := h3.fr f4 (by omega) (by omega) (by omega)
            have tb := ht2.tb
            constructor
            · intro c59
              have ct : (iI tok2 = iI 3) = False := t_e (by omega) (by omega) (by omega) (by omega) (fun q => c59 (ht2.t3.1.mp q))
              obtain ⟨T5, p6, h5, f5⟩ := h4.p34
              refine ⟨T5, _, _, _, xcV_of ((e_X11_readsOne_0 P m S).trans ?_), h5, y3, (R4.fr f5 (by omega)).ir, (f123.tr (fn f4)).tr (fm f5)⟩
              simp only [h.f32, h.o, tw0, p1, t_10, h1.r2, k1.k, c6', h1.o, p2, p3, h3.o, tw1, p4, h3.f34, t_00, t_xb0, h3.r2, k3.k, iI_suc, p5, h4.f31, ct, p6, xob_some, cond_true, t_10, t_00, ne_eq, not_true_eq_false, not_false_eq_true, if_true, if_false]
            · intro c59 a7 hB7
              have ct : tok2 = 3 := ht2.t3.1.mpr c59
              have es2 := ht2.t3.2 ct
              obtain ⟨T5, sp5, tok5, nu5, p6, h5, ht5, f5⟩ := g_goesOn (P := P) (gl := false) hg h4 tb.1 tb.2 (by have := (ht2.le hg y3).2; exact this) (by rw [es2]; exact hB7) (by symm; rw [decide_eq_false_iff_not]; intro q; omega)
              refine ⟨T5, sp5, tok5, nu5, xcV_of ((e_X11_readsOne_0 P m S).trans ?_), h5, ht5, R4.fr f5 (by omega), (f123.tr (fn f4)).tr (fm f5)⟩
              simp only [h.f32, h.o, tw0, p1, t_10, h1.r2, k1.k, c6', h1.o, p2, p3, h3.o, tw1, p4, h3.f34, t_00, t_xb0, h3.r2, k3.k, iI_suc, p5, h4.f31, ct, h4.o, p6, xob_some, cond_true, t_10, t_00, ne_eq, not_true_eq_false, not_false_eq_true, if_true, if_false]
          rcases hr with ⟨c2, c3, rfl⟩ | ⟨c2, c3, a4, d4, hB4, hD4, hr⟩ | ⟨c2, hE⟩
          · have := noFrom (fun q => by
              have t := ht2.t1.mp q.1
              refine c3 ⟨?_, q.2⟩
              have h1 := t.2
              rw [decide_eq_false_iff_not] at h1
              have := hB3.1
              omega)
            refine ⟨fun f q => ?_, fun p v s q => by cases q⟩
            cases q
            exact this.1 (by omega)
          · -- a start
            have t2 : tok2 = 1 := ht2.t1.mpr ⟨c2, by rw [decide_eq_false_iff_not]; omega⟩
            have le4 := xwrd.le hg c3.2 (by decide) (by decide)
            obtain ⟨es3, w2⟩ := tw2.1 ⟨t2, c3.2⟩
            obtain ⟨T4, sp4, tok4, nu4, p4, h4, ht4, f4⟩ := w2 a4 hB4
            have k4 := k3.fr f4 (by omega)
            have y4 := hB4.le hg nB le4
            have y5 := hD4.le hg nD y4
            have vb4 := xvl_bd hD4
            have nn4 := g_needs (P := P) hg h4 ht4 (by have := hB4.1; exact this) y4 (most := 11) (by decide) (by decide) hD4
            have f1234 := f123.tr (fm f4)
            rcases hr with ⟨c4, rfl⟩ | ⟨c4, e, hB5, hE⟩
            · refine ⟨fun f q => ?_, fun p v s q => by cases q⟩
              cases q
              obtain ⟨T5, p5, h5, f5⟩ := nn4.2 c4
              obtain ⟨T6, p6, k6, f6⟩ := (k4.fr f5 (by omega)).st 0
              have h6 := h5.fr f6 (by omega) (by omega) (by omega)
              refine ⟨T6, _, _, _, xcV_of ((e_X11_readsOne_0 P m S).trans ?_), h6, y4, k6.ir, (f1234.tr (fm f5)).tr (fn f6)⟩
              simp only [h.f32, h.o, tw0, p1, t_10, h1.r2, k1.k, c6', h1.o, p2, p3, h3.o, tw1, p4, h4.r2, k4.k, h4.o, p5, p6, h6.f34, t_xb1, xob_some, cond_true, t_10, t_00, ne_eq, not_true_eq_false, not_false_eq_true, if_true, if_false]
            · have ye := hB5.le hg nB y5
              obtain ⟨T5, sp5, tok5, nu5, p5, h5, ht5, f5⟩ := nn4.1 c4 e hB5
              obtain ⟨T6, p6, k6, f6⟩ := (k4.fr f5 (by omega)).st (xvl (xgv n b) a4 d4)
              have h6 := h5.fr f6 (by omega) (by omega) (by omega)
              obtain ⟨T7, p7, R7, f7⟩ := k6.done vb.1 c1.2.2.2 vb4.1 (by have := c4.2.2.2; omega)
              have h7 := h6.fr f7 (by omega) (by omega) (by omega)
              have tb := ht5.tb
              have ff := ((f1234.tr (fm f5)).tr (fn f6)).tr (fn f7)
              rcases hE with ⟨ce, rfl⟩ | ⟨ce, rfl⟩
              · refine ⟨fun f q => ?_, fun p v s q => by cases q⟩
                cases q
                have ct : (iI tok5 = iI 3) = False := t_e (by omega) (by omega) (by omega) (by omega) (fun q => ce (ht5.t3.1.mp q))
                obtain ⟨T8, p8, h8, f8⟩ := h7.p34
                refine ⟨T8, _, _, _, xcV_of ((e_X11_readsOne_0 P m S).trans ?_), h8, ye, (R7.fr f8 (by omega)).ir, ff.tr (fm f8)⟩
                simp only [h.f32, h.o, tw0, p1, t_10, h1.r2, k1.k, c6', h1.o, p2, p3, h3.o, tw1, p4, h4.r2, k4.k, h4.o, p5, p6, h6.f34, t_xb0, h6.r2, k6.k, iI_suc, p7, h7.f31, ct, p8, xob_some, cond_true, t_10, t_00, ne_eq, not_true_eq_false, not_false_eq_true, if_true, if_false]
              · refine ⟨fun f q => (by cases q), fun p v s q a7 hB7 => ?_⟩
                cases q
                have ct : tok5 = 3 := ht5.t3.1.mpr ce
                have es5 := ht5.t3.2 ct
                obtain ⟨T8, sp8, tok8, nu8, p8, h8, ht8, f8⟩ := g_goesOn (P := P) (gl := false) hg h7 tb.1 tb.2 (by have := (ht5.le hg ye).2; exact this) (by rw [es5]; exact hB7) (by symm; rw [decide_eq_false_iff_not]; intro q; omega)
                refine ⟨T8, sp8, tok8, nu8, xcV_of ((e_X11_readsOne_0 P m S).trans ?_), h8, ht8, R7.fr f8 (by omega), ff.tr (fm f8)⟩
                simp only [h.f32, h.o, tw0, p1, t_10, h1.r2, k1.k, c6', h1.o, p2, p3, h3.o, tw1, p4, h4.r2, k4.k, h4.o, p5, p6, h6.f34, t_xb0, h6.r2, k6.k, iI_suc, p7, h7.f31, ct, h7.o, p8, xob_some, cond_true, t_10, t_00, ne_eq, not_true_eq_false, not_false_eq_true, if_true, if_false]
          · have := noFrom (fun q => c2 (q.2.c (by decide) (by decide)))
            rcases hE with ⟨ce, rfl⟩ | ⟨ce, rfl⟩
            · refine ⟨fun f q => ?_, fun p v s q => by cases q⟩
              cases q
              exact this.1 ce
            · refine ⟨fun f q => (by cases q), fun p v s q a7 hB7 => ?_⟩
              cases q
              exact this.2 ce a7 hB7
    · -- no room
      have c66 : F.1 = 6 := by omega
      rcases hr with ⟨c, rfl⟩ | ⟨c, -⟩
      · refine ⟨fun f q => ?_, fun p v s q => by cases q⟩
        cases q
        obtain ⟨T2, p2, h2, f2⟩ := h1.p32 (a : Int)
        obtain ⟨T3, p3, h3, f3⟩ := h2.p34
        refine ⟨T3, _, _, _, xcV_of ((e_X11_readsOne_0 P m S).trans ?_), h3, ha, ((hR1.fr f2 (by omega)).fr f3 (by omega)).ir, ((fm f1).tr (fm f2)).tr (fm f3)⟩
        have k6 : xrdI T1 (m + 2) (iI 0) = some (iI 6) := by rw [g_K hR1, c66]; rfl
        simp only [h.f32, h.o, tw0, p1, t_10, h1.r2, k6, p2, p3, xob_some, cond_true, t_10, t_00, ne_eq, not_true_eq_false, not_false_eq_true, if_true, if_false]
      · exact absurd c.2 c6
  · -- no word run
    have p1 := tw.2 (fun q => cw q.2)
    rcases hr with ⟨c, rfl⟩ | ⟨c, -⟩
    · refine ⟨fun f q => ?_, fun p v s q => by cases q⟩
      cases q
      obtain ⟨T3, p3, h3, f3⟩ := h.p34
      refine ⟨T3, _, _, _, xcV_of ((e_X11_readsOne_0 P m S).trans ?_), h3, ha, (hR.fr f3 (by omega)).ir, fm f3⟩
      simp only [h.f32, h.o, tw0, p1, t_00, p3, xob_some, cond_true, t_10, t_00, ne_eq, not_true_eq_false, not_false_eq_true, if_true, if_false]
    · exact absurd c.1 cw
end RN2
