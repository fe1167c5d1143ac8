-- deps: 70.write
/-! texts: how the reference writes them -/
def xTw (S0 S : xS) (m : Nat) (ob0 : Nat → Value) (ts : List Int32) : Prop := ∃ ob f, xMo S m ob ∧ (∀ k, k ≠ 26 → ob k = ob0 k) ∧ ob 26 = .int (iI (ts.length : Nat)) ∧ S.1 (m + 16) = some (.inr (0, (16000, .inl f))) ∧ (∀ i (h : i < ts.length), f i = ts[i]) ∧ xfr S0 S (fun c => c = m ∨ c = m + 16)
/-- where a word begins -/
def xwf : Nat → Nat → Nat → Option Nat
  | _, r, 0 => some r
  | 0, _, _ + 1 => none
  | f + 1, r, o + 1 => if xwds.getD r 0 = 0 then xwf f (r + 1) o else xwf f (r + 1) (o + 1)
section MW
variable {P : Nat → Nat} {S S0 T : xS} {x m : Nat} {A : xAb} {ob ob0 : Nat → Value} {ts : List Int32}
theorem xTw.o (h : xTw S0 S m ob0 ts) : xisO S m 11 = true := by
  obtain ⟨ob, f, e0, -⟩ := h
  exact e0.o
theorem g_beginText (h : xMo S m ob) (hf : xIr S (m + 16) 16000) : ∃ T, xpf S m 11 26 0 (.int (iI 0)) = some T ∧ xTw S T m ob [] := by
  obtain ⟨f, e⟩ := hf
  obtain ⟨T, p1, p2, p3⟩ := h.put (k := 26) (by decide) (by decide) (tag := 0) (v := .int (iI 0)) rfl
  exact ⟨T, p1, _, f, p2, fun k hk => by rw [va_up_at, if_neg hk], by rw [va_up_at, if_pos rfl]; rfl, (p3.2 _ (by omega)).trans e, fun i hi => absurd hi (Nat.not_lt_zero i), p3.mono (fun b hb => Or.inl hb)⟩
theorem g_sign (h : xTw S0 S m ob0 ts) (hl : ts.length < 16000) (c : Int32) : ∃ T, xcV P m_X11_writesSign [.ref m, .int c] S = some T ∧ xTw S0 T m ob0 (ts ++ [c]) := by
  obtain ⟨ob, f, e0, hk, h26, hf, hi, fr⟩ := h
  obtain ⟨S1, w1, w2, w3⟩ := xwrI_fr (v := c) hf (i := (ts.length : Nat)) (by omega) (by omega) (by omega)
  rw [Int.toNat_natCast] at w2
  have E1 := e0.fr w3 (by omega)
  obtain ⟨T, p1, p2, p3⟩ := E1.put (k := 26) (by decide) (by decide) (tag := 0) (v := .int (iI (ts.length + 1 : Nat))) rfl
  refine ⟨T, xcV_of ((e_X11_writesSign_0 P m c S).trans ?_), _, _, p2, fun k h => by rw [va_up_at, if_neg h]; exact hk k h, ?_, (p3.2 _ (by omega)).trans w2, fun i h => ?_, (fr.tr (w3.mono (fun b hb => Or.inr hb))).tr (p3.mono (fun b hb => Or.inl hb))⟩
  · simp only [e0.r25, e0.i (show 26 < 35 by decide) h26, w1, E1.i (show 26 < 35 by decide) h26, iI_suc, p1, xob_some]
  · rw [va_up_at, if_pos rfl, List.length_append]; rfl
  · rw [va_up_at]
    rw [List.length_append] at h
    have h' : i < ts.length + 1 := h
    by_cases d : i = ts.length
    · subst d
      rw [if_pos rfl, List.getElem_append_right (Nat.le_refl _)]
      simp
    · rw [if_neg d, List.getElem_append_left (by omega)]
      exact hi i (by omega)
theorem xrdB_at3 {a n : Nat} {f : Nat → Int32} {i : Int} (h : S.1 a = some (.inr (3, (n, .inl f)))) (h0 : 0 ≤ i) (h1 : i < n) (h2 : n < 2147483648) : xrdB S a (iI i) = some (f i.toNat) := by
  unfold xrdB
  rw [h]
  have e : (iI i).toNatClampNeg = i.toNat := iI_clamp h0 (by omega)
  have e2 : ¬ (iI i < 0 ∨ n ≤ (iI i).toNatClampNeg) := by
    rw [e, iI_0, iI_lt (by omega) (by omega) (by omega) (by omega)]; omega
  dsimp only
  rw [if_pos ⟨Or.inr rfl, e2⟩, e]
theorem xMw.rd (h : xMw S (m + 18)) {r : Nat} (hr : r < 24) : xrdB S (m + 18) (iI (r : Int)) = some (iI (xwds.getD r 0)) := by
  obtain ⟨f, e, h2⟩ := h
  rw [xrdB_at3 e (by omega) (by omega) (by omega), Int.toNat_natCast, h2 r hr]
theorem xwds_bd : ∀ r : Nat, r < 24 → 0 ≤ xwds.getD r 0 ∧ xwds.getD r 0 ≤ 121 := by decide
theorem l_wordFrom (e0 : xMo S m ob) (hw : xMw S (m + 18)) : ∀ (f r o res : Nat), r + f ≤ 24 → o ≤ 10 → xwf f r o = some res → xrun P m_X11_wordFrom 4 [(0, .ref m), (2, .int (iI (r : Int))), (3, .int (iI (o : Int)))] [] S = some (some (.int (iI (res : Int))), S) := by
  intro f
  induction f with
  | zero =>
    intro r o res hr ho h
    cases o with
    | zero =>
      cases h
      rw [e_X11_wordFrom_4, if_pos (by decide +kernel)]
    | succ o => cases h
  | succ f ih =>
    intro r o res hr ho h
    cases o with
    | zero =>
      cases h
      rw [e_X11_wordFrom_4, if_pos (by decide +kernel)]
    | succ o =>
      have b := xwds_bd r (by omega)
      have e1 : iI ((o + 1 : Nat) : Int) + iI (-1) = iI (o : Int) := by rw [iI_add]; congr 1; omega
      rw [e_X11_wordFrom_4, if_neg (by rw [iI_0, iI_le (by omega) (by omega) (by omega) (by omega)]; omega), e0.r29, xob_some, hw.rd (by omega), xob_some, iI_suc, e1]
      simp only [xwf] at h
      by_cases c : xwds.getD r 0 = 0
      · rw [if_pos c] at h
        rw [if_neg (by rw [c]; exact fun z => z (by decide +kernel))]
        exact ih (r + 1) o res (by omega) (by omega) h
      · rw [if_neg c] at h
        rw [if_pos (by rw [ne_eq, iI_0, iI_eq (by omega) (by omega) (by omega) (by omega)]; exact c)]
        exact ih (r + 1) (o + 1) res (by omega) (by omega) h
theorem g_wordFrom (e0 : xMo S m ob) (hw : xMw S (m + 18)) {w res : Nat} (h10 : w ≤ 10) (h : xwf 24 0 w = some res) : xcI P m_X11_wordFrom [.ref m, .int (iI (w : Int))] S = some (iI (res : Int), S) :=
  xcI_of ((e_X11_wordFrom_0 P m (iI (w : Int)) S).trans (l_wordFrom e0 hw 24 0 w res (by decide) h10 h))
theorem g_word (h : xTw S0 S m ob0 ts) (hw : xMw S0 (m + 18)) {w r : Nat} {l : List Int} (h10 : w ≤ 10) (hr : xwf 24 0 w = some r) (hl1 : ∀ i, i < l.length → xwds.getD (r + i) 0 = l.getD i 0 ∧ l.getD i 0 ≠ 0) (hl2 : xwds.getD (r + l.length) 0 = 0) (hl3 : r + l.length < 24) (ht : ts.length + l.length < 16000) : ∃ T, xcV P m_X11_writesWord [.ref m, .int (iI (w : Int))] S = some T ∧ xTw S0 T m ob0 (ts ++ l.map iI) := by
  have key := xloopQ (run := fun v (Z : xS) => xrun P m_X11_writesWord 6 [(0, .ref m), (2, .int (iI (r + v : Nat)))] [] Z)
    (Inv := fun v Z => xTw S0 Z m ob0 (ts ++ (l.take v).map iI))
    (fun res => ∃ T, res = some (none, T) ∧ xTw S0 T m ob0 (ts ++ l.map iI)) 0 l.length (Nat.zero_le _) (by
      rintro v Z - hv hZ
      right
      obtain ⟨ob1, f1, e1, -, -, -, -, fr1⟩ := id hZ
      have b := xwds_bd (r + v) (by omega)
      have hl := hl1 v hv
      have rd := (hw.fr fr1 (by omega)).rd (r := r + v) (by omega)
      obtain ⟨T, c1, c2⟩ := g_sign (P := P) hZ (by rw [List.length_append, List.length_map, List.length_take]; omega) (iI (xwds.getD (r + v) 0))
      refine ⟨T, ?_, ?_⟩
      · rw [e_X11_writesWord_6, e1.r29, xob_some, rd, xob_some, if_neg (by rw [iI_0, iI_eq (by omega) (by omega) (by omega) (by omega)]; rw [hl.1]; exact hl.2), xob_some, rd, xob_some, e1.o, cond_true, c1, xob_some, iI_suc]
        rfl
      · have e3 : (l.take (v + 1)).map iI = (l.take v).map iI ++ [iI (xwds.getD (r + v) 0)] := by
          rw [List.take_succ_eq_append_getElem hv, List.map_append, hl.1, List.getD_eq_getElem?_getD, List.getElem?_eq_getElem hv]
          rfl
        rw [e3, ← List.append_assoc]
        exact c2) (by
      intro Z hZ
      obtain ⟨ob1, f1, e1, -, -, -, -, fr1⟩ := id hZ
      have rd := (hw.fr fr1 (by omega)).rd (r := r + l.length) hl3
      rw [hl2] at rd
      refine ⟨Z, ?_, by rw [List.take_length] at hZ; exact hZ⟩
      rw [e_X11_writesWord_6, e1.r29, xob_some, rd, xob_some, if_pos (by decide +kernel)]) (s := S) (by simpa using h)
  obtain ⟨T, t1, t2⟩ := key
  obtain ⟨ob1, f1, e1, -, -, -, -, fr1⟩ := id h
  refine ⟨T, xcV_of ((e_X11_writesWord_0 P m (iI (w : Int)) S).trans ?_), t2⟩
  rw [e1.o, cond_true, g_wordFrom e1 (hw.fr fr1 (by omega)) h10 hr, xob_some]
  exact t1
theorem g_w0 (h : xTw S0 S m ob0 ts) (hw : xMw S0 (m + 18)) (ht : ts.length < 15000) : ∃ T, xcV P m_X11_writesWord [.ref m, .int (iI 0)] S = some T ∧ xTw S0 T m ob0 (ts ++ [114, 117, 110].map iI) := g_word (w := 0) (r := 0) h hw (by decide) (by decide) (by decide) (by decide) (by decide) (by show ts.length + 3 < 16000; omega)
theorem g_w1 (h : xTw S0 S m ob0 ts) (hw : xMw S0 (m + 18)) (ht : ts.length < 15000) : ∃ T, xcV P m_X11_writesWord [.ref m, .int (iI 1)] S = some T ∧ xTw S0 T m ob0 (ts ++ [102, 114, 111, 109].map iI) := g_word (w := 1) (r := 4) h hw (by decide) (by decide) (by decide) (by decide) (by decide) (by show ts.length + 4 < 16000; omega)
theorem g_w2 (h : xTw S0 S m ob0 ts) (hw : xMw S0 (m + 18)) (ht : ts.length < 15000) : ∃ T, xcV P m_X11_writesWord [.ref m, .int (iI 2)] S = some T ∧ xTw S0 T m ob0 (ts ++ [98, 121].map iI) := g_word (w := 2) (r := 9) h hw (by decide) (by decide) (by decide) (by decide) (by decide) (by show ts.length + 2 < 16000; omega)
theorem g_w3 (h : xTw S0 S m ob0 ts) (hw : xMw S0 (m + 18)) (ht : ts.length < 15000) : ∃ T, xcV P m_X11_writesWord [.ref m, .int (iI 3)] S = some T ∧ xTw S0 T m ob0 (ts ++ [116, 111].map iI) := g_word (w := 3) (r := 12) h hw (by decide) (by decide) (by decide) (by decide) (by decide) (by show ts.length + 2 < 16000; omega)
theorem g_w4 (h : xTw S0 S m ob0 ts) (hw : xMw S0 (m + 18)) (ht : ts.length < 15000) : ∃ T, xcV P m_X11_writesWord [.ref m, .int (iI 4)] S = some T ∧ xTw S0 T m ob0 (ts ++ [104, 111, 117, 114, 115].map iI) := g_word (w := 4) (r := 15) h hw (by decide) (by decide) (by decide) (by decide) (by decide) (by show ts.length + 5 < 16000; omega)
theorem g_w5 (h : xTw S0 S m ob0 ts) (hw : xMw S0 (m + 18)) (ht : ts.length < 15000) : ∃ T, xcV P m_X11_writesWord [.ref m, .int (iI 5)] S = some T ∧ xTw S0 T m ob0 (ts ++ [97, 116].map iI) := g_word (w := 5) (r := 21) h hw (by decide) (by decide) (by decide) (by decide) (by decide) (by show ts.length + 2 < 16000; omega)
theorem l_wr21 {v : Int} (h0 : 0 ≤ v) (h1 : v < 100000000000) : ∀ (e : Nat) (S : xS) (ts : List Int32), e ≤ 10 → ts.length + e < 15999 → xTw S0 S m ob0 ts → ∃ T, xrun P m_X11_writesNumber 21 [(0, .ref m), (1, .long (jI v)), (3, .long (jI (pw e)))] [] S = some (none, T) ∧ xTw S0 T m ob0 (ts ++ xdg v e) := by
  intro e
  induction e with
  | zero =>
    intro S ts he hl h
    have b := pw_bd 0 (by omega)
    obtain ⟨T, c1, c2⟩ := g_sign (P := P) h (by omega) (iI (48 + v / pw 0 % 10))
    refine ⟨T, ?_, c2⟩
    rw [e_X11_writesNumber_21, if_neg (by rw [x_cle (by omega) (by omega) (by omega) (by omega)]; omega), if_neg (pw_nz (by omega)), h.o, cond_true, x_digit h0 h1 (by omega), jI_ij, iI_add, c1, xob_some]
    have z : jI (pw 0) / jI 10 = jI 0 := by decide +kernel
    rw [z, e_X11_writesNumber_21]
    have z2 : lg_cmp (jI 0) (jI 0) ≤ 0 := by rw [x_cle (by omega) (by omega) (by omega) (by omega)]; exact Int.le_refl _
    rw [if_pos z2]
  | succ e ih =>
    intro S ts he hl h
    have b := pw_bd (e + 1) (by omega)
    obtain ⟨T, c1, c2⟩ := g_sign (P := P) h (by omega) (iI (48 + v / pw (e + 1) % 10))
    obtain ⟨T2, c3, c4⟩ := ih T (ts ++ [iI (48 + v / pw (e + 1) % 10)]) (by omega) (by rw [List.length_append]; show ts.length + 1 + e < 15999; omega) c2
    refine ⟨T2, ?_, ?_⟩
    · rw [e_X11_writesNumber_21, if_neg (by rw [x_cle (by omega) (by omega) (by omega) (by omega)]; omega), if_neg (pw_nz (by omega)), h.o, cond_true, x_digit h0 h1 (by omega), jI_ij, iI_add, c1, xob_some, x_pw10 (by omega)]
      exact c3
    · rw [List.append_assoc] at c4
      exact c4
theorem g_number (h : xTw S0 S m ob0 ts) {v : Int} (h0 : 0 ≤ v) (h1 : v < 100000000000) (hl : ts.length < 15900) : ∃ T, xcV P m_X11_writesNumber [.ref m, .long (jI v)] S = some T ∧ xTw S0 T m ob0 (ts ++ xnu v) := by
  obtain ⟨e, he, ⟨x1, x2⟩, hx⟩ := xnu_at h0 h1
  obtain ⟨T, c1, c2⟩ := l_wr21 (P := P) h0 h1 e S ts he (by omega) h
  rw [hx]
  refine ⟨T, xcV_of ((e_X11_writesNumber_0 P m (jI v) S).trans ?_), c2⟩
  have pwb : ∀ r, r ≤ 10 → 0 ≤ v / pw r ∧ v / pw r ≤ v := fun r hr => by
    have b := pw_bd r (by omega)
    exact ⟨Int.ediv_nonneg h0 (by omega), Int.ediv_le_self _ h0⟩
  refine (xsteps (fun r => xrun P m_X11_writesNumber 2 [(0, .ref m), (1, .long (jI v)), (3, .long (jI (pw r)))] [] S) e (by
    intro r hr
    have b := pw_bd r (by omega)
    have b2 := pwb r (by omega)
    have h3 := x1 r hr
    rw [e_X11_writesNumber_2, if_neg (pw_nz (by omega)), jI_div h0 (by omega) (by omega) (by omega), if_neg (by rw [x_cle (by omega) (by omega) (by omega) (by omega)]; omega), jI_mul]
    rfl)).trans ?_
  have b := pw_bd e (by omega)
  have b2 := pwb e he
  rw [e_X11_writesNumber_2, if_neg (pw_nz he), jI_div h0 (by omega) (by omega) (by omega), if_pos (by rw [x_cle (by omega) (by omega) (by omega) (by omega)]; omega)]
  exact c1
/-- a part, told over any fraction that says the same -/
theorem g_part (h : xTw S0 S m ob0 ts) (hw : xMw S0 (m + 18)) {u l p q : Int} (u0 : 0 ≤ u) (u1 : u < 100000000000) (l0 : 0 < l) (l1 : l < 100000000000) (hp : ∀ S : xS, ∀ t : Bool, xcJ P m_X11_part [.long (jI p), .long (jI q), .int (iI (xb t))] S = some (jI (xpo u l t), S)) (hl : ts.length < 14900) : ∃ T, xcV P m_X11_writesPart [.ref m, .long (jI p), .long (jI q)] S = some T ∧ xTw S0 T m ob0 (ts ++ xprt u l) := by
  have bf := xpo_bd (t := false) u0 l0
  have bt := xpo_bd (t := true) u0 l0
  have lf := xnu_len bf.1 (show xpo u l false < 100000000000 by omega)
  obtain ⟨T1, c1, w1⟩ := g_number (P := P) h bf.1 (show xpo u l false < 100000000000 by omega) (by omega)
  obtain ⟨T2, c2, w2⟩ := g_sign (P := P) w1 (by rw [List.length_append]; omega) (iI 32)
  obtain ⟨T3, c3, w3⟩ := g_w2 (P := P) w2 hw (by rw [List.length_append, List.length_append]; show ts.length + (xnu (xpo u l false)).length + 1 < 15000; omega)
  obtain ⟨T4, c4, w4⟩ := g_sign (P := P) w3 (by rw [List.length_append, List.length_append, List.length_append]; show ts.length + (xnu (xpo u l false)).length + 1 + 2 < 16000; omega) (iI 32)
  obtain ⟨T5, c5, w5⟩ := g_number (P := P) w4 bt.1 (show xpo u l true < 100000000000 by omega) (by rw [List.length_append, List.length_append, List.length_append, List.length_append]; show ts.length + (xnu (xpo u l false)).length + 1 + 2 + 1 < 15900; omega)
  refine ⟨T5, xcV_of ((e_X11_writesPart_0 P m (jI p) (jI q) S).trans ?_), ?_⟩
  · have pf : xcJ P m_X11_part [.long (jI p), .long (jI q), .int (iI 0)] S = some (jI (xpo u l false), S) := hp S false
    have pt : xcJ P m_X11_part [.long (jI p), .long (jI q), .int (iI 1)] T4 = some (jI (xpo u l true), T4) := hp T4 true
    simp only [pf, h.o, c1, w1.o, c2, w2.o, c3, w3.o, c4, pt, w4.o, c5, xob_some, cond_true]
  · unfold xprt
    simp only [List.append_assoc, List.map_cons, List.map_nil, List.cons_append, List.nil_append] at w5 ⊢
    exact w5
theorem g_told (h : xTw S0 S m ob0 ts) {k : Int} (k1 : -1 ≤ k) (k2 : k < 2147483648) (hl : ts.length < 16000) : xcI P m_X11_toldText [.ref m, .int (iI k)] S = some (if k = -1 then iI (ts.length : Nat) else xfnd k ts, S) := by
  obtain ⟨ob, f, e0, hk, h26, hf, hi, fr⟩ := h
  refine xcI_of ((e_X11_toldText_0 P m (iI k) S).trans ?_)
  by_cases c : k = -1
  · rw [if_pos c, if_neg (by rw [c]; exact fun z => z rfl), e0.i (show 26 < 35 by decide) h26, xob_some]
  · rw [if_neg c, if_pos (by rw [ne_eq, iI_eq (by omega) (by omega) (by omega) (by omega)]; exact c), e0.i (show 26 < 35 by decide) h26, xob_some]
    unfold xfnd
    rw [if_pos (show 0 ≤ k by omega)]
    by_cases d : (ts.length : Int) ≤ k
    · rw [if_pos (by rw [iI_le (by omega) (by omega) (by omega) (by omega)]; exact d), List.getElem?_eq_none (by omega)]
      rfl
    · rw [if_neg (by rw [iI_le (by omega) (by omega) (by omega) (by omega)]; exact d), e0.r25, xob_some, xrdI_at hf (by omega) (by omega) (by omega), xob_some, hi k.toNat (by omega), List.getElem?_eq_getElem (show k.toNat < ts.length by omega)]
      rfl
theorem xMl.txt (M : xMl S0 m A) (e0 : xMo S0 m ob0) (h : xTw S0 S m ob0 ts) : xMl S m A ∧ xfr S0 S (xrg m 19) := by
  obtain ⟨ob, f, E, hk, h26, hf, hi, fr⟩ := h
  obtain ⟨ob', e0', e1, e2, e3, e4, e5, e6, e7, g1, g2, g3, g4, g5, g6, g7, g8, g9, g10, g11, g12⟩ := M
  have eo : ∀ k, k < 35 → ob0 k = ob' k := fun k hk => by
    have h1 := e0.1.symm.trans e0'.1
    have h2 : (List.range 35).map ob0 = (List.range 35).map ob' := by
      injection h1 with h1; injection h1 with h1; injection h1
    have h3 := congrArg (fun l => l[k]?) h2
    rw [xob_k hk, xob_k hk] at h3
    injection h3
  exact ⟨⟨ob, E, ((hk 5 (by decide)).trans (eo 5 (by decide))).trans e1, ((hk 28 (by decide)).trans (eo 28 (by decide))).trans e2, e3.fr fr (by omega), e4.fr fr (by omega), e5.fr fr (by omega) (by omega), e6.fr fr (by omega), e7.fr fr (by omega), g1.fr fr (by omega), g2.fr fr (by omega), g3.fr fr (by omega), g4.fr fr (by omega), g5.fr fr (by omega), g6.fr fr (by omega), g7.fr fr (by omega), g8.fr fr (by omega), g9.fr fr (by omega), g10.fr fr (by omega), g11.fr fr (by omega), ⟨f, hf⟩⟩, fr.mono (fun b hb => ⟨by omega, by omega⟩)⟩
end MW
