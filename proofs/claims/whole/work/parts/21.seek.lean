-- deps: 20.peak
/-! Peak.seek and what is told of it -/
def xsu (gp ld : Nat → Int) (a b : Nat) (t : Int) : Prop := 1 ≤ gp a + gp b ∧ xcn (gp a + gp b) (ld a + ld b) t
def xdi (gp ld : Nat → Int) (a b : Nat) (t : Int) : Prop := 1 ≤ ((gp a - gp b).natAbs : Int) ∧ xcn ((gp a - gp b).natAbs : Int) (if gp a - gp b < 0 then -(ld a - ld b) else ld a - ld b) t
def xD0 (gp ld : Nat → Int) (n : Nat) (t : Int) : Prop := t = 0 ∨ ∃ a b, a < n ∧ ((b ≤ a ∧ xsu gp ld a b t) ∨ (b < a ∧ xdi gp ld a b t))
def xD1 (gp ld : Nat → Int) (a m : Nat) (t : Int) : Prop := xD0 gp ld a t ∨ ∃ b, b < m ∧ xsu gp ld a b t
def xD2 (gp ld : Nat → Int) (a m : Nat) (t : Int) : Prop := xD1 gp ld a (a + 1) t ∨ ∃ b, b < m ∧ xdi gp ld a b t
section SK
variable {P : Nat → Nat} {S : xS} {a n b : Nat} {gp ld : Nat → Int} {F : xF} {x e kh kp : Int}
/-- what stands while one seeks -/
def xSk (S T : xS) (a n : Nat) (gp ld : Nat → Int) (kh kp : Int) (D : Int → Prop) : Prop := ∃ x e, xPs T a gp ld n x e kh kp ∧ xfr S T (fun c => c = a) ∧ xbo (xfL gp ld n) D (xta x e)
theorem xSk.eqv {T : xS} {D D' : Int → Prop} (h : xSk S T a n gp ld kh kp D) (hD : ∀ s, D s ↔ D' s) : xSk S T a n gp ld kh kp D' := by
  obtain ⟨x, e, h1, h2, h3⟩ := h
  exact ⟨x, e, h1, h2, h3.eqv hD⟩
theorem l_seek55 (O : xOt S (a + 1) n gp ld) {m : Nat} (hm : m < n) {T : xS} (h : xSk S T a n gp ld kh kp (xD0 gp ld m)) : ∃ T', xrun P m_X4_seek 55 [(0, .ref a), (3, .int (iI m)), (4, .int (iI (0 : Nat)))] [] T = xrun P m_X4_seek 114 [(0, .ref a), (3, .int (iI m)), (4, .int (iI (0 : Nat)))] [] T' ∧ xSk S T' a n gp ld kh kp (xD1 gp ld m (m + 1)) := by
  have hn := O.1
  refine xloopQ (run := fun r (T : xS) => xrun P m_X4_seek 55 [(0, .ref a), (3, .int (iI m)), (4, .int (iI r))] [] T) (Inv := fun r T => xSk S T a n gp ld kh kp (xD1 gp ld m r))
    (fun res => ∃ T', res = xrun P m_X4_seek 114 [(0, .ref a), (3, .int (iI m)), (4, .int (iI (0 : Nat)))] [] T' ∧ xSk S T' a n gp ld kh kp (xD1 gp ld m (m + 1))) 0 (m + 1) (by omega) (fun r T _ hr hT => Or.inr ?_) (fun T hT => ?_) (h.eqv (fun s => ⟨Or.inl, fun z => by
      rcases z with z | ⟨b, hb, -⟩
      · exact z
      · omega⟩))
  · obtain ⟨x, e, h1, h2, h3⟩ := hT
    have O' := O.fr h2 (fun c hc hd => by unfold x3 at hc; omega)
    have bm := O.2.1 m hm
    have br := O.2.1 r (by omega)
    obtain ⟨T1, x1, e1, k1, k2, k3, k4⟩ := d_seekAmong (P := P) h1 O' (g := gp m + gp r) (l := ld m + ld r) (by omega) (by omega) (by omega) (by omega) h3
    obtain ⟨x0, x1', e0, e1', hP⟩ := h1
    refine ⟨T1, ?_, x1, e1, k2, h2.tr k3, k4.eqv (fun s => ?_)⟩
    · rw [e_X4_seek_55]
      simp (disch := omega) only [iI_lt]
      rw [if_neg (by omega), xfR_at (k := 0) hP rfl, xob_some, O'.o, cond_true, d_gapAt O' hm, xob_some]
      dsimp only
      rw [xfR_at (k := 0) hP rfl, xob_some, O'.o, cond_true, d_gapAt O' (by omega), xob_some]
      dsimp only
      rw [xfR_at (k := 0) hP rfl, xob_some, O'.o, cond_true, d_leadAt O' hm, xob_some]
      dsimp only
      rw [xfR_at (k := 0) hP rfl, xob_some, O'.o, cond_true, d_leadAt O' (by omega), xob_some]
      dsimp only
      rw [hP.o, cond_true, iI_add, iI_add, k1, xob_some, iI_suc]
    · constructor
      · rintro ((z | ⟨b, hb, z⟩) | z)
        · exact Or.inl z
        · exact Or.inr ⟨b, by omega, z⟩
        · exact Or.inr ⟨r, by omega, z⟩
      · rintro (z | ⟨b, hb, z⟩)
        · exact Or.inl (Or.inl z)
        · by_cases c : b = r
          · subst c; exact Or.inr z
          · exact Or.inl (Or.inr ⟨b, by omega, z⟩)
  · refine ⟨T, ?_, hT⟩
    rw [e_X4_seek_55]
    simp (disch := omega) only [iI_lt]
    rw [if_pos (by omega)]
    rfl
theorem l_seek114 (O : xOt S (a + 1) n gp ld) {m : Nat} (hm : m < n) {T : xS} (h : xSk S T a n gp ld kh kp (xD1 gp ld m (m + 1))) : ∃ T', xrun P m_X4_seek 114 [(0, .ref a), (3, .int (iI m)), (4, .int (iI (0 : Nat)))] [] T = xrun P m_X4_seek 41 [(0, .ref a), (3, .int (iI (m + 1 : Nat)))] [] T' ∧ xSk S T' a n gp ld kh kp (xD0 gp ld (m + 1)) := by
  have hn := O.1
  refine xloopQ (run := fun r (T : xS) => xrun P m_X4_seek 114 [(0, .ref a), (3, .int (iI m)), (4, .int (iI r))] [] T) (Inv := fun r T => xSk S T a n gp ld kh kp (xD2 gp ld m r))
    (fun res => ∃ T', res = xrun P m_X4_seek 41 [(0, .ref a), (3, .int (iI (m + 1 : Nat)))] [] T' ∧ xSk S T' a n gp ld kh kp (xD0 gp ld (m + 1))) 0 m (by omega) (fun r T _ hr hT => Or.inr ?_) (fun T hT => ?_) (h.eqv (fun s => ⟨Or.inl, fun z => by
      rcases z with z | ⟨b, hb, -⟩
      · exact z
      · omega⟩))
  · obtain ⟨x, e, h1, h2, h3⟩ := hT
    have O' := O.fr h2 (fun c hc hd => by unfold x3 at hc; omega)
    have bm := O.2.1 m hm
    have br := O.2.1 r (by omega)
    obtain ⟨T1, x1, e1, k1, k2, k3, k4⟩ := d_seekAmong (P := P) h1 O' (g := ((gp m - gp r).natAbs : Int)) (l := if gp m - gp r < 0 then -(ld m - ld r) else ld m - ld r) (by omega) (by omega) (by split <;> omega) (by split <;> omega) h3
    obtain ⟨x0, x1', e0, e1', hP⟩ := h1
    refine ⟨T1, ?_, x1, e1, k2, h2.tr k3, k4.eqv (fun s => ?_)⟩
    · rw [e_X4_seek_114]
      simp (disch := omega) only [iI_le]
      rw [if_neg (by omega), xfR_at (k := 0) hP rfl, xob_some, O'.o, cond_true, d_gapAt O' hm, xob_some]
      dsimp only
      rw [xfR_at (k := 0) hP rfl, xob_some, O'.o, cond_true, d_gapAt O' (by omega), xob_some]
      dsimp only
      rw [xfR_at (k := 0) hP rfl, xob_some, O'.o, cond_true, d_leadAt O' hm, xob_some]
      dsimp only
      rw [xfR_at (k := 0) hP rfl, xob_some, O'.o, cond_true, d_leadAt O' (by omega), xob_some]
      dsimp only
      rw [iI_sub, c_abs (by omega) (by omega), xob_some]
      dsimp only
      rw [iI_0]
      simp (disch := omega) only [iI_le, iI_sub, iI_neg]
      by_cases c : gp m - gp r < 0
      · rw [if_pos c] at k1
        rw [if_neg (by omega), hP.o, cond_true, k1, xob_some, iI_suc]
      · rw [if_neg c] at k1
        rw [if_pos (by omega), hP.o, cond_true, k1, xob_some, iI_suc]
    · constructor
      · rintro ((z | ⟨b, hb, z⟩) | z)
        · exact Or.inl z
        · exact Or.inr ⟨b, by omega, z⟩
        · exact Or.inr ⟨r, by omega, z⟩
      · rintro (z | ⟨b, hb, z⟩)
        · exact Or.inl (Or.inl z)
        · by_cases c : b = r
          · subst c; exact Or.inr z
          · exact Or.inl (Or.inr ⟨b, by omega, z⟩)
  · refine ⟨T, ?_, hT.eqv (fun s => ?_)⟩
    · rw [e_X4_seek_114]
      simp (disch := omega) only [iI_le]
      rw [if_pos (by omega), iI_suc]
    · constructor
      · rintro ((z | ⟨b, hb, z⟩) | ⟨b, hb, z⟩)
        · rcases z with z | ⟨a', b, h1, h2⟩
          · exact Or.inl z
          · exact Or.inr ⟨a', b, by omega, h2⟩
        · exact Or.inr ⟨m, b, by omega, Or.inl ⟨by omega, z⟩⟩
        · exact Or.inr ⟨m, b, by omega, Or.inr ⟨hb, z⟩⟩
      · rintro (z | ⟨a', b, h1, h2⟩)
        · exact Or.inl (Or.inl (Or.inl z))
        · by_cases c : a' = m
          · subst c
            rcases h2 with ⟨h3, h4⟩ | ⟨h3, h4⟩
            · exact Or.inl (Or.inr ⟨b, by omega, h4⟩)
            · exact Or.inr ⟨b, h3, h4⟩
          · exact Or.inl (Or.inl (Or.inr ⟨a', b, by omega, h2⟩))
/-- so many fields, whatever they hold -/
def xPr (S : xS) (a : Nat) (kh kp : Int) : Prop := (∃ h p x q, xPk S a h p x q kh kp) ∧ ∃ n f g, xOs S (a + 1) n f g
theorem d_seek (H : xPr S a kh kp) (hF : xFd S b F) (hab : a + 3 < b ∨ b + 2 < a) {i : Nat} (hi : i < F.1) :
    ∃ S1 x e, xcV P m_X4_seek [.ref a, .ref b, .int (iI i)] S = some S1 ∧ xPs S1 a (fun t => xog F i (xsk i t)) (fun t => xol F i (xsk i t)) (F.1 - 1) x e kh kp ∧ xOt S1 (a + 1) (F.1 - 1) (fun t => xog F i (xsk i t)) (fun t => xol F i (xsk i t)) ∧ xfr S S1 (xrg a 4) ∧ xbo (xfL (fun t => xog F i (xsk i t)) (fun t => xol F i (xsk i t)) (F.1 - 1)) (xD0 (fun t => xog F i (xsk i t)) (fun t => xol F i (xsk i t)) (F.1 - 1)) (xta x e) := by
  obtain ⟨⟨h, p, x, q, hP⟩, n0, f0, g0, hO⟩ := H
  obtain ⟨S1, k1, O, k3⟩ := d_osee (P := P) hO hF (by omega) hi
  have hP1 := hP.fr k3 (by unfold x3; omega)
  generalize eg : (fun t => xog F i (xsk i t)) = gp at *
  generalize el : (fun t => xol F i (xsk i t)) = ld at *
  generalize en : F.1 - 1 = n at *
  have bN := xNr_bd (gp := gp) (ld := ld) (n := n) (x := 0) (e := 1) (by omega)
  obtain ⟨T1, T2, T3, T4, t1, t2, t3, t4, t5, t6⟩ := xPk_puts hP1 (xNr gp ld n 0 1) (12 * 1) 0 (12 * 1)
  have z0 : xta 0 1 = 0 := Int.zero_mul _
  have I0 : xSk S1 T4 a n gp ld kh kp (xD0 gp ld 0) := ⟨0, 1, ⟨by omega, by omega, by omega, by omega, t5⟩, t6, Or.inl z0, fun s hs => by
    rcases hs with rfl | ⟨a', b', z, -⟩
    · rw [z0]; exact xlx.rf _ _
    · omega⟩
  have hn := O.1
  have key := xloopQ (run := fun r (T : xS) => xrun P m_X4_seek 41 [(0, .ref a), (3, .int (iI r))] [] T) (Inv := fun r T => xSk S1 T a n gp ld kh kp (xD0 gp ld r))
    (fun res => ∃ T', res = some (none, T') ∧ xSk S1 T' a n gp ld kh kp (xD0 gp ld n)) 0 n (by omega) (fun r T _ hr hT => by
      refine Or.inr ?_
      obtain ⟨T', k5, k6⟩ := l_seek55 (P := P) O hr hT
      obtain ⟨T'', k7, k8⟩ := l_seek114 (P := P) O hr k6
      obtain ⟨x, e, h1, h2, h3⟩ := hT
      have O' := O.fr h2 (fun c hc hd => by unfold x3 at hc; omega)
      refine ⟨T'', ?_, k8⟩
      rw [e_X4_seek_41, xfR_at (k := 0) h1.2.2.2.2 rfl, xob_some, O'.o, cond_true, d_osize O', xob_some]
      simp (disch := omega) only [iI_le]
      rw [if_neg (by omega)]
      exact k5.trans k7) (fun T hT => by
      refine ⟨T, ?_, hT⟩
      obtain ⟨x, e, h1, h2, h3⟩ := hT
      have O' := O.fr h2 (fun c hc hd => by unfold x3 at hc; omega)
      rw [e_X4_seek_41, xfR_at (k := 0) h1.2.2.2.2 rfl, xob_some, O'.o, cond_true, d_osize O', xob_some]
      simp (disch := omega) only [iI_le]
      rw [if_pos (by omega)]) I0
  obtain ⟨T', k5, x', e', k6, k7, k8⟩ := key
  refine ⟨T', x', e', xcV_of ((e_X4_seek_0 P a b (iI i) S).trans ?_), k6, O.fr k7 (fun c hc hd => by unfold x3 at hc; omega), (k3.mono (fun c hc => by unfold x3 at hc; unfold xrg; omega)).tr (k7.mono (fun c hc => by unfold xrg; omega)), k8⟩
  have nb := d_nearestBy (P := P) O (x := 0) (e := 1) (by omega) (by omega) (by omega) (by omega)
  have t1' : xpf S1 a 4 1 0 (.int (iI (xmn (xa2 gp ld 0 1) (6 * 1) n))) = some T1 := t1
  rw [xfR_at (k := 0) hP rfl, xob_some, hO.o, cond_true, k1, xob_some, xfR_at (k := 0) hP1 rfl, xob_some, O.o, cond_true, nb, xob_some]
  dsimp only
  rw [t1', xob_some, show iI 12 = iI (12 * 1) from rfl, t2, xob_some, t3, xob_some, t4, xob_some]
  exact k5
theorem d_tell (H : xPs S a gp ld n x e kh kp) {w : Int} (w0 : 0 ≤ w) (w1 : w ≤ 3) : xcI P m_X4_tell [.ref a, .int (iI w)] S = some (iI (if w < 2 then xpo (xNr gp ld n x e) (12 * e) (w % 2 == 1) else xpo x (12 * e) (w % 2 == 1)), S) := by
  obtain ⟨x0, x1, e0, e1, hP⟩ := H
  have bN := xNr_bd (gp := gp) (ld := ld) (n := n) (x := x) (e := e) (by omega)
  refine xcI_of ((e_X4_tell_0 P a (iI w) S).trans ?_)
  rw [iI_rem (by omega) (by omega) (by omega) (by omega), xfI_at (k := 2) hP rfl, xfI_at (k := 1) hP rfl, xfI_at (k := 4) hP rfl, xfI_at (k := 3) hP rfl]
  simp (disch := omega) only [xob_some, iI_eq, iI_le, ne_eq, iI_ji]
  have p1 := d_partOf (P := P) (S := S) (u := xNr gp ld n x e) (l := 12 * e) (by omega) (by omega) (by omega) (by omega)
  have p2 := d_partOf (P := P) (S := S) (u := x) (l := 12 * e) (by omega) (by omega) (by omega) (by omega)
  have f0 : iI 0 = iI (xb false) := rfl
  have f1 : iI 1 = iI (xb true) := rfl
  by_cases c : w % 2 = 1
  · rw [if_neg (by simpa using c), show (w % 2 == 1) = true by simpa using c, f1, p1 true, p2 true]
    simp only [xob_some, jI_ij]
    split
    · rw [if_neg (by omega)]
    · rw [if_pos (by omega)]
  · rw [if_pos (by simpa using c), show (w % 2 == 1) = false by simpa using c, f0, p1 false, p2 false]
    simp only [xob_some, jI_ij]
    split
    · rw [if_neg (by omega)]
    · rw [if_pos (by omega)]
theorem d_compared (H : xPs S a gp ld n x e kh kp) {k : Int} (k0 : 0 ≤ k) (k1 : k ≤ 6) : xcI P m_X4_comparedToLonely [.ref a, .int (iI k)] S = some (iI (if xNr gp ld n x e * k < 12 * e then -1 else if xNr gp ld n x e * k = 12 * e then 0 else 1), S) := by
  obtain ⟨x0, x1, e0, e1, hP⟩ := H
  have bN := xNr_bd (gp := gp) (ld := ld) (n := n) (x := x) (e := e) (by omega)
  have b1 := x_mul_bd bN.1 (show xNr gp ld n x e ≤ 480 by omega) k0 k1
  refine xcI_of ((e_X4_comparedToLonely_0 P a (iI k) S).trans ?_)
  rw [xfI_at (k := 1) hP rfl, xob_some, xfI_at (k := 2) hP rfl, xob_some, iI_mul, c_compare (by omega) (by omega) (by omega) (by omega), xob_some]
theorem xPk_keep {h p x q : Int} (H : xPk S a h p x q kh kp) (kh' kp' : Int) : ∃ S1 S2, xpf S a 4 5 0 (.int (iI kh')) = some S1 ∧ xpf S1 a 4 6 0 (.int (iI kp')) = some S2 ∧ xPk S1 a h p x q kh' kp ∧ xPk S2 a h p x q kh' kp' ∧ xfr S S2 (fun c => c = a) := by
  let S1 : xS := xpt S a (.inl (4, [.ref (a + 1), .int (iI h), .int (iI p), .int (iI x), .int (iI q), .int (iI kh'), .int (iI kp)]))
  have e1 : S1.1 a = some (.inl (4, [.ref (a + 1), .int (iI h), .int (iI p), .int (iI x), .int (iI q), .int (iI kh'), .int (iI kp)])) := by rw [xpt_1, if_pos rfl]
  let S2 : xS := xpt S1 a (.inl (4, [.ref (a + 1), .int (iI h), .int (iI p), .int (iI x), .int (iI q), .int (iI kh'), .int (iI kp')]))
  have e2 : S2.1 a = some (.inl (4, [.ref (a + 1), .int (iI h), .int (iI p), .int (iI x), .int (iI q), .int (iI kh'), .int (iI kp')])) := by rw [xpt_1, if_pos rfl]
  have f1 : xfr S S1 (fun c => c = a) := xfr.pt rfl
  have f2 : xfr S1 S2 (fun c => c = a) := xfr.pt rfl
  exact ⟨S1, S2, (xpf_at H (show 5 < 7 by decide) rfl).trans rfl, (xpf_at e1 (show 6 < 7 by decide) rfl).trans rfl, e1, e2, f1.tr f2⟩
theorem d_keepHeight {h p x q : Int} (H : xPk S a h p x q kh kp) : ∃ S1, xcV P m_X4_keepHeight [.ref a] S = some S1 ∧ xPk S1 a h p x q h p ∧ xfr S S1 (fun c => c = a) := by
  obtain ⟨S1, S2, k1, k2, k3, k4, k5⟩ := xPk_keep H h p
  refine ⟨S2, xcV_of ((e_X4_keepHeight_0 P a S).trans ?_), k4, k5⟩
  rw [xfI_at (k := 1) H rfl, xob_some, k1, xob_some, xfI_at (k := 2) k3 rfl, xob_some, k2, xob_some]
theorem d_forgetBetter {h p x q : Int} (H : xPk S a h p x q kh kp) : ∃ S1, xcV P m_X4_forgetBetter [.ref a] S = some S1 ∧ xPk S1 a h p x q (-1) 1 ∧ xfr S S1 (fun c => c = a) := by
  obtain ⟨S1, S2, k1, k2, k3, k4, k5⟩ := xPk_keep H (-1) 1
  refine ⟨S2, xcV_of ((e_X4_forgetBetter_0 P a S).trans ?_), k4, k5⟩
  rw [k1, xob_some, k2, xob_some]
theorem d_forgetWorse {h p x q : Int} (H : xPk S a h p x q kh kp) : ∃ S1, xcV P m_X4_forgetWorse [.ref a] S = some S1 ∧ xPk S1 a h p x q 1 1 ∧ xfr S S1 (fun c => c = a) := by
  obtain ⟨S1, S2, k1, k2, k3, k4, k5⟩ := xPk_keep H 1 1
  refine ⟨S2, xcV_of ((e_X4_forgetWorse_0 P a S).trans ?_), k4, k5⟩
  rw [k1, xob_some, k2, xob_some]
theorem d_isBetter {h p x q : Int} (H : xPk S a h p x q kh kp) (h0 : 0 ≤ h) (h1 : h ≤ 1000) (p0 : 0 ≤ p) (p1 : p ≤ 1000) (kh0 : -1 ≤ kh) (kh1 : kh ≤ 1000) (kp0 : 0 ≤ kp) (kp1 : kp ≤ 1000) : ∃ S1, xcI P m_X4_isBetter [.ref a] S = some (iI (if kh * p < h * kp then 1 else 0), S1) ∧ xPk S1 a h p x q (if kh * p < h * kp then h else kh) (if kh * p < h * kp then p else kp) ∧ xfr S S1 (fun c => c = a) := by
  have b1 := x_mul_bd h0 h1 kp0 kp1
  have b2 := x_mul_bd (show 0 ≤ kh + 1 by omega) (show kh + 1 ≤ 1001 by omega) p0 p1
  rw [Int.add_mul] at b2
  obtain ⟨S1, k1, k2, k3⟩ := d_keepHeight (P := P) H
  by_cases c : kh * p < h * kp
  · refine ⟨S1, xcI_of ((e_X4_isBetter_0 P a S).trans ?_), by rw [if_pos c, if_pos c]; exact k2, k3⟩
    rw [xfI_at (k := 1) H rfl, xob_some, xfI_at (k := 6) H rfl, xob_some, xfI_at (k := 5) H rfl, xob_some, xfI_at (k := 2) H rfl, xob_some]
    simp (disch := omega) only [iI_mul, iI_le]
    rw [if_neg (by omega), if_neg (by decide +kernel), H.o, cond_true, k1, xob_some, if_pos c]
  · refine ⟨S, xcI_of ((e_X4_isBetter_0 P a S).trans ?_), by rw [if_neg c, if_neg c]; exact H, xfr.rf⟩
    rw [xfI_at (k := 1) H rfl, xob_some, xfI_at (k := 6) H rfl, xob_some, xfI_at (k := 5) H rfl, xob_some, xfI_at (k := 2) H rfl, xob_some]
    simp (disch := omega) only [iI_mul, iI_le]
    rw [if_pos (by omega), if_pos (by decide +kernel), if_neg c]
theorem d_isWorse {h p x q : Int} (H : xPk S a h p x q kh kp) (h0 : 0 ≤ h) (h1 : h ≤ 1000) (p0 : 0 ≤ p) (p1 : p ≤ 1000) (kh0 : -1 ≤ kh) (kh1 : kh ≤ 1000) (kp0 : 0 ≤ kp) (kp1 : kp ≤ 1000) : ∃ S1, xcI P m_X4_isWorse [.ref a] S = some (iI (if h * kp < kh * p then 1 else 0), S1) ∧ xPk S1 a h p x q (if h * kp < kh * p then h else kh) (if h * kp < kh * p then p else kp) ∧ xfr S S1 (fun c => c = a) := by
  have b1 := x_mul_bd h0 h1 kp0 kp1
  have b2 := x_mul_bd (show 0 ≤ kh + 1 by omega) (show kh + 1 ≤ 1001 by omega) p0 p1
  rw [Int.add_mul] at b2
  obtain ⟨S1, k1, k2, k3⟩ := d_keepHeight (P := P) H
  by_cases c : h * kp < kh * p
  · refine ⟨S1, xcI_of ((e_X4_isWorse_0 P a S).trans ?_), by rw [if_pos c, if_pos c]; exact k2, k3⟩
    rw [xfI_at (k := 1) H rfl, xob_some, xfI_at (k := 6) H rfl, xob_some, xfI_at (k := 5) H rfl, xob_some, xfI_at (k := 2) H rfl, xob_some]
    simp (disch := omega) only [iI_mul, iI_le]
    rw [if_neg (by omega), if_neg (by decide +kernel), H.o, cond_true, k1, xob_some, if_pos c]
  · refine ⟨S, xcI_of ((e_X4_isWorse_0 P a S).trans ?_), by rw [if_neg c, if_neg c]; exact H, xfr.rf⟩
    rw [xfI_at (k := 1) H rfl, xob_some, xfI_at (k := 6) H rfl, xob_some, xfI_at (k := 5) H rfl, xob_some, xfI_at (k := 2) H rfl, xob_some]
    simp (disch := omega) only [iI_mul, iI_le]
    rw [if_pos (by omega), if_pos (by decide +kernel), if_neg c]
end SK
