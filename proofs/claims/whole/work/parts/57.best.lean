-- deps: 56.prime
/-! the best of the reference: what it tries, what it keeps -/
def xfN (F : xF) (i : Nat) (t : Int) : Int := xnr F i t xLL
/-- the time p by q of an hour, in parts of 12 xLL -/
def xmT (p q t : Int) : Prop := 1 ≤ q ∧ q ≤ 960 ∧ 0 ≤ p ∧ p < q ∧ t * q = p * (12 * xLL)
theorem xmT_f {F : xF} {i : Nat} {p q t : Int} (h : xmT p q t) : xnr F i (12 * p) q * xLL = xfN F i t * q := by
  have h1 := xnr_scale F i (x := 12 * p) (e := q) xLL_pos
  have h2 := xnr_scale F i (x := t) (e := xLL) (show 0 < q by have := h.1; omega)
  unfold xfN
  rw [← h1, ← h2, h.2.2.2.2, show 12 * p * xLL = p * (12 * xLL) by ac_rfl, Int.mul_comm q]
theorem x_rt {A B f g q r L : Int} (hL : 0 < L) (hq : 0 < q) (hr : 0 < r) (h1 : A * L = f * q) (h2 : B * L = g * r) : (A * r < B * q ↔ f < g) ∧ (A * r = B * q ↔ f = g) := by
  have e1 : A * r * L = f * (q * r) := by rw [show A * r * L = A * L * r by ac_rfl, h1, Int.mul_assoc]
  have e2 : B * q * L = g * (q * r) := by rw [show B * q * L = B * L * q by ac_rfl, h2]; ac_rfl
  have qr : 0 < q * r := Int.mul_pos hq hr
  refine ⟨?_, ?_⟩
  · rw [← Int.mul_lt_mul_right hL, e1, e2, Int.mul_lt_mul_right qr]
  · constructor
    · intro h
      rw [h, e2] at e1
      exact (Int.eq_of_mul_eq_mul_right (by omega) e1).symm
    · intro h
      rw [h] at e1
      exact Int.eq_of_mul_eq_mul_right (by omega) (e1.trans e2.symm)
theorem xbo_add {f : Int → Int} {D : Int → Prop} {t s : Int} (h : xbo f D t) : (xlx f s t → xbo f (fun u => D u ∨ u = s) t) ∧ (xlx f t s → xbo f (fun u => D u ∨ u = s) s) := by
  refine ⟨fun g => ⟨Or.inl h.1, fun u hu => ?_⟩, fun g => ⟨Or.inr rfl, fun u hu => ?_⟩⟩
  · rcases hu with hu | rfl
    · exact h.2 u hu
    · exact g
  · rcases hu with hu | rfl
    · exact (h.2 u hu).tr g
    · exact xlx.rf f _
/-- so many twelfths a time, and some more, are whole -/
def xcm (d l t : Int) : Prop := d ≠ 0 ∧ 0 ≤ t ∧ t < 12 * xLL ∧ 12 * xLL ∣ d * t + l * xLL
theorem xcm_neg {d l t : Int} : xcm (-d) (-l) t ↔ xcm d l t := by
  unfold xcm
  rw [show -d * t + -l * xLL = -(d * t + l * xLL) by rw [Int.neg_mul, Int.neg_mul]; omega, Int.dvd_neg]
  constructor
  · rintro ⟨h1, h2⟩; exact ⟨by omega, h2⟩
  · rintro ⟨h1, h2⟩; exact ⟨by omega, h2⟩
theorem xcm_pos {d l t : Int} (hd : 0 < d) : xcm d l t ↔ xcn d l t := by
  unfold xcm xcn
  exact ⟨fun h => h.2, fun h => ⟨by omega, h⟩⟩
/-- whole hours' twelfths do not matter -/
theorem xcm_12 {d l l' t : Int} (h : ∃ c, l = l' + 12 * c) : xcm d l t ↔ xcm d l' t := by
  obtain ⟨c, rfl⟩ := h
  unfold xcm
  rw [show d * t + (l' + 12 * c) * xLL = d * t + l' * xLL + 12 * xLL * c by rw [Int.add_mul, show 12 * c * xLL = 12 * xLL * c by ac_rfl]; omega]
  have : (12 * xLL ∣ d * t + l' * xLL + 12 * xLL * c) ↔ (12 * xLL ∣ d * t + l' * xLL) := (Int.dvd_add_left (Int.dvd_mul_right _ _))
  rw [this]
section BS
variable {P : Nat → Nat} {S : xS} {x m : Nat} {A : xAb} {ob ob0 : Nat → Value} {F : xF}
theorem xMo.put4 (h : xMo S m ob) (a b c d : Int) : ∃ S1 S2 S3 S4 ob', xpf S m 11 9 1 (.long (jI a)) = some S1 ∧ xpf S1 m 11 10 1 (.long (jI b)) = some S2 ∧ xpf S2 m 11 11 1 (.long (jI c)) = some S3 ∧ xpf S3 m 11 12 1 (.long (jI d)) = some S4 ∧ xMo S4 m ob' ∧ ob' 9 = .long (jI a) ∧ ob' 10 = .long (jI b) ∧ ob' 11 = .long (jI c) ∧ ob' 12 = .long (jI d) ∧ (∀ k, k ≠ 9 → k ≠ 10 → k ≠ 11 → k ≠ 12 → ob' k = ob k) ∧ xfr S S4 (fun b => b = m) := by
  obtain ⟨S1, a1, a2, a3⟩ := h.put (k := 9) (by decide) (by decide) (tag := 1) (v := .long (jI a)) rfl
  obtain ⟨S2, b1, b2, b3⟩ := a2.put (k := 10) (by decide) (by decide) (tag := 1) (v := .long (jI b)) rfl
  obtain ⟨S3, c1, c2, c3⟩ := b2.put (k := 11) (by decide) (by decide) (tag := 1) (v := .long (jI c)) rfl
  obtain ⟨S4, d1, d2, d3⟩ := c2.put (k := 12) (by decide) (by decide) (tag := 1) (v := .long (jI d)) rfl
  refine ⟨S1, S2, S3, S4, _, a1, b1, c1, d1, d2, ?_, ?_, ?_, ?_, ?_, ((a3.tr b3).tr c3).tr d3⟩
  · simp [va_up]
  · simp [va_up]
  · simp [va_up]
  · simp [va_up]
  · intro k h1 h2 h3 h4
    simp [va_up, h1, h2, h3, h4]
/-- what stands while one looks for the best -/
def xBs (S0 T : xS) (m : Nat) (ob0 : Nat → Value) (F : xF) (i : Nat) (D : Int → Prop) : Prop :=
  ∃ p q t ob, xMo T m ob ∧ ob 9 = .long (jI (xnr F i (12 * p) q)) ∧ ob 10 = .long (jI (12 * q)) ∧ ob 11 = .long (jI p) ∧ ob 12 = .long (jI q) ∧ (∀ k, k ≠ 9 → k ≠ 10 → k ≠ 11 → k ≠ 12 → ob k = ob0 k) ∧ xfr S0 T (fun b => b = m) ∧ xmT p q t ∧ xbo (xfN F i) D t
theorem xBs.eqv {S0 T : xS} {i : Nat} {D D' : Int → Prop} (h : xBs S0 T m ob0 F i D) (hD : ∀ s, D s ↔ D' s) : xBs S0 T m ob0 F i D' := by
  obtain ⟨p, q, t, ob, h1, h2, h3, h4, h5, h6, h7, h8, h9⟩ := h
  exact ⟨p, q, t, ob, h1, h2, h3, h4, h5, h6, h7, h8, h9.eqv hD⟩
theorem xBs.o {S0 T : xS} {i : Nat} {D : Int → Prop} (h : xBs S0 T m ob0 F i D) : ∃ ob, xMo T m ob ∧ xfr S0 T (fun b => b = m) := by
  obtain ⟨p, q, t, ob, h1, h2, h3, h4, h5, h6, h7, h8, h9⟩ := h
  exact ⟨ob, h1, h7⟩
theorem g_tries {S0 T : xS} {i : Nat} {D : Int → Prop} (H : xBs S0 T m ob0 F i D) (hR : xRo S0 (m + 1) F) (hi : i < F.1) {u Q s : Int} (hx : xmT u Q s) : ∃ T', xcV P m_X11_tries [.ref m, .int (iI i), .long (jI u), .long (jI Q)] T = some T' ∧ xBs S0 T' m ob0 F i (fun t => D t ∨ t = s) := by
  obtain ⟨p, q, t, ob, M, h9, h10, h11, h12, hk, hf, ht, hb⟩ := H
  have hR' := hR.fr hf (by omega)
  have n0 := xnr_bd F i (x := 12 * p) (e := q) (by have := ht.1; omega)
  have n1 := xnr_bd F i (x := 12 * u) (e := Q) (by have := hx.1; omega)
  have f0 := xmT_f (F := F) (i := i) ht
  have f1 := xmT_f (F := F) (i := i) hx
  obtain ⟨q1, q2, p0, p1, pe⟩ := ht
  obtain ⟨Q1, Q2, u0, u1, ue⟩ := hx
  obtain ⟨lt, eq⟩ := x_rt xLL_pos (show 0 < Q by omega) (show 0 < q by omega) f1 f0
  obtain ⟨lt2, -⟩ := x_rt (show 0 < 12 * xLL by have := xLL_pos; omega) (show 0 < Q by omega) (show 0 < q by omega) ue.symm pe.symm
  have m1 := x_mul_bd n1.1 n1.2 (show 0 ≤ q by omega) q2
  have m2 := x_mul_bd n0.1 n0.2 (show 0 ≤ Q by omega) Q2
  have m3 := x_mul_bd u0 (show u ≤ 960 by omega) (show 0 ≤ q by omega) q2
  have m4 := x_mul_bd p0 (show p ≤ 960 by omega) (show 0 ≤ Q by omega) Q2
  have c1 : xnr F i (12 * u) Q * (12 * q) - xnr F i (12 * p) q * (12 * Q) = 12 * (xnr F i (12 * u) Q * q - xnr F i (12 * p) q * Q) := by
    rw [Int.mul_sub, show xnr F i (12 * u) Q * (12 * q) = 12 * (xnr F i (12 * u) Q * q) by ac_rfl, show xnr F i (12 * p) q * (12 * Q) = 12 * (xnr F i (12 * p) q * Q) by ac_rfl]
  have head : ∀ res, (if lg_cmp (jI (12 * (xnr F i (12 * u) Q * q - xnr F i (12 * p) q * Q))) (jI 0) < 0 then some (none, T) else if lg_cmp (jI (12 * (xnr F i (12 * u) Q * q - xnr F i (12 * p) q * Q))) (jI 0) ≠ 0 then (xob (xpf T m 11 9 1 (.long (jI (xnr F i (12 * u) Q)))) none fun q4 => (xob (xpf q4 m 11 10 1 (.long (jI (12 * Q)))) none fun q5 => (xob (xpf q5 m 11 11 1 (.long (jI u))) none fun q6 => (xob (xpf q6 m 11 12 1 (.long (jI Q))) none fun q7 => some (none, q7))))) else if lg_cmp (jI (u * q)) (jI (p * Q)) < 0 then (xob (xpf T m 11 9 1 (.long (jI (xnr F i (12 * u) Q)))) none fun q4 => (xob (xpf q4 m 11 10 1 (.long (jI (12 * Q)))) none fun q5 => (xob (xpf q5 m 11 11 1 (.long (jI u))) none fun q6 => (xob (xpf q6 m 11 12 1 (.long (jI Q))) none fun q7 => some (none, q7))))) else some (none, T)) = res → xrun P m_X11_tries 0 (lv_args 0 [.ref m, .int (iI i), .long (jI u), .long (jI Q)]) [] T = res := by
    intro res hres
    refine (e_X11_tries_0 P m (iI i) (jI u) (jI Q) T).trans ?_
    rw [if_neg (by rw [x_clt (by omega) (by omega) (by decide) (by decide)]; omega), if_pos (by rw [x_clt (by omega) (by omega) (by omega) (by omega)]; omega), M.o, cond_true, g_nearestTop M hR' hi u0 (by omega) Q1 (by omega), xob_some]
    simp only [M.j (by decide) h9, M.j (by decide) h10, M.j (by decide) h11, M.j (by decide) h12, xob_some, jI_mul, jI_sub, c1]
    exact hres
  have keep : xlx (xfN F i) s t → xBs S0 T m ob0 F i (fun t => D t ∨ t = s) := fun g => ⟨p, q, t, ob, M, h9, h10, h11, h12, hk, hf, ⟨q1, q2, p0, p1, pe⟩, (xbo_add hb).1 g⟩
  obtain ⟨S1, S2, S3, S4, ob', w1, w2, w3, w4, M', w9, w10, w11, w12, wk, wf⟩ := M.put4 (xnr F i (12 * u) Q) (12 * Q) u Q
  have new : xlx (xfN F i) t s → xBs S0 S4 m ob0 F i (fun t => D t ∨ t = s) := fun g => ⟨u, Q, s, ob', M', w9, w10, w11, w12, fun k a b c d => (wk k a b c d).trans (hk k a b c d), hf.tr wf, ⟨Q1, Q2, u0, u1, ue⟩, (xbo_add hb).2 g⟩
  by_cases a : xfN F i s < xfN F i t
  · refine ⟨T, xcV_of (head _ ?_), keep (Or.inl a)⟩
    have a' := lt.mpr a
    rw [if_pos (by rw [x_clt (by omega) (by omega) (by decide) (by decide)]; omega)]
  · have a' := fun z => a (lt.mp z)
    by_cases b : xfN F i s = xfN F i t
    · have b' := eq.mpr b
      by_cases c : s < t
      · have c' := lt2.mpr c
        refine ⟨S4, xcV_of (head _ ?_), new (Or.inr ⟨b.symm, by omega⟩)⟩
        rw [if_neg (by rw [x_clt (by omega) (by omega) (by decide) (by decide)]; omega), if_neg (by rw [ne_eq, x_ceq (by omega) (by omega) (by decide) (by decide)]; omega), if_pos (by rw [x_clt (by omega) (by omega) (by omega) (by omega)]; omega), w1, xob_some, w2, xob_some, w3, xob_some, w4, xob_some]
      · have c' := fun z => c (lt2.mp z)
        refine ⟨T, xcV_of (head _ ?_), keep (Or.inr ⟨b, by omega⟩)⟩
        rw [if_neg (by rw [x_clt (by omega) (by omega) (by decide) (by decide)]; omega), if_neg (by rw [ne_eq, x_ceq (by omega) (by omega) (by decide) (by decide)]; omega), if_neg (by rw [x_clt (by omega) (by omega) (by omega) (by omega)]; exact c')]
    · have b' := fun z => b (eq.mp z)
      refine ⟨S4, xcV_of (head _ ?_), new (Or.inl (by omega))⟩
      rw [if_neg (by rw [x_clt (by omega) (by omega) (by decide) (by decide)]; omega), if_pos (by rw [ne_eq, x_ceq (by omega) (by omega) (by decide) (by decide)]; omega), w1, xob_some, w2, xob_some, w3, xob_some, w4, xob_some]
theorem xmT_ta {u e : Int} (e0 : 1 ≤ e) (e1 : e ≤ 80) (u0 : 0 ≤ u) (u1 : u < 12 * e) : xmT u (12 * e) (xta u e) := by
  refine ⟨by omega, by omega, u0, u1, ?_⟩
  unfold xta
  have := xta_L e0 e1
  rw [show u * (xLL / e) * (12 * e) = u * (12 * (e * (xLL / e))) by ac_rfl, ← this]
theorem l_tw41 {S0 : xS} {i : Nat} (hR : xRo S0 (m + 1) F) (hi : i < F.1) {g l : Int} (g0 : 1 ≤ g) (g1 : g ≤ 80) {D : Int → Prop} {T : xS} (H : xBs S0 T m ob0 F i D) : ∃ T', xrun P m_X11_triesWholes 41 [(0, .ref m), (1, .int (iI i)), (4, .int (iI g)), (5, .int (iI ((-l) % 12))), (6, .int (iI 0))] [] T = some (none, T') ∧ xBs S0 T' m ob0 F i (fun t => D t ∨ xcn g l t) := by
  have b0 := Int.emod_nonneg (-l) (show (12 : Int) ≠ 0 by decide)
  have b1 := Int.emod_lt_of_pos (-l) (show (0 : Int) < 12 by decide)
  have key := xloopQ (run := fun r (Z : xS) => xrun P m_X11_triesWholes 41 [(0, .ref m), (1, .int (iI i)), (4, .int (iI g)), (5, .int (iI ((-l) % 12))), (6, .int (iI r))] [] Z)
    (Inv := fun r Z => xBs S0 Z m ob0 F i (fun t => D t ∨ ∃ k : Nat, k < r ∧ t = xta ((-l) % 12 + 12 * k) g))
    (fun res => ∃ T', res = some (none, T') ∧ xBs S0 T' m ob0 F i (fun t => D t ∨ ∃ k : Nat, (k : Int) < g ∧ t = xta ((-l) % 12 + 12 * k) g)) 0 g.toNat (Nat.zero_le _) (by
      intro r Z _ hr hZ
      right
      obtain ⟨ob, hM, -⟩ := hZ.o
      obtain ⟨T', k1, k2⟩ := g_tries (P := P) hZ hR hi (xmT_ta (u := (-l) % 12 + 12 * r) g0 g1 (by omega) (by omega))
      refine ⟨T', ?_, k2.eqv (fun s => ?_)⟩
      · rw [e_X11_triesWholes_41, if_neg (by rw [iI_le (by omega) (by omega) (by omega) (by omega)]; omega), hM.o, cond_true, iI_ji (by omega) (by omega), iI_ji (by omega) (by omega), iI_ji (by omega) (by omega), jI_mul, jI_add, jI_mul, k1, xob_some, iI_suc]
      · constructor
        · rintro ((h | ⟨k, h1, h2⟩) | h)
          · exact Or.inl h
          · exact Or.inr ⟨k, by omega, h2⟩
          · exact Or.inr ⟨r, by omega, h⟩
        · rintro (h | ⟨k, h1, h2⟩)
          · exact Or.inl (Or.inl h)
          · by_cases c : k = r
            · subst c; exact Or.inr h2
            · exact Or.inl (Or.inr ⟨k, by omega, h2⟩)) (by
      intro Z hZ
      refine ⟨Z, ?_, hZ.eqv (fun s => ?_)⟩
      · rw [e_X11_triesWholes_41, if_pos (by rw [iI_le (by omega) (by omega) (by omega) (by omega)]; omega)]
      · constructor
        · rintro (h | ⟨k, h1, h2⟩)
          · exact Or.inl h
          · exact Or.inr ⟨k, by omega, h2⟩
        · rintro (h | ⟨k, h1, h2⟩)
          · exact Or.inl h
          · exact Or.inr ⟨k, by omega, h2⟩) (s := T) (H.eqv (fun s => ⟨Or.inl, fun h => h.elim id (fun ⟨k, h1, _⟩ => absurd h1 (by omega))⟩))
  obtain ⟨T', k1, k2⟩ := key
  refine ⟨T', k1, k2.eqv (fun s => ?_)⟩
  constructor
  · rintro (h | ⟨k, h1, h2⟩)
    · exact Or.inl h
    · rw [h2]; exact Or.inr (xcn_k g0 g1 (by omega) h1)
  · rintro (h | h)
    · exact Or.inl h
    · exact Or.inr (xcn_ex g0 g1 h)
theorem g_triesWholes {S0 : xS} {i : Nat} (hR : xRo S0 (m + 1) F) (hi : i < F.1) {d l : Int} (d0 : -80 ≤ d) (d1 : d ≤ 80) (l0 : -1000 ≤ l) (l1 : l ≤ 1000) {D : Int → Prop} {T : xS} (H : xBs S0 T m ob0 F i D) : ∃ T', xcV P m_X11_triesWholes [.ref m, .int (iI i), .int (iI d), .int (iI l)] T = some T' ∧ xBs S0 T' m ob0 F i (fun t => D t ∨ xcm d l t) := by
  by_cases c : d = 0
  · refine ⟨T, xcV_of ((e_X11_triesWholes_0 P m (iI i) (iI d) (iI l) T).trans ?_), H.eqv (fun s => ⟨Or.inl, fun h => h.elim id (fun z => absurd c z.1)⟩)⟩
    rw [if_neg (by rw [c]; decide +kernel)]
  · have nz : iI d ≠ 0 := by rw [ne_eq, t_nz (by omega) (by omega) c]; exact fun z => z
    by_cases e : 0 ≤ d
    · have le : 0 ≤ iI d := by rw [iI_0, iI_le (by omega) (by omega) (by omega) (by omega)]; exact e
      obtain ⟨T', k1, k2⟩ := l_tw41 (P := P) hR hi (g := d) (l := l) (by omega) d1 H
      refine ⟨T', xcV_of ((e_X11_triesWholes_0 P m (iI i) (iI d) (iI l) T).trans ?_), k2.eqv (fun s => by rw [xcm_pos (show 0 < d by omega)])⟩
      rw [if_pos nz, if_pos le, if_pos le, iI_neg, iI_ji (by omega) (by omega), d_ring (by omega) (by omega) (by decide) (by decide), xob_some]
      dsimp only
      rw [jI_ij]
      exact k1
    · have le : ¬ 0 ≤ iI d := by rw [iI_0, iI_le (by omega) (by omega) (by omega) (by omega)]; exact e
      obtain ⟨T', k1, k2⟩ := l_tw41 (P := P) hR hi (g := -d) (l := -l) (by omega) (by omega) H
      rw [Int.neg_neg] at k1
      refine ⟨T', xcV_of ((e_X11_triesWholes_0 P m (iI i) (iI d) (iI l) T).trans ?_), k2.eqv (fun s => by rw [← xcm_pos (show 0 < -d by omega), xcm_neg])⟩
      rw [if_pos nz, if_neg le, if_neg le, iI_neg, iI_ji (by omega) (by omega), d_ring (by omega) (by omega) (by decide) (by decide), xob_some]
      dsimp only
      rw [jI_ij]
      exact k1
/-- the times that it tries -/
def xDD (F : xF) (i j : Nat) : Int := F.2.1 i - F.2.1 j
def xLD (F : xF) (i j : Nat) : Int := F.2.2 i - F.2.2 j
def xDp (F : xF) (i j m' : Nat) (t : Int) : Prop := m' ≠ i ∧ (xcm (xDD F i j - xDD F i m') (xLD F i j - xLD F i m') t ∨ xcm (xDD F i j + xDD F i m') (xLD F i j + xLD F i m') t)
def xDm (F : xF) (i j : Nat) (t : Int) : Prop := t = 0 ∨ ∃ j', j' < j ∧ j' ≠ i ∧ (xcm (xDD F i j') (xLD F i j' + 6) t ∨ ∃ m', m' < j' ∧ xDp F i j' m' t)
def xDi (F : xF) (i j n : Nat) (t : Int) : Prop := (xDm F i j t ∨ xcm (xDD F i j) (xLD F i j + 6) t) ∨ ∃ m', m' < n ∧ xDp F i j m' t
theorem g_looks (M : xMo S m ob0) (hR : xRo S (m + 1) F) {i : Nat} (hi : i < F.1) : ∃ T, xcV P m_X11_looksForBest [.ref m, .int (iI i)] S = some T ∧ xBs S T m ob0 F i (xDm F i F.1) := by
  have hk := hR.1.1
  have bi := hR.1.2 i hi
  have nt := g_nearestTop (P := P) M hR hi (p := 0) (q := 1) (by decide) (by decide) (by decide) (by decide)
  obtain ⟨S1, S2, S3, S4, ob', w1, w2, w3, w4, M', w9, w10, w11, w12, wk, wf⟩ := M.put4 (xnr F i (12 * 0) 1) (12 * 1) 0 1
  have w2' : xpf S1 m 11 10 1 (.long (jI 12)) = some S2 := w2
  have B0 : xBs S S4 m ob0 F i (xDm F i 0) := ⟨0, 1, 0, ob', M', w9, w10, w11, w12, wk, wf, ⟨by decide, by decide, by decide, by decide, by rw [Int.zero_mul, Int.zero_mul]⟩, Or.inl rfl, fun s hs => by
    rcases hs with rfl | ⟨j', h, -⟩
    · exact xlx.rf _ _
    · omega⟩
  have key := xloopQ (run := fun r (Z : xS) => xrun P m_X11_looksForBest 30 [(0, .ref m), (1, .int (iI i)), (2, .int (iI r))] [] Z)
    (Inv := fun r Z => xBs S Z m ob0 F i (xDm F i r))
    (fun res => ∃ T', res = some (none, T') ∧ xBs S T' m ob0 F i (xDm F i F.1)) 0 F.1 (Nat.zero_le _) (by
      intro r Z _ hr hZ
      right
      obtain ⟨ob, hM, hfz⟩ := hZ.o
      have hRz := hR.fr hfz (by omega)
      have br := hR.1.2 r hr
      by_cases c : r = i
      · refine ⟨Z, ?_, hZ.eqv (fun s => ?_)⟩
        · rw [e_X11_looksForBest_30, hM.r1, xob_some, g_K hRz, xob_some, if_neg (by rw [iI_le (by omega) (by omega) (by omega) (by omega)]; omega), if_neg (by rw [c]; exact fun z => z rfl), iI_suc]
        · constructor
          · rintro (h | ⟨j', h1, h2⟩)
            · exact Or.inl h
            · exact Or.inr ⟨j', by omega, h2⟩
          · rintro (h | ⟨j', h1, h2, h3⟩)
            · exact Or.inl h
            · exact Or.inr ⟨j', by omega, h2, h3⟩
      · obtain ⟨Z1, k1, k2⟩ := g_triesWholes (P := P) hR hi (d := xDD F i r) (l := xLD F i r + 6) (by unfold xDD; omega) (by unfold xDD; omega) (by unfold xLD; omega) (by unfold xLD; omega) hZ
        have key2 := xloopQ (run := fun n (Z : xS) => xrun P m_X11_looksForBest 87 [(0, .ref m), (1, .int (iI i)), (2, .int (iI r)), (3, .int (iI (xDD F i r))), (4, .int (iI (xLD F i r))), (5, .int (iI n))] [] Z)
          (Inv := fun n Z => xBs S Z m ob0 F i (xDi F i r n))
          (fun res => ∃ T', res = xrun P m_X11_looksForBest 30 [(0, .ref m), (1, .int (iI i)), (2, .int (iI ((r + 1 : Nat) : Int)))] [] T' ∧ xBs S T' m ob0 F i (xDi F i r r)) 0 r (Nat.zero_le _) (by
            intro n Y _ hn hY
            right
            obtain ⟨obY, hMY, hfY⟩ := hY.o
            have hRY := hR.fr hfY (by omega)
            have bn := hR.1.2 n (by omega)
            by_cases c2 : n = i
            · refine ⟨Y, ?_, hY.eqv (fun s => ?_)⟩
              · rw [e_X11_looksForBest_87, if_neg (by rw [iI_le (by omega) (by omega) (by omega) (by omega)]; omega), if_neg (by rw [c2]; exact fun z => z rfl), iI_suc]
              · constructor
                · rintro (h | ⟨j', h1, h2⟩)
                  · exact Or.inl h
                  · exact Or.inr ⟨j', by omega, h2⟩
                · rintro (h | ⟨j', h1, h2, h3⟩)
                  · exact Or.inl h
                  · exact Or.inr ⟨j', by omega, h2, h3⟩
            · obtain ⟨Y1, a1, a2⟩ := g_triesWholes (P := P) hR hi (d := xDD F i r - xDD F i n) (l := xLD F i r - xLD F i n) (by unfold xDD; omega) (by unfold xDD; omega) (by unfold xLD; omega) (by unfold xLD; omega) hY
              obtain ⟨obY1, hMY1, -⟩ := a2.o
              obtain ⟨Y2, b1, b2⟩ := g_triesWholes (P := P) hR hi (d := xDD F i r + xDD F i n) (l := xLD F i r + xLD F i n) (by unfold xDD; omega) (by unfold xDD; omega) (by unfold xLD; omega) (by unfold xLD; omega) a2
              refine ⟨Y2, ?_, b2.eqv (fun s => ?_)⟩
              · have e1 : F.2.1 i - F.2.1 n = xDD F i n := rfl
                have e2 : F.2.2 i - F.2.2 n = xLD F i n := rfl
                rw [e_X11_looksForBest_87, if_neg (by rw [iI_le (by omega) (by omega) (by omega) (by omega)]; omega), if_pos (by rw [ne_eq, iI_eq (by omega) (by omega) (by omega) (by omega)]; omega)]
                simp only [hMY.o, g_speedOf hMY hRY hi, g_speedOf hMY hRY (show n < F.1 by omega), g_startOf hMY hRY hi, g_startOf hMY hRY (show n < F.1 by omega), iI_sub, iI_add, xob_some, cond_true, e1, e2, a1, hMY1.o, b1, iI_suc]
                rfl
              · constructor
                · rintro (((h | ⟨j', h1, h2⟩) | h) | h)
                  · exact Or.inl h
                  · exact Or.inr ⟨j', by omega, h2⟩
                  · exact Or.inr ⟨n, by omega, c2, Or.inl h⟩
                  · exact Or.inr ⟨n, by omega, c2, Or.inr h⟩
                · rintro (h | ⟨j', h1, h2, h3⟩)
                  · exact Or.inl (Or.inl (Or.inl h))
                  · by_cases e : j' = n
                    · subst e
                      rcases h3 with h3 | h3
                      · exact Or.inl (Or.inr h3)
                      · exact Or.inr h3
                    · exact Or.inl (Or.inl (Or.inr ⟨j', by omega, h2, h3⟩))) (by
            intro Y hY
            refine ⟨Y, ?_, hY⟩
            rw [e_X11_looksForBest_87, if_pos (by rw [iI_le (by omega) (by omega) (by omega) (by omega)]; omega), iI_suc]) (s := Z1) (k2.eqv (fun s => ⟨Or.inl, fun h => h.elim id (fun ⟨k, h1, _⟩ => absurd h1 (by omega))⟩))
        obtain ⟨T', t1, t2⟩ := key2
        refine ⟨T', ?_, t2.eqv (fun s => ?_)⟩
        · have e1 : F.2.1 i - F.2.1 r = xDD F i r := rfl
          have e2 : F.2.2 i - F.2.2 r = xLD F i r := rfl
          rw [e_X11_looksForBest_30, hM.r1, xob_some, g_K hRz, xob_some, if_neg (by rw [iI_le (by omega) (by omega) (by omega) (by omega)]; omega), if_pos (by rw [ne_eq, iI_eq (by omega) (by omega) (by omega) (by omega)]; omega)]
          simp only [hM.o, g_speedOf hM hRz hi, g_speedOf hM hRz hr, g_startOf hM hRz hi, g_startOf hM hRz hr, iI_sub, iI_add, xob_some, cond_true, e1, e2, k1]
          exact t1
        · constructor
          · rintro ((h | h) | ⟨m', h1, h2⟩)
            · rcases h with h | ⟨j', h1, h2⟩
              · exact Or.inl h
              · exact Or.inr ⟨j', by omega, h2⟩
            · exact Or.inr ⟨r, by omega, c, Or.inl h⟩
            · exact Or.inr ⟨r, by omega, c, Or.inr ⟨m', h1, h2⟩⟩
          · rintro (h | ⟨j', h1, h2, h3⟩)
            · exact Or.inl (Or.inl (Or.inl h))
            · by_cases e : j' = r
              · subst e
                rcases h3 with h3 | h3
                · exact Or.inl (Or.inr h3)
                · exact Or.inr h3
              · exact Or.inl (Or.inl (Or.inr ⟨j', by omega, h2, h3⟩))) (by
      intro Z hZ
      obtain ⟨ob, hM, hfz⟩ := hZ.o
      have hRz := hR.fr hfz (by omega)
      refine ⟨Z, ?_, hZ⟩
      rw [e_X11_looksForBest_30, hM.r1, xob_some, g_K hRz, xob_some, if_pos (by rw [iI_le (by omega) (by omega) (by omega) (by omega)]; omega)]) (s := S4) B0
  obtain ⟨T, k1, k2⟩ := key
  refine ⟨T, xcV_of ((e_X11_looksForBest_0 P m (iI i) S).trans ?_), k2⟩
  rw [M.o, cond_true, nt, xob_some]
  dsimp only
  rw [w1, xob_some, w2', xob_some, w3, xob_some, w4, xob_some]
  exact k1
end BS
