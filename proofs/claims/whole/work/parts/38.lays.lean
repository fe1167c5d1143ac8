-- deps: 37.turns
/-! the reference: the times at which one is u by w ahead of, or behind another one -/
/-- the speed between them, how far ahead (mirrored, where slower) -/
def xmg (F : xF) (i j : Nat) : Int := ((F.2.1 i - F.2.1 j).natAbs : Int)
def xmr (F : xF) (i j : Nat) : Int := if F.2.1 i < F.2.1 j then F.2.2 j - F.2.2 i else F.2.2 i - F.2.2 j
def xcr (F : xF) (i j : Nat) (u w sc Y : Int) : Prop := F.2.1 i ≠ F.2.1 j ∧ ∃ side z : Int, (side = 1 ∨ side = -1) ∧ Y * (12 * w * xmg F i j) = sc * (12 * w * z + side * 12 * u - w * xmr F i j)
/-- Y is one of the first n -/
def xmm (n : Nat) (T : Nat → Int) (Y : Int) : Prop := ∃ k, k < n ∧ T k = Y
section LT
variable {P : Nat → Nat} {S : xS} {m n : Nat} {ob : Nat → Value} {sc : Int} {T : Nat → Int} {F : xF}
/-- what stands while times are laid -/
def xLT (S0 : xS) (m : Nat) (ob0 : Nat → Value) (sc : Int) (S : xS) (n : Nat) (D : Int → Prop) : Prop := ∃ ob T, xMo S m ob ∧ (∀ k, k ≠ 15 → ob k = ob0 k) ∧ xTn S m ob n sc T ∧ (∀ Y, xmm n T Y ↔ D Y) ∧ xfr S0 S (fun c => c = m ∨ c = m + 8 ∨ c = m + 9)
theorem xLT.eqv {S0 : xS} {D D' : Int → Prop} (h : xLT S0 m ob sc S n D) (hD : ∀ Y, D Y ↔ D' Y) : xLT S0 m ob sc S n D' := by
  obtain ⟨ob1, T, h1, h2, h3, h4, h5⟩ := h
  exact ⟨ob1, T, h1, h2, h3, fun Y => (h4 Y).trans (hD Y), h5⟩
theorem xLT.o {S0 : xS} {D : Int → Prop} (h : xLT S0 m ob sc S n D) : xisO S m 11 = true := by
  obtain ⟨ob1, T, h1, -⟩ := h
  exact h1.o
theorem x_lay (hs : 0 < sc) {S0 : xS} {D : Int → Prop} (h : xLT S0 m ob sc S n D) (hn : n < 1300) {p q X : Int} (p0 : -1000000000 ≤ p) (p1 : p ≤ 1000000000) (q0 : 1 ≤ q) (q1 : q ≤ 5760) (qd : q ∣ 12 * sc) (hX : p * sc = X * q) : ∃ S1 n1, xcV P m_X11_laysTurn [.ref m, .long (jI p), .long (jI q)] S = some S1 ∧ n ≤ n1 ∧ n1 ≤ n + 1 ∧ xLT S0 m ob sc S1 n1 (fun Y => D Y ∨ (0 ≤ Y ∧ Y ≤ sc ∧ Y = X)) := by
  obtain ⟨ob1, T, h1, h2, h3, h4, h5⟩ := h
  obtain ⟨S1, ob2, n1, T1, k1, k2, k3, k4, k5, k6, k7, k8⟩ := d_laysTurn (P := P) h1 h3 hn hs p0 p1 q0 q1 qd (fun _ _ => hX)
  have e : (0 ≤ p ↔ 0 ≤ X) ∧ (p ≤ q ↔ X ≤ sc) := by
    have l1 : 0 * sc ≤ p * sc ↔ 0 ≤ p := Int.mul_le_mul_right hs
    have l2 : 0 * q ≤ X * q ↔ 0 ≤ X := Int.mul_le_mul_right (by omega)
    have l3 : p * sc ≤ q * sc ↔ p ≤ q := Int.mul_le_mul_right hs
    have l4 : X * q ≤ sc * q ↔ X ≤ sc := Int.mul_le_mul_right (by omega)
    rw [Int.zero_mul] at l1 l2
    rw [Int.mul_comm sc] at l4
    rw [hX] at l1 l3
    exact ⟨l1.symm.trans l2, l3.symm.trans l4⟩
  refine ⟨S1, n1, k1, k5, k6, ob2, T1, k2, fun k hk => (k3 k hk).trans (h2 k hk), k4, fun Y => ?_, h5.tr k8⟩
  rw [show xmm n1 T1 Y ↔ _ from k7 Y, show (∃ k, k < n ∧ T k = Y) ↔ D Y from h4 Y]
  constructor
  · rintro (z | ⟨z1, z2, z3⟩)
    · exact Or.inl z
    · exact Or.inr ⟨by rw [z3]; exact e.1.mp z1, by rw [z3]; exact e.2.mp z2, z3⟩
  · rintro (z | ⟨z1, z2, z3⟩)
    · exact Or.inl z
    · exact Or.inr ⟨e.1.mpr (by rw [← z3]; exact z1), e.2.mpr (by rw [← z3]; exact z2), z3⟩
/-- one side -/
theorem l_side (hs : 0 < sc) {S0 : xS} {D : Int → Prop} (h : xLT S0 m ob sc S n D) {g u w r side : Int} (g0 : 1 ≤ g) (g1 : g ≤ 40) (w0 : 1 ≤ w) (w1 : w ≤ 12) (u0 : 0 ≤ u) (u1 : u ≤ 12) (r0 : -12 < r) (r1 : r < 12) (hside : side = 1 ∨ side = -1) (hn : n + 41 ≤ 1300) (qd : 12 * w * g ∣ 12 * sc) (hX : ∀ z : Int, ∃ X : Int, (12 * w * z + side * 12 * u - w * r) * sc = X * (12 * w * g)) :
    ∃ S1 n1, xrun P m_X11_laysTurns 78 [(0, .ref m), (3, .int (iI u)), (4, .int (iI w)), (6, .int (iI g)), (7, .int (iI r)), (8, .long (jI (12 * w))), (10, .int (iI side))] [] S = xrun P m_X11_laysTurns 78 [(0, .ref m), (3, .int (iI u)), (4, .int (iI w)), (6, .int (iI g)), (7, .int (iI r)), (8, .long (jI (12 * w))), (10, .int (iI (side + 2)))] [] S1 ∧ n ≤ n1 ∧ n1 ≤ n + 41 ∧ xLT S0 m ob sc S1 n1 (fun Y => D Y ∨ (0 ≤ Y ∧ Y ≤ sc ∧ ∃ z, Y * (12 * w * g) = sc * (12 * w * z + side * 12 * u - w * r))) := by
  have hw : 12 * w * g = w * g * 12 := by ac_rfl
  have wg := x_mul_bd (show 0 ≤ w by omega) w1 (show 0 ≤ g by omega) g1
  have wg1 : 1 ≤ w * g := by
    have := Int.mul_le_mul_of_nonneg_left g0 (show 0 ≤ w by omega)
    omega
  have wr1 := Int.mul_le_mul_of_nonneg_left (show r ≤ 11 by omega) (show 0 ≤ w by omega)
  have wr2 := Int.mul_le_mul_of_nonneg_left (show -11 ≤ r by omega) (show 0 ≤ w by omega)
  have su : side * 12 * u = 12 * (side * u) := by ac_rfl
  have su1 : -12 ≤ side * u ∧ side * u ≤ 12 := by
    rcases hside with e | e <;> rw [e] <;> omega
  generalize hA : side * 12 * u - w * r = A at *
  have bA : -300 ≤ A ∧ A ≤ 300 := by omega
  have m0 := Int.emod_nonneg A (show 12 * w ≠ 0 by omega)
  have m1 := Int.emod_lt_of_pos A (show 0 < 12 * w by omega)
  have md := Int.mul_ediv_add_emod A (12 * w)
  have hX2 : ∀ k : Int, ∃ X : Int, (A % (12 * w) + 12 * w * k) * sc = X * (12 * w * g) := by
    intro k
    obtain ⟨X, hX⟩ := hX (k - A / (12 * w))
    refine ⟨X, ?_⟩
    rw [← hX, Int.mul_sub]
    congr 1
    omega
  have key := xloopQ (run := fun k (Z : xS × Nat) => xrun P m_X11_laysTurns 112 [(0, .ref m), (3, .int (iI u)), (4, .int (iI w)), (6, .int (iI g)), (7, .int (iI r)), (8, .long (jI (12 * w))), (10, .int (iI side)), (11, .long (jI (A % (12 * w)))), (13, .int (iI k))] [] Z.1)
    (Inv := fun k Z => n ≤ Z.2 ∧ Z.2 ≤ n + k ∧ xLT S0 m ob sc Z.1 Z.2 (fun Y => D Y ∨ (0 ≤ Y ∧ Y ≤ sc ∧ ∃ k' : Nat, k' < k ∧ Y * (12 * w * g) = (A % (12 * w) + 12 * w * k') * sc)))
    (fun res => ∃ S1 n1, res = xrun P m_X11_laysTurns 78 [(0, .ref m), (3, .int (iI u)), (4, .int (iI w)), (6, .int (iI g)), (7, .int (iI r)), (8, .long (jI (12 * w))), (10, .int (iI (side + 2)))] [] S1 ∧ n ≤ n1 ∧ n1 ≤ n + 41 ∧ xLT S0 m ob sc S1 n1 (fun Y => D Y ∨ (0 ≤ Y ∧ Y ≤ sc ∧ ∃ z, Y * (12 * w * g) = sc * (12 * w * z + side * 12 * u - w * r)))) 0 (g.toNat + 1) (by omega) (fun k Z _ hk hZ => by
      obtain ⟨S', n'⟩ := Z
      obtain ⟨b1, b2, hL⟩ := hZ
      dsimp only at b1 b2 hL
      obtain ⟨X, hX⟩ := hX2 k
      have wk := x_mul_bd (show 0 ≤ w by omega) w1 (show (0 : Int) ≤ k by omega) (show (k : Int) ≤ 40 by omega)
      have wk2 : 12 * w * k = 12 * (w * k) := by ac_rfl
      obtain ⟨S1, n1, k1, k2, k3, k4⟩ := x_lay (P := P) hs hL (by omega) (p := A % (12 * w) + 12 * w * k) (q := 12 * w * g) (by omega) (by omega) (by omega) (by omega) qd hX
      refine Or.inr ⟨(S1, n1), ?_, by dsimp only; omega, by dsimp only; omega, k4.eqv (fun Y => ?_)⟩
      · dsimp only
        rw [e_X11_laysTurns_112]
        simp (disch := omega) only [iI_lt, iI_ji, jI_mul, jI_add]
        rw [if_neg (by omega), hL.o, cond_true, k1, xob_some, iI_suc]
      · constructor
        · rintro ((z | ⟨z1, z2, k', z3, z4⟩) | ⟨z1, z2, z3⟩)
          · exact Or.inl z
          · exact Or.inr ⟨z1, z2, k', by omega, z4⟩
          · exact Or.inr ⟨z1, z2, k, by omega, by rw [z3]; exact hX.symm⟩
        · rintro (z | ⟨z1, z2, k', z3, z4⟩)
          · exact Or.inl (Or.inl z)
          · by_cases c : k' = k
            · subst c
              refine Or.inr ⟨z1, z2, ?_⟩
              rw [hX] at z4
              exact Int.eq_of_mul_eq_mul_right (by omega) z4
            · exact Or.inl (Or.inr ⟨z1, z2, k', by omega, z4⟩)) (fun Z hZ => by
      obtain ⟨S', n'⟩ := Z
      obtain ⟨b1, b2, hL⟩ := hZ
      dsimp only at b1 b2 hL
      refine ⟨S', n', ?_, b1, by omega, hL.eqv (fun Y => ?_)⟩
      · dsimp only
        rw [e_X11_laysTurns_112]
        simp (disch := omega) only [iI_lt]
        rw [if_pos (by omega), iI_add]
      · constructor
        · rintro (z | ⟨z1, z2, k', z3, z4⟩)
          · exact Or.inl z
          · refine Or.inr ⟨z1, z2, k' - A / (12 * w), ?_⟩
            rw [z4, Int.mul_comm sc, Int.mul_sub]
            congr 1
            omega
        · rintro (z | ⟨z1, z2, z', z4⟩)
          · exact Or.inl z
          · -- the whole number k of it
            have e : Y * (12 * w * g) = sc * (A % (12 * w) + 12 * w * (z' + A / (12 * w))) := by
              rw [z4, Int.mul_add (12 * w)]
              congr 1
              omega
            generalize hk' : z' + A / (12 * w) = k' at e
            have y0 : 0 ≤ Y * (12 * w * g) := Int.mul_nonneg z1 (by omega)
            have y1 : Y * (12 * w * g) ≤ sc * (12 * w * g) := Int.mul_le_mul_of_nonneg_right z2 (by omega)
            rw [e] at y0 y1
            have y2 := Int.le_of_mul_le_mul_left y1 hs
            have y3 : 0 ≤ A % (12 * w) + 12 * w * k' := by
              rw [← Int.mul_zero sc] at y0
              exact Int.le_of_mul_le_mul_left y0 hs
            have k0 : 0 ≤ k' := by
              by_cases c : 0 ≤ k'
              · exact c
              · have := Int.mul_le_mul_of_nonneg_left (show k' ≤ -1 by omega) (show 0 ≤ 12 * w by omega)
                omega
            have k1 : k' ≤ g := by
              by_cases c : k' ≤ g
              · exact c
              · have := Int.mul_le_mul_of_nonneg_left (show g + 1 ≤ k' by omega) (show 0 ≤ 12 * w by omega)
                rw [Int.mul_add] at this
                omega
            refine Or.inr ⟨z1, z2, k'.toNat, by omega, ?_⟩
            rw [e, Int.toNat_of_nonneg k0, Int.mul_comm]) (s := (S, n)) ⟨Nat.le_refl _, Nat.le_refl _, h.eqv (fun Y => ⟨Or.inl, fun z => z.elim id (fun z => by obtain ⟨-, -, k', hk', -⟩ := z; omega)⟩)⟩
  obtain ⟨S1, n1, k1, k2⟩ := key
  refine ⟨S1, n1, ?_, k2⟩
  rw [e_X11_laysTurns_78]
  have hs1 : -1 ≤ side ∧ side ≤ 1 := by omega
  simp (disch := omega) only [iI_lt, iI_ji, jI_mul, jI_sub]
  rw [if_neg (by omega), hA, d_ring (by omega) (by omega) (by omega) (by omega), xob_some]
  exact k1
theorem d_laysTurns (hM : xMo S m ob) (hF : xRo S (m + 1) F) (hs : 0 < sc) {i j : Nat} (hi : i < F.1) (hj : j < F.1) {u w pt pw p12 : Int} (w0 : 1 ≤ w) (w1 : w ≤ 12) (u0 : 0 ≤ u) (u1 : u ≤ 12) {G : Int} (hsc : sc = pt * G) (hp : pt = w * pw) (hp2 : pt = 12 * p12) (hd : F.2.1 i ≠ F.2.1 j → xmg F i j ∣ G) {S0 : xS} {ob0 : Nat → Value} {D : Int → Prop} (h : xLT S0 m ob0 sc S n D) (hn : n + 82 ≤ 1300) :
    ∃ S1 n1, xcV P m_X11_laysTurns [.ref m, .int (iI i), .int (iI j), .int (iI u), .int (iI w)] S = some S1 ∧ n ≤ n1 ∧ n1 ≤ n + 82 ∧ xLT S0 m ob0 sc S1 n1 (fun Y => D Y ∨ (0 ≤ Y ∧ Y ≤ sc ∧ xcr F i j u w sc Y)) := by
  have b1 := hF.1.2 i hi
  have b2 := hF.1.2 j hj
  by_cases c : F.2.1 i = F.2.1 j
  · refine ⟨S, n, xcV_of ((e_X11_laysTurns_0 P m (iI i) (iI j) (iI u) (iI w) S).trans ?_), Nat.le_refl _, by omega, h.eqv (fun Y => ⟨Or.inl, fun z => z.elim id (fun z => absurd c z.2.2.1)⟩)⟩
    rw [hM.o, cond_true, g_speedOf hM hF hi, xob_some]
    dsimp only
    rw [hM.o, cond_true, g_speedOf hM hF hj, xob_some, iI_sub, if_neg (by rw [ne_eq, iI_0, iI_eq (by omega) (by omega) (by omega) (by omega)]; omega)]
  · have gb : 1 ≤ xmg F i j ∧ xmg F i j ≤ 40 := by unfold xmg; omega
    have rb : -12 < xmr F i j ∧ xmr F i j < 12 := by unfold xmr; split <;> omega
    obtain ⟨s, hsG⟩ := hd c
    have hX : ∀ side z : Int, ∃ X : Int, (12 * w * z + side * 12 * u - w * xmr F i j) * sc = X * (12 * w * xmg F i j) := by
      intro side z
      refine ⟨s * (pt * z + side * pw * u - p12 * xmr F i j), ?_⟩
      rw [hsc, hsG]
      have e1 : 12 * w * z * (pt * (xmg F i j * s)) = s * (pt * z) * (12 * w * xmg F i j) := by ac_rfl
      have e2 : side * 12 * u * (pt * (xmg F i j * s)) = s * (side * pw * u) * (12 * w * xmg F i j) := by rw [hp]; ac_rfl
      have e3 : w * xmr F i j * (pt * (xmg F i j * s)) = s * (p12 * xmr F i j) * (12 * w * xmg F i j) := by rw [hp2]; ac_rfl
      rw [Int.sub_mul, Int.add_mul, e1, e2, e3, Int.mul_sub, Int.mul_add, Int.sub_mul, Int.add_mul]
    have qd : 12 * w * xmg F i j ∣ 12 * sc := ⟨pw * s, by rw [hsc, hsG, hp]; ac_rfl⟩
    obtain ⟨S1, n1, k1, k2, k3, k4⟩ := l_side (P := P) hs h gb.1 gb.2 w0 w1 u0 u1 rb.1 rb.2 (Or.inr rfl) (by omega) qd (hX (-1))
    obtain ⟨S2, n2, j1, j2, j3, j4⟩ := l_side (P := P) hs k4 gb.1 gb.2 w0 w1 u0 u1 rb.1 rb.2 (Or.inl rfl) (by omega) qd (hX 1)
    refine ⟨S2, n2, xcV_of ((e_X11_laysTurns_0 P m (iI i) (iI j) (iI u) (iI w) S).trans ?_), by omega, by omega, j4.eqv (fun Y => ?_)⟩
    · have fin : xrun P m_X11_laysTurns 78 [(0, .ref m), (3, .int (iI u)), (4, .int (iI w)), (6, .int (iI (xmg F i j))), (7, .int (iI (xmr F i j))), (8, .long (jI (12 * w))), (10, .int (iI (-1)))] [] S = some (none, S2) := by
        rw [k1, show (-1 : Int) + 2 = 1 from rfl, j1, e_X11_laysTurns_78]
        simp (disch := omega) only [iI_lt]
        rw [if_pos (by omega)]
      simp (disch := omega) only [hM.o, cond_true, g_speedOf hM hF hi, g_speedOf hM hF hj, g_startOf hM hF hi, g_startOf hM hF hj, xob_some, iI_sub, iI_0, iI_eq, iI_le, ne_eq, iI_ji, jI_mul, iI_neg]
      rw [if_pos (by omega)]
      unfold xmg xmr at fin
      by_cases c2 : F.2.1 i < F.2.1 j
      · rw [if_pos c2, show ((F.2.1 i - F.2.1 j).natAbs : Int) = -(F.2.1 i - F.2.1 j) by omega] at fin
        rw [if_neg (by omega), if_neg (by omega)]
        exact fin
      · rw [if_neg c2, show ((F.2.1 i - F.2.1 j).natAbs : Int) = F.2.1 i - F.2.1 j by omega] at fin
        rw [if_pos (by omega), if_pos (by omega)]
        exact fin
    · unfold xcr
      constructor
      · rintro ((z | ⟨z1, z2, z, z3⟩) | ⟨z1, z2, z, z3⟩)
        · exact Or.inl z
        · exact Or.inr ⟨z1, z2, c, -1, z, Or.inr rfl, z3⟩
        · exact Or.inr ⟨z1, z2, c, 1, z, Or.inl rfl, z3⟩
      · rintro (z | ⟨z1, z2, -, side, z, z3 | z3, z4⟩)
        · exact Or.inl (Or.inl z)
        · rw [z3] at z4; exact Or.inr ⟨z1, z2, z, z4⟩
        · rw [z3] at z4; exact Or.inl (Or.inr ⟨z1, z2, z, z4⟩)
/-- the first ones: 0 and 1 -/
theorem d_beginsTurns (hM : xMo S m ob) (h8 : xJr S (m + 8) 1300) (h9 : xJr S (m + 9) 1300) (hs : 0 < sc) : ∃ S1 n1, xcV P m_X11_beginsTurns [.ref m] S = some S1 ∧ n1 ≤ 2 ∧ xLT S m ob sc S1 n1 (fun Y => Y = 0 ∨ Y = sc) := by
  obtain ⟨S1, k1, k2, k3⟩ := hM.put (k := 15) (by omega) rfl (tag := 0) (v := .int (iI (0 : Nat))) rfl
  obtain ⟨f, e8⟩ := h8
  obtain ⟨g, e9⟩ := h9
  have hL : xLT S m ob sc S1 0 (fun _ => False) := ⟨_, fun _ => 0, k2, fun k hk => by rw [va_up_at, if_neg hk], ⟨by omega, by rw [va_up_at, if_pos rfl], fun _ => 0, fun _ => 0, f, g, (k3.2 _ (by omega)).trans e8, (k3.2 _ (by omega)).trans e9, fun k hk => by omega, fun k hk => by omega, fun k hk => by omega, fun k hk => by omega⟩, fun Y => ⟨fun ⟨k, hk, _⟩ => by omega, fun z => z.elim⟩, k3.mono (fun c h => Or.inl h)⟩
  obtain ⟨S2, n2, j1, j2, j3, j4⟩ := x_lay (P := P) hs hL (by omega) (p := 0) (q := 1) (X := 0) (by omega) (by omega) (by omega) (by omega) (Int.one_dvd _) (by omega)
  obtain ⟨S3, n3, i1, i2, i3, i4⟩ := x_lay (P := P) hs j4 (by omega) (p := 1) (q := 1) (X := sc) (by omega) (by omega) (by omega) (by omega) (Int.one_dvd _) (by omega)
  refine ⟨S3, n3, xcV_of ((e_X11_beginsTurns_0 P m S).trans ?_), by omega, i4.eqv (fun Y => ?_)⟩
  · rw [show (iI 0 : Int32) = iI ((0 : Nat) : Int) from rfl, k1, xob_some, k2.o, cond_true, j1, xob_some, j4.o, cond_true, i1, xob_some]
  · constructor
    · rintro ((z | z) | z)
      · exact z.elim
      · exact Or.inl z.2.2
      · exact Or.inr z.2.2
    · rintro (z | z)
      · exact Or.inl (Or.inr ⟨by omega, by omega, z⟩)
      · exact Or.inr ⟨by omega, by omega, z⟩
/-- all of one -/
theorem d_laysTurnsOf (hM : xMo S m ob) (hF : xRo S (m + 1) F) (hs : 0 < sc) {i : Nat} (hi : i < F.1) {u w pt pw p12 : Int} (w0 : 1 ≤ w) (w1 : w ≤ 12) (u0 : 0 ≤ u) (u1 : u ≤ 12) {G : Int} (hsc : sc = pt * G) (hp : pt = w * pw) (hp2 : pt = 12 * p12) (hd : ∀ j, j < F.1 → F.2.1 i ≠ F.2.1 j → xmg F i j ∣ G) {S0 : xS} {ob0 : Nat → Value} (h1 : ob 1 = ob0 1) {D : Int → Prop} (h : xLT S0 m ob0 sc S n D) (hR : ∀ Z n' D', xLT S0 m ob0 sc Z n' D' → xRo Z (m + 1) F) (hn : n + 410 ≤ 1300) :
    ∃ S1 n1, xcV P m_X11_laysTurnsOf [.ref m, .int (iI i), .int (iI u), .int (iI w)] S = some S1 ∧ n ≤ n1 ∧ n1 ≤ n + 410 ∧ xLT S0 m ob0 sc S1 n1 (fun Y => D Y ∨ (0 ≤ Y ∧ Y ≤ sc ∧ ∃ j, j < F.1 ∧ j ≠ i ∧ xcr F i j u w sc Y)) := by
  have hk := hF.1.1
  have key := xloopQ (run := fun j (Z : xS × Nat) => xrun P m_X11_laysTurnsOf 3 [(0, .ref m), (1, .int (iI i)), (2, .int (iI u)), (3, .int (iI w)), (4, .int (iI j))] [] Z.1)
    (Inv := fun j Z => n ≤ Z.2 ∧ Z.2 ≤ n + 82 * xoc i j ∧ xLT S0 m ob0 sc Z.1 Z.2 (fun Y => D Y ∨ (0 ≤ Y ∧ Y ≤ sc ∧ ∃ j', j' < j ∧ j' ≠ i ∧ xcr F i j' u w sc Y)))
    (fun res => ∃ S1 n1, res = some (none, S1) ∧ n ≤ n1 ∧ n1 ≤ n + 410 ∧ xLT S0 m ob0 sc S1 n1 (fun Y => D Y ∨ (0 ≤ Y ∧ Y ≤ sc ∧ ∃ j, j < F.1 ∧ j ≠ i ∧ xcr F i j u w sc Y))) 0 F.1 (by omega) (fun j Z _ hj hZ => by
      obtain ⟨S', n'⟩ := Z
      obtain ⟨b1, b2, hL⟩ := hZ
      dsimp only at b1 b2 hL
      have hR' := hR S' n' _ hL
      have hxo : xoc i j ≤ 5 := by unfold xoc; split <;> omega
      obtain ⟨ob1, T1, hM1, -⟩ := id hL
      refine Or.inr ?_
      by_cases c : j = i
      · refine ⟨(S', n'), ?_, b1, ?_, hL.eqv (fun Y => ?_)⟩
        · dsimp only
          rw [e_X11_laysTurnsOf_3, hM1.r1, xob_some, g_K hR', xob_some]
          simp (disch := omega) only [iI_le, iI_eq, iI_suc]
          rw [if_neg (by omega), if_pos (by omega)]
        · dsimp only
          have : xoc i j ≤ xoc i (j + 1) := by unfold xoc; split <;> split <;> omega
          omega
        · constructor
          · rintro (z | ⟨z1, z2, j', z3, z4⟩)
            · exact Or.inl z
            · exact Or.inr ⟨z1, z2, j', by omega, z4⟩
          · rintro (z | ⟨z1, z2, j', z3, z4, z5⟩)
            · exact Or.inl z
            · exact Or.inr ⟨z1, z2, j', by omega, z4, z5⟩
      · have e : xoc i (j + 1) = xoc i j + 1 := by unfold xoc; split <;> split <;> omega
        have hxo2 : xoc i (j + 1) ≤ 5 := by unfold xoc; split <;> omega
        obtain ⟨S1, n1, k1, k2, k3, k4⟩ := d_laysTurns (P := P) hM1 hR' hs hi hj w0 w1 u0 u1 hsc hp hp2 (hd j hj) hL (by omega)
        refine ⟨(S1, n1), ?_, by dsimp only; omega, by dsimp only; omega, k4.eqv (fun Y => ?_)⟩
        · dsimp only
          rw [e_X11_laysTurnsOf_3, hM1.r1, xob_some, g_K hR', xob_some]
          simp (disch := omega) only [iI_le, iI_eq, iI_suc]
          rw [if_neg (by omega), if_neg (by omega), hM1.o, cond_true, k1, xob_some]
        · constructor
          · rintro ((z | ⟨z1, z2, j', z3, z4, z5⟩) | ⟨z1, z2, z3⟩)
            · exact Or.inl z
            · exact Or.inr ⟨z1, z2, j', by omega, z4, z5⟩
            · exact Or.inr ⟨z1, z2, j, by omega, c, z3⟩
          · rintro (z | ⟨z1, z2, j', z3, z4, z5⟩)
            · exact Or.inl (Or.inl z)
            · by_cases cj : j' = j
              · subst cj; exact Or.inr ⟨z1, z2, z5⟩
              · exact Or.inl (Or.inr ⟨z1, z2, j', by omega, z4, z5⟩)) (fun Z hZ => by
      obtain ⟨S', n'⟩ := Z
      obtain ⟨b1, b2, hL⟩ := hZ
      dsimp only at b1 b2 hL
      have hR' := hR S' n' _ hL
      obtain ⟨ob1, T1, hM1, -⟩ := id hL
      have hxo : xoc i F.1 ≤ 5 := by unfold xoc; split <;> omega
      refine ⟨S', n', ?_, b1, by omega, hL⟩
      dsimp only
      rw [e_X11_laysTurnsOf_3, hM1.r1, xob_some, g_K hR', xob_some]
      simp (disch := omega) only [iI_le]
      rw [if_pos (by omega)]) (s := (S, n)) ⟨Nat.le_refl _, by dsimp only; omega, h.eqv (fun Y => ⟨Or.inl, fun z => z.elim id (fun z => by obtain ⟨-, -, k', hk', -⟩ := z; omega)⟩)⟩
  obtain ⟨S1, n1, k1, k2⟩ := key
  exact ⟨S1, n1, xcV_of ((e_X11_laysTurnsOf_0 P m (iI i) (iI u) (iI w) S).trans k1), k2⟩
end LT
