-- deps: 34.attime
/-! Vigil: the spans in which the nearest of one is u by w or more -/
theorem xfar_iff (F : xF) (i : Nat) {u w x e : Int} (he : 0 < e) (w0 : 0 < w) : xfar F i u w x e ↔ 2 * u ≤ w ∧ ∀ j, j < F.1 → j ≠ i → 12 * e * u ≤ xdd F i j x e * w := by
  unfold xfar xnr
  have key : ∀ n, (12 * e * u ≤ xlst (fun j => xdd F i j x e) i (6 * e) n * w ↔ 2 * u ≤ w ∧ ∀ j, j < n → j ≠ i → 12 * e * u ≤ xdd F i j x e * w) := by
    intro n
    induction n with
    | zero =>
      simp only [xlst]
      have e1 : 12 * e * u = 6 * e * (2 * u) := by rw [show (12 : Int) * e = 6 * e * 2 by omega, Int.mul_assoc]
      rw [e1]
      constructor
      · intro h
        exact ⟨Int.le_of_mul_le_mul_left h (by omega), fun j hj => by omega⟩
      · intro h
        exact Int.mul_le_mul_of_nonneg_left h.1 (by omega)
    | succ n ih =>
      simp only [xlst]
      by_cases c : (n : Int) = i
      · rw [if_pos c, ih]
        constructor
        · rintro ⟨h1, h2⟩
          exact ⟨h1, fun j hj hji => h2 j (by omega) hji⟩
        · rintro ⟨h1, h2⟩
          exact ⟨h1, fun j hj hji => h2 j (by omega) hji⟩
      · rw [if_neg c]
        have e2 : 12 * e * u ≤ min (xlst (fun j => xdd F i j x e) i (6 * e) n) (xdd F i n x e) * w ↔ 12 * e * u ≤ xlst (fun j => xdd F i j x e) i (6 * e) n * w ∧ 12 * e * u ≤ xdd F i n x e * w := by
          rw [xmin_mul (by omega)]
          omega
        rw [e2, ih]
        constructor
        · rintro ⟨⟨h1, h2⟩, h3⟩
          refine ⟨h1, fun j hj hji => ?_⟩
          by_cases cj : j = n
          · rw [cj]; exact h3
          · exact h2 j (by omega) hji
        · rintro ⟨h1, h2⟩
          exact ⟨⟨h1, fun j hj hji => h2 j (by omega) hji⟩, h2 n (by omega) (fun z => c (by omega))⟩
  exact key F.1
theorem xskip_all {i k : Nat} (hi : i < k) {Q : Nat → Prop} : (∀ t, t < k - 1 → Q (xsk i t)) ↔ ∀ j, j < k → j ≠ i → Q j := by
  constructor
  · intro h j hj hji
    by_cases c : j < i
    · have := h j (by omega)
      unfold xsk at this
      rwa [if_pos c] at this
    · have := h (j - 1) (by omega)
      unfold xsk at this
      rw [if_neg (by omega), show j - 1 + 1 = j by omega] at this
      exact this
  · intro h t ht
    unfold xsk
    split
    · exact h t (by omega) (by omega)
    · exact h (t + 1) (by omega) (by omega)
/-- spans n u v, in parts of sc, are where the nearest of i is uu by w or more -/
def xsp (F : xF) (i : Nat) (uu w sc : Int) (n : Nat) (u v : Nat → Int) : Prop := ∀ t, xme n u v t ↔ 0 ≤ t ∧ t ≤ 2 * sc ∧ xfar F i uu w (12 * t) (2 * sc)
section VW
variable {P : Nat → Nat} {S : xS} {a b s1 s2 l1 l2 : Nat} {sc pt : Int} {F : xF}
/-- Vigil and the rows of one -/
def xVw (S : xS) (a s1 s2 l1 l2 : Nat) (sc pt : Int) : Prop := xVo S a s1 s2 l1 l2 sc pt ∧ xQa S (a + 4) 210 ∧ xQa S s1 210 ∧ xQa S s2 210
theorem d_watch (H : xVw S a s1 s2 l1 l2 sc pt) (h0 : xOa S (a + 1)) (hF : xFd S b F) (hab : a + 13 ≤ b ∨ b + 2 < a) {i : Nat} (hi : i < F.1) {G : Nat} (hG : G ∣ xLc) (hsc : sc = pt * G) {u w pw p12 : Int} (hp : pt = w * pw) (hp2 : pt = 12 * p12) (p0 : 12 ≤ pt) (p1 : pt ≤ 132) (u0 : 0 ≤ u) (uw : u ≤ w) (w0 : 1 ≤ w) (w1 : w ≤ 12) (hg : xhg F i F.1 G) :
    ∃ S1 s1' s2' n u' v', xcV P m_X8_watch [.ref a, .ref b, .int (iI i), .int (iI u), .int (iI w)] S = some S1 ∧ xVw S1 a s1' s2' l1 l2 sc pt ∧ xOa S1 (a + 1) ∧ xSp S1 s1' 210 n u' v' ∧ n ≤ 201 ∧ xsp F i u w sc n u' v' ∧ xfr S S1 (xrg a 13) := by
  have hk := hF.1.1
  have bG := xLc_le hG
  obtain ⟨hV, q1, q2, q3⟩ := H
  obtain ⟨n0, f0, g0, ho⟩ := h0
  obtain ⟨hVo, hs, hl⟩ := id hV
  have pG1 := x_mul_bd (show 0 ≤ pt by omega) p1 (show (0 : Int) ≤ G by omega) (show (G : Int) ≤ 5342931457063200 by omega)
  have sc0 : 12 ≤ sc := by
    have := Int.mul_le_mul_of_nonneg_right p0 (show (0 : Int) ≤ G by omega)
    omega
  -- the others are seen
  obtain ⟨T, k1, k2, k3⟩ := d_osee (P := P) ho hF (by omega) hi
  have k3' : xfr S T (xrg a 13) := k3.mono (fun c hc => by unfold x3 at hc; exact ⟨by omega, by omega⟩)
  have nx : ∀ (c d : Nat), d + 2 < a + 1 ∨ a + 3 < d → x3 d c → ¬ x3 (a + 1) c := fun c d hd hc hz => by unfold x3 at hc hz; omega
  have hVT : xVo T a s1 s2 l1 l2 sc pt := hV.fr k3 (by unfold x3; omega)
  have q1T := q1.fr k3 (fun c => nx c (a + 4) (by omega))
  have q2T := q2.fr k3 (fun c => nx c s1 (by omega))
  have q3T := q3.fr k3 (fun c => nx c s2 (by omega))
  -- the spans are cleared
  obtain ⟨n1, f1, g1, e1⟩ := q2T
  obtain ⟨T2, m1, m2, m3⟩ := d_sclear (P := P) (u := fun _ => 0) (v := fun _ => 0) ⟨f1, g1, (show xPq T s1 210 n1 f1 g1 from e1)⟩
  have ny : ∀ (c d n : Nat), d + n ≤ s1 ∨ s1 + 2 < d → xrg d n c → ¬ x3 s1 c := fun c d n hd hc hz => by unfold xrg at hc; unfold x3 at hz; omega
  have m3' : xfr T T2 (xrg a 13) := m3.mono (fun c hc => by unfold x3 at hc; exact ⟨by omega, by omega⟩)
  have hV2 : xVo T2 a s1 s2 l1 l2 sc pt := hVT.fr m3 (by unfold x3; omega)
  have o2 := k2.fr m3 (fun c hc hz => by unfold x3 at hc hz; omega)
  have q1T2 := q1T.fr m3 (fun c hc hz => by unfold x3 at hc hz; omega)
  have q3T2 := q3T.fr m3 (fun c hc hz => by unfold x3 at hc hz; omega)
  have ho2 : xOa T2 (a + 1) := by
    obtain ⟨-, -, f, g, e, -⟩ := o2
    exact ⟨_, f, g, e⟩
  by_cases cu : 2 * u ≤ w
  · -- the whole time
    obtain ⟨T3, r1, r2, r3⟩ := d_sadd (P := P) m2 (show 0 < 210 by decide) (x := 0) (y := sc) (by omega) (by omega) (by omega) (fun z => by omega)
    have r3' : xfr T2 T3 (xrg a 13) := r3.mono (fun c hc => by unfold x3 at hc; exact ⟨by omega, by omega⟩)
    have hV3 : xVo T3 a s1 s2 l1 l2 sc pt := hV2.fr r3 (by unfold x3; omega)
    have o3 := o2.fr r3 (fun c hc hz => by unfold x3 at hc hz; omega)
    have q1T3 := q1T2.fr r3 (fun c hc hz => by unfold x3 at hc hz; omega)
    have q3T3 := q3T2.fr r3 (fun c hc hz => by unfold x3 at hc hz; omega)
    have key := xloopQ (run := fun r (Z : xS) => xrun P m_X8_watch 46 [(0, .ref a), (3, .int (iI u)), (4, .int (iI w)), (5, .int (iI r))] [] Z)
      (Inv := fun r Z => (r = 0 ∨ 0 < u) ∧ xfr S Z (xrg a 13) ∧ xOt Z (a + 1) (F.1 - 1) (fun t => xog F i (xsk i t)) (fun t => xol F i (xsk i t)) ∧ ∃ s1' s2' n u' v', xVw Z a s1' s2' l1 l2 sc pt ∧ xSp Z s1' 210 n u' v' ∧ n ≤ 1 + 40 * r ∧ ∀ t, xme n u' v' t ↔ 0 ≤ t ∧ t ≤ 2 * sc ∧ ∀ q, q < r → xfa (fun t => xog F i (xsk i t)) (fun t => xol F i (xsk i t)) q u w (12 * t) (2 * sc))
      (fun res => ∃ Z s1' s2' n u' v', res = some (none, Z) ∧ xVw Z a s1' s2' l1 l2 sc pt ∧ xOa Z (a + 1) ∧ xSp Z s1' 210 n u' v' ∧ n ≤ 201 ∧ (∀ t, xme n u' v' t ↔ 0 ≤ t ∧ t ≤ 2 * sc ∧ ∀ q, q < F.1 - 1 → 0 < u → xfa (fun t => xog F i (xsk i t)) (fun t => xol F i (xsk i t)) q u w (12 * t) (2 * sc)) ∧ xfr S Z (xrg a 13)) 0 (F.1 - 1) (by omega) (fun r Z _ hr hZ => by
        obtain ⟨hu, hfr, hO, s1', s2', n, u', v', ⟨hVZ, qa, qb, qc⟩, hSp, hn, hm⟩ := hZ
        obtain ⟨hVo', hs', -⟩ := id hVZ
        by_cases u1 : 0 < u
        · refine Or.inr ?_
          obtain ⟨bo1, bo2, bo3, bo4⟩ := hO.2.1 r hr
          obtain ⟨Z1, n2, u2, v2, w1', w2', w3', w4', w5'⟩ := d_watchSingle (P := P) hVZ qa (gp := fun t => xog F i (xsk i t)) (ld := fun t => xol F i (xsk i t)) (r := r) hG hsc hp hp2 p0 p1 (show 1 ≤ u by omega) w0 w1 cu bo1 bo2 (fun z => by
            have h := hg (xsk i r) (by unfold xsk; split <;> omega) (fun y => z (by show xog F i (xsk i r) = 0; unfold xog; omega))
            have e : (xog F i (xsk i r)).toNat = (F.2.1 (xsk i r) - F.2.1 i).natAbs := by unfold xog; rw [Int.toNat_natCast]
            show (xog F i (xsk i r)).toNat ∣ G
            rw [e]; exact h) bo3 bo4
          have hVZ1 : xVo Z1 a s1' s2' l1 l2 sc pt := hVZ.fr w5' (by unfold x3; omega)
          have hO1 := hO.fr w5' (fun c hc hz => by unfold x3 at hc hz; omega)
          have hSp1 := hSp.fr w5' (fun c hc hz => by unfold x3 at hc hz; omega)
          have qc1 := qc.fr w5' (fun c hc hz => by unfold x3 at hc hz; omega)
          obtain ⟨Z2, n3, u3, v3, y1, y2, y3, y4, y5⟩ := d_becomeCommon (P := P) qc1 hSp1 w2' (by omega) (by omega) (by omega)
          have hVZ2 : xVo Z2 a s1' s2' l1 l2 sc pt := hVZ1.fr y5 (by unfold x3; omega)
          have hO2 := hO1.fr y5 (fun c hc hz => by unfold x3 at hc hz; omega)
          have hSp2 := hSp1.fr y5 (fun c hc hz => by unfold x3 at hc hz; omega)
          have qa2 := w2'.a.fr y5 (fun c hc hz => by unfold x3 at hc hz; omega)
          let Z3 : xS := xpt Z2 a (.inl (8, [.ref (a + 1), .ref (a + 4), .ref s2', .ref s2', .ref l1, .ref l2, .ref (a + 19), .long (jI sc), .int (iI pt)]))
          have e3 : Z3.1 a = some (.inl (8, [.ref (a + 1), .ref (a + 4), .ref s2', .ref s2', .ref l1, .ref l2, .ref (a + 19), .long (jI sc), .int (iI pt)])) := by rw [xpt_1, if_pos rfl]
          have p3 : xpf Z2 a 8 2 2 (.ref s2') = some Z3 := (xpf_at hVZ2.1 (show 2 < 9 by decide) rfl).trans rfl
          let Z4 : xS := xpt Z3 a (.inl (8, [.ref (a + 1), .ref (a + 4), .ref s2', .ref s1', .ref l1, .ref l2, .ref (a + 19), .long (jI sc), .int (iI pt)]))
          have p4 : xpf Z3 a 8 3 2 (.ref s1') = some Z4 := (xpf_at e3 (show 3 < 9 by decide) rfl).trans rfl
          have f3 : xfr Z2 Z3 (fun c => c = a) := xfr.pt rfl
          have f4 : xfr Z3 Z4 (fun c => c = a) := xfr.pt rfl
          have f34 := f3.tr f4
          have hVZ4 : xVo Z4 a s2' s1' l1 l2 sc pt := ⟨by rw [xpt_1, if_pos rfl], by omega, hVZ2.2.2⟩
          refine ⟨Z4, ?_, Or.inr u1, ((hfr.tr (w5'.mono (fun c hc => by unfold x3 at hc; exact ⟨by omega, by omega⟩))).tr (y5.mono (fun c hc => by unfold x3 at hc; exact ⟨by omega, by omega⟩))).tr (f34.mono (fun c hc => ⟨by omega, by omega⟩)), hO2.fr f34 (fun c hc hz => by unfold x3 at hc; omega), s2', s1', n3, u3, v3, ⟨hVZ4, qa2.fr f34 (fun c hc hz => by unfold x3 at hc; omega), y2.a.fr f34 (fun c hc hz => by unfold x3 at hc; omega), hSp2.a.fr f34 (fun c hc hz => by unfold x3 at hc; omega)⟩, y2.fr f34 (fun c hc hz => by unfold x3 at hc; omega), by omega, fun t => ?_⟩
          · rw [e_X8_watch_46, xfR_at (k := 0) hVZ.1 rfl, xob_some, hO.o, cond_true, d_osize hO, xob_some]
            simp (disch := omega) only [iI_le, iI_0]
            rw [if_neg (by omega), if_neg (by omega), xfR_at (k := 0) hVZ.1 rfl, xob_some, hO.o, cond_true, d_gapAt hO hr, xob_some]
            dsimp only
            rw [xfR_at (k := 0) hVZ.1 rfl, xob_some, hO.o, cond_true, d_leadAt hO hr, xob_some]
            dsimp only
            rw [hVZ.o, cond_true, w1', xob_some, xfR_at (k := 3) hVZ1.1 rfl, xob_some, xfR_at (k := 2) hVZ1.1 rfl, xob_some, xfR_at (k := 1) hVZ1.1 rfl, xob_some]
            obtain ⟨nq, fq, gq, eq⟩ := qc1
            rw [xisO_at eq.2.2.1, cond_true, y1, xob_some, xfR_at (k := 2) hVZ2.1 rfl, xob_some, xfR_at (k := 3) hVZ2.1 rfl, xob_some, p3, xob_some, p4, xob_some, iI_suc]
          · rw [y4, hm, w4']
            constructor
            · rintro ⟨⟨h1, h2, h3⟩, -, -, h4⟩
              refine ⟨h1, h2, fun q hq => ?_⟩
              by_cases cq : q = r
              · subst cq; exact h4
              · exact h3 q (by omega)
            · rintro ⟨h1, h2, h3⟩
              exact ⟨⟨h1, h2, fun q hq => h3 q (by omega)⟩, h1, h2, h3 r (by omega)⟩
        · refine Or.inl ⟨Z, s1', s2', n, u', v', ?_, ⟨hVZ, qa, qb, qc⟩, ?_, hSp, by omega, fun t => ?_, hfr⟩
          · rw [e_X8_watch_46, xfR_at (k := 0) hVZ.1 rfl, xob_some, hO.o, cond_true, d_osize hO, xob_some]
            simp (disch := omega) only [iI_le, iI_0]
            rw [if_neg (by omega), if_pos (by omega)]
          · obtain ⟨-, -, f, g, e, -⟩ := hO
            exact ⟨_, f, g, e⟩
          · have hr0 : r = 0 := by omega
            subst hr0
            rw [hm]
            exact ⟨fun ⟨h1, h2, _⟩ => ⟨h1, h2, fun q _ z => absurd z u1⟩, fun ⟨h1, h2, _⟩ => ⟨h1, h2, fun q hq => by omega⟩⟩) (fun Z hZ => by
        obtain ⟨hu, hfr, hO, s1', s2', n, u', v', ⟨hVZ, qa, qb, qc⟩, hSp, hn, hm⟩ := hZ
        refine ⟨Z, s1', s2', n, u', v', ?_, ⟨hVZ, qa, qb, qc⟩, ?_, hSp, by omega, fun t => ?_, hfr⟩
        · rw [e_X8_watch_46, xfR_at (k := 0) hVZ.1 rfl, xob_some, hO.o, cond_true, d_osize hO, xob_some]
          simp (disch := omega) only [iI_le]
          rw [if_pos (by omega)]
        · obtain ⟨-, -, f, g, e, -⟩ := hO
          exact ⟨_, f, g, e⟩
        · rw [hm]
          exact ⟨fun ⟨h1, h2, h3⟩ => ⟨h1, h2, fun q hq _ => h3 q hq⟩, fun ⟨h1, h2, h3⟩ => ⟨h1, h2, fun q hq => h3 q hq (by omega)⟩⟩) (s := T3) ⟨Or.inl rfl, (k3'.tr m3').tr r3', o3, s1, s2, 1, _, _, ⟨hV3, q1T3, r2.a, q3T3⟩, r2, by omega, fun t => by
        rw [xme_up]
        constructor
        · rintro (⟨k, hk, -⟩ | h)
          · omega
          · exact ⟨by omega, by omega, fun q hq => by omega⟩
        · rintro ⟨h1, h2, -⟩
          exact Or.inr ⟨by omega, by omega⟩⟩
    obtain ⟨Z, s1', s2', n, u', v', z1, z2, z3, z4, z5, z6, z7⟩ := key
    refine ⟨Z, s1', s2', n, u', v', xcV_of ((e_X8_watch_0 P a b (iI i) (iI u) (iI w) S).trans ?_), z2, z3, z4, z5, fun t => ?_, z7⟩
    · rw [xfR_at (k := 0) hV.1 rfl, xob_some, xisO_at ho.1, cond_true, k1, xob_some, xfR_at (k := 2) hVT.1 rfl, xob_some, xisO_at e1.2.2.1, cond_true, m1, xob_some]
      simp (disch := omega) only [iI_lt, iI_mul, iI_le]
      rw [if_neg (by omega), if_pos (by omega), xfR_at (k := 2) hV2.1 rfl, xob_some, xfJ_at (k := 7) hV2.1 rfl, xob_some, m2.o, cond_true, r1, xob_some]
      exact z1
    · rw [z6, xfar_iff F i (by omega) (by omega)]
      constructor
      · rintro ⟨h1, h2, h3⟩
        refine ⟨h1, h2, cu, ?_⟩
        by_cases u1 : 0 < u
        · refine (xskip_all hi).mp (fun q hq => ?_)
          have := h3 q hq u1
          unfold xfa at this
          rw [show xa2 (fun t => xog F i (xsk i t)) (fun t => xol F i (xsk i t)) (12 * t) (2 * sc) q = xa2 (xog F i) (xol F i) (12 * t) (2 * sc) (xsk i q) from rfl, xa2_dd F i _ (by omega)] at this
          exact this
        · intro j hj hji
          have := (xdd_bd F i j (x := 12 * t) (e := 2 * sc) (by omega)).1
          have := Int.mul_nonneg this (show 0 ≤ w by omega)
          rw [show u = 0 by omega, Int.mul_zero]
          exact this
      · rintro ⟨h1, h2, -, h3⟩
        refine ⟨h1, h2, fun q hq _ => ?_⟩
        have := (xskip_all hi).mpr h3 q hq
        unfold xfa
        rw [show xa2 (fun t => xog F i (xsk i t)) (fun t => xol F i (xsk i t)) (12 * t) (2 * sc) q = xa2 (xog F i) (xol F i) (12 * t) (2 * sc) (xsk i q) from rfl, xa2_dd F i _ (by omega)]
        exact this
  · refine ⟨T2, s1, s2, 0, _, _, xcV_of ((e_X8_watch_0 P a b (iI i) (iI u) (iI w) S).trans ?_), ⟨hV2, q1T2, m2.a, q3T2⟩, ho2, m2, by omega, fun t => ?_, k3'.tr m3'⟩
    · rw [xfR_at (k := 0) hV.1 rfl, xob_some, xisO_at ho.1, cond_true, k1, xob_some, xfR_at (k := 2) hVT.1 rfl, xob_some, xisO_at e1.2.2.1, cond_true, m1, xob_some]
      simp (disch := omega) only [iI_lt, iI_mul, iI_le]
      rw [if_neg (by omega), if_neg (by omega)]
    · rw [xfar_iff F i (by omega) (by omega)]
      exact ⟨fun ⟨k, hk, _⟩ => by omega, fun ⟨_, _, h, _⟩ => absurd h cu⟩
end VW
