-- deps: 40.stretch
/-! stretches, stretch: the class and the reference -/
theorem x_low {a b c d : Nat} (b1 : 0 < b) (d1 : 0 < d) (h : a * d = c * b) : a / Nat.gcd a b = c / Nat.gcd c d ∧ b / Nat.gcd a b = d / Nat.gcd c d := by
  have e1 : Nat.gcd a b * d = Nat.gcd c d * b := by
    rw [← Nat.gcd_mul_right, ← Nat.gcd_mul_right, h, Nat.mul_comm b d]
  have g1 : 0 < Nat.gcd a b := Nat.gcd_pos_of_pos_right _ b1
  have g2 : 0 < Nat.gcd c d := Nat.gcd_pos_of_pos_right _ d1
  obtain ⟨a', ha⟩ := Nat.gcd_dvd_left a b
  obtain ⟨b', hb⟩ := Nat.gcd_dvd_right a b
  obtain ⟨c', hc⟩ := Nat.gcd_dvd_left c d
  obtain ⟨d', hd⟩ := Nat.gcd_dvd_right c d
  rw [Nat.div_eq_of_eq_mul_right g1 ha, Nat.div_eq_of_eq_mul_right g1 hb, Nat.div_eq_of_eq_mul_right g2 hc, Nat.div_eq_of_eq_mul_right g2 hd]
  generalize Nat.gcd a b = g at *
  generalize Nat.gcd c d = k at *
  have e2 : b' = d' := by
    rw [hb, hd] at e1
    have : (g * k) * d' = (g * k) * b' := by rw [Nat.mul_assoc, e1]; ac_rfl
    exact (Nat.eq_of_mul_eq_mul_left (Nat.mul_pos g1 g2) this).symm
  have b2 : 0 < b' := by
    by_cases z : 0 < b'
    · exact z
    · rw [show b' = 0 by omega, Nat.mul_zero] at hb; omega
  refine ⟨?_, e2⟩
  rw [ha, hb, hc, hd, e2] at h
  have : (g * k * d') * a' = (g * k * d') * c' := by rw [show g * k * d' * a' = g * a' * (k * d') by ac_rfl, h]; ac_rfl
  exact Nat.eq_of_mul_eq_mul_left (Nat.mul_pos (Nat.mul_pos g1 g2) (by omega)) this
theorem xpo_eq {a b c d : Int} (a0 : 0 ≤ a) (b0 : 0 < b) (c0 : 0 ≤ c) (d0 : 0 < d) (h : a * d = c * b) (t : Bool) : xpo a b t = xpo c d t := by
  obtain ⟨a, rfl⟩ := Int.eq_ofNat_of_zero_le a0
  obtain ⟨b, rfl⟩ := Int.eq_ofNat_of_zero_le (Int.le_of_lt b0)
  obtain ⟨c, rfl⟩ := Int.eq_ofNat_of_zero_le c0
  obtain ⟨d, rfl⟩ := Int.eq_ofNat_of_zero_le (Int.le_of_lt d0)
  have h' : a * d = c * b := by
    rw [← Int.natCast_mul, ← Int.natCast_mul] at h
    exact Int.ofNat.inj h
  have k := x_low (show 0 < b by omega) (show 0 < d by omega) h'
  unfold xpo
  rw [Int.gcd_natCast_natCast, Int.gcd_natCast_natCast]
  cases t
  · rw [if_neg (by decide), if_neg (by decide), ← Int.natCast_ediv, ← Int.natCast_ediv, k.1]
  · rw [if_pos rfl, if_pos rfl, ← Int.natCast_ediv, ← Int.natCast_ediv, k.2]
/-- what is told of the spans of one -/
def xDt (F : xF) (i : Nat) (sc : Int) (n : Nat) (u v : Nat → Int) : Prop := (∃ pt G, xsc2 sc pt G F.1 ∧ xhg F i F.1 G) ∧ xSo n u v ∧ n ≤ 201 ∧ xsl F i sc n u v
section SX
variable {P : Nat → Nat} {S : xS} {x m : Nat} {A : xAb}
theorem xhg_mg {F : xF} {i n : Nat} {G : Nat} (h : xhg F i n G) : ∀ j, j < n → F.2.1 i ≠ F.2.1 j → xmg F i j ∣ (G : Int) := by
  intro j hj hne
  have := h j hj (fun z => hne z.symm)
  unfold xmg
  rw [show (F.2.1 i - F.2.1 j).natAbs = (F.2.1 j - F.2.1 i).natAbs by omega]
  exact Int.natCast_dvd_natCast.mpr this
/-- the reference's scratch of times and ends -/
theorem xMl.re {S1 : xS} {ob ob1 : Nat → Value} (H : xMl S m A) (h0 : xMo S m ob) (hf : xfr S S1 (fun c => c = m ∨ (m + 8 ≤ c ∧ c ≤ m + 13))) (f0 : xMo S1 m ob1) (f1 : ob1 5 = ob 5) (f2 : ob1 28 = ob 28) (g : ∀ d, 8 ≤ d → d ≤ 13 → xJr S1 (m + d) 1300) : xMl S1 m A ∧ xfr S S1 (xrg m 19) := by
  obtain ⟨ob', e0, e1, e2, e3, e4, e5, e6, e7, e8⟩ := H
  have key : ∀ k, k < 35 → ob' k = ob k := by
    intro k hk
    have h1 := e0.1.symm.trans h0.1
    have h2 : (List.range 35).map ob' = (List.range 35).map ob := by
      have := Option.some.inj h1
      have := Sum.inl.inj this
      exact (Prod.mk.inj this).2
    have h3 : ((List.range 35).map ob')[k]? = ((List.range 35).map ob)[k]? := by rw [h2]
    rw [xob_k hk, xob_k hk] at h3
    exact Option.some.inj h3
  have n : ∀ d, d = 2 ∨ d = 3 ∨ d = 7 ∨ d = 14 ∨ d = 15 ∨ d = 16 → ¬ (m + d = m ∨ (m + 8 ≤ m + d ∧ m + d ≤ m + 13)) := fun d hd h => by omega
  obtain ⟨a1, a2, a3, a4, a5, a6, a7, a8, a9, a10, a11, a12⟩ := e8
  exact xMl.sc e0 e1 e2 e3 e4 e5 e6 e7 (hf.mono (fun b hb => by unfold xmc; omega)) f0 (f1.trans (key 5 (by omega)).symm) (f2.trans (key 28 (by omega)).symm) ⟨a1.fr hf (n 2 (by omega)), a2.fr hf (n 3 (by omega)), a3.fr hf (n 7 (by omega)), g 8 (by omega) (by omega), g 9 (by omega) (by omega), g 10 (by omega) (by omega), g 11 (by omega) (by omega), g 12 (by omega) (by omega), g 13 (by omega) (by omega), a10.fr hf (n 14 (by omega)), a11.fr hf (n 15 (by omega)), a12.fr hf (n 16 (by omega))⟩
theorem xTn.jr {ob : Nat → Value} {n : Nat} {sc : Int} {T : Nat → Int} (h : xTn S m ob n sc T) : xJr S (m + 8) 1300 ∧ xJr S (m + 9) 1300 := by
  obtain ⟨-, -, tt, tb, f, g, e1, e2, -⟩ := h
  exact ⟨⟨f, e1⟩, ⟨g, e2⟩⟩
theorem xEn.jr {a b n : Nat} {sc : Int} {U : Nat → Int} (h : xEn S a b n sc U) : xJr S a 1300 ∧ xJr S b 1300 := by
  obtain ⟨tt, tb, f, g, e1, e2, -⟩ := h
  exact ⟨⟨f, e1⟩, ⟨g, e2⟩⟩
theorem xEn.z {a b : Nat} {sc : Int} {U : Nat → Int} (h1 : xJr S a 1300) (h2 : xJr S b 1300) : xEn S a b 0 sc U := by
  obtain ⟨f, e1⟩ := h1
  obtain ⟨g, e2⟩ := h2
  exact ⟨fun _ => 0, fun _ => 0, f, g, e1, e2, fun k hk => by omega⟩
/-- times laid for one: they go with where it is lonely -/
theorem xSW_of {F : xF} {i nT n : Nat} {T u v : Nat → Int} {sc pt : Int} {G : Nat} (hi : i < F.1) (hk : 1 ≤ F.1) (hm : xsc2 sc pt G F.1) (hg : xhg F i F.1 G) (hSo : xSo n u v) (hsl : xsl F i sc n u v) {ob : Nat → Value} (hT : xTn S m ob nT sc T) (hD : ∀ Y, xmm nT T Y ↔ (Y = 0 ∨ Y = sc) ∨ (0 ≤ Y ∧ Y ≤ sc ∧ ∃ j, j < F.1 ∧ j ≠ i ∧ xcr F i j 1 F.1 sc Y)) : xSW nT T sc n u v := by
  obtain ⟨m1, ⟨pw, m2⟩, ⟨p12, m3⟩, m4, m5, m6, m7⟩ := hm.use
  have bG := xLc_le hm.2.2.1
  obtain ⟨t1, t2, tt, tb, f, g, t3, t4, t5, t6, t7, -⟩ := hT
  refine ⟨t7, fun k hk => (t6 k hk).2.2.2, (hD 0).mpr (Or.inl (Or.inl rfl)), (hD sc).mpr (Or.inl (Or.inr rfl)), hSo, fun t ht => ⟨((hsl t).mp ht).1, ((hsl t).mp ht).2.1⟩, fun k hk1 t t' a1 a2 a3 a4 ht => ?_⟩
  have bk := (t6 k (by omega)).2.2.2
  have bk1 := (t6 (k + 1) hk1).2.2.2
  obtain ⟨l1, l2, l3⟩ := (hsl t).mp ht
  refine (hsl t').mpr ⟨by omega, by omega, ?_⟩
  rw [xlo_iff hk (by omega)] at l3 ⊢
  have hsg : xsg F i F.1 pt pw p12 G sc := ⟨m1, m2, m3, by omega, by omega, xhg_mg hg⟩
  refine x_const hsg (by omega) (by split <;> omega) bk.1 bk1.2 (fun Y y1 y2 j hj hji hc => ?_) a1 a2 a3 a4 l3
  by_cases c : F.1 = 1
  · omega
  · rw [if_neg c] at hc
    obtain ⟨k', hk', e⟩ := (hD Y).mpr (Or.inr ⟨by omega, by omega, j, hj, hji, hc⟩)
    by_cases d : k' ≤ k
    · by_cases d2 : k' = k
      · subst d2; omega
      · have := x_mono t7 k' k (by omega) (by omega)
        omega
    · by_cases d2 : k' = k + 1
      · subst d2; omega
      · have := x_mono t7 (k + 1) k' (by omega) (by omega)
        omega
theorem d_laysStretches2 (H : xMl S m A) {i : Nat} (hi : i < A.1.1) {sc : Int} {n : Nat} {u v : Nat → Int} (hD : xDt A.1 i sc n u v) :
    ∃ S1 ob1, xfr S S1 (fun c => c = m ∨ (m + 8 ≤ c ∧ c ≤ m + 13)) ∧ xcV P m_X11_laysStretches [.ref m, .int (iI i)] S = some S1 ∧ xMl S1 m A ∧ xfr S S1 (xrg m 19) ∧ xMo S1 m ob1 ∧ ob1 20 = .int (iI n) ∧ xEn S1 (m + 10) (m + 11) n sc u ∧ xEn S1 (m + 12) (m + 13) n sc v := by
  obtain ⟨⟨pt, G, hm, hg⟩, hSo, hn, hsl⟩ := hD
  obtain ⟨ob, e0, e1, e2, e3, e4, e5, e6, e7, e8⟩ := id H
  have hk := e3.1.1
  obtain ⟨m1, ⟨pw, m2⟩, ⟨p12, m3⟩, m4, m5, m6, m7⟩ := hm.use
  obtain ⟨Z1, n1, k1, k2, k3⟩ := d_beginsTurns (P := P) e0 e8.2.2.2.1 e8.2.2.2.2.1 (show 0 < sc by omega)
  have hR : ∀ (Z : xS) (n' : Nat) (D' : Int → Prop), xLT S m ob sc Z n' D' → xRo Z (m + 1) A.1 := by
    intro Z n' D' h
    obtain ⟨ob', T', -, -, -, -, hf⟩ := h
    exact e3.fr hf (by omega)
  obtain ⟨ob1, T1, hM1, q1, q2, q3, q4⟩ := id k3
  obtain ⟨Z2, n2, j1, j2, j3, j4⟩ := d_laysTurnsOf (P := P) hM1 (hR _ _ _ k3) (show 0 < sc by omega) hi (u := 1) (w := A.1.1) (by omega) (by omega) (by omega) (by omega) m1 m2 m3 (xhg_mg hg) (q1 1 (by decide)) k3 hR (by omega)
  obtain ⟨ob2, T2, hM2, w1, w2, w3, w4⟩ := id j4
  have hW : xSW n2 T2 sc n u v := xSW_of hi (by omega) hm hg hSo hsl w2 w3
  obtain ⟨Z3, i1, i2, i3⟩ := hM2.put (k := 20) (by omega) rfl (tag := 0) (v := .int (iI (0 : Nat))) rfl
  have f13 : xfr S Z3 (fun c => c = m ∨ c = m + 8 ∨ c = m + 9) := w4.tr (i3.mono (fun c h => Or.inl h))
  have hL : xLS Z3 m (va_up ob2 20 (.int (iI (0 : Nat)))) A.1 n2 T2 sc n u v Z3 0 0 := ⟨_, i2, by rw [va_up_at, if_pos rfl], fun k _ => rfl, w2.fr i3 (by omega) (by omega) (by rw [va_up_at, if_neg (by decide)]), e3.fr f13 (by omega), xEn.z (e8.2.2.2.2.2.1.fr f13 (by omega)) (e8.2.2.2.2.2.2.1.fr f13 (by omega)), xEn.z (e8.2.2.2.2.2.2.2.1.fr f13 (by omega)) (e8.2.2.2.2.2.2.2.2.1.fr f13 (by omega)), xfr.rf⟩
  obtain ⟨Z4, g1, ob4, g2, g3, g4, g5, g6, g7, g8, g9⟩ := d_stretchLoop (P := P) hi (by omega) hW hn hsl hL
  have fo : ∀ k, k ≠ 15 → k ≠ 20 → ob4 k = ob k := fun k h1 h2 => by rw [g4 k h2, va_up_at, if_neg h2, w1 k h1]
  have ff : xfr S Z4 (fun c => c = m ∨ (m + 8 ≤ c ∧ c ≤ m + 13)) := (f13.mono (fun c h => by omega)).tr (g9.mono (fun c h => by omega))
  obtain ⟨r1, r2⟩ := H.re e0 ff g2 (fo 5 (by decide) (by decide)) (fo 28 (by decide) (by decide)) (fun d d0 d1 => by
    have hd : d = 8 ∨ d = 9 ∨ d = 10 ∨ d = 11 ∨ d = 12 ∨ d = 13 := by omega
    rcases hd with rfl | rfl | rfl | rfl | rfl | rfl
    · exact g5.jr.1
    · exact g5.jr.2
    · exact g7.jr.1
    · exact g7.jr.2
    · exact g8.jr.1
    · exact g8.jr.2)
  refine ⟨Z4, ob4, ff, xcV_of ((e_X11_laysStretches_0 P m (iI i) S).trans ?_), r1, r2, g2, g3, g7, g8⟩
  rw [e0.o, cond_true, k1, xob_some, hM1.r1, xob_some, g_K (hR _ _ _ k3), xob_some, hM1.o, cond_true, j1, xob_some, show (iI 0 : Int32) = iI ((0 : Nat) : Int) from rfl, i1, xob_some]
  exact g1
theorem d_laysStretches (H : xMl S m A) {i : Nat} (hi : i < A.1.1) {sc : Int} {n : Nat} {u v : Nat → Int} (hD : xDt A.1 i sc n u v) :
    ∃ S1 ob1, xcV P m_X11_laysStretches [.ref m, .int (iI i)] S = some S1 ∧ xMl S1 m A ∧ xfr S S1 (xrg m 19) ∧ xMo S1 m ob1 ∧ ob1 20 = .int (iI n) ∧ xEn S1 (m + 10) (m + 11) n sc u ∧ xEn S1 (m + 12) (m + 13) n sc v := by
  obtain ⟨S1, ob1, -, h⟩ := d_laysStretches2 (P := P) H hi hD
  exact ⟨S1, ob1, h⟩
/-- the class's own -/
theorem d_watchDt (H : xCl S x A) {i : Nat} (hi : i < A.1.1) : ∃ S1 s1 s2 l1 l2 sc pt n u v, xcV P m_X10_watchOne [.ref x, .int (iI i)] S = some S1 ∧ xCl S1 x A ∧ xfr S S1 (xrg x 89) ∧ xVo S1 (x + 68) s1 s2 l1 l2 sc pt ∧ xSp S1 s1 210 n u v ∧ xDt A.1 i sc n u v ∧ 12 ≤ sc ∧ sc ≤ 13516800000 := by
  obtain ⟨S1, s1, s2, l1, l2, sc, pt, G, n, u, v, k1, k2, k3, k4, k5, k6, k7, k8, k9, k10⟩ := d_watchOne (P := P) H hi
  obtain ⟨m1, -, -, m4, m5, m6, -⟩ := k5.use
  have b := x_mul_bd (show 0 ≤ pt by omega) m5 (show (0 : Int) ≤ G by omega) (show (G : Int) ≤ 102400000 by omega)
  exact ⟨S1, s1, s2, l1, l2, sc, pt, n, u, v, k1, k2, k3, k4.1, k8, ⟨⟨pt, G, k5, k7⟩, k8.1, k9, k10⟩, m6, by omega⟩
theorem d_spans {a s1 s2 l1 l2 : Nat} {sc pt : Int} (h : xVo S a s1 s2 l1 l2 sc pt) : xcR P m_X8_spans [.ref a] S = some (s1, S) := by
  refine xcR_of ((e_X8_spans_0 P a S).trans ?_)
  rw [xfR_at (k := 2) h.1 rfl, xob_some]
theorem d_scale {a s1 s2 l1 l2 : Nat} {sc pt : Int} (h : xVo S a s1 s2 l1 l2 sc pt) : xcJ P m_X8_scale [.ref a] S = some (jI sc, S) := by
  refine xcJ_of ((e_X8_scale_0 P a S).trans ?_)
  rw [xfJ_at (k := 7) h.1 rfl, xob_some]
theorem z_stretches (H : xCl S x A) {i : Int} (i1 : -2147483648 ≤ i) (i2 : i < 2147483648) : ∃ v A', xKI P S x m_X10_stretches [.int (iI i)] v A' ∧ ∀ S', xMl S' m A → xGI P S' m m_X11_stretches [.int (iI i)] v A' := by
  have hF := H.2.1
  have hk := hF.1.1
  by_cases ci : 0 ≤ i ∧ i < A.1.1
  · obtain ⟨r, rfl⟩ : ∃ r : Nat, i = r := ⟨i.toNat, by omega⟩
    obtain ⟨S1, s1, s2, l1, l2, sc, pt, n, u, v, k1, k2, k3, k4, k5, k6, -⟩ := d_watchDt (P := P) H (show r < A.1.1 by omega)
    refine ⟨iI n, A, ⟨S1, xcI_of ((e_X10_stretches_0 P x (iI r) S).trans ?_), k2, k3⟩, fun S' M => ?_⟩
    · simp only [H.r0, hF.o, d_has hF i1 i2, if_pos ci, H.o, k1, k2.r10, k4.o, d_spans k4, k5.o, d_ssize k5, xob_some, cond_true, t_10, t_00, ne_eq, not_true_eq_false, not_false_eq_true, if_true, if_false]
    · obtain ⟨S2, ob1, j1, j2, j3, j4, j5, -⟩ := d_laysStretches (P := P) M (show r < A.1.1 by omega) k6
      obtain ⟨ob, e0, -, -, hR, -⟩ := M
      refine ⟨S2, xcI_of ((e_X11_stretches_0 P m (iI r) S').trans ?_), j2, j3⟩
      simp only [e0.o, g_isRunner e0 hR i1 i2, if_pos ci, j1, j4.i (by omega) j5, xob_some, cond_true, t_10, t_00, ne_eq, not_true_eq_false, not_false_eq_true, if_true, if_false]
  · refine ⟨iI (-1), A, ⟨S, xcI_of ((e_X10_stretches_0 P x (iI i) S).trans ?_), H, xfr.rf⟩, fun S' M => ?_⟩
    · simp only [H.r0, hF.o, d_has hF i1 i2, if_neg ci, xob_some, cond_true, t_10, t_00, ne_eq, not_true_eq_false, not_false_eq_true, if_true, if_false]
    · obtain ⟨ob, e0, -, -, hR, -⟩ := id M
      refine ⟨S', xcI_of ((e_X11_stretches_0 P m (iI i) S').trans ?_), M, xfr.rf⟩
      simp only [e0.o, g_isRunner e0 hR i1 i2, if_neg ci, xob_some, cond_true, t_10, t_00, ne_eq, not_true_eq_false, not_false_eq_true, if_true, if_false]
/-- an end of a stretch -/
theorem xEn.rd {a b n : Nat} {sc : Int} {U : Nat → Int} (h : xEn S a b n sc U) {k : Nat} (hk : k < n) (hn : n ≤ 1300) : ∃ p q, xrdJ S a (iI k) = some (jI p) ∧ xrdJ S b (iI k) = some (jI q) ∧ 1 ≤ q ∧ q ≤ 5760 ∧ p * sc = U k * q := by
  obtain ⟨tt, tb, f, g, e1, e2, h3⟩ := h
  obtain ⟨a1, a2, a3, a4, a5⟩ := h3 k hk
  exact ⟨tt k, tb k, by rw [xrdJ_at e1 (by omega) (by omega) (by omega), Int.toNat_natCast, a1], by rw [xrdJ_at e2 (by omega) (by omega) (by omega), Int.toNat_natCast, a2], a3, a4, a5⟩
theorem xDt.bd {F : xF} {i : Nat} {sc : Int} {n : Nat} {u v : Nat → Int} (h : xDt F i sc n u v) {k : Nat} (hk : k < n) : 0 ≤ u k ∧ u k ≤ v k ∧ v k ≤ sc := by
  obtain ⟨-, hSo, -, hsl⟩ := h
  have b := hSo.1 k hk
  have := ((hsl (2 * v k)).mp ⟨k, hk, by omega, by omega⟩).2.1
  omega
theorem z_stretch (H : xCl S x A) {i k : Int} (i1 : -2147483648 ≤ i) (i2 : i < 2147483648) (k1 : -2147483648 ≤ k) (k2 : k < 2147483648) (t : Bool) (l : Bool) : ∃ v A', xKJ P S x m_X10_stretch [.int (iI i), .int (iI k), .int (iI (xb t)), .int (iI (xb l))] v A' ∧ ∀ S', xMl S' m A → xGJ P S' m m_X11_stretch [.int (iI i), .int (iI k), .int (iI (xb t)), .int (iI (xb l))] v A' := by
  have hF := H.2.1
  have hk := hF.1.1
  by_cases ci : 0 ≤ i ∧ i < A.1.1
  · obtain ⟨r, rfl⟩ : ∃ r : Nat, i = r := ⟨i.toNat, by omega⟩
    by_cases ck : 0 ≤ k
    · obtain ⟨q, rfl⟩ : ∃ q : Nat, k = q := ⟨k.toNat, by omega⟩
      obtain ⟨S1, s1, s2, l1, l2, sc, pt, n, u, v, k1', k2', k3, k4, k5, k6, k7, k8⟩ := d_watchDt (P := P) H (show r < A.1.1 by omega)
      have n201 := k6.2.2.1
      have ck0 : (0 : Int32) ≤ iI q := by rw [iI_0, iI_le (by omega) (by omega) (by omega) (by omega)]; omega
      by_cases cn : q < n
      · have bd := k6.bd cn
        have cl : iI (q : Int) < iI (n : Int) := by rw [iI_lt (by omega) (by omega) (by omega) (by omega)]; omega
        refine ⟨jI (xpo (if t then v q else u q) sc l), A, ⟨S1, xcJ_of ((e_X10_stretch_0 P x (iI r) (iI q) (iI (xb t)) (iI (xb l)) S).trans ?_), k2', k3⟩, fun S' M => ?_⟩
        · simp only [H.r0, hF.o, d_has hF i1 i2, if_pos ci, if_pos ck0, H.o, k1', k2'.r10, k4.o, d_spans k4, k5.o, d_ssize k5, if_pos cl, xob_some, cond_true, t_10, t_00, ne_eq, not_true_eq_false, not_false_eq_true, if_true, if_false]
          cases t
          · rw [if_pos (by decide +kernel), d_fromAt k5 cn, xob_some, k2'.r10, xob_some, k4.o, cond_true, d_scale k4, xob_some, d_partOf bd.1 (by omega) (by omega) (by omega), xob_some]; rfl
          · rw [if_neg (by decide +kernel), d_toAt k5 cn, xob_some, k2'.r10, xob_some, k4.o, cond_true, d_scale k4, xob_some, d_partOf (by omega) (by omega) (by omega) (by omega), xob_some]; rfl
        · obtain ⟨S2, ob1, j1, j2, j3, j4, j5, j6, j7⟩ := d_laysStretches (P := P) M (show r < A.1.1 by omega) k6
          obtain ⟨ob, e0, -, -, hR, -⟩ := M
          refine ⟨S2, xcJ_of ((e_X11_stretch_0 P m (iI r) (iI q) (iI (xb t)) (iI (xb l)) S').trans ?_), j2, j3⟩
          simp only [e0.o, g_isRunner e0 hR i1 i2, if_pos ci, if_pos ck0, j1, j4.i (by omega) j5, if_pos cl, xob_some, cond_true, t_10, t_00, ne_eq, not_true_eq_false, not_false_eq_true, if_true, if_false]
          cases t
          · obtain ⟨p, w, r1, r2, w0, w1, ew⟩ := j6.rd cn (by omega)
            have pb := x_tt_bd (show 0 < sc by omega) w0 ew bd.1 (by omega)
            rw [if_pos (by decide +kernel), j4.r16, xob_some, r1, xob_some, j4.r17, xob_some, r2, xob_some, d_part pb.1 (by omega) (by omega) (by omega), xob_some, xpo_eq pb.1 (by omega) bd.1 (by omega) ew]; rfl
          · obtain ⟨p, w, r1, r2, w0, w1, ew⟩ := j7.rd cn (by omega)
            have pb := x_tt_bd (show 0 < sc by omega) w0 ew (by omega) bd.2.2
            rw [if_neg (by decide +kernel), j4.r18, xob_some, r1, xob_some, j4.r19, xob_some, r2, xob_some, d_part pb.1 (by omega) (by omega) (by omega), xob_some, xpo_eq pb.1 (by omega) (by omega) (by omega) ew]; rfl
      · have cl : ¬ iI (q : Int) < iI (n : Int) := by rw [iI_lt (by omega) (by omega) (by omega) (by omega)]; omega
        refine ⟨jI (-2), A, ⟨S1, xcJ_of ((e_X10_stretch_0 P x (iI r) (iI q) (iI (xb t)) (iI (xb l)) S).trans ?_), k2', k3⟩, fun S' M => ?_⟩
        · simp only [H.r0, hF.o, d_has hF i1 i2, if_pos ci, if_pos ck0, H.o, k1', k2'.r10, k4.o, d_spans k4, k5.o, d_ssize k5, if_neg cl, xob_some, cond_true, t_10, t_00, ne_eq, not_true_eq_false, not_false_eq_true, if_true, if_false]
        · obtain ⟨S2, ob1, j1, j2, j3, j4, j5, j6, j7⟩ := d_laysStretches (P := P) M (show r < A.1.1 by omega) k6
          obtain ⟨ob, e0, -, -, hR, -⟩ := M
          refine ⟨S2, xcJ_of ((e_X11_stretch_0 P m (iI r) (iI q) (iI (xb t)) (iI (xb l)) S').trans ?_), j2, j3⟩
          simp only [e0.o, g_isRunner e0 hR i1 i2, if_pos ci, if_pos ck0, j1, j4.i (by omega) j5, if_neg cl, xob_some, cond_true, t_10, t_00, ne_eq, not_true_eq_false, not_false_eq_true, if_true, if_false]
    · have ck0 : ¬ (0 : Int32) ≤ iI k := by rw [iI_0, iI_le (by omega) (by omega) (by omega) (by omega)]; omega
      refine ⟨jI (-1), A, ⟨S, xcJ_of ((e_X10_stretch_0 P x (iI r) (iI k) (iI (xb t)) (iI (xb l)) S).trans ?_), H, xfr.rf⟩, fun S' M => ?_⟩
      · simp only [H.r0, hF.o, d_has hF i1 i2, if_pos ci, if_neg ck0, xob_some, cond_true, t_10, t_00, ne_eq, not_true_eq_false, not_false_eq_true, if_true, if_false]
      · obtain ⟨ob, e0, -, -, hR, -⟩ := id M
        refine ⟨S', xcJ_of ((e_X11_stretch_0 P m (iI r) (iI k) (iI (xb t)) (iI (xb l)) S').trans ?_), M, xfr.rf⟩
        simp only [e0.o, g_isRunner e0 hR i1 i2, if_pos ci, if_neg ck0, xob_some, cond_true, t_10, t_00, ne_eq, not_true_eq_false, not_false_eq_true, if_true, if_false]
  · refine ⟨jI (-1), A, ⟨S, xcJ_of ((e_X10_stretch_0 P x (iI i) (iI k) (iI (xb t)) (iI (xb l)) S).trans ?_), H, xfr.rf⟩, fun S' M => ?_⟩
    · simp only [H.r0, hF.o, d_has hF i1 i2, if_neg ci, xob_some, cond_true, t_10, t_00, ne_eq, not_true_eq_false, not_false_eq_true, if_true, if_false]
    · obtain ⟨ob, e0, -, -, hR, -⟩ := id M
      refine ⟨S', xcJ_of ((e_X11_stretch_0 P m (iI i) (iI k) (iI (xb t)) (iI (xb l)) S').trans ?_), M, xfr.rf⟩
      simp only [e0.o, g_isRunner e0 hR i1 i2, if_neg ci, xob_some, cond_true, t_10, t_00, ne_eq, not_true_eq_false, not_false_eq_true, if_true, if_false]
end SX
