-- deps: 24.union
/-! Vigil: the scale -/
theorem x_lc {a b : Int} (a0 : 0 < a) (b0 : 0 < b) : a / (Int.gcd a b : Nat) * b = ((Nat.lcm a.toNat b.toNat : Nat) : Int) := by
  have ea : a = (a.toNat : Nat) := by omega
  have eb : b = (b.toNat : Nat) := by omega
  have eg : Int.gcd a b = Nat.gcd a.toNat b.toNat := by
    unfold Int.gcd
    rw [show a.natAbs = a.toNat by omega, show b.natAbs = b.toNat by omega]
  rw [eg]
  generalize a.toNat = x at *
  generalize b.toNat = y at *
  subst ea
  subst eb
  rw [Nat.lcm, ← Nat.div_mul_right_comm (Nat.gcd_dvd_left x y)]
  simp
/-- a multiple of 1 to 40 -/
def xLc : Nat := 5342931457063200
theorem xLc_dvd {e : Nat} (e0 : 0 < e) (e1 : e ≤ 40) : e ∣ xLc := by
  have h : ∀ n : Nat, n < 40 → xLc % (n + 1) = 0 := by decide +kernel
  have h1 := h (e - 1) (by omega)
  rw [show e - 1 + 1 = e by omega] at h1
  exact Nat.dvd_of_mod_eq_zero h1
/-- G holds every gap of a to the others that isn't 0 -/
def xhg (F : xF) (a : Nat) (n : Nat) (G : Nat) : Prop := ∀ r, r < n → F.2.1 r ≠ F.2.1 a → (F.2.1 r - F.2.1 a).natAbs ∣ G
section VG
variable {P : Nat → Nat} {S : xS} {a b : Nat} {F : xF}
theorem xLc_le {G : Nat} (h : G ∣ xLc) : 0 < G ∧ G ≤ 5342931457063200 := by
  have h1 : 0 < xLc := by decide
  exact ⟨Nat.pos_of_dvd_of_pos h h1, Nat.le_of_dvd h1 h⟩
theorem d_commonGaps (hF : xFd S b F) {i : Nat} (hi : i < F.1) {G : Nat} (hG : G ∣ xLc) : ∃ G1, xcJ P m_X8_commonGaps [.ref a, .ref b, .int (iI i), .long (jI G)] S = some (jI (G1 : Nat), S) ∧ G ∣ G1 ∧ G1 ∣ xLc ∧ xhg F i F.1 G1 ∧ G1 ≤ G * 102400000 := by
  have hk := hF.1.1
  have key := xloopQ (run := fun r (G1 : Nat) => xrun P m_X8_commonGaps 6 [(1, .ref b), (2, .int (iI i)), (5, .long (jI G1)), (7, .int (iI r))] [] S) (Inv := fun r G1 => G ∣ G1 ∧ G1 ∣ xLc ∧ xhg F i r G1 ∧ G1 ≤ G * 40 ^ xoc i r)
    (fun res => ∃ G1 : Nat, res = some (some (.long (jI G1)), S) ∧ G ∣ G1 ∧ G1 ∣ xLc ∧ xhg F i F.1 G1 ∧ G1 ≤ G * 102400000) 0 F.1 (by omega) (fun r G1 _ hr hT => by
      obtain ⟨h1, h2, h3, h4⟩ := hT
      have hpw : 40 ^ xoc i r ≤ 40 ^ xoc i (r + 1) := Nat.pow_le_pow_right (by omega) (by unfold xoc; split <;> split <;> omega)
      have v1 := hF.1.2 i hi
      have v2 := hF.1.2 r hr
      have bG := xLc_le h2
      refine Or.inr ?_
      rw [e_X8_commonGaps_6, hF.o, cond_true, d_size hF, xob_some]
      simp (disch := omega) only [iI_le]
      rw [if_neg (by omega), hF.o, cond_true, d_speedAt hF hr, xob_some]
      dsimp only
      rw [hF.o, cond_true, d_speedAt hF hi, xob_some]
      dsimp only
      rw [iI_sub, c_abs (by omega) (by omega), xob_some, iI_0]
      simp (disch := omega) only [iI_eq]
      by_cases c : F.2.1 r = F.2.1 i
      · refine ⟨G1, by rw [if_pos (by omega), iI_suc], h1, h2, fun t ht z => ?_, Nat.le_trans h4 (Nat.mul_le_mul_left _ hpw)⟩
        by_cases ct : t = r
        · subst ct; exact absurd c z
        · exact h3 t (by omega) z
      · have g0 : 0 < (F.2.1 r - F.2.1 i).natAbs := by omega
        have g1 : (F.2.1 r - F.2.1 i).natAbs ≤ 40 := by omega
        have hl := Nat.lcm_dvd h2 (xLc_dvd g0 g1)
        refine ⟨Nat.lcm G1 (F.2.1 r - F.2.1 i).natAbs, ?_, Nat.dvd_trans h1 (Nat.dvd_lcm_left _ _), hl, fun t ht z => ?_, ?_⟩
        · rw [if_neg (by omega), iI_ji (by omega) (by omega), d_cm (by omega) (by omega) (by omega) (by omega), xob_some, iI_suc, x_lc (by omega) (by omega), Int.toNat_natCast, Int.toNat_natCast]
        · by_cases ct : t = r
          · subst ct; exact Nat.dvd_lcm_right _ _
          · exact Nat.dvd_trans (h3 t (by omega) z) (Nat.dvd_lcm_left _ _)
        · have hri : r ≠ i := fun z => c (by rw [z])
          have e : xoc i (r + 1) = xoc i r + 1 := by unfold xoc; split <;> split <;> omega
          have l1 : Nat.lcm G1 (F.2.1 r - F.2.1 i).natAbs ≤ G1 * (F.2.1 r - F.2.1 i).natAbs := Nat.div_le_self _ _
          have l2 : G1 * (F.2.1 r - F.2.1 i).natAbs ≤ (G * 40 ^ xoc i r) * 40 := Nat.mul_le_mul h4 g1
          rw [e, Nat.pow_succ, ← Nat.mul_assoc]
          omega) (fun G1 hT => by
      obtain ⟨h1, h2, h3, h4⟩ := hT
      have hpw : 40 ^ xoc i F.1 ≤ 40 ^ 5 := Nat.pow_le_pow_right (by omega) (by unfold xoc; split <;> omega)
      refine ⟨G1, ?_, h1, h2, h3, Nat.le_trans h4 (Nat.mul_le_mul_left _ hpw)⟩
      rw [e_X8_commonGaps_6, hF.o, cond_true, d_size hF, xob_some]
      simp (disch := omega) only [iI_le]
      rw [if_pos (by omega)]) (s := G) ⟨Nat.dvd_refl _, hG, fun t ht => by omega, by unfold xoc; simp⟩
  obtain ⟨G1, k1, k2⟩ := key
  exact ⟨G1, xcJ_of ((e_X8_commonGaps_0 P a b (iI i) (jI G) S).trans k1), k2⟩
/-- Vigil as it lies there -/
def xVo (S : xS) (a s1 s2 l1 l2 : Nat) (sc pt : Int) : Prop := S.1 a = some (.inl (8, [.ref (a + 1), .ref (a + 4), .ref s1, .ref s2, .ref l1, .ref l2, .ref (a + 19), .long (jI sc), .int (iI pt)])) ∧ ((s1 = a + 7 ∧ s2 = a + 10) ∨ (s1 = a + 10 ∧ s2 = a + 7)) ∧ ((l1 = a + 13 ∧ l2 = a + 16) ∨ (l1 = a + 16 ∧ l2 = a + 13))
theorem xVo.fr {S S1 : xS} {a s1 s2 l1 l2 : Nat} {sc pt : Int} {A : Nat → Prop} (H : xVo S a s1 s2 l1 l2 sc pt) (hf : xfr S S1 A) (h0 : ¬ A a) : xVo S1 a s1 s2 l1 l2 sc pt := ⟨(hf.2 _ h0).trans H.1, H.2⟩
theorem xVo.o {s1 s2 l1 l2 : Nat} {sc pt : Int} (H : xVo S a s1 s2 l1 l2 sc pt) : xisO S a 8 = true := xisO_at H.1
theorem x_lcm12 {w : Nat} (w0 : 1 ≤ w) (w1 : w ≤ 12) : 12 ∣ Nat.lcm 12 w ∧ w ∣ Nat.lcm 12 w ∧ 12 ≤ Nat.lcm 12 w ∧ Nat.lcm 12 w ≤ 132 := by
  have h : ∀ n : Nat, n < 12 → (12 ≤ Nat.lcm 12 (n + 1) ∧ Nat.lcm 12 (n + 1) ≤ 132) := by decide +kernel
  have h1 := h (w - 1) (by omega)
  rw [show w - 1 + 1 = w by omega] at h1
  exact ⟨Nat.dvd_lcm_left _ _, Nat.dvd_lcm_right _ _, h1⟩
theorem d_measureFor {s1 s2 l1 l2 : Nat} {sc pt : Int} (H : xVo S a s1 s2 l1 l2 sc pt) (hF : xFd S b F) (hab : a < b ∨ b + 2 < a) {bits : Int32} {B : Nat → Bool} (hB : ∀ r : Nat, r < 6 → (bits >>> (iI r &&& 31)) &&& iI 1 = iI (if B r then 1 else 0)) {w : Nat} (w0 : 1 ≤ w) (w1 : w ≤ 12) :
    ∃ S1 G, xcV P m_X8_measureFor [.ref a, .ref b, .int bits, .int (iI w)] S = some S1 ∧ xVo S1 a s1 s2 l1 l2 ((Nat.lcm 12 w * G : Nat) : Int) ((Nat.lcm 12 w : Nat) : Int) ∧ G ∣ xLc ∧ (∀ r, r < F.1 → B r = true → xhg F r F.1 G) ∧ G ≤ 102400000 ^ xct B F.1 ∧ xfr S S1 (fun c => c = a) := by
  have hk := hF.1.1
  have wl := x_lcm12 w0 w1
  have key := xloopQ (run := fun r (G : Nat) => xrun P m_X8_measureFor 6 [(0, .ref a), (1, .ref b), (2, .int bits), (3, .int (iI w)), (4, .long (jI G)), (6, .int (iI r))] [] S) (Inv := fun r G => G ∣ xLc ∧ G ≤ 102400000 ^ xct B r ∧ ∀ t, t < r → B t = true → xhg F t F.1 G)
    (fun res => ∃ S1 G, res = some (none, S1) ∧ xVo S1 a s1 s2 l1 l2 ((Nat.lcm 12 w * G : Nat) : Int) ((Nat.lcm 12 w : Nat) : Int) ∧ G ∣ xLc ∧ (∀ r, r < F.1 → B r = true → xhg F r F.1 G) ∧ G ≤ 102400000 ^ xct B F.1 ∧ xfr S S1 (fun c => c = a)) 0 F.1 (by omega) (fun r G _ hr hT => by
      obtain ⟨h2, h5, h3⟩ := hT
      refine Or.inr ?_
      by_cases c : B r = true
      · obtain ⟨G1, k1, k2, k3, k4, k5⟩ := d_commonGaps (P := P) (a := a) hF hr h2
        refine ⟨G1, ?_, k3, by simp only [xct]; rw [if_pos c, Nat.pow_succ]; exact Nat.le_trans k5 (Nat.mul_le_mul_right _ h5), fun t ht hb => ?_⟩
        · rw [e_X8_measureFor_6, hF.o, cond_true, d_size hF, xob_some]
          simp (disch := omega) only [iI_le]
          rw [if_neg (by omega), hB r (by omega), c, if_pos rfl, if_neg (by simp), H.o, cond_true, k1, xob_some, iI_suc]
        · by_cases ct : t = r
          · subst ct; exact k4
          · exact fun q hq z => Nat.dvd_trans (h3 t (by omega) hb q hq z) k2
      · refine ⟨G, ?_, h2, by simp only [xct]; rw [if_neg c]; exact h5, fun t ht hb => ?_⟩
        · rw [e_X8_measureFor_6, hF.o, cond_true, d_size hF, xob_some]
          simp (disch := omega) only [iI_le]
          rw [if_neg (by omega), hB r (by omega), if_neg c, if_pos (by decide +kernel), iI_suc]
        · by_cases ct : t = r
          · subst ct; exact absurd hb c
          · exact h3 t (by omega) hb) (fun G hT => by
      obtain ⟨h2, h5, h3⟩ := hT
      have bG := xLc_le h2
      have bm := Nat.mul_le_mul wl.2.2.2 bG.2
      let S1 : xS := xpt S a (.inl (8, [.ref (a + 1), .ref (a + 4), .ref s1, .ref s2, .ref l1, .ref l2, .ref (a + 19), .long (jI sc), .int (iI ((Nat.lcm 12 w : Nat) : Int))]))
      have e1 : S1.1 a = some (.inl (8, [.ref (a + 1), .ref (a + 4), .ref s1, .ref s2, .ref l1, .ref l2, .ref (a + 19), .long (jI sc), .int (iI ((Nat.lcm 12 w : Nat) : Int))])) := by rw [xpt_1, if_pos rfl]
      have p1 : xpf S a 8 8 0 (.int (iI ((Nat.lcm 12 w : Nat) : Int))) = some S1 := (xpf_at H.1 (show 8 < 9 by decide) rfl).trans rfl
      let S2 : xS := xpt S1 a (.inl (8, [.ref (a + 1), .ref (a + 4), .ref s1, .ref s2, .ref l1, .ref l2, .ref (a + 19), .long (jI ((Nat.lcm 12 w * G : Nat) : Int)), .int (iI ((Nat.lcm 12 w : Nat) : Int))]))
      have p2 : xpf S1 a 8 7 1 (.long (jI ((Nat.lcm 12 w * G : Nat) : Int))) = some S2 := (xpf_at e1 (show 7 < 9 by decide) rfl).trans rfl
      have f1 : xfr S S1 (fun c => c = a) := xfr.pt rfl
      have f2 : xfr S1 S2 (fun c => c = a) := xfr.pt rfl
      refine ⟨S2, G, ?_, ⟨by rw [xpt_1, if_pos rfl], H.2⟩, h2, h3, h5, f1.tr f2⟩
      rw [e_X8_measureFor_6, hF.o, cond_true, d_size hF, xob_some]
      simp (disch := omega) only [iI_le]
      rw [if_pos (by omega), c_max (by omega) (by omega) (by omega) (by omega), xob_some]
      dsimp only
      rw [show max (1 : Int) (w : Int) = w by omega, iI_ji (by omega) (by omega), d_cm (by omega) (by omega) (by omega) (by omega), xob_some, x_lc (by omega) (by omega), Int.toNat_natCast, show (12 : Int).toNat = 12 from rfl, jI_ij]
      dsimp only
      rw [p1, xob_some, xfI_at (k := 8) e1 rfl, xob_some, iI_ji (by omega) (by omega), jI_mul, show ((Nat.lcm 12 w : Nat) : Int) * (G : Int) = ((Nat.lcm 12 w * G : Nat) : Int) from (Int.natCast_mul _ _).symm, p2, xob_some]) (s := 1) ⟨Nat.one_dvd _, by simp [xct], fun t ht => by omega⟩
  obtain ⟨S1, G, k1, k2⟩ := key
  exact ⟨S1, G, xcV_of ((e_X8_measureFor_0 P a b bits (iI w) S).trans k1), k2⟩
end VG
