-- deps: 39.sweep
/-! the reference's stretches are the class's spans -/
/-- times T in order, from 0 to sc, between which nothing turns; spans n u v -/
def xSW (nT : Nat) (T : Nat → Int) (sc : Int) (n : Nat) (u v : Nat → Int) : Prop := (∀ k, k + 1 < nT → T k < T (k + 1)) ∧ (∀ k, k < nT → 0 ≤ T k ∧ T k ≤ sc) ∧ (∃ k, k < nT ∧ T k = 0) ∧ (∃ k, k < nT ∧ T k = sc) ∧ xSo n u v ∧ (∀ t, xme n u v t → 0 ≤ t ∧ t ≤ 2 * sc) ∧ ∀ k, k + 1 < nT → ∀ t t', 2 * T k < t → t < 2 * T (k + 1) → 2 * T k ≤ t' → t' ≤ 2 * T (k + 1) → xme n u v t → xme n u v t'
theorem x_mono {nT : Nat} {T : Nat → Int} (h : ∀ k, k + 1 < nT → T k < T (k + 1)) : ∀ a b, a < b → b < nT → T a < T b := by
  intro a b hab
  induction b with
  | zero => omega
  | succ b ih =>
    intro hb
    have := h b hb
    by_cases c : a = b
    · subst c; exact this
    · have := ih (by omega) (by omega)
      omega
section SM
variable {nT n c k : Nat} {T u v : Nat → Int} {sc : Int}
theorem xSW.last (h : xSW nT T sc n u v) (hk : k + 1 = nT) : T k = sc := by
  obtain ⟨h1, h2, -, ⟨j, h3, h4⟩, -⟩ := h
  by_cases e : j = k
  · subst e; exact h4
  · have := x_mono h1 j k (by omega) (by omega)
    have := h2 k (by omega)
    omega
theorem xSW.first (h : xSW nT T sc n u v) : T 0 = 0 := by
  obtain ⟨h1, h2, ⟨j, h3, h4⟩, -⟩ := h
  by_cases e : j = 0
  · subst e; exact h4
  · have := x_mono h1 0 j (by omega) h3
    have := h2 0 (by omega)
    omega
theorem xSW.pos (h : xSW nT T sc n u v) : 0 < nT := by
  obtain ⟨-, -, ⟨j, h3, -⟩, -⟩ := h
  omega
/-- the next time, or behind the last -/
def xT' (nT : Nat) (T : Nat → Int) (sc : Int) (k : Nat) : Int := if k < nT then T k else sc + 1
theorem xSW.vv (h : xSW nT T sc n u v) {j : Nat} (hj : j < n) : u j ≤ v j ∧ v j ≤ sc ∧ 0 ≤ u j ∧ xme n u v (2 * v j) ∧ xme n u v (2 * u j) := by
  obtain ⟨-, -, -, -, h5, h6, -⟩ := h
  have b := h5.1 j hj
  have m1 : xme n u v (2 * v j) := ⟨j, hj, by omega, by omega⟩
  have m2 : xme n u v (2 * u j) := ⟨j, hj, by omega, by omega⟩
  have := h6 _ m1
  exact ⟨b.2.1, by omega, b.1, m1, m2⟩
theorem xSW.m4 (h : xSW nT T sc n u v) (hk : k < nT) (hc : ∀ j, j < n → (j < c ↔ v j < T k)) (hh : ¬ xme n u v (2 * T k)) : (∀ j, j < n → (j < c ↔ v j < xT' nT T sc (k + 1))) ∧ (k + 1 < nT → ¬ xme n u v (T k + T (k + 1))) := by
  have h0 := h
  obtain ⟨h1, h2, -, -, h5, h6, h7⟩ := h
  refine ⟨fun j hj => ?_, fun hk1 hm => hh (h7 k hk1 _ _ (by have := h1 k hk1; omega) (by have := h1 k hk1; omega) (by omega) (by have := h1 k hk1; omega) hm)⟩
  obtain ⟨b1, b2, b3, b4, b5⟩ := h0.vv hj
  have e := hc j hj
  unfold xT'
  by_cases hk1 : k + 1 < nT
  · rw [if_pos hk1]
    have s := h1 k hk1
    by_cases d : v j < T k
    · omega
    · by_cases d2 : v j = T k
      · exact absurd (by rw [← d2]; exact b4) hh
      · by_cases d3 : v j < T (k + 1)
        · exact absurd (h7 k hk1 _ (2 * T k) (by omega) (by omega) (by omega) (by omega) b4) hh
        · omega
  · rw [if_neg hk1]
    have l := h0.last (show k + 1 = nT by omega)
    by_cases d2 : v j = T k
    · exact absurd (by rw [← d2]; exact b4) hh
    · omega
theorem xSW.m2 (h : xSW nT T sc n u v) (hk : k < nT) (hc : ∀ j, j < n → (j < c ↔ v j < T k)) (hp : k = 0 ∨ ∃ k', k = k' + 1 ∧ ¬ xme n u v (T k' + T k)) (hh : xme n u v (2 * T k)) : c < n ∧ u c = T k ∧ T k ≤ v c := by
  have h0 := h
  obtain ⟨h1, h2, -, -, h5, h6, h7⟩ := h
  obtain ⟨j, hj, j1, j2⟩ := hh
  have e := hc j hj
  have hcj : j = c := by
    by_cases d : c < j
    · have l := h5.lt d hj
      have e2 := hc c (by omega)
      omega
    · omega
  subst hcj
  obtain ⟨b1, b2, b3, b4, b5⟩ := h0.vv hj
  refine ⟨hj, ?_, by omega⟩
  by_cases d : u j = T k
  · exact d
  · rcases hp with hp | ⟨k', hp, hm⟩
    · subst hp
      have := h0.first
      omega
    · subst hp
      have s := h1 k' hk
      by_cases d2 : u j ≤ T k'
      · exact absurd ⟨j, hj, by omega, by omega⟩ hm
      · exact absurd (h7 k' hk _ _ (by omega) (by omega) (by omega) (by omega) b5) hm
theorem xSW.m3 (h : xSW nT T sc n u v) (hk : k < nT) (hc : c < n) (hu : u c ≤ T k) (hv : T k ≤ v c) (hm : k + 1 < nT → ¬ xme n u v (T k + T (k + 1))) : v c = T k ∧ ∀ j, j < n → (j < c + 1 ↔ v j < xT' nT T sc (k + 1)) := by
  have h0 := h
  obtain ⟨h1, h2, -, -, h5, h6, h7⟩ := h
  have b2 := h2 k hk
  have key : ∀ j, j < n → T k < v j → v j < xT' nT T sc (k + 1) → False := by
    intro j hj d1 d2
    obtain ⟨a1, a2, a3, a4, a5⟩ := h0.vv hj
    unfold xT' at d2
    by_cases hk1 : k + 1 < nT
    · rw [if_pos hk1] at d2
      exact hm hk1 (h7 k hk1 _ _ (by omega) (by omega) (by omega) (by omega) a4)
    · have l := h0.last (show k + 1 = nT by omega)
      omega
  have ev : v c = T k := by
    by_cases d : v c = T k
    · exact d
    · obtain ⟨a1, a2, a3, a4, a5⟩ := h0.vv hc
      by_cases d2 : v c < xT' nT T sc (k + 1)
      · exact (key c hc (by omega) d2).elim
      · unfold xT' at d2
        by_cases hk1 : k + 1 < nT
        · rw [if_pos hk1] at d2
          have s := h1 k hk1
          exact absurd ⟨c, hc, by omega, by omega⟩ (hm hk1)
        · rw [if_neg hk1] at d2
          omega
  refine ⟨ev, fun j hj => ?_⟩
  obtain ⟨a1, a2, a3, a4, a5⟩ := h0.vv hj
  have nx : T k < xT' nT T sc (k + 1) := by
    unfold xT'
    by_cases hk1 : k + 1 < nT
    · rw [if_pos hk1]; exact h1 k hk1
    · rw [if_neg hk1]; omega
  by_cases d : j < c + 1
  · have : v j ≤ v c := by
      by_cases e : j = c
      · subst e; omega
      · have l := h5.lt (show j < c by omega) hc
        have := (h0.vv hc).1
        omega
    exact ⟨fun _ => by omega, fun _ => d⟩
  · have l := h5.lt (show c < j by omega) hj
    exact ⟨fun z => absurd z d, fun z => (key j hj (by omega) z).elim⟩
theorem xSW.m1 (h : xSW nT T sc n u v) (hk : k + 1 < nT) (hc : c < n) (hu : u c ≤ T k) (hv : T k ≤ v c) (hm : xme n u v (T k + T (k + 1))) : u c ≤ T (k + 1) ∧ T (k + 1) ≤ v c := by
  have h0 := h
  obtain ⟨h1, h2, -, -, h5, h6, h7⟩ := h
  have s := h1 k hk
  refine ⟨by omega, ?_⟩
  by_cases d : T (k + 1) ≤ v c
  · exact d
  · obtain ⟨j, hj, j1, j2⟩ := h7 k hk _ (2 * v c + 1) (by omega) (by omega) (by omega) (by omega) hm
    by_cases e : j = c
    · subst e; omega
    · by_cases e2 : j < c
      · have l := h5.lt e2 hc
        have := (h0.vv hc).1
        omega
      · have l := h5.lt (show c < j by omega) hj
        omega
end SM
section SL
variable {P : Nat → Nat} {S : xS} {m n nT : Nat} {ob : Nat → Value} {sc : Int} {T u v : Nat → Int} {F : xF}
theorem x_mid {a b X c d Y sc : Int} (h1 : a * sc = X * b) (h2 : c * sc = Y * d) : (a * d + c * b) * (2 * sc) = (X + Y) * (2 * b * d) := by
  rw [Int.add_mul, Int.add_mul, show a * d * (2 * sc) = a * sc * (2 * d) by ac_rfl, show c * b * (2 * sc) = c * sc * (2 * b) by ac_rfl, h1, h2]
  congr 1 <;> ac_rfl
/-- the times as they lie there -/
theorem xTn.rd (h : xTn S m ob nT sc T) (hs : 0 < sc) {k : Nat} (hk : k < nT) : ∃ tt tb : Int, xrdJ S (m + 8) (iI k) = some (jI tt) ∧ xrdJ S (m + 9) (iI k) = some (jI tb) ∧ 0 ≤ tt ∧ tt ≤ tb ∧ 1 ≤ tb ∧ tb ≤ 5760 ∧ tt * sc = T k * tb := by
  obtain ⟨h1, h2, tt, tb, f, g, e1, e2, h3, h4, h5, h6⟩ := h
  obtain ⟨b1, b2, b3, b4, b5⟩ := h4 k hk
  have b := x_tt_bd hs b1 b3 b4 b5
  exact ⟨tt k, tb k, by rw [xrdJ_at e1 (by omega) (by omega) (by omega), Int.toNat_natCast, (h3 k hk).1], by rw [xrdJ_at e2 (by omega) (by omega) (by omega), Int.toNat_natCast, (h3 k hk).2], b.1, b.2, b1, b2, b3⟩
theorem xTn.rd2 (h : xTn S m ob nT sc T) (hs : 0 < sc) {k : Nat} (hk : k < nT) : ∃ tt tb : Int, xrdJ S (m + 8) (iI k) = some (jI tt) ∧ xrdJ S (m + 9) (iI k) = some (jI tb) ∧ 0 ≤ tt ∧ tt ≤ tb ∧ 1 ≤ tb ∧ tb ≤ 5760 ∧ tt * sc = T k * tb ∧ tb ∣ 12 * sc := by
  obtain ⟨h1, h2, tt, tb, f, g, e1, e2, h3, h4, h5, h6⟩ := h
  obtain ⟨b1, b2, b3, b4, b5⟩ := h4 k hk
  have b := x_tt_bd hs b1 b3 b4 b5
  exact ⟨tt k, tb k, by rw [xrdJ_at e1 (by omega) (by omega) (by omega), Int.toNat_natCast, (h3 k hk).1], by rw [xrdJ_at e2 (by omega) (by omega) (by omega), Int.toNat_natCast, (h3 k hk).2], b.1, b.2, b1, b2, b3, h6 k hk⟩
theorem d_middle (hM : xMo S m ob) (h : xTn S m ob nT sc T) (hs : 0 < sc) {k : Nat} (hk : k + 1 < nT) : ∃ p q : Int, xcJ P m_X11_middleTop [.ref m, .int (iI k)] S = some (jI p, S) ∧ xcJ P m_X11_middleBottom [.ref m, .int (iI k)] S = some (jI q, S) ∧ 0 ≤ p ∧ p ≤ 1000000000000 ∧ 1 ≤ q ∧ q ≤ 1000000000000 ∧ p * (2 * sc) = (T k + T (k + 1)) * q := by
  obtain ⟨a, b, r1, r2, a0, a1, b0, b1, e1⟩ := h.rd hs (show k < nT by omega)
  obtain ⟨c, d, r3, r4, c0, c1, d0, d1, e2⟩ := h.rd hs hk
  have q1 := x_mul_bd a0 (show a ≤ 5760 by omega) (show 0 ≤ d by omega) d1
  have q2 := x_mul_bd c0 (show c ≤ 5760 by omega) (show 0 ≤ b by omega) b1
  have q3 := x_mul_bd (show 0 ≤ b by omega) b1 (show 0 ≤ d by omega) d1
  have q4 : 1 ≤ b * d := Int.mul_pos (by omega) (by omega)
  have q5 : 2 * b * d = 2 * (b * d) := Int.mul_assoc _ _ _
  refine ⟨a * d + c * b, 2 * b * d, xcJ_of ((e_X11_middleTop_0 P m (iI k) S).trans ?_), xcJ_of ((e_X11_middleBottom_0 P m (iI k) S).trans ?_), by omega, by omega, by omega, by omega, x_mid e1 e2⟩
  · simp only [hM.r13, hM.r14, xob_some, iI_suc, r1, r2, r3, r4, jI_mul, jI_add]
  · simp only [hM.r14, xob_some, iI_suc, r2, r4, jI_mul]
/-- what is known while stretches are laid -/
def xLS (S0 : xS) (m : Nat) (ob0 : Nat → Value) (F : xF) (nT : Nat) (T : Nat → Int) (sc : Int) (n : Nat) (u v : Nat → Int) (Z : xS) (c cu : Nat) : Prop := ∃ ob, xMo Z m ob ∧ ob 20 = .int (iI c) ∧ (∀ k, k ≠ 20 → ob k = ob0 k) ∧ xTn Z m ob nT sc T ∧ xRo Z (m + 1) F ∧ xEn Z (m + 10) (m + 11) cu sc u ∧ xEn Z (m + 12) (m + 13) c sc v ∧ xfr S0 Z (fun c => c = m ∨ (m + 10 ≤ c ∧ c ≤ m + 13))
theorem xLS.up {S0 : xS} {ob0 : Nat → Value} {Z : xS} {c : Nat} (h : xLS S0 m ob0 F nT T sc n u v Z c (c + 1)) (hv : xEn Z (m + 12) (m + 13) (c + 1) sc v) : ∃ Z1, xpf Z m 11 20 0 (.int (iI c + iI 1)) = some Z1 ∧ xLS S0 m ob0 F nT T sc n u v Z1 (c + 1) (c + 1) ∧ xfI Z m 11 20 = some (iI c) := by
  obtain ⟨ob, h1, h2, h3, h4, h5, h6, h7, h8⟩ := h
  obtain ⟨Z1, k1, k2, k3⟩ := h1.put (k := 20) (by omega) rfl (tag := 0) (v := .int (iI ((c + 1 : Nat) : Int))) rfl
  rw [← iI_suc] at k1
  exact ⟨Z1, k1, ⟨_, k2, by rw [va_up_at, if_pos rfl], fun k hk => by rw [va_up_at, if_neg hk]; exact h3 k hk, h4.fr k3 (by omega) (by omega) (by rw [va_up_at, if_neg (by decide)]), h5.fr k3 (by omega), h6.fr k3 (by omega) (by omega), hv.fr k3 (by omega) (by omega), h8.tr (k3.mono (fun d h => Or.inl h))⟩, h1.i (by omega) h2⟩
/-- what stands at a time k: whether a stretch is open -/
def xIv (nT : Nat) (T : Nat → Int) (sc : Int) (n : Nat) (u v : Nat → Int) (k c : Nat) (o : Bool) : Prop := if o = true then k < nT ∧ c < n ∧ u c ≤ T k ∧ T k ≤ v c else (∀ j, j < n → (j < c ↔ v j < xT' nT T sc k)) ∧ (k < nT → k = 0 ∨ ∃ k', k = k' + 1 ∧ ¬ xme n u v (T k' + T k))
theorem l_str98 {S0 : xS} {ob0 : Nat → Value} {i : Nat} (hi : i < F.1) (hs : 0 < sc) (hW : xSW nT T sc n u v) (hsl : xsl F i sc n u v) {k c : Nat} (hk : k < nT) (hc : c < n) (hu : u c ≤ T k) (hv : T k ≤ v c) {Z : xS} (h : xLS S0 m ob0 F nT T sc n u v Z c (c + 1)) (hEv : T k = v c → xEn Z (m + 12) (m + 13) (c + 1) sc v) :
    ∃ Z1 c1 o, xrun P m_X11_laysStretches 98 [(0, .ref m), (1, .int (iI i)), (3, .int (iI k)), (4, .int (iI 1))] [] Z = xrun P m_X11_laysStretches 25 [(0, .ref m), (1, .int (iI i)), (2, .int (iI (if o then 1 else 0))), (3, .int (iI (k + 1 : Nat)))] [] Z1 ∧ xLS S0 m ob0 F nT T sc n u v Z1 c1 (if o then c1 + 1 else c1) ∧ xIv nT T sc n u v (k + 1) c1 o ∧ c1 ≤ n := by
  obtain ⟨ob, h1, h2, h3, h4, h5, h6, h7, h8⟩ := id h
  have b1300 := h4.1
  have e15 := h1.i (by omega) h4.2.1
  -- the stretch is over
  have over : (k + 1 < nT → ¬ xme n u v (T k + T (k + 1))) → ∃ Z1 c1 o, xpf Z m 11 20 0 (.int (iI c + iI 1)) = some Z1 ∧ xfI Z m 11 20 = some (iI c) ∧ o = false ∧ xLS S0 m ob0 F nT T sc n u v Z1 c1 (if o then c1 + 1 else c1) ∧ xIv nT T sc n u v (k + 1) c1 o ∧ c1 ≤ n := by
    intro hm
    obtain ⟨m1, m2⟩ := hW.m3 hk hc hu hv hm
    obtain ⟨Z1, k1, k2, k3⟩ := h.up (hEv m1.symm)
    refine ⟨Z1, c + 1, false, k1, k3, rfl, k2, ?_⟩
    unfold xIv
    rw [if_neg (by decide)]
    exact ⟨⟨m2, fun hk1 => Or.inr ⟨k, rfl, hm hk1⟩⟩, by omega⟩
  have f10 : ¬ (iI 1 = 0) := by decide +kernel
  have f00 : iI 0 = (0 : Int32) := by decide +kernel
  by_cases hk1 : k + 1 < nT
  · obtain ⟨p, q, q1, q2, q3, q4, q5, q6, q7⟩ := d_middle (P := P) h1 h4 hs hk1
    have hl := g_isLonely (P := P) h1 h5 hi q3 q4 q5 q6
    rw [xlo_at (by omega) (by omega) hs q7] at hl
    have s := hW.1 k hk1
    have bk := hW.2.1 k hk
    have bk1 := hW.2.1 (k + 1) hk1
    have el := hsl (T k + T (k + 1))
    by_cases hm : xme n u v (T k + T (k + 1))
    · have m1 := hW.m1 hk1 hc hu hv hm
      refine ⟨Z, c, true, ?_, h, ?_⟩
      · rw [e_X11_laysStretches_98, if_neg f10, e15, xob_some]
        simp (disch := omega) only [iI_suc, iI_le]
        rw [if_neg (by omega), h1.o, cond_true, q1, xob_some]
        dsimp only
        rw [h1.o, cond_true, q2, xob_some]
        dsimp only
        rw [h1.o, cond_true, hl, xob_some, if_pos (el.mp hm).2.2, if_neg f10, if_neg f10, if_pos (by decide +kernel)]
        rfl
      · unfold xIv
        rw [if_pos rfl]
        exact ⟨⟨hk1, hc, m1⟩, by omega⟩
    · obtain ⟨Z1, c1, o, k1, k2, k3, k4, k5⟩ := over (fun _ => hm)
      refine ⟨Z1, c1, o, ?_, k4, k5⟩
      subst k3
      rw [e_X11_laysStretches_98, if_neg f10, e15, xob_some]
      simp (disch := omega) only [iI_suc, iI_le]
      rw [if_neg (by omega), h1.o, cond_true, q1, xob_some]
      dsimp only
      rw [h1.o, cond_true, q2, xob_some]
      dsimp only
      rw [h1.o, cond_true, hl, xob_some, if_neg (fun z => hm (el.mpr ⟨by omega, by omega, z⟩)), if_pos f00, if_neg f10, if_neg (fun z => z f00), k2, xob_some, k1, xob_some]
      rfl
  · obtain ⟨Z1, c1, o, k1, k2, k3, k4, k5⟩ := over (fun z => absurd z hk1)
    refine ⟨Z1, c1, o, ?_, k4, k5⟩
    subst k3
    rw [e_X11_laysStretches_98, if_neg f10, e15, xob_some]
    simp (disch := omega) only [iI_suc, iI_le]
    rw [if_pos (by omega), if_neg f10, if_neg (fun z => z f00), k2, xob_some, k1, xob_some]
    rfl
theorem d_stretchLoop {S0 : xS} {ob0 : Nat → Value} {i : Nat} (hi : i < F.1) (hs : 0 < sc) (hW : xSW nT T sc n u v) (hn : n ≤ 201) (hsl : xsl F i sc n u v) (h : xLS S0 m ob0 F nT T sc n u v S 0 0) :
    ∃ Z, xrun P m_X11_laysStretches 25 [(0, .ref m), (1, .int (iI i)), (2, .int (iI 0)), (3, .int (iI 0))] [] S = some (none, Z) ∧ xLS S0 m ob0 F nT T sc n u v Z n n := by
  have f10 : ¬ (iI 1 = 0) := by decide +kernel
  have f00 : iI 0 = (0 : Int32) := by decide +kernel
  refine xloopQ (run := fun k (Z : xS × Nat × Bool) => xrun P m_X11_laysStretches 25 [(0, .ref m), (1, .int (iI i)), (2, .int (iI (if Z.2.2 then 1 else 0))), (3, .int (iI k))] [] Z.1)
    (Inv := fun k Z => xLS S0 m ob0 F nT T sc n u v Z.1 Z.2.1 (if Z.2.2 then Z.2.1 + 1 else Z.2.1) ∧ xIv nT T sc n u v k Z.2.1 Z.2.2 ∧ Z.2.1 ≤ n)
    (fun res => ∃ Z, res = some (none, Z) ∧ xLS S0 m ob0 F nT T sc n u v Z n n) 0 nT (by omega) (fun k Z _ hk hZ => by
      obtain ⟨Z, c, o⟩ := Z
      obtain ⟨hL, hI, hcn⟩ := hZ
      dsimp only at hL hI hcn ⊢
      refine Or.inr ?_
      obtain ⟨ob, h1, h2, h3, h4, h5, h6, h7, h8⟩ := id hL
      have b1300 := h4.1
      have e15 := h1.i (by omega) h4.2.1
      obtain ⟨tt, tb, r8, r9, t0, t1, t2, t3, t4⟩ := h4.rd hs hk
      have hl := g_isLonely (P := P) h1 h5 hi t0 (by omega) t2 (by omega)
      rw [xlo_at (t := 2 * T k) (by omega) (by omega) hs (by rw [show tt * (2 * sc) = tt * sc * 2 by ac_rfl, t4]; ac_rfl)] at hl
      have el := hsl (2 * T k)
      have bk := hW.2.1 k hk
      unfold xIv at hI
      -- up to the end of the test
      have start : ∀ X : Int32 × xS → xR, (xob (xcI P m_X11_isLonely [.ref m, .int (iI i), .long (jI tt), .long (jI tb)] Z) none X) = X (iI (if xlo F i (12 * (2 * T k)) (2 * sc) = true then 1 else 0), Z) := fun X => by rw [hl, xob_some]
      by_cases hh : xme n u v (2 * T k)
      · -- it is lonely here: a stretch is open, or begins
        rw [if_pos (el.mp hh).2.2] at start
        have go : ∃ Z1 c1, c1 < n ∧ u c1 ≤ T k ∧ T k ≤ v c1 ∧ xLS S0 m ob0 F nT T sc n u v Z1 c1 (c1 + 1) ∧ (T k = v c1 → xEn Z1 (m + 12) (m + 13) (c1 + 1) sc v) ∧ xrun P m_X11_laysStretches 25 [(0, .ref m), (1, .int (iI i)), (2, .int (iI (if o then 1 else 0))), (3, .int (iI k))] [] Z = xrun P m_X11_laysStretches 98 [(0, .ref m), (1, .int (iI i)), (3, .int (iI k)), (4, .int (iI 1))] [] Z1 := by
          cases o with
          | true =>
            rw [if_pos rfl] at hI
            obtain ⟨-, i1, i2, i3⟩ := hI
            obtain ⟨Z1, k1, k2, k3, k4, k5⟩ := d_closes (P := P) h1 h2 (by omega) h7 (p := tt) (q := tb) t2 t3
            refine ⟨Z1, c, i1, i2, i3, ⟨ob, k2, h2, h3, h4.fr k5 (by omega) (by omega) rfl, h5.fr k5 (by omega), h6.fr k5 (by omega) (by omega), k3, h8.tr (k5.mono (fun d h => by omega))⟩, fun e => k4 (by rw [t4, e]), ?_⟩
            rw [e_X11_laysStretches_25, e15, xob_some]
            simp (disch := omega) only [iI_le]
            rw [if_neg (by omega), h1.r13, xob_some, r8, xob_some, h1.r14, xob_some, r9, xob_some, h1.o, cond_true, start]
            dsimp only
            rw [if_neg f10, if_pos (by decide +kernel), if_neg f10, h1.r13, xob_some, r8, xob_some, h1.r14, xob_some, r9, xob_some, h1.o, cond_true, k1, xob_some]
          | false =>
            rw [if_neg (by decide)] at hI
            rw [if_neg (by decide)] at h6
            obtain ⟨i1, i2⟩ := hI
            obtain ⟨c1, c2, c3⟩ := hW.m2 hk (fun j hj => by have := i1 j hj; unfold xT' at this; rw [if_pos hk] at this; exact this) (i2 hk) hh
            obtain ⟨Z1, k1, k2, k3, k4, k5⟩ := d_opens (P := P) h1 h2 (by omega) h7 h6 (p := tt) (q := tb) t2 t3 (by rw [t4, c2])
            have h4' := h4.fr k5 (by omega) (by omega) (ob1 := ob) rfl
            obtain ⟨Z2, j1, j2, j3, j4, j5⟩ := d_closes (P := P) k2 h2 (by omega) k3 (p := tt) (q := tb) t2 t3
            have r8' : xrdJ Z1 (m + 8) (iI k) = some (jI tt) := by
              unfold xrdJ; unfold xrdJ at r8; rw [k5.2 _ (by omega)]; exact r8
            have r9' : xrdJ Z1 (m + 9) (iI k) = some (jI tb) := by
              unfold xrdJ; unfold xrdJ at r9; rw [k5.2 _ (by omega)]; exact r9
            refine ⟨Z2, c, c1, by omega, c3, ⟨ob, j2, h2, h3, h4'.fr j5 (by omega) (by omega) rfl, (h5.fr k5 (by omega)).fr j5 (by omega), k4.fr j5 (by omega) (by omega), j3, (h8.tr (k5.mono (fun d h => by omega))).tr (j5.mono (fun d h => by omega))⟩, fun e => j4 (by rw [t4, e]), ?_⟩
            rw [e_X11_laysStretches_25, e15, xob_some]
            simp (disch := omega) only [iI_le]
            rw [if_neg (by omega), h1.r13, xob_some, r8, xob_some, h1.r14, xob_some, r9, xob_some, h1.o, cond_true, start]
            dsimp only
            rw [if_neg f10, if_neg (fun z => z f00), h1.r13, xob_some, r8, xob_some, h1.r14, xob_some, r9, xob_some, h1.o, cond_true, k1, xob_some, if_neg f10, k2.r13, xob_some, r8', xob_some, k2.r14, xob_some, r9', xob_some, k2.o, cond_true, j1, xob_some]
        obtain ⟨Z1, c1, g1, g2, g3, g4, g5, g6⟩ := go
        obtain ⟨Z2, c2, o2, f1, f2, f3, f4⟩ := l_str98 (P := P) hi hs hW hsl hk g1 g2 g3 g4 g5
        exact ⟨(Z2, c2, o2), g6.trans f1, f2, f3, f4⟩
      · rw [if_neg (fun z => hh (el.mpr ⟨by omega, by omega, z⟩))] at start
        cases o with
        | true =>
          rw [if_pos rfl] at hI
          exact absurd ⟨c, hI.2.1, by omega, by omega⟩ hh
        | false =>
          rw [if_neg (by decide)] at hI
          obtain ⟨m1, m2⟩ := hW.m4 hk (fun j hj => by have := hI.1 j hj; unfold xT' at this; rw [if_pos hk] at this; exact this) hh
          refine ⟨(Z, c, false), ?_, hL, ?_, hcn⟩
          · rw [e_X11_laysStretches_25, e15, xob_some]
            simp (disch := omega) only [iI_le]
            rw [if_neg (by omega), h1.r13, xob_some, r8, xob_some, h1.r14, xob_some, r9, xob_some, h1.o, cond_true, start]
            dsimp only
            rw [if_pos f00, if_pos f00, e_X11_laysStretches_98, if_pos f00, if_pos f00, iI_suc]
            rfl
          · unfold xIv
            dsimp only
            rw [if_neg (by decide)]
            exact ⟨m1, fun hk1 => Or.inr ⟨k, rfl, m2 hk1⟩⟩) (fun Z hZ => by
      obtain ⟨Z, c, o⟩ := Z
      obtain ⟨hL, hI, hcn⟩ := hZ
      dsimp only at hL hI hcn ⊢
      obtain ⟨ob, h1, h2, h3, h4, h5, h6, h7, h8⟩ := id hL
      have b1300 := h4.1
      have e15 := h1.i (by omega) h4.2.1
      unfold xIv at hI
      cases o with
      | true => rw [if_pos rfl] at hI; omega
      | false =>
        rw [if_neg (by decide)] at hI
        have e : c = n := by
          by_cases d : c < n
          · have := hI.1 c d
            unfold xT' at this
            rw [if_neg (by omega)] at this
            have := (hW.vv d).2.1
            omega
          · omega
        subst e
        refine ⟨Z, ?_, hL⟩
        rw [e_X11_laysStretches_25, e15, xob_some]
        simp (disch := omega) only [iI_le]
        rw [if_pos (by omega)]) (s := (S, 0, false)) ⟨h, ?_, Nat.zero_le _⟩
  unfold xIv
  dsimp only
  rw [if_neg (by decide)]
  refine ⟨fun j hj => ?_, fun _ => Or.inl rfl⟩
  have := hW.vv hj
  have := hW.first
  have := hW.pos
  unfold xT'
  rw [if_pos (by omega)]
  omega
end SL
