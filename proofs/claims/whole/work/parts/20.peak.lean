-- deps: 19.gcd
/-! Peak: the greatest nearest of one, and its first time -/
/-- all times are told over 12 L, L a multiple of 1 to 80 -/
def xLL : Int := 32433859254793982911622772305630400
theorem xLL_dvd {e : Int} (e0 : 1 ≤ e) (e1 : e ≤ 80) : e ∣ xLL := by
  have h : ∀ n : Nat, n < 80 → xLL % ((n : Int) + 1) = 0 := by decide +kernel
  have h1 := h (e - 1).toNat (by omega)
  rw [show (((e - 1).toNat : Nat) : Int) + 1 = e by omega] at h1
  exact Int.dvd_of_emod_eq_zero h1
theorem xLL_pos : 0 < xLL := by decide +kernel
theorem x_cross {L e c g d a b : Int} (hL : 0 < L) (h1 : L = e * c) (h2 : L = g * d) (e0 : 0 < e) (g0 : 0 < g) : (a * e < b * g ↔ a * d < b * c) := by
  have p : 0 < e * g := Int.mul_pos e0 g0
  rw [← Int.mul_lt_mul_right (b := a * d) (c := b * c) p, show a * d * (e * g) = a * e * (g * d) by ac_rfl, show b * c * (e * g) = b * g * (e * c) by ac_rfl, ← h1, ← h2, Int.mul_lt_mul_right hL]
theorem x_cross_le {L e c g d a b : Int} (hL : 0 < L) (h1 : L = e * c) (h2 : L = g * d) (e0 : 0 < e) (g0 : 0 < g) : (a * e ≤ b * g ↔ a * d ≤ b * c) := by
  have p : 0 < e * g := Int.mul_pos e0 g0
  rw [← Int.mul_le_mul_right (b := a * d) (c := b * c) p, show a * d * (e * g) = a * e * (g * d) by ac_rfl, show b * c * (e * g) = b * g * (e * c) by ac_rfl, ← h1, ← h2, Int.mul_le_mul_right hL]
theorem x_cross_eq {L e c g d a b : Int} (hL : 0 < L) (h1 : L = e * c) (h2 : L = g * d) (e0 : 0 < e) (g0 : 0 < g) : (a * e = b * g ↔ a * d = b * c) := by
  have := x_cross (a := a) (b := b) hL h1 h2 e0 g0
  have := x_cross_le (a := a) (b := b) hL h1 h2 e0 g0
  omega
theorem xmul_emod {a b c : Int} (hc : 0 < c) : (a * c) % (b * c) = a % b * c := by
  rw [Int.mul_comm a c, Int.mul_comm b c, Int.mul_emod_mul_of_pos _ _ hc, Int.mul_comm]
theorem xmin_mul {a b c : Int} (hc : 0 ≤ c) : min a b * c = min (a * c) (b * c) := by
  by_cases h : a ≤ b
  · have := Int.mul_le_mul_of_nonneg_right h hc
    rw [show min a b = a by omega, show min (a * c) (b * c) = a * c by omega]
  · have := Int.mul_le_mul_of_nonneg_right (show b ≤ a by omega) hc
    rw [show min a b = b by omega, show min (a * c) (b * c) = b * c by omega]
/-- how far off the nearest is at the time x by 12 e, over 12 e -/
def xNr (gp ld : Nat → Int) (n : Nat) (x e : Int) : Int := xmn (xa2 gp ld x e) (6 * e) n
theorem xa2_scale (gp ld : Nat → Int) {x e c : Int} (hc : 0 < c) (r : Nat) : xa2 gp ld (x * c) (e * c) r = xa2 gp ld x e r * c := by
  unfold xa2
  rw [show gp r * (x * c) + ld r * (e * c) = (gp r * x + ld r * e) * c by rw [Int.add_mul]; ac_rfl, show 12 * (e * c) = (12 * e) * c by ac_rfl, xmul_emod hc, ← Int.sub_mul, xmin_mul (by omega)]
theorem xmn_scale {f g : Nat → Int} {z c : Int} (hc : 0 < c) (h : ∀ r, g r = f r * c) : ∀ n, xmn g (z * c) n = xmn f z n * c := by
  intro n
  induction n with
  | zero => rfl
  | succ n ih => simp only [xmn]; rw [ih, h n, xmin_mul (by omega)]
theorem xNr_scale (gp ld : Nat → Int) (n : Nat) {x e c : Int} (hc : 0 < c) : xNr gp ld n (x * c) (e * c) = xNr gp ld n x e * c := by
  unfold xNr
  rw [show 6 * (e * c) = 6 * e * c by ac_rfl]
  exact xmn_scale hc (fun r => xa2_scale gp ld hc r) n
theorem xNr_bd {gp ld : Nat → Int} {n : Nat} {x e : Int} (he : 0 < e) : 0 ≤ xNr gp ld n x e ∧ xNr gp ld n x e ≤ 6 * e :=
  xmn_bd (by omega) n (fun j _ => xa2_bd he j)
/-- the time x by 12 e, over 12 L -/
def xta (x e : Int) : Int := x * (xLL / e)
theorem xta_L {e : Int} (e0 : 1 ≤ e) (e1 : e ≤ 80) : xLL = e * (xLL / e) := (Int.mul_ediv_cancel' (xLL_dvd e0 e1)).symm
theorem xta_q {e : Int} (e0 : 1 ≤ e) (e1 : e ≤ 80) : 0 < xLL / e := by
  have h := xta_L e0 e1
  have hL := xLL_pos
  by_cases c : 0 < xLL / e
  · exact c
  · have := Int.mul_le_mul_of_nonneg_left (show xLL / e ≤ 0 by omega) (show 0 ≤ e by omega)
    omega
/-- s is no better than t -/
def xlx (f : Int → Int) (s t : Int) : Prop := f s < f t ∨ (f s = f t ∧ t ≤ s)
theorem xlx.rf (f : Int → Int) (s : Int) : xlx f s s := Or.inr ⟨rfl, Int.le_refl _⟩
theorem xlx.tr {f : Int → Int} {s t u : Int} (h : xlx f s t) (h2 : xlx f t u) : xlx f s u := by
  unfold xlx at *
  omega
theorem xlx.an {f : Int → Int} {s t : Int} (h : xlx f s t) (h2 : xlx f t s) : s = t := by
  unfold xlx at *
  omega
def xfL (gp ld : Nat → Int) (n : Nat) (t : Int) : Int := xNr gp ld n t xLL
theorem xfL_ta (gp ld : Nat → Int) (n : Nat) {x e : Int} (e0 : 1 ≤ e) (e1 : e ≤ 80) : xfL gp ld n (xta x e) = xNr gp ld n x e * (xLL / e) := by
  have h := xNr_scale gp ld n (x := x) (e := e) (xta_q e0 e1)
  rw [← xta_L e0 e1] at h
  exact h
/-- the comparison as the class makes it -/
theorem xlx_lt (gp ld : Nat → Int) (n : Nat) {x e y g : Int} (e0 : 1 ≤ e) (e1 : e ≤ 80) (g0 : 1 ≤ g) (g1 : g ≤ 80) : (xNr gp ld n y g * e < xNr gp ld n x e * g ↔ xfL gp ld n (xta y g) < xfL gp ld n (xta x e)) ∧ (xNr gp ld n y g * e = xNr gp ld n x e * g ↔ xfL gp ld n (xta y g) = xfL gp ld n (xta x e)) ∧ (x * g ≤ y * e ↔ xta x e ≤ xta y g) := by
  rw [xfL_ta gp ld n e0 e1, xfL_ta gp ld n g0 g1]
  refine ⟨x_cross xLL_pos (xta_L e0 e1) (xta_L g0 g1) (by omega) (by omega), x_cross_eq xLL_pos (xta_L e0 e1) (xta_L g0 g1) (by omega) (by omega), ?_⟩
  exact x_cross_le xLL_pos (xta_L g0 g1) (xta_L e0 e1) (by omega) (by omega)
/-- a time of 0 up to 1 at which so many twelfths a time, and some more, are whole -/
def xcn (g l t : Int) : Prop := 0 ≤ t ∧ t < 12 * xLL ∧ 12 * xLL ∣ g * t + l * xLL
theorem xcn_k {g l : Int} (g0 : 1 ≤ g) (g1 : g ≤ 80) {k : Int} (k0 : 0 ≤ k) (k1 : k < g) : xcn g l (xta ((-l) % 12 + 12 * k) g) := by
  have q := xta_q g0 g1
  have e := xta_L g0 g1
  have m0 := Int.emod_nonneg (-l) (b := 12) (by omega)
  have m1 := Int.emod_lt_of_pos (-l) (b := 12) (by omega)
  have hd : (-l) % 12 = -l - 12 * ((-l) / 12) := Int.emod_def _ _
  refine ⟨Int.mul_nonneg (by omega) (by omega), ?_, ?_⟩
  · have h1 : ((-l) % 12 + 12 * k) < 12 * g := by omega
    have h2 := Int.mul_lt_mul_of_pos_right h1 q
    rw [show 12 * g * (xLL / g) = 12 * (g * (xLL / g)) by ac_rfl, ← e] at h2
    exact h2
  · unfold xta
    rw [show g * (((-l) % 12 + 12 * k) * (xLL / g)) = ((-l) % 12 + 12 * k) * (g * (xLL / g)) by ac_rfl, ← e, ← Int.add_mul, hd]
    rw [show -l - 12 * (-l / 12) + 12 * k + l = 12 * (k - (-l) / 12) by omega, show 12 * (k - (-l) / 12) * xLL = 12 * xLL * (k - (-l) / 12) by ac_rfl]
    exact Int.dvd_mul_right _ _
theorem xcn_ex {g l t : Int} (g0 : 1 ≤ g) (g1 : g ≤ 80) (h : xcn g l t) : ∃ k : Nat, (k : Int) < g ∧ t = xta ((-l) % 12 + 12 * k) g := by
  obtain ⟨t0, t1, d, hd⟩ := h
  have q := xta_q g0 g1
  have e := xta_L g0 g1
  have m0 := Int.emod_nonneg (-l) (b := 12) (by omega)
  have m1 := Int.emod_lt_of_pos (-l) (b := 12) (by omega)
  have hm : (-l) % 12 = -l - 12 * ((-l) / 12) := Int.emod_def _ _
  -- g t = (12 d - l) L, so t = (12 d - l) (L / g)
  have h1 : g * t = g * ((12 * d - l) * (xLL / g)) := by
    have h2 : g * t = 12 * xLL * d - l * xLL := by omega
    rw [h2, show g * ((12 * d - l) * (xLL / g)) = (12 * d - l) * (g * (xLL / g)) by ac_rfl, ← e, Int.sub_mul]
    congr 1
    ac_rfl
  have h3 : t = (12 * d - l) * (xLL / g) := Int.eq_of_mul_eq_mul_left (by omega) h1
  have h4 : 0 ≤ 12 * d - l := by
    by_cases c : 0 ≤ 12 * d - l
    · exact c
    · have := Int.mul_lt_mul_of_pos_right (show 12 * d - l < 0 by omega) q
      rw [Int.zero_mul] at this
      omega
  have h5 : 12 * d - l < 12 * g := by
    by_cases c : 12 * d - l < 12 * g
    · exact c
    · have := Int.mul_le_mul_of_nonneg_right (show 12 * g ≤ 12 * d - l by omega) (show 0 ≤ xLL / g by omega)
      rw [show 12 * g * (xLL / g) = 12 * (g * (xLL / g)) by ac_rfl, ← e] at this
      omega
  refine ⟨(d + (-l) / 12).toNat, ?_, ?_⟩
  · omega
  · rw [h3]
    unfold xta
    congr 1
    omega
/-- the best of those that D names -/
def xbo (f : Int → Int) (D : Int → Prop) (t : Int) : Prop := D t ∧ ∀ s, D s → xlx f s t
theorem xbo.eqv {f : Int → Int} {D D' : Int → Prop} {t : Int} (h : xbo f D t) (hD : ∀ s, D s ↔ D' s) : xbo f D' t := ⟨(hD t).mp h.1, fun s hs => h.2 s ((hD s).mpr hs)⟩
theorem xbo.un {f : Int → Int} {D : Int → Prop} {s t : Int} (h : xbo f D s) (h2 : xbo f D t) : s = t := (h2.2 s h.1).an (h.2 t h2.1)
/-- Peak as it lies there; its Others lie behind it -/
def xPk (S : xS) (a : Nat) (h p x q kh kp : Int) : Prop := S.1 a = some (.inl (4, [.ref (a + 1), .int (iI h), .int (iI p), .int (iI x), .int (iI q), .int (iI kh), .int (iI kp)]))
theorem xPk.fr {S S1 : xS} {a : Nat} {h p x q kh kp : Int} {A : Nat → Prop} (H : xPk S a h p x q kh kp) (hf : xfr S S1 A) (h0 : ¬ A a) : xPk S1 a h p x q kh kp := (hf.2 _ h0).trans H
section PK
variable {P : Nat → Nat} {S : xS} {a n : Nat} {gp ld : Nat → Int} {F : xF} {h p x q kh kp : Int}
theorem xPk.o (H : xPk S a h p x q kh kp) : xisO S a 4 = true := xisO_at H
theorem xPk_puts (H : xPk S a h p x q kh kp) (h' p' x' q' : Int) : ∃ S1 S2 S3 S4, xpf S a 4 1 0 (.int (iI h')) = some S1 ∧ xpf S1 a 4 2 0 (.int (iI p')) = some S2 ∧ xpf S2 a 4 3 0 (.int (iI x')) = some S3 ∧ xpf S3 a 4 4 0 (.int (iI q')) = some S4 ∧ xPk S4 a h' p' x' q' kh kp ∧ xfr S S4 (fun c => c = a) := by
  let S1 : xS := xpt S a (.inl (4, [.ref (a + 1), .int (iI h'), .int (iI p), .int (iI x), .int (iI q), .int (iI kh), .int (iI kp)]))
  have e1 : S1.1 a = some (.inl (4, [.ref (a + 1), .int (iI h'), .int (iI p), .int (iI x), .int (iI q), .int (iI kh), .int (iI kp)])) := by rw [xpt_1, if_pos rfl]
  let S2 : xS := xpt S1 a (.inl (4, [.ref (a + 1), .int (iI h'), .int (iI p'), .int (iI x), .int (iI q), .int (iI kh), .int (iI kp)]))
  have e2 : S2.1 a = some (.inl (4, [.ref (a + 1), .int (iI h'), .int (iI p'), .int (iI x), .int (iI q), .int (iI kh), .int (iI kp)])) := by rw [xpt_1, if_pos rfl]
  let S3 : xS := xpt S2 a (.inl (4, [.ref (a + 1), .int (iI h'), .int (iI p'), .int (iI x'), .int (iI q), .int (iI kh), .int (iI kp)]))
  have e3 : S3.1 a = some (.inl (4, [.ref (a + 1), .int (iI h'), .int (iI p'), .int (iI x'), .int (iI q), .int (iI kh), .int (iI kp)])) := by rw [xpt_1, if_pos rfl]
  let S4 : xS := xpt S3 a (.inl (4, [.ref (a + 1), .int (iI h'), .int (iI p'), .int (iI x'), .int (iI q'), .int (iI kh), .int (iI kp)]))
  have f1 : xfr S S1 (fun c => c = a) := xfr.pt rfl
  have f2 : xfr S1 S2 (fun c => c = a) := xfr.pt rfl
  have f3 : xfr S2 S3 (fun c => c = a) := xfr.pt rfl
  have f4 : xfr S3 S4 (fun c => c = a) := xfr.pt rfl
  refine ⟨S1, S2, S3, S4, (xpf_at H (show 1 < 7 by decide) rfl).trans rfl, (xpf_at e1 (show 2 < 7 by decide) rfl).trans rfl, (xpf_at e2 (show 3 < 7 by decide) rfl).trans rfl, (xpf_at e3 (show 4 < 7 by decide) rfl).trans rfl, ?_, ((f1.tr f2).tr f3).tr f4⟩
  show (if a = a then _ else _) = _
  rw [if_pos rfl]
/-- the state: the time x by 12 e, and how far off the nearest is then -/
def xPs (S : xS) (a : Nat) (gp ld : Nat → Int) (n : Nat) (x e kh kp : Int) : Prop := 0 ≤ x ∧ x < 12 * e ∧ 1 ≤ e ∧ e ≤ 80 ∧ xPk S a (xNr gp ld n x e) (12 * e) x (12 * e) kh kp
theorem d_seekAmong (H : xPs S a gp ld n x q kh kp) (O : xOt S (a + 1) n gp ld) {g l : Int} (g0 : 0 ≤ g) (g1 : g ≤ 80) (l0 : -1000 ≤ l) (l1 : l ≤ 1000) {D : Int → Prop} (B : xbo (xfL gp ld n) D (xta x q)) :
    ∃ S1 x1 q1, xcV P m_X4_seekAmong [.ref a, .int (iI g), .int (iI l)] S = some S1 ∧ xPs S1 a gp ld n x1 q1 kh kp ∧ xfr S S1 (fun c => c = a) ∧ xbo (xfL gp ld n) (fun t => D t ∨ (1 ≤ g ∧ xcn g l t)) (xta x1 q1) := by
  have m0 := Int.emod_nonneg (-l) (b := 12) (by omega)
  have m1 := Int.emod_lt_of_pos (-l) (b := 12) (by omega)
  have key := xloopQ (run := fun r (T : xS) => xrun P m_X4_seekAmong 17 [(0, .ref a), (1, .int (iI g)), (3, .int (iI (12 * g))), (4, .int (iI ((-l) % 12 + 12 * r))), (5, .int (iI r))] [] T)
    (Inv := fun r T => ∃ x e, xPs T a gp ld n x e kh kp ∧ xfr S T (fun c => c = a) ∧ xbo (xfL gp ld n) (fun t => D t ∨ ∃ k : Nat, k < r ∧ t = xta ((-l) % 12 + 12 * k) g) (xta x e))
    (fun res => ∃ S1 x1 q1, res = some (none, S1) ∧ xPs S1 a gp ld n x1 q1 kh kp ∧ xfr S S1 (fun c => c = a) ∧ xbo (xfL gp ld n) (fun t => D t ∨ (1 ≤ g ∧ xcn g l t)) (xta x1 q1)) 0 g.toNat (by omega) (fun r T _ hr hT => by
      obtain ⟨x, e, h1, h2, h3⟩ := hT
      have O' := O.fr h2 (fun c hc hd => by unfold x3 at hc; omega)
      obtain ⟨x0, x1, e0, e1, hP⟩ := h1
      refine Or.inr ?_
      let y : Int := (-l) % 12 + 12 * r
      have ey : y = (-l) % 12 + 12 * r := rfl
      have bN := xNr_bd (gp := gp) (ld := ld) (n := n) (x := x) (e := e) (by omega)
      have bM := xNr_bd (gp := gp) (ld := ld) (n := n) (x := y) (e := g) (by omega)
      have c1 := xlx_lt gp ld n (x := x) (e := e) (y := y) (g := g) e0 e1 (by omega) g1
      have b1 := x_mul_bd bN.1 (show xNr gp ld n x e ≤ 480 by omega) (show 0 ≤ g by omega) g1
      obtain ⟨v, v1, v2, v3, v4, v5⟩ := d_nub (P := P) O' (x := y) (e := g) (q := xNr gp ld n x e * (12 * g) / (12 * e)) (by omega) (by omega) (by omega) (by omega) (by
        have : 0 ≤ xNr gp ld n x e * (12 * g) / (12 * e) := Int.ediv_nonneg (by rw [Int.mul_left_comm]; omega) (by omega)
        omega) (by
        have := Int.ediv_le_self (12 * e) (show 0 ≤ xNr gp ld n x e * (12 * g) by rw [Int.mul_left_comm]; omega)
        rw [Int.mul_left_comm] at this ⊢
        omega)
      have b2 := x_mul_bd v2 (show v ≤ 480 by omega) (show 0 ≤ e by omega) e1
      have b3 := x_mul_bd x0 (show x ≤ 960 by omega) (show 0 ≤ g by omega) g1
      have b4 := x_mul_bd (show 0 ≤ y by omega) (show y ≤ 960 by omega) (show 0 ≤ e by omega) e1
      have s1 : v * (12 * e) = 12 * (v * e) := Int.mul_left_comm _ _ _
      have s2 : xNr gp ld n x e * (12 * g) = 12 * (xNr gp ld n x e * g) := Int.mul_left_comm _ _ _
      have s3 : x * (12 * g) = 12 * (x * g) := Int.mul_left_comm _ _ _
      have s4 : y * (12 * e) = 12 * (y * e) := Int.mul_left_comm _ _ _
      -- the number that was found decides as the true one does
      have hv : (v = xNr gp ld n y g) ∨ (v * e < xNr gp ld n x e * g ∧ xNr gp ld n y g * e < xNr gp ld n x e * g) := by
        by_cases c : xNr gp ld n x e * (12 * g) / (12 * e) ≤ xNr gp ld n y g
        · exact Or.inl (v4 c)
        · have c2 : xNr gp ld n y g < xNr gp ld n x e * (12 * g) / (12 * e) := by omega
          have c3 := v5 c2
          have key : ∀ w, w < xNr gp ld n x e * (12 * g) / (12 * e) → w * e < xNr gp ld n x e * g := by
            intro w hw
            have h6 : (w + 1) * (12 * e) ≤ xNr gp ld n x e * (12 * g) := by
              have h7 := Int.mul_le_mul_of_nonneg_right (show w + 1 ≤ xNr gp ld n x e * (12 * g) / (12 * e) by omega) (show 0 ≤ 12 * e by omega)
              have h8 := Int.ediv_mul_le (xNr gp ld n x e * (12 * g)) (b := 12 * e) (by omega)
              omega
            rw [Int.add_mul, Int.mul_left_comm w, s2] at h6
            omega
          exact Or.inr ⟨key v c3, key _ c2⟩
      have Tput : ∀ T4 : xS, xPs T4 a gp ld n y g kh kp → xfr T T4 (fun c => c = a) → xlx (xfL gp ld n) (xta x e) (xta y g) → ∃ x' e', xPs T4 a gp ld n x' e' kh kp ∧ xfr S T4 (fun c => c = a) ∧ xbo (xfL gp ld n) (fun t => D t ∨ ∃ k : Nat, k < r + 1 ∧ t = xta ((-l) % 12 + 12 * k) g) (xta x' e') := by
        intro T4 q1 q2 q3
        refine ⟨y, g, q1, h2.tr q2, Or.inr ⟨r, by omega, rfl⟩, fun s hs => ?_⟩
        rcases hs with hs | ⟨k, hk, rfl⟩
        · exact (h3.2 s (Or.inl hs)).tr q3
        · by_cases c : k = r
          · subst c; exact xlx.rf _ _
          · exact (h3.2 _ (Or.inr ⟨k, by omega, rfl⟩)).tr q3
      have Tkeep : xlx (xfL gp ld n) (xta y g) (xta x e) → ∃ x' e', xPs T a gp ld n x' e' kh kp ∧ xfr S T (fun c => c = a) ∧ xbo (xfL gp ld n) (fun t => D t ∨ ∃ k : Nat, k < r + 1 ∧ t = xta ((-l) % 12 + 12 * k) g) (xta x' e') := by
        intro q3
        refine ⟨x, e, ⟨x0, x1, e0, e1, hP⟩, h2, ?_, fun s hs => ?_⟩
        · rcases h3.1 with hs | ⟨k, hk, hq⟩
          · exact Or.inl hs
          · exact Or.inr ⟨k, by omega, hq⟩
        · rcases hs with hs | ⟨k, hk, rfl⟩
          · exact h3.2 s (Or.inl hs)
          · by_cases c : k = r
            · subst c; exact q3
            · exact h3.2 _ (Or.inr ⟨k, by omega, rfl⟩)
      rw [e_X4_seekAmong_17]
      rw [if_neg (by rw [iI_le (by omega) (by omega) (by omega) (by omega)]; omega), xfI_at (k := 2) hP rfl, xob_some, if_neg (by rw [iI_0, iI_le (by omega) (by omega) (by omega) (by omega)]; omega), xfR_at (k := 0) hP rfl, xob_some, xfI_at (k := 1) hP rfl, xob_some, xob_some, if_neg (by rw [iI_0, iI_eq (by omega) (by omega) (by omega) (by omega)]; omega), O'.o, cond_true, iI_mul, iI_div (by omega) (by omega) (by omega) (by omega), ← ey, v1, xob_some]
      dsimp only
      rw [xfI_at (k := 2) hP rfl, xob_some, xfI_at (k := 1) hP rfl, xob_some, xfI_at (k := 4) hP rfl, xob_some, xfI_at (k := 3) hP rfl, xob_some]
      simp (disch := omega) only [iI_0, iI_mul, iI_sub, iI_lt, iI_eq, iI_le, ne_eq]
      have ens : iI (y + 12) = iI ((-l) % 12 + 12 * ((r + 1 : Nat) : Int)) := by rw [ey]; congr 1; omega
      have puts := xPk_puts hP (xNr gp ld n y g) (12 * g) y (12 * g)
      by_cases k1 : 0 < v * (12 * e) - xNr gp ld n x e * (12 * g)
      · rw [if_pos k1]
        obtain ⟨T1, T2, T3, T4, t1, t2, t3, t4, t5, t6⟩ := puts
        have hv' : v = xNr gp ld n y g := by
          rcases hv with hv | hv
          · exact hv
          · omega
        rw [hv', t1, xob_some, t2, xob_some, t3, xob_some, t4, xob_some, iI_suc, iI_add, ens]
        have hlt : xNr gp ld n x e * g < xNr gp ld n y g * e := by rw [hv'] at s1 k1; omega
        obtain ⟨x', e', z1⟩ := Tput T4 ⟨by omega, by omega, by omega, g1, t5⟩ t6 (by
          have z := (xlx_lt gp ld n (x := y) (e := g) (y := x) (g := e) (by omega) g1 e0 e1).1.mp hlt
          exact Or.inl z)
        exact ⟨T4, rfl, x', e', z1⟩
      · rw [if_neg k1]
        by_cases k2 : v * (12 * e) - xNr gp ld n x e * (12 * g) = 0
        · rw [if_neg (by simpa using k2)]
          have hv' : v = xNr gp ld n y g := by
            rcases hv with hv | hv
            · exact hv
            · omega
          have heq : xNr gp ld n y g * e = xNr gp ld n x e * g := by rw [hv'] at s1 k2; omega
          by_cases k3 : x * (12 * g) ≤ y * (12 * e)
          · rw [if_pos k3, iI_suc, iI_add, ens]
            obtain ⟨x', e', z1⟩ := Tkeep (Or.inr ⟨c1.2.1.mp heq, c1.2.2.mp (by omega)⟩)
            exact ⟨T, rfl, x', e', z1⟩
          · rw [if_neg k3]
            obtain ⟨T1, T2, T3, T4, t1, t2, t3, t4, t5, t6⟩ := puts
            rw [hv', t1, xob_some, t2, xob_some, t3, xob_some, t4, xob_some, iI_suc, iI_add, ens]
            have z2 := c1.2.1.mp heq
            have z3 : ¬ xta x e ≤ xta y g := fun z => by have := c1.2.2.mpr z; omega
            obtain ⟨x', e', z1⟩ := Tput T4 ⟨by omega, by omega, by omega, g1, t5⟩ t6 (Or.inr ⟨z2.symm, by omega⟩)
            exact ⟨T4, rfl, x', e', z1⟩
        · rw [if_pos (by simpa using k2), iI_suc, iI_add, ens]
          obtain ⟨x', e', z1⟩ := Tkeep (Or.inl (c1.1.mp (by
            rcases hv with hv | hv
            · rw [← hv]; omega
            · exact hv.2)))
          exact ⟨T, rfl, x', e', z1⟩) (fun T hT => by
      obtain ⟨x, e, h1, h2, h3⟩ := hT
      refine ⟨T, x, e, ?_, h1, h2, h3.eqv (fun s => ?_)⟩
      · rw [e_X4_seekAmong_17]
        simp (disch := omega) only [iI_le]
        rw [if_pos (by omega)]
      · constructor
        · rintro (hs | ⟨k, hk, rfl⟩)
          · exact Or.inl hs
          · exact Or.inr ⟨by omega, xcn_k (by omega) g1 (by omega) (by omega)⟩
        · rintro (hs | ⟨hs, hs2⟩)
          · exact Or.inl hs
          · obtain ⟨k, hk, e⟩ := xcn_ex hs g1 hs2
            exact Or.inr ⟨k, by omega, e⟩) (s := S) ⟨x, q, H, xfr.rf, B.eqv (fun s => ⟨Or.inl, fun z => by
      rcases z with z | ⟨k, hk, -⟩
      · exact z
      · omega⟩)⟩
  obtain ⟨S1, x1, q1, k1, k2⟩ := key
  refine ⟨S1, x1, q1, xcV_of ((e_X4_seekAmong_0 P a (iI g) (iI l) S).trans ?_), k2⟩
  rw [iI_neg, c_floorMod (by omega) (by omega) (by omega) (by omega), xob_some, iI_mul]
  dsimp only
  rw [show (-l) % 12 = (-l) % 12 + 12 * ((0 : Nat) : Int) by omega]
  exact k1
end PK
