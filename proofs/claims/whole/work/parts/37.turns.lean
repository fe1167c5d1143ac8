-- deps: 36.vigil2
/-! the reference: the times at which something turns, in order, each once -/
/-- one more at the place r -/
def xins {α : Type} (f : Nat → α) (r n : Nat) (v : α) (j : Nat) : α := if j = r then v else if r < j ∧ j ≤ n then f (j - 1) else f j
def xshf {α : Type} (f : Nat → α) (k n : Nat) (j : Nat) : α := if k < j ∧ j ≤ n then f (j - 1) else f j
theorem xshf_n {α : Type} (f : Nat → α) (n : Nat) : xshf f n n = f := by
  funext j
  unfold xshf
  rw [if_neg (by omega)]
theorem xshf_st {α : Type} (f : Nat → α) (k n : Nat) (hk : k + 1 ≤ n) : va_up (xshf f (k + 1) n) (k + 1) (f k) = xshf f k n := by
  funext j
  rw [va_up_at]
  unfold xshf
  by_cases c : j = k + 1
  · rw [if_pos c, if_pos (by omega), c]; rfl
  · rw [if_neg c]
    by_cases d : k < j ∧ j ≤ n
    · rw [if_pos d, if_pos (by omega)]
    · rw [if_neg d, if_neg (by omega)]
theorem xshf_at {α : Type} (f : Nat → α) (k n : Nat) : xshf f (k + 1) n k = f k := by
  unfold xshf
  rw [if_neg (by omega)]
theorem xshf_ins {α : Type} (f : Nat → α) (r n : Nat) (v : α) : va_up (xshf f r n) r v = xins f r n v := by
  funext j
  rw [va_up_at]
  rfl
/-- so many times, over their lower parts; in parts of sc they are T -/
def xTn (S : xS) (m : Nat) (ob : Nat → Value) (n : Nat) (sc : Int) (T : Nat → Int) : Prop := n ≤ 1300 ∧ ob 15 = .int (iI n) ∧ ∃ (tt tb : Nat → Int) (f g : Nat → Int64), S.1 (m + 8) = some (.inr (1, (1300, .inr (.inl f)))) ∧ S.1 (m + 9) = some (.inr (1, (1300, .inr (.inl g)))) ∧ (∀ k, k < n → f k = jI (tt k) ∧ g k = jI (tb k)) ∧ (∀ k, k < n → 1 ≤ tb k ∧ tb k ≤ 5760 ∧ tt k * sc = T k * tb k ∧ 0 ≤ T k ∧ T k ≤ sc) ∧ (∀ k, k + 1 < n → T k < T (k + 1)) ∧ ∀ k, k < n → tb k ∣ 12 * sc
theorem xTn.fr {S S1 : xS} {m n : Nat} {ob ob1 : Nat → Value} {sc : Int} {T : Nat → Int} {B : Nat → Prop} (h : xTn S m ob n sc T) (hf : xfr S S1 B) (h8 : ¬ B (m + 8)) (h9 : ¬ B (m + 9)) (ho : ob1 15 = ob 15) : xTn S1 m ob1 n sc T := by
  obtain ⟨h1, h2, tt, tb, f, g, e1, e2, h3⟩ := h
  exact ⟨h1, ho.trans h2, tt, tb, f, g, (hf.2 _ h8).trans e1, (hf.2 _ h9).trans e2, h3⟩
theorem x_tt_bd {tt tb T sc : Int} (hs : 0 < sc) (hb : 1 ≤ tb) (h : tt * sc = T * tb) (h0 : 0 ≤ T) (h1 : T ≤ sc) : 0 ≤ tt ∧ tt ≤ tb := by
  have e0 : 0 ≤ tt * sc := by rw [h]; exact Int.mul_nonneg h0 (by omega)
  have e1 : tt * sc ≤ tb * sc := by
    rw [h, Int.mul_comm tb]
    exact Int.mul_le_mul_of_nonneg_right h1 (by omega)
  refine ⟨?_, Int.le_of_mul_le_mul_right e1 hs⟩
  by_cases c : 0 ≤ tt
  · exact c
  · have := Int.mul_neg_of_neg_of_pos (show tt < 0 by omega) hs
    omega
/-- two times are compared crosswise -/
theorem x_tcmp {a b X c d Y sc : Int} (hs : 0 < sc) (hb : 1 ≤ b) (hd : 1 ≤ d) (h1 : a * sc = X * b) (h2 : c * sc = Y * d) : (a * d < c * b ↔ X < Y) ∧ (a * d = c * b ↔ X = Y) := by
  have bd : 0 < b * d := Int.mul_pos (by omega) (by omega)
  have e1 : a * d * sc = X * (b * d) := by rw [show a * d * sc = a * sc * d by ac_rfl, h1, Int.mul_assoc]
  have e2 : c * b * sc = Y * (b * d) := by rw [show c * b * sc = c * sc * b by ac_rfl, h2]; ac_rfl
  have l : ∀ p q : Int, p * sc < q * sc ↔ p < q := fun p q => Int.mul_lt_mul_right hs
  have r : ∀ p q : Int, p * (b * d) < q * (b * d) ↔ p < q := fun p q => Int.mul_lt_mul_right bd
  have k1 : a * d < c * b ↔ X < Y := by rw [← l, e1, e2, r]
  have k2 : c * b < a * d ↔ Y < X := by rw [← l, e1, e2, r]
  exact ⟨k1, by omega⟩
section TU
variable {P : Nat → Nat} {S : xS} {m n : Nat} {ob : Nat → Value} {sc : Int} {T : Nat → Int}
theorem xwrJ_fr {S : xS} {a n : Nat} {f : Nat → Int64} {i : Int} {v : Int64} (h : S.1 a = some (.inr (1, (n, .inr (.inl f))))) (h0 : 0 ≤ i) (h1 : i < n) (h2 : n < 2147483648) : ∃ S1, xwrJ S a (iI i) v = some S1 ∧ S1.1 a = some (.inr (1, (n, .inr (.inl (va_up f i.toNat v))))) ∧ xfr S S1 (fun c => c = a) :=
  ⟨_, xwrJ_at h h0 h1 h2, by rw [xpt_1, if_pos rfl], xfr.pt rfl⟩
theorem xwrI_fr {S : xS} {a n : Nat} {f : Nat → Int32} {i : Int} {v : Int32} (h : S.1 a = some (.inr (0, (n, .inl f)))) (h0 : 0 ≤ i) (h1 : i < n) (h2 : n < 2147483648) : ∃ S1, xwrI S a (iI i) v = some S1 ∧ S1.1 a = some (.inr (0, (n, .inl (va_up f i.toNat v)))) ∧ xfr S S1 (fun c => c = a) :=
  ⟨_, xwrI_at h h0 h1 h2, by rw [xpt_1, if_pos rfl], xfr.pt rfl⟩
theorem l_lt91 (ho : ob 15 = .int (iI n)) (hn : n < 1300) {f g : Nat → Int64} {p q : Int} {r : Nat} : ∀ (d : Nat) (S : xS), r + d ≤ n → xMo S m ob → S.1 (m + 8) = some (.inr (1, (1300, .inr (.inl (xshf f (r + d) n))))) → S.1 (m + 9) = some (.inr (1, (1300, .inr (.inl (xshf g (r + d) n))))) →
    ∃ S1, xrun P m_X11_laysTurn 91 [(0, .ref m), (1, .long (jI p)), (3, .long (jI q)), (5, .int (iI r)), (6, .int (iI ((r + d : Nat) : Int)))] [] S = some (none, S1) ∧ xMo S1 m (va_up ob 15 (.int (iI ((n + 1 : Nat) : Int)))) ∧ S1.1 (m + 8) = some (.inr (1, (1300, .inr (.inl (xins f r n (jI p)))))) ∧ S1.1 (m + 9) = some (.inr (1, (1300, .inr (.inl (xins g r n (jI q)))))) ∧ xfr S S1 (fun c => c = m ∨ c = m + 8 ∨ c = m + 9) := by
  intro d
  induction d with
  | zero =>
    intro S hrn hM h8 h9
    obtain ⟨S1, k1, k2, k3⟩ := xwrJ_fr (v := jI p) h8 (i := r) (by omega) (by omega) (by omega)
    have hM1 := hM.fr k3 (by omega)
    have h91 : S1.1 (m + 9) = _ := (k3.2 _ (by omega)).trans h9
    obtain ⟨S2, j1, j2, j3⟩ := xwrJ_fr (v := jI q) h91 (i := r) (by omega) (by omega) (by omega)
    have hM2 := hM1.fr j3 (by omega)
    obtain ⟨S3, i1, i2, i3⟩ := hM2.put (k := 15) (by omega) rfl (tag := 0) (v := .int (iI ((n + 1 : Nat) : Int))) rfl
    refine ⟨S3, ?_, i2, ?_, ?_, ((k3.mono (fun c h => Or.inr (Or.inl h))).tr (j3.mono (fun c h => Or.inr (Or.inr h)))).tr (i3.mono (fun c h => Or.inl h))⟩
    · rw [e_X11_laysTurn_91]
      simp (disch := omega) only [iI_le]
      rw [if_pos (by omega), hM.r13, xob_some, k1, xob_some, hM1.r14, xob_some, j1, xob_some, hM2.i (by omega) ho, xob_some, iI_suc, i1, xob_some]
    · rw [i3.2 _ (by omega), j3.2 _ (by omega), k2, Int.toNat_natCast, Nat.add_zero, xshf_ins]
    · rw [i3.2 _ (by omega), j2, Int.toNat_natCast, Nat.add_zero, xshf_ins]
  | succ d ih =>
    intro S hrn hM h8 h9
    rw [← Nat.add_assoc] at h8 h9
    obtain ⟨S1, k1, k2, k3⟩ := xwrJ_fr (v := f (r + d)) h8 (i := ((r + d + 1 : Nat) : Int)) (by omega) (by omega) (by omega)
    have hM1 := hM.fr k3 (by omega)
    have h91 : S1.1 (m + 9) = _ := (k3.2 _ (by omega)).trans h9
    obtain ⟨S2, j1, j2, j3⟩ := xwrJ_fr (v := g (r + d)) h91 (i := ((r + d + 1 : Nat) : Int)) (by omega) (by omega) (by omega)
    have hM2 := hM1.fr j3 (by omega)
    obtain ⟨S3, i1, i2⟩ := ih S2 (by omega) hM2 (by rw [j3.2 _ (by omega), k2, Int.toNat_natCast, xshf_st f _ n (by omega)]) (by rw [j2, Int.toNat_natCast, xshf_st g _ n (by omega)])
    refine ⟨S3, ?_, i2.1, i2.2.1, i2.2.2.1, ((k3.mono (fun c h => Or.inr (Or.inl h))).tr (j3.mono (fun c h => Or.inr (Or.inr h)))).tr i2.2.2.2⟩
    rw [e_X11_laysTurn_91]
    simp (disch := omega) only [iI_le]
    rw [if_neg (by omega), hM.r13, xob_some, xob_some, ← Nat.add_assoc, iI_pre, xrdJ_at h8 (by omega) (by omega) (by omega), xob_some, Int.toNat_natCast, xshf_at, k1, xob_some, hM1.r14, xob_some, xob_some, xrdJ_at h91 (by omega) (by omega) (by omega), xob_some, Int.toNat_natCast, xshf_at, j1, xob_some, iI_add, show ((r + d + 1 : Nat) : Int) + -1 = ((r + d : Nat) : Int) by omega]
    exact i1
/-- one more time, if it is of 0 .. 1 and not there yet -/
theorem d_laysTurn (hM : xMo S m ob) (h : xTn S m ob n sc T) (hn : n < 1300) (hs : 0 < sc) {p q X : Int} (p0 : -1000000000 ≤ p) (p1 : p ≤ 1000000000) (q0 : 1 ≤ q) (q1 : q ≤ 5760) (qd : q ∣ 12 * sc) (hX : 0 ≤ p → p ≤ q → p * sc = X * q) :
    ∃ S1 ob1 n1 T1, xcV P m_X11_laysTurn [.ref m, .long (jI p), .long (jI q)] S = some S1 ∧ xMo S1 m ob1 ∧ (∀ k, k ≠ 15 → ob1 k = ob k) ∧ xTn S1 m ob1 n1 sc T1 ∧ n ≤ n1 ∧ n1 ≤ n + 1 ∧ (∀ Y, (∃ k, k < n1 ∧ T1 k = Y) ↔ (∃ k, k < n ∧ T k = Y) ∨ (0 ≤ p ∧ p ≤ q ∧ Y = X)) ∧ xfr S S1 (fun c => c = m ∨ c = m + 8 ∨ c = m + 9) := by
  by_cases cp : 0 ≤ p ∧ p ≤ q
  · have eX := hX cp.1 cp.2
    have bX : 0 ≤ X ∧ X ≤ sc := by
      have e0 : 0 ≤ X * q := by rw [← eX]; exact Int.mul_nonneg cp.1 (by omega)
      have e1 : X * q ≤ sc * q := by
        rw [← eX, Int.mul_comm sc]
        exact Int.mul_le_mul_of_nonneg_right cp.2 (by omega)
      refine ⟨?_, Int.le_of_mul_le_mul_right e1 (by omega)⟩
      by_cases c : 0 ≤ X
      · exact c
      · have := Int.mul_neg_of_neg_of_pos (show X < 0 by omega) (show 0 < q by omega)
        omega
    obtain ⟨hn0, ho, tt, tb, f, g, e8, e9, hfg, hT, hso, hdv⟩ := h
    have key : ∀ d r, r + d = n → (∀ k, k < r → T k < X) → ∃ S1 ob1 n1 T1, xrun P m_X11_laysTurn 16 [(0, .ref m), (1, .long (jI p)), (3, .long (jI q)), (5, .int (iI r))] [] S = some (none, S1) ∧ xMo S1 m ob1 ∧ (∀ k, k ≠ 15 → ob1 k = ob k) ∧ xTn S1 m ob1 n1 sc T1 ∧ n ≤ n1 ∧ n1 ≤ n + 1 ∧ (∀ Y, (∃ k, k < n1 ∧ T1 k = Y) ↔ (∃ k, k < n ∧ T k = Y) ∨ (0 ≤ p ∧ p ≤ q ∧ Y = X)) ∧ xfr S S1 (fun c => c = m ∨ c = m + 8 ∨ c = m + 9) := by
      -- it is put at r
      have put : ∀ r, r ≤ n → (∀ k, k < r → T k < X) → (r < n → X < T r) → ∃ S1 ob1 n1 T1, xrun P m_X11_laysTurn 91 [(0, .ref m), (1, .long (jI p)), (3, .long (jI q)), (5, .int (iI r)), (6, .int (iI n))] [] S = some (none, S1) ∧ xMo S1 m ob1 ∧ (∀ k, k ≠ 15 → ob1 k = ob k) ∧ xTn S1 m ob1 n1 sc T1 ∧ n ≤ n1 ∧ n1 ≤ n + 1 ∧ (∀ Y, (∃ k, k < n1 ∧ T1 k = Y) ↔ (∃ k, k < n ∧ T k = Y) ∨ (0 ≤ p ∧ p ≤ q ∧ Y = X)) ∧ xfr S S1 (fun c => c = m ∨ c = m + 8 ∨ c = m + 9) := by
        intro r hr hlo hhi
        obtain ⟨d, rfl⟩ : ∃ d, n = r + d := ⟨n - r, by omega⟩
        obtain ⟨S1, k1, k2, k3, k4, k5⟩ := l_lt91 (P := P) ho hn (f := f) (g := g) (p := p) (q := q) (r := r) d S (by omega) hM (by rw [xshf_n]; exact e8) (by rw [xshf_n]; exact e9)
        have hso2 : ∀ a b, a < b → b < r + d → T a < T b := by
          intro a b hab
          induction b with
          | zero => omega
          | succ b ih =>
            intro hb
            have := hso b hb
            by_cases c : a = b
            · subst c; exact this
            · have := ih (by omega) (by omega)
              omega
        refine ⟨S1, _, r + d + 1, xins T r (r + d) X, k1, k2, fun k hk => by rw [va_up_at, if_neg hk], ⟨by omega, by rw [va_up_at, if_pos rfl], xins tt r (r + d) p, xins tb r (r + d) q, _, _, k3, k4, fun k hk => ?_, fun k hk => ?_, fun k hk => ?_, fun k hk => ?_⟩, by omega, by omega, fun Y => ?_, k5⟩
        · unfold xins
          by_cases c : k = r
          · rw [if_pos c, if_pos c, if_pos c, if_pos c]; exact ⟨rfl, rfl⟩
          · rw [if_neg c, if_neg c, if_neg c, if_neg c]
            by_cases c2 : r < k ∧ k ≤ r + d
            · rw [if_pos c2, if_pos c2, if_pos c2, if_pos c2]; exact hfg _ (by omega)
            · rw [if_neg c2, if_neg c2, if_neg c2, if_neg c2]; exact hfg _ (by omega)
        · unfold xins
          by_cases c : k = r
          · rw [if_pos c, if_pos c, if_pos c]; exact ⟨q0, q1, eX, bX⟩
          · rw [if_neg c, if_neg c, if_neg c]
            by_cases c2 : r < k ∧ k ≤ r + d
            · rw [if_pos c2, if_pos c2, if_pos c2]; exact hT _ (by omega)
            · rw [if_neg c2, if_neg c2, if_neg c2]; exact hT _ (by omega)
        · unfold xins
          by_cases c : k + 1 < r
          · rw [if_neg (by omega), if_neg (by omega), if_neg (by omega), if_neg (by omega)]; exact hso2 _ _ (by omega) (by omega)
          · by_cases c1 : k + 1 = r
            · rw [if_neg (by omega), if_neg (by omega), if_pos c1]; exact hlo _ (by omega)
            · by_cases c2 : k = r
              · rw [if_pos c2, if_neg (by omega), if_pos (by omega), show k + 1 - 1 = r by omega]; exact hhi (by omega)
              · rw [if_neg (by omega), if_pos (by omega), if_neg (by omega), if_pos (by omega)]; exact hso2 _ _ (by omega) (by omega)
        · unfold xins
          by_cases c : k = r
          · rw [if_pos c]; exact qd
          · rw [if_neg c]
            by_cases c2 : r < k ∧ k ≤ r + d
            · rw [if_pos c2]; exact hdv _ (by omega)
            · rw [if_neg c2]; exact hdv _ (by omega)
        · constructor
          · rintro ⟨k, hk, h⟩
            unfold xins at h
            by_cases c : k = r
            · rw [if_pos c] at h; exact Or.inr ⟨cp.1, cp.2, h.symm⟩
            · rw [if_neg c] at h
              by_cases c2 : r < k ∧ k ≤ r + d
              · rw [if_pos c2] at h; exact Or.inl ⟨k - 1, by omega, h⟩
              · rw [if_neg c2] at h; exact Or.inl ⟨k, by omega, h⟩
          · rintro (⟨k, hk, h⟩ | ⟨-, -, h⟩)
            · by_cases c : k < r
              · refine ⟨k, by omega, ?_⟩
                unfold xins
                rw [if_neg (by omega), if_neg (by omega)]; exact h
              · refine ⟨k + 1, by omega, ?_⟩
                unfold xins
                rw [if_neg (by omega), if_pos (by omega), Nat.add_sub_cancel]; exact h
            · refine ⟨r, by omega, ?_⟩
              unfold xins
              rw [if_pos rfl]; exact h.symm
      intro d
      induction d with
      | zero =>
        intro r hr hlo
        obtain ⟨S1, ob1, n1, T1, k1, k2⟩ := put r (by omega) hlo (fun z => by omega)
        refine ⟨S1, ob1, n1, T1, ?_, k2⟩
        rw [e_X11_laysTurn_16, hM.i (by omega) ho, xob_some]
        simp (disch := omega) only [iI_le]
        rw [if_pos (by omega), xob_some, if_pos (by rw [iI_le (by omega) (by omega) (by omega) (by omega)]; omega), xob_some]
        exact k1
      | succ d ih =>
        intro r hr hlo
        obtain ⟨b1, b2, b3, b4, b5⟩ := hT r (by omega)
        have bt := x_tt_bd hs b1 b3 b4 b5
        have c1 := x_tcmp hs b1 q0 b3 eX
        have m1 := x_mul_bd bt.1 (show tt r ≤ 5760 by omega) (show 0 ≤ q by omega) q1
        have m2 := x_mul_bd cp.1 (show p ≤ 5760 by omega) (show 0 ≤ tb r by omega) b2
        have rd8 : xrdJ S (m + 8) (iI r) = some (jI (tt r)) := by rw [xrdJ_at e8 (by omega) (by omega) (by omega), Int.toNat_natCast, (hfg r (by omega)).1]
        have rd9 : xrdJ S (m + 9) (iI r) = some (jI (tb r)) := by rw [xrdJ_at e9 (by omega) (by omega) (by omega), Int.toNat_natCast, (hfg r (by omega)).2]
        by_cases cl : T r < X
        · obtain ⟨S1, ob1, n1, T1, k1, k2⟩ := ih (r + 1) (by omega) (fun k hk => by
            by_cases c : k = r
            · subst c; exact cl
            · exact hlo k (by omega))
          refine ⟨S1, ob1, n1, T1, ?_, k2⟩
          rw [e_X11_laysTurn_16, hM.i (by omega) ho, xob_some]
          simp (disch := omega) only [iI_le]
          rw [if_neg (by omega), hM.r13, xob_some, rd8, xob_some, hM.r14, xob_some, rd9, xob_some, jI_mul, jI_mul, if_neg (by rw [lg_ge (by omega) (by omega) (by omega) (by omega)]; have := c1.1.mpr cl; omega), iI_suc]
          exact k1
        · by_cases ce : T r = X
          · refine ⟨S, ob, n, T, ?_, hM, fun _ _ => rfl, ⟨hn0, ho, tt, tb, f, g, e8, e9, hfg, hT, hso, hdv⟩, Nat.le_refl _, by omega, fun Y => ⟨Or.inl, fun z => z.elim id (fun z => ⟨r, by omega, by omega⟩)⟩, xfr.rf⟩
            rw [e_X11_laysTurn_16, hM.i (by omega) ho, xob_some]
            simp (disch := omega) only [iI_le]
            rw [if_neg (by omega), hM.r13, xob_some, rd8, xob_some, hM.r14, xob_some, rd9, xob_some, jI_mul, jI_mul, if_pos (by rw [lg_ge (by omega) (by omega) (by omega) (by omega)]; have := c1.1; omega), xob_some, if_neg (by rw [iI_le (by omega) (by omega) (by omega) (by omega)]; omega), xob_some, rd8, xob_some, xob_some, rd9, xob_some, jI_mul, jI_mul, if_neg (by rw [ne_eq, lg_z (by omega) (by omega) (by omega) (by omega)]; have := c1.2.mpr ce; omega)]
          · obtain ⟨S1, ob1, n1, T1, k1, k2⟩ := put r (by omega) hlo (fun _ => by omega)
            refine ⟨S1, ob1, n1, T1, ?_, k2⟩
            rw [e_X11_laysTurn_16, hM.i (by omega) ho, xob_some]
            simp (disch := omega) only [iI_le]
            rw [if_neg (by omega), hM.r13, xob_some, rd8, xob_some, hM.r14, xob_some, rd9, xob_some, jI_mul, jI_mul, if_pos (by rw [lg_ge (by omega) (by omega) (by omega) (by omega)]; have := c1.1; omega), xob_some, if_neg (by rw [iI_le (by omega) (by omega) (by omega) (by omega)]; omega), xob_some, rd8, xob_some, xob_some, rd9, xob_some, jI_mul, jI_mul, if_pos (by rw [ne_eq, lg_z (by omega) (by omega) (by omega) (by omega)]; have := c1.2; omega), xob_some]
            exact k1
    obtain ⟨S1, ob1, n1, T1, k1, k2⟩ := key n 0 (by omega) (fun k hk => by omega)
    refine ⟨S1, ob1, n1, T1, xcV_of ((e_X11_laysTurn_0 P m (jI p) (jI q) S).trans ?_), k2⟩
    rw [if_neg (by rw [lg_lt (by omega) (by omega) (by omega) (by omega)]; omega), if_pos (by rw [lg_le (by omega) (by omega) (by omega) (by omega)]; omega)]
    exact k1
  · refine ⟨S, ob, n, T, xcV_of ((e_X11_laysTurn_0 P m (jI p) (jI q) S).trans ?_), hM, fun _ _ => rfl, h, Nat.le_refl _, by omega, fun Y => ⟨Or.inl, fun z => z.elim id (fun z => absurd ⟨z.1, z.2.1⟩ cp)⟩, xfr.rf⟩
    by_cases c0 : p < 0
    · rw [if_pos (by rw [lg_lt (by omega) (by omega) (by omega) (by omega)]; exact c0)]
    · rw [if_neg (by rw [lg_lt (by omega) (by omega) (by omega) (by omega)]; exact c0), if_neg (by rw [lg_le (by omega) (by omega) (by omega) (by omega)]; omega)]
end TU
