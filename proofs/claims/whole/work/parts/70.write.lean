-- deps: 69.told
/-! texts: how they are written -/
def xTt (P : Nat → Nat) (S : xS) (k : Nat) (l : List Int) : Prop := ∃ f, S.1 (P k) = some (.inr (5, (l.length, .inl f))) ∧ ∀ i, i < l.length → f i = iI (l.getD i 0)
def xTs (P : Nat → Nat) (S : xS) : Prop := xTt P S 1 [114, 117, 110] ∧ xTt P S 2 [102, 114, 111, 109] ∧ xTt P S 3 [114, 117, 110, 32] ∧ xTt P S 4 [32, 102, 114, 111, 109, 32] ∧ xTt P S 5 [59] ∧ xTt P S 6 [32, 98, 121, 32] ∧ xTt P S 7 [32, 116, 111, 32] ∧ xTt P S 8 [104, 111, 117, 114, 115, 32] ∧ xTt P S 9 [32, 97, 116, 32]
/-- the byte that was asked for -/
def xfnd (k : Int) (ts : List Int32) : Int32 := if 0 ≤ k then (ts[k.toNat]?).getD (iI (-2)) else iI (-2)
/-- the class's writer, so many signs written -/
def xWw (S : xS) (x : Nat) (k : Int) (ts : List Int32) : Prop := S.1 (x + 88) = some (.inl (9, [.int (iI k), .int (xfnd k ts), .int (iI (ts.length : Nat))]))
def xWS (S0 S : xS) (x : Nat) (k : Int) (ts : List Int32) : Prop := xWw S x k ts ∧ xfr S0 S (fun c => c = x + 88)
def pw : Nat → Int
  | 0 => 1
  | k + 1 => pw k * 10
theorem pw_bd : ∀ k, k ≤ 17 → 1 ≤ pw k ∧ pw k ≤ 100000000000000000 := by decide
theorem pw_mono {k n : Nat} (h : k ≤ n) : pw k ≤ pw n ∧ 1 ≤ pw k := by
  have pos : ∀ k, 1 ≤ pw k := by
    intro k
    induction k with
    | zero => decide
    | succ k ih => simp only [pw]; omega
  refine ⟨?_, pos k⟩
  induction n with
  | zero => rw [show k = 0 by omega]; exact Int.le_refl _
  | succ n ih =>
    by_cases c : k = n + 1
    · rw [c]; exact Int.le_refl _
    · have h1 := ih (by omega)
      have h2 := pos n
      simp only [pw]
      omega
/-- a number's highest place -/
def xeh (v : Int) (e : Nat) : Prop := (∀ k, k < e → 10 ≤ v / pw k) ∧ v / pw e < 10
theorem x_eh {v : Int} (h0 : 0 ≤ v) : ∀ n, v < pw (n + 1) → ∃ e, e ≤ n ∧ xeh v e := by
  intro n
  induction n with
  | zero =>
    intro h
    refine ⟨0, Nat.le_refl _, fun k hk => absurd hk (Nat.not_lt_zero k), ?_⟩
    have e : pw (0 + 1) = 10 := rfl
    rw [e] at h
    show v / 1 < 10
    omega
  | succ n ih =>
    intro h
    by_cases c : v < pw (n + 1)
    · obtain ⟨e, he, hx⟩ := ih c
      exact ⟨e, by omega, hx⟩
    · refine ⟨n + 1, Nat.le_refl _, fun k hk => ?_, ?_⟩
      · have h1 := pw_mono (show k + 1 ≤ n + 1 by omega)
        have h2 := (pw_mono (Nat.le_refl k)).2
        rw [Int.le_ediv_iff_mul_le (by omega)]
        have h3 : pw (k + 1) = pw k * 10 := rfl
        omega
      · have h2 := (pw_mono (Nat.le_refl (n + 1))).2
        rw [Int.ediv_lt_iff_lt_mul (by omega)]
        have h3 : pw (n + 1 + 1) = pw (n + 1) * 10 := rfl
        omega
/-- its digits -/
def xdg (v : Int) : Nat → List Int32
  | 0 => [iI (48 + v / pw 0 % 10)]
  | e + 1 => iI (48 + v / pw (e + 1) % 10) :: xdg v e
theorem xdg_len (v : Int) : ∀ e, (xdg v e).length = e + 1 := by
  intro e
  induction e with
  | zero => rfl
  | succ e ih => simp only [xdg, List.length_cons, ih]
noncomputable def xnu (v : Int) : List Int32 := @dite _ (∃ e, e ≤ 10 ∧ xeh v e) (Classical.propDecidable _) (fun h => xdg v (Classical.choose h)) (fun _ => [])
theorem xnu_at {v : Int} (h0 : 0 ≤ v) (h1 : v < 100000000000) : ∃ e, e ≤ 10 ∧ xeh v e ∧ xnu v = xdg v e := by
  have h : ∃ e, e ≤ 10 ∧ xeh v e := x_eh h0 10 (by show v < 100000000000; exact h1)
  refine ⟨Classical.choose h, (Classical.choose_spec h).1, (Classical.choose_spec h).2, ?_⟩
  unfold xnu
  rw [dif_pos h]
theorem xnu_len {v : Int} (h0 : 0 ≤ v) (h1 : v < 100000000000) : 1 ≤ (xnu v).length ∧ (xnu v).length ≤ 11 := by
  obtain ⟨e, h2, -, h3⟩ := xnu_at h0 h1
  rw [h3, xdg_len]
  omega
/-- a fraction -/
noncomputable def xprt (u l : Int) : List Int32 := xnu (xpo u l false) ++ ([32, 98, 121, 32].map iI ++ xnu (xpo u l true))
section WR
variable {P : Nat → Nat} {S S0 T : xS} {x m : Nat} {A : xAb} {ob ob0 : Nat → Value} {k : Int} {ts : List Int32}
theorem xWS.o (h : xWS S0 S x k ts) : xisO S (x + 88) 9 = true := xisO_at h.1
theorem d_begin (h : xWr S x) (k : Int) : ∃ T, xcV P m_X9_begin [.ref (x + 88), .int (iI k)] S = some T ∧ xWS S T x k [] := by
  obtain ⟨p, q, r, e⟩ := h
  refine ⟨xpt (xpt (xpt S (x + 88) (.inl (9, [.int (iI k), .int q, .int r]))) (x + 88) (.inl (9, [.int (iI k), .int (iI (-2)), .int r]))) (x + 88) (.inl (9, [.int (iI k), .int (iI (-2)), .int (iI 0)])), xcV_of ((e_X9_begin_0 P (x + 88) (iI k) S).trans ?_), ?_, ((xfr.pt (A := fun c => c = x + 88) rfl).tr (xfr.pt rfl)).tr (xfr.pt rfl)⟩
  · rw [xpf_at e (show 0 < 3 by decide) rfl, xob_some, xpf_at (by rw [xpt_1, if_pos rfl]) (show 1 < 3 by decide) rfl, xob_some, xpf_at (by rw [xpt_1, if_pos rfl]) (show 2 < 3 by decide) rfl, xob_some]
    rfl
  · unfold xWw
    rw [xpt_1, if_pos rfl]
    have e2 : xfnd k [] = iI (-2) := by
      unfold xfnd
      split <;> rfl
    rw [e2]
    rfl
theorem xfnd_app {c : Int32} : xfnd k (ts ++ [c]) = if k = (ts.length : Int) then c else xfnd k ts := by
  unfold xfnd
  by_cases h : 0 ≤ k
  · rw [if_pos h, if_pos h]
    by_cases d : k = (ts.length : Int)
    · rw [if_pos d, show k.toNat = ts.length by omega, List.getElem?_append_right (Nat.le_refl _), Nat.sub_self]
      rfl
    · rw [if_neg d]
      by_cases e : k.toNat < ts.length
      · rw [List.getElem?_append_left e]
      · rw [List.getElem?_append_right (by omega), List.getElem?_eq_none (by simp; omega), List.getElem?_eq_none (by omega)]
  · rw [if_neg h, if_neg h, if_neg (by omega)]
theorem d_putSign (h : xWS S0 S x k ts) (k1 : -2147483648 ≤ k) (k2 : k < 2147483648) (hl : ts.length < 1000000) (c : Int32) : ∃ T, xcV P m_X9_putSign [.ref (x + 88), .int c] S = some T ∧ xWS S0 T x k (ts ++ [c]) := by
  obtain ⟨h, hf⟩ := h
  have r2 : xfI S (x + 88) 9 2 = some (iI (ts.length : Nat)) := xfI_at h rfl
  have r0 : xfI S (x + 88) 9 0 = some (iI k) := xfI_at h rfl
  have ln : ((ts ++ [c]).length : Nat) = ts.length + 1 := by rw [List.length_append]; rfl
  by_cases d : k = (ts.length : Int)
  · have e1 : (xpt S (x + 88) (.inl (9, [.int (iI k), .int c, .int (iI (ts.length : Nat))]))).1 (x + 88) = some (.inl (9, [.int (iI k), .int c, .int (iI (ts.length : Nat))])) := by rw [xpt_1, if_pos rfl]
    have r3 : xfI (xpt S (x + 88) (.inl (9, [.int (iI k), .int c, .int (iI (ts.length : Nat))]))) (x + 88) 9 2 = some (iI (ts.length : Nat)) := xfI_at e1 rfl
    refine ⟨xpt (xpt S (x + 88) (.inl (9, [.int (iI k), .int c, .int (iI (ts.length : Nat))]))) (x + 88) (.inl (9, [.int (iI k), .int c, .int (iI (ts.length + 1 : Nat))])), xcV_of ((e_X9_putSign_0 P (x + 88) c S).trans ?_), ?_, (hf.tr (xfr.pt rfl)).tr (xfr.pt rfl)⟩
    · have p1 : xpf S (x + 88) 9 1 0 (.int c) = some (xpt S (x + 88) (.inl (9, [.int (iI k), .int c, .int (iI (ts.length : Nat))]))) := (xpf_at h (show 1 < 3 by decide) rfl).trans rfl
      have p2 : xpf (xpt S (x + 88) (.inl (9, [.int (iI k), .int c, .int (iI (ts.length : Nat))]))) (x + 88) 9 2 0 (.int (iI (ts.length + 1 : Nat))) = some (xpt (xpt S (x + 88) (.inl (9, [.int (iI k), .int c, .int (iI (ts.length : Nat))]))) (x + 88) (.inl (9, [.int (iI k), .int c, .int (iI (ts.length + 1 : Nat))]))) := (xpf_at e1 (show 2 < 3 by decide) rfl).trans rfl
      rw [r2, xob_some, r0, xob_some, if_neg (by rw [d]; exact fun z => z rfl), p1, xob_some, r3, xob_some, iI_suc, p2, xob_some]
    · unfold xWw
      rw [xpt_1, if_pos rfl, xfnd_app, if_pos d, ln]
  · refine ⟨xpt S (x + 88) (.inl (9, [.int (iI k), .int (xfnd k ts), .int (iI (ts.length + 1 : Nat))])), xcV_of ((e_X9_putSign_0 P (x + 88) c S).trans ?_), ?_, hf.tr (xfr.pt rfl)⟩
    · rw [r2, xob_some, r0, xob_some, if_pos (by rw [ne_eq, iI_eq (by omega) (by omega) k1 k2]; omega), xob_some, xpf_at h (show 2 < 3 by decide) rfl, xob_some, iI_suc]
      rfl
    · unfold xWw
      rw [xpt_1, if_pos rfl, xfnd_app, if_neg d, ln]
theorem d_put (h : xWS S0 S x k ts) (k1 : -2147483648 ≤ k) (k2 : k < 2147483648) {j : Nat} {l : List Int} (ht : xTt P S0 j l) (hj : P j ≠ x + 88) (hl : ts.length + l.length < 1000000) : ∃ T, xcV P m_X9_put [.ref (x + 88), .ref (P j)] S = some T ∧ xWS S0 T x k (ts ++ l.map iI) := by
  obtain ⟨f, e, h2⟩ := ht
  have key := xloopQ (run := fun v (Z : xS) => xrun P m_X9_put 2 [(0, .ref (x + 88)), (1, .ref (P j)), (2, .int (iI v))] [] Z)
    (Inv := fun v Z => xWS S0 Z x k (ts ++ (l.take v).map iI))
    (fun res => ∃ T, res = some (none, T) ∧ xWS S0 T x k (ts ++ l.map iI)) 0 l.length (Nat.zero_le _) (by
      rintro v Z - hv hZ
      right
      have eZ : Z.1 (P j) = some (.inr (5, (l.length, .inl f))) := (hZ.2.2 _ hj).trans e
      have ln : xlenC Z (P j) = some (iI (l.length : Nat)) := by unfold xlenC; rw [eZ]; rfl
      have rd : xrdC Z (P j) (iI (v : Int)) = some (iI (l.getD v 0)) := by
        unfold xrdC
        rw [eZ]
        have e1 : (iI (v : Int)).toNatClampNeg = v := by rw [iI_clamp (by omega) (by omega), Int.toNat_natCast]
        have e2 : ¬ (iI (v : Int) < 0 ∨ l.length ≤ (iI (v : Int)).toNatClampNeg) := by
          rw [e1, iI_0, iI_lt (by omega) (by omega) (by omega) (by omega)]; omega
        dsimp only
        rw [if_pos ⟨rfl, e2⟩, e1, h2 v hv]
      obtain ⟨T, c1, c2⟩ := d_putSign (P := P) hZ k1 k2 (by rw [List.length_append, List.length_map, List.length_take]; omega) (iI (l.getD v 0))
      refine ⟨T, ?_, ?_⟩
      · rw [e_X9_put_2, ln, xob_some, if_neg (by rw [iI_le (by omega) (by omega) (by omega) (by omega)]; omega), rd, xob_some, hZ.o, cond_true, c1, xob_some, iI_suc]
      · have e3 : (l.take (v + 1)).map iI = (l.take v).map iI ++ [iI (l.getD v 0)] := by
          rw [List.take_succ_eq_append_getElem hv, List.map_append, List.getD_eq_getElem?_getD, List.getElem?_eq_getElem hv]
          rfl
        rw [e3, ← List.append_assoc]
        exact c2) (by
      intro Z hZ
      have eZ : Z.1 (P j) = some (.inr (5, (l.length, .inl f))) := (hZ.2.2 _ hj).trans e
      have ln : xlenC Z (P j) = some (iI (l.length : Nat)) := by unfold xlenC; rw [eZ]; rfl
      refine ⟨Z, ?_, by rw [List.take_length] at hZ; exact hZ⟩
      rw [e_X9_put_2, ln, xob_some, if_pos (by rw [iI_le (by omega) (by omega) (by omega) (by omega)]; omega)]) (s := S) (by simpa using h)
  obtain ⟨T, t1, t2⟩ := key
  exact ⟨T, xcV_of ((e_X9_put_0 P (x + 88) (P j) S).trans t1), t2⟩
theorem x_digit {v : Int} (h0 : 0 ≤ v) (h1 : v < 100000000000) {e : Nat} (he : e ≤ 10) : jI v / jI (pw e) - jI v / jI (pw e) / jI 10 * jI 10 = jI (v / pw e % 10) := by
  have b := pw_bd e (by omega)
  have d0 := Int.ediv_nonneg h0 (show 0 ≤ pw e by omega)
  have d1 := Int.ediv_le_self (pw e) h0
  rw [jI_div h0 (by omega) (by omega) (by omega), jI_rem d0 (by omega) (by omega) (by omega)]
theorem x_pw10 {e : Nat} (he : e ≤ 10) : jI (pw (e + 1)) / jI 10 = jI (pw e) := by
  have b := pw_bd e (by omega)
  have b2 := pw_bd (e + 1) (by omega)
  rw [jI_div (by omega) (by omega) (by omega) (by omega)]
  congr 1
  show pw e * 10 / 10 = pw e
  omega
theorem pw_nz {e : Nat} (he : e ≤ 10) : ¬ jI (pw e) = 0 := by
  have b := pw_bd e (by omega)
  rw [jI_0, jI_eq (by omega) (by omega) (by omega) (by omega)]
  omega
theorem l_put37 (k1 : -2147483648 ≤ k) (k2 : k < 2147483648) {v : Int} (h0 : 0 ≤ v) (h1 : v < 100000000000) : ∀ (e j : Nat) (S : xS) (ts : List Int32), e ≤ 10 → j + e ≤ 17 → ts.length + e < 900000 → xWS S0 S x k ts → ∃ T, xrun P m_X9_putNumber 37 [(0, .ref (x + 88)), (1, .long (jI v)), (3, .long (jI (pw e))), (5, .int (iI j))] [] S = some (none, T) ∧ xWS S0 T x k (ts ++ xdg v e) := by
  intro e
  induction e with
  | zero =>
    intro j S ts he hj hl h
    have b := pw_bd 0 (by omega)
    obtain ⟨T, c1, c2⟩ := d_putSign (P := P) h k1 k2 (by omega) (iI (48 + v / pw 0 % 10))
    refine ⟨T, ?_, c2⟩
    rw [e_X9_putNumber_37, if_neg (by rw [iI_le (by omega) (by omega) (by omega) (by omega)]; omega), if_neg (by rw [x_cle (by omega) (by omega) (by omega) (by omega)]; omega), if_neg (pw_nz (by omega)), h.o, cond_true, x_digit h0 h1 (by omega), jI_add, jI_ij, c1, xob_some, iI_suc]
    have z : jI (pw 0) / jI 10 = jI 0 := by decide +kernel
    rw [z, e_X9_putNumber_37]
    have z2 : lg_cmp (jI 0) (jI 0) ≤ 0 := by rw [x_cle (by omega) (by omega) (by omega) (by omega)]; exact Int.le_refl _
    rw [if_pos z2, ite_self]
  | succ e ih =>
    intro j S ts he hj hl h
    have b := pw_bd (e + 1) (by omega)
    obtain ⟨T, c1, c2⟩ := d_putSign (P := P) h k1 k2 (by omega) (iI (48 + v / pw (e + 1) % 10))
    obtain ⟨T2, c3, c4⟩ := ih (j + 1) T (ts ++ [iI (48 + v / pw (e + 1) % 10)]) (by omega) (by omega) (by rw [List.length_append]; show ts.length + 1 + e < 900000; omega) c2
    refine ⟨T2, ?_, ?_⟩
    · rw [e_X9_putNumber_37, if_neg (by rw [iI_le (by omega) (by omega) (by omega) (by omega)]; omega), if_neg (by rw [x_cle (by omega) (by omega) (by omega) (by omega)]; omega), if_neg (pw_nz (by omega)), h.o, cond_true, x_digit h0 h1 (by omega), jI_add, jI_ij, c1, xob_some, iI_suc, x_pw10 (by omega)]
      exact c3
    · rw [List.append_assoc] at c4
      exact c4
theorem d_putNumber (h : xWS S0 S x k ts) (k1 : -2147483648 ≤ k) (k2 : k < 2147483648) {v : Int} (h0 : 0 ≤ v) (h1 : v < 100000000000) (hl : ts.length < 800000) : ∃ T, xcV P m_X9_putNumber [.ref (x + 88), .long (jI v)] S = some T ∧ xWS S0 T x k (ts ++ xnu v) := by
  obtain ⟨e, he, ⟨x1, x2⟩, hx⟩ := xnu_at h0 h1
  obtain ⟨T, c1, c2⟩ := l_put37 (P := P) k1 k2 h0 h1 e 0 S ts he (by omega) (by omega) h
  rw [hx]
  refine ⟨T, xcV_of ((e_X9_putNumber_0 P (x + 88) (jI v) S).trans ?_), c2⟩
  have pwb : ∀ r, r ≤ 10 → 0 ≤ v / pw r ∧ v / pw r ≤ v := fun r hr => by
    have b := pw_bd r (by omega)
    exact ⟨Int.ediv_nonneg h0 (by omega), Int.ediv_le_self _ h0⟩
  refine (xsteps (fun r => xrun P m_X9_putNumber 5 [(0, .ref (x + 88)), (1, .long (jI v)), (3, .long (jI (pw r))), (5, .int (iI r))] [] S) e (by
    intro r hr
    have b := pw_bd r (by omega)
    have b2 := pwb r (by omega)
    have h3 := x1 r hr
    rw [e_X9_putNumber_5, if_neg (by rw [iI_le (by omega) (by omega) (by omega) (by omega)]; omega), if_neg (pw_nz (by omega)), jI_div h0 (by omega) (by omega) (by omega), if_neg (by rw [x_clt (by omega) (by omega) (by omega) (by omega)]; omega), jI_mul, iI_suc]
    rfl)).trans ?_
  have b := pw_bd e (by omega)
  have b2 := pwb e he
  rw [e_X9_putNumber_5, if_neg (by rw [iI_le (by omega) (by omega) (by omega) (by omega)]; omega), if_neg (pw_nz he), jI_div h0 (by omega) (by omega) (by omega), if_pos (by rw [x_clt (by omega) (by omega) (by omega) (by omega)]; omega)]
  exact c1
theorem d_putPart (h : xWS S0 S x k ts) (k1 : -2147483648 ≤ k) (k2 : k < 2147483648) (ht : xTs P S0) (hz : ∀ k, 1 ≤ k → k ≤ 9 → P k < x) {u l : Int} (u0 : 0 ≤ u) (u1 : u < 100000000000) (l0 : 0 < l) (l1 : l < 100000000000) (hl : ts.length < 700000) : ∃ T, xcV P m_X9_putPart [.ref (x + 88), .long (jI u), .long (jI l)] S = some T ∧ xWS S0 T x k (ts ++ xprt u l) := by
  have bf := xpo_bd (t := false) u0 l0
  have bt := xpo_bd (t := true) u0 l0
  have lf := xnu_len bf.1 (show xpo u l false < 100000000000 by omega)
  obtain ⟨T1, c1, w1⟩ := d_putNumber (P := P) h k1 k2 bf.1 (show xpo u l false < 100000000000 by omega) (by omega)
  obtain ⟨T2, c2, w2⟩ := d_put (P := P) w1 k1 k2 ht.2.2.2.2.2.1 (by have := hz 6 (by decide) (by decide); omega) (by rw [List.length_append]; show ts.length + (xnu (xpo u l false)).length + 4 < 1000000; omega)
  obtain ⟨T3, c3, w3⟩ := d_putNumber (P := P) w2 k1 k2 bt.1 (show xpo u l true < 100000000000 by omega) (by rw [List.length_append, List.length_append]; show ts.length + (xnu (xpo u l false)).length + 4 < 800000; omega)
  refine ⟨T3, xcV_of ((e_X9_putPart_0 P (x + 88) (jI u) (jI l) S).trans ?_), ?_⟩
  · have pf : xcJ P m_X10_partOf [.long (jI u), .long (jI l), .int (iI 0)] S = some (jI (xpo u l false), S) := d_partOf u0 (by omega) l0 (by omega) false
    have pt : xcJ P m_X10_partOf [.long (jI u), .long (jI l), .int (iI 1)] T2 = some (jI (xpo u l true), T2) := d_partOf u0 (by omega) l0 (by omega) true
    simp only [pf, h.o, c1, w1.o, c2, pt, w2.o, c3, xob_some, cond_true]
  · unfold xprt
    rw [List.append_assoc, List.append_assoc] at w3
    exact w3
theorem d_answer (h : xWS S0 S x k ts) (k1 : -1 ≤ k) (k2 : k < 2147483648) : xcI P m_X9_answer [.ref (x + 88)] S = some (if k = -1 then iI (ts.length : Nat) else xfnd k ts, S) := by
  have r2 : xfI S (x + 88) 9 2 = some (iI (ts.length : Nat)) := xfI_at h.1 rfl
  have r1 : xfI S (x + 88) 9 1 = some (xfnd k ts) := xfI_at h.1 rfl
  have r0 : xfI S (x + 88) 9 0 = some (iI k) := xfI_at h.1 rfl
  by_cases c : k = -1
  · rw [if_pos c]
    refine xcI_of ((e_X9_answer_0 P (x + 88) S).trans ?_)
    rw [r0, xob_some, if_neg (by rw [c]; exact fun z => z rfl), r2, xob_some]
  · rw [if_neg c]
    refine xcI_of ((e_X9_answer_0 P (x + 88) S).trans ?_)
    rw [r0, xob_some, if_pos (by rw [ne_eq, iI_eq (by omega) (by omega) (by omega) (by omega)]; exact c), r1, xob_some]
theorem xCl.ws (H : xCl S0 x A) (h : xWS S0 S x k ts) : xCl S x A ∧ xfr S0 S (xrg x 89) := H.wr h.2 ⟨_, _, _, h.1⟩
end WR
