-- deps: 46.fine
section NX
variable {P : Nat → Nat} {S : xS} {x m : Nat} {A : xAb}
/-- which one comes next -/
def xnk (n : Nat) (u : Nat → Int) (sc R q : Int) (k : Nat) : Prop := k ≤ n ∧ (∀ k', k' < k → u k' * q < R * sc) ∧ (k < n → R * sc ≤ u k * q)
def xna2 (n : Nat) (u : Nat → Int) (sc W : Int) (l : Bool) (k : Nat) : Int := if k < n then xpo (W * sc + u k) sc l else xpo ((W + 1) * sc + u 0) sc l
theorem d_nextLoop {s1 n : Nat} {sc p q R W : Int} {u v : Nat → Int} {F : xF} {i : Nat} (hSp : xSp S s1 210 n u v) (hD : xDt F i sc n u v) (hi : i < F.1) (n0 : n ≠ 0) (hs : 12 ≤ sc) (sc1 : sc ≤ 13516800000) (p0 : 0 ≤ p) (p1 : p ≤ 9999) (q0 : 1 ≤ q) (q1 : q ≤ 999) (R0 : 0 ≤ R) (R1 : R < q) (W0 : 0 ≤ W) (W1 : W ≤ 9999) (l : Bool) :
    ∃ ans, xrun P m_X10_next 73 [(2, .int (iI p)), (3, .int (iI q)), (4, .int (iI (xb l))), (5, .ref s1), (6, .long (jI sc)), (8, .long (jI W)), (10, .long (jI R)), (12, .int (iI (0 : Nat)))] [] S = some (some (.long (jI ans)), S) ∧ ((xlo F i (12 * R) q = true ∧ ans = xpo p q l) ∨ (¬ xlo F i (12 * R) q = true ∧ ∃ k, xnk n u sc R q k ∧ ans = xna2 n u sc W l k)) := by
  have hn := hSp.m
  have hf := x_fine hi hD (show 0 < q by omega) R0 (by omega)
  have w1 := x_mul_bd W0 W1 (show 0 ≤ sc by omega) sc1
  have w2 := x_mul_bd (show 0 ≤ W + 1 by omega) (show W + 1 ≤ 10000 by omega) (show 0 ≤ sc by omega) sc1
  have rs := x_mul_bd R0 (show R ≤ 999 by omega) (show 0 ≤ sc by omega) sc1
  refine xloopQ (run := fun k (_ : Unit) => xrun P m_X10_next 73 [(2, .int (iI p)), (3, .int (iI q)), (4, .int (iI (xb l))), (5, .ref s1), (6, .long (jI sc)), (8, .long (jI W)), (10, .long (jI R)), (12, .int (iI k))] [] S)
    (Inv := fun k _ => ∀ k', k' < k → v k' * q < R * sc)
    (fun res => ∃ ans, res = some (some (.long (jI ans)), S) ∧ ((xlo F i (12 * R) q = true ∧ ans = xpo p q l) ∨ (¬ xlo F i (12 * R) q = true ∧ ∃ k, xnk n u sc R q k ∧ ans = xna2 n u sc W l k))) 0 n (by omega) (fun k _ _ hk hI => ?_) (fun _ hI => ?_) (s := ()) (fun k' hk' => by omega)
  · have b := hD.bd hk
    have p1' := x_mul_bd (show 0 ≤ v k by omega) (show v k ≤ 13516800000 by omega) (show 0 ≤ q by omega) q1
    have p2' := x_mul_bd b.1 (show u k ≤ 13516800000 by omega) (show 0 ≤ q by omega) q1
    have uv : u k * q ≤ v k * q := Int.mul_le_mul_of_nonneg_right b.2.1 (by omega)
    have ll : lg_cmp (jI (v k * q)) (jI (R * sc)) < 0 ↔ v k * q < R * sc := lg_lt (by omega) (by omega) (by omega) (by omega)
    have lg : 0 < lg_cmp (jI (u k * q)) (jI (R * sc)) ↔ R * sc < u k * q := lg_gt (by omega) (by omega) (by omega) (by omega)
    have lo : ∀ k', k' < k → u k' * q < R * sc := fun k' hk' => by
      have b' := hD.bd (show k' < n by omega)
      have := Int.mul_le_mul_of_nonneg_right b'.2.1 (show 0 ≤ q by omega)
      have := hI k' hk'
      omega
    by_cases cv : v k * q < R * sc
    · refine Or.inr ⟨(), ?_, fun k' hk' => ?_⟩
      · rw [e_X10_next_73, hSp.o, cond_true, d_ssize hSp, xob_some, if_neg (by rw [iI_le (by omega) (by omega) (by omega) (by omega)]; omega), hSp.o, cond_true, d_toAt hSp hk, xob_some, iI_ji (by omega) (by omega), jI_mul, jI_mul, if_pos (ll.mpr cv), iI_suc]
      · by_cases e : k' = k
        · subst e; exact cv
        · exact hI k' (by omega)
    · refine Or.inl ?_
      by_cases cu : R * sc < u k * q
      · refine ⟨xpo (W * sc + u k) sc l, ?_, Or.inr ⟨fun z => ?_, k, ⟨by omega, lo, fun _ => by omega⟩, by unfold xna2; rw [if_pos hk]⟩⟩
        · rw [e_X10_next_73, hSp.o, cond_true, d_ssize hSp, xob_some, if_neg (by rw [iI_le (by omega) (by omega) (by omega) (by omega)]; omega), hSp.o, cond_true, d_toAt hSp hk, xob_some, iI_ji (by omega) (by omega), jI_mul, jI_mul, if_neg (fun z => cv (ll.mp z)), hSp.o, cond_true, d_fromAt hSp hk, xob_some, jI_mul, if_pos (lg.mpr cu), if_pos (by decide +kernel)]
          dsimp only
          rw [hSp.o, cond_true, d_fromAt hSp hk, xob_some, jI_mul, jI_add, d_partOf (by omega) (by omega) (by omega) (by omega), xob_some]
        · obtain ⟨k', hk', z1, z2⟩ := hf.mp z
          by_cases c1 : k' < k
          · have := hI k' c1; omega
          · by_cases c2 : k' = k
            · subst c2; omega
            · have h1 := hD.2.1.lt (show k < k' by omega) hk'
              have h2 := Int.mul_le_mul_of_nonneg_right (show u k ≤ u k' by omega) (show 0 ≤ q by omega)
              omega
      · refine ⟨xpo p q l, ?_, Or.inl ⟨hf.mpr ⟨k, hk, by omega, by omega⟩, rfl⟩⟩
        rw [e_X10_next_73, hSp.o, cond_true, d_ssize hSp, xob_some, if_neg (by rw [iI_le (by omega) (by omega) (by omega) (by omega)]; omega), hSp.o, cond_true, d_toAt hSp hk, xob_some, iI_ji (by omega) (by omega), jI_mul, jI_mul, if_neg (fun z => cv (ll.mp z)), hSp.o, cond_true, d_fromAt hSp hk, xob_some, jI_mul, if_neg (fun z => cu (lg.mp z)), if_neg (by decide +kernel), iI_ji (by omega) (by omega), d_partOf (by omega) (by omega) (by omega) (by omega), xob_some]
  · have b := hD.bd (show 0 < n by omega)
    refine ⟨xpo ((W + 1) * sc + u 0) sc l, ?_, Or.inr ⟨fun z => ?_, n, ⟨Nat.le_refl _, fun k' hk' => ?_, fun z => by omega⟩, by unfold xna2; rw [if_neg (by omega)]⟩⟩
    · rw [e_X10_next_73, hSp.o, cond_true, d_ssize hSp, xob_some, if_pos (by rw [iI_le (by omega) (by omega) (by omega) (by omega)]; omega), hSp.o, cond_true, show (iI 0 : Int32) = iI ((0 : Nat) : Int) from rfl, d_fromAt hSp (show 0 < n by omega), xob_some, jI_add, jI_mul, jI_add, d_partOf (by omega) (by omega) (by omega) (by omega), xob_some]
    · obtain ⟨k', hk', z1, z2⟩ := hf.mp z
      have := hI k' hk'
      omega
    · have b' := hD.bd hk'
      have := Int.mul_le_mul_of_nonneg_right b'.2.1 (show 0 ≤ q by omega)
      have := hI k' hk'
      omega
theorem g_nextLoop {n : Nat} {sc p q R W : Int} {u v : Nat → Int} {F : xF} {i : Nat} {ob : Nat → Value} (hM : xMo S m ob) (h20 : ob 20 = .int (iI n)) (hE : xEn S (m + 10) (m + 11) n sc u) (hD : xDt F i sc n u v) (n0 : n ≠ 0) (hs : 12 ≤ sc) (sc1 : sc ≤ 13516800000) (p0 : 0 ≤ p) (p1 : p ≤ 9999) (q0 : 1 ≤ q) (q1 : q ≤ 999) (R0 : 0 ≤ R) (R1 : R < q) (hW : p / q = W) (l : Bool) {k : Nat} (hk : xnk n u sc R q k) :
    xrun P m_X11_next 67 [(0, .ref m), (2, .int (iI p)), (3, .int (iI q)), (4, .int (iI (xb l))), (5, .long (jI R)), (7, .int (iI (0 : Nat)))] [] S = some (some (.long (jI (xna2 n u sc W l k))), S) := by
  have hn := hD.2.2.1
  obtain ⟨k1, k2, k3⟩ := hk
  have W0 : 0 ≤ W := by rw [← hW]; exact Int.ediv_nonneg p0 (by omega)
  have W1 : W ≤ 9999 := by
    rw [← hW]
    have := Int.ediv_le_self q p0
    omega
  have e20 := hM.i (by omega) h20
  have cmp : ∀ k' (a b : Int), k' < n → 1 ≤ b → a * sc = u k' * b → (a * q < R * b ↔ u k' * q < R * sc) := by
    intro k' a b hk' hb he
    have e1 : a * q * sc = u k' * q * b := by rw [show a * q * sc = a * sc * q by ac_rfl, he]; ac_rfl
    have l1 : a * q * sc < R * b * sc ↔ a * q < R * b := Int.mul_lt_mul_right (by omega)
    have l2 : u k' * q * b < R * sc * b ↔ u k' * q < R * sc := Int.mul_lt_mul_right (by omega)
    rw [← l1, e1, show R * b * sc = R * sc * b by ac_rfl, l2]
  have nq : ¬ (iI q = (0 : Int32)) := by rw [iI_0, iI_eq (by omega) (by omega) (by omega) (by omega)]; omega
  have dv : iI p / iI q = iI W := by rw [iI_div (by omega) (by omega) (by omega) (by omega), hW]
  -- up to k
  refine (xsteps (fun j => xrun P m_X11_next 67 [(0, .ref m), (2, .int (iI p)), (3, .int (iI q)), (4, .int (iI (xb l))), (5, .long (jI R)), (7, .int (iI j))] [] S) k ?_).trans ?_
  · intro j hj
    try dsimp only
    obtain ⟨a, b, r1, r2, b0, b1, e⟩ := hE.rd (show j < n by omega) (by omega)
    have bd := hD.bd (show j < n by omega)
    have ab := x_tt_bd (show 0 < sc by omega) b0 e bd.1 (by omega)
    have q1' := x_mul_bd ab.1 (show a ≤ 5760 by omega) (show 0 ≤ q by omega) q1
    have q2' := x_mul_bd R0 (show R ≤ 999 by omega) (show 0 ≤ b by omega) b1
    have c := (cmp j a b (by omega) b0 e).mpr (k2 j hj)
    rw [e_X11_next_67, e20, xob_some, if_neg (by rw [iI_le (by omega) (by omega) (by omega) (by omega)]; omega), hM.r16, xob_some, r1, xob_some, hM.r17, xob_some, r2, xob_some, iI_ji (by omega) (by omega), jI_mul, jI_mul, if_neg (by rw [lg_ge (by omega) (by omega) (by omega) (by omega)]; omega), iI_suc]
  · try dsimp only
    have fin : ∀ (j : Nat) (z W' : Int), (iI W + iI z = iI W') → 0 ≤ W' → W' ≤ 10000 → j < n → (iI (k : Int) ≠ iI (n : Int) → j = k) → (iI (k : Int) = iI (n : Int) → j = 0) → xrun P m_X11_next 123 [(0, .ref m), (4, .int (iI (xb l))), (7, .int (iI k))] [.int (iI z), .int (iI W)] S = some (some (.long (jI (xpo (W' * sc + u j) sc l))), S) := by
      intro j z W' hz w0 w1 hj h1 h2
      obtain ⟨a, b, r1, r2, b0, b1, e⟩ := hE.rd hj (by omega)
      have bd := hD.bd hj
      have ab := x_tt_bd (show 0 < sc by omega) b0 e bd.1 (by omega)
      have q1' := x_mul_bd w0 w1 (show 0 ≤ b by omega) b1
      have q2' := x_mul_bd w0 w1 (show 0 ≤ sc by omega) sc1
      have ee : xpo (a + W' * b) b l = xpo (W' * sc + u j) sc l := xpo_eq (by omega) (by omega) (by omega) (by omega) (by rw [Int.add_mul, Int.add_mul, e, show W' * b * sc = W' * sc * b by ac_rfl, Int.add_comm]) l
      by_cases c : iI (k : Int) = iI (n : Int)
      · have := h2 c
        subst this
        rw [e_X11_next_123, e20, xob_some, if_neg (fun z => z c), hM.r16, xob_some, show (iI 0 : Int32) = iI ((0 : Nat) : Int) from rfl, r1, xob_some, hM.r17, xob_some, r2, xob_some, xob_some, r2, xob_some, hz, iI_ji (by omega) (by omega), jI_mul, jI_add, d_part (by omega) (by omega) (by omega) (by omega), xob_some, ee]
      · have := h1 c
        subst this
        rw [e_X11_next_123, e20, xob_some, if_pos c, hM.r16, xob_some, r1, xob_some, hM.r17, xob_some, r2, xob_some, xob_some, r2, xob_some, hz, iI_ji (by omega) (by omega), jI_mul, jI_add, d_part (by omega) (by omega) (by omega) (by omega), xob_some, ee]
    by_cases ck : k < n
    · obtain ⟨a, b, r1, r2, b0, b1, e⟩ := hE.rd ck (by omega)
      have bd := hD.bd ck
      have ab := x_tt_bd (show 0 < sc by omega) b0 e bd.1 (by omega)
      have q1' := x_mul_bd ab.1 (show a ≤ 5760 by omega) (show 0 ≤ q by omega) q1
      have q2' := x_mul_bd R0 (show R ≤ 999 by omega) (show 0 ≤ b by omega) b1
      have c := cmp k a b ck b0 e
      have c2 := k3 ck
      have nk : iI (k : Int) ≠ iI (n : Int) := by rw [ne_eq, iI_eq (by omega) (by omega) (by omega) (by omega)]; omega
      rw [e_X11_next_67, e20, xob_some, if_neg (by rw [iI_le (by omega) (by omega) (by omega) (by omega)]; omega), hM.r16, xob_some, r1, xob_some, hM.r17, xob_some, r2, xob_some, iI_ji (by omega) (by omega), jI_mul, jI_mul, if_pos (by rw [lg_ge (by omega) (by omega) (by omega) (by omega)]; omega), if_neg nq, xob_some, if_pos nk, dv, fin k 0 W (by rw [iI_add, Int.add_zero]) W0 (by omega) ck (fun _ => rfl) (fun z => absurd z nk)]
      unfold xna2
      rw [if_pos ck]
    · have ek : k = n := by omega
      rw [e_X11_next_67, e20, xob_some, if_pos (by rw [iI_le (by omega) (by omega) (by omega) (by omega)]; omega), if_neg nq, xob_some, if_neg (fun z => z (by rw [ek])), dv, fin 0 1 (W + 1) (by rw [iI_add]) (by omega) (by omega) (by omega) (fun z => absurd (by rw [ek]) z) (fun _ => rfl)]
      unfold xna2
      rw [if_neg ck]
theorem z_next (H : xCl S x A) {i p q : Int} (i1 : -2147483648 ≤ i) (i2 : i < 2147483648) (p1 : -2147483648 ≤ p) (p2 : p < 2147483648) (q1 : -2147483648 ≤ q) (q2 : q < 2147483648) (l : Bool) : ∃ v A', xKJ P S x m_X10_next [.int (iI i), .int (iI p), .int (iI q), .int (iI (xb l))] v A' ∧ ∀ S', xMl S' m A → xGJ P S' m m_X11_next [.int (iI i), .int (iI p), .int (iI q), .int (iI (xb l))] v A' := by
  have hF := H.2.1
  have hk := hF.1.1
  by_cases ci : 0 ≤ i ∧ i < A.1.1
  · by_cases ct : (0 ≤ p ∧ p ≤ 9999 ∧ 1 ≤ q ∧ q ≤ 999)
    · obtain ⟨r, rfl⟩ : ∃ r : Nat, i = r := ⟨i.toNat, by omega⟩
      have hr : r < A.1.1 := by omega
      obtain ⟨S1, s1, s2, l1, l2, sc, pt, n, u, v, k1, k2, k3, k4, k5, k6, k7, k8⟩ := d_watchDt (P := P) H hr
      have n201 := k6.2.2.1
      have R0 := Int.emod_nonneg p (show q ≠ 0 by omega)
      have R1 := Int.emod_lt_of_pos p (show 0 < q by omega)
      have W0 := Int.ediv_nonneg ct.1 (show 0 ≤ q by omega)
      have W1 := Int.ediv_le_self q ct.1
      have ep := Int.mul_ediv_add_emod p q
      have el : xlo A.1 r (12 * p) q = xlo A.1 r (12 * (p % q)) q := by
        have := xlo_per A.1 r (p % q) q (p / q)
        rw [show p % q + q * (p / q) = p by omega] at this
        exact this
      have nq : ¬ (iI q = (0 : Int32)) := by rw [iI_0, iI_eq (by omega) (by omega) (by omega) (by omega)]; omega
      have dv : iI p / iI q = iI (p / q) := iI_div (by omega) (by omega) (by omega) (by omega)
      have rm : iI p - iI (p / q) * iI q = iI (p % q) := by rw [← dv]; exact iI_rem (by omega) (by omega) (by omega) (by omega)
      by_cases n0 : n = 0
      · -- never
        have e0 : iI (n : Int) = iI 0 := by rw [n0]; rfl
        have nl : ¬ xlo A.1 r (12 * p) q = true := by
          rw [el]
          intro z
          obtain ⟨k, hk, -⟩ := (x_fine hr k6 (show 0 < q by omega) R0 (by omega)).mp z
          omega
        refine ⟨jI (-2), A, ⟨S1, xcJ_of ((e_X10_next_0 P x (iI r) (iI p) (iI q) (iI (xb l)) S).trans ?_), k2, k3⟩, fun S' M => ?_⟩
        · simp only [H.r0, hF.o, d_has hF i1 i2, if_pos ci, d_isTime p1 p2 q1 q2, if_pos ct, H.o, k1, k2.r10, k4.o, d_spans k4, k5.o, d_ssize k5, e0, xob_some, cond_true, t_10, t_00, ne_eq, not_true_eq_false, not_false_eq_true, if_true, if_false]
        · obtain ⟨S2, ob1, j1, j2, j3, j4, j5, j6, j7⟩ := d_laysStretches (P := P) M hr k6
          obtain ⟨ob, e0', -, -, hR, -⟩ := M
          refine ⟨S2, xcJ_of ((e_X11_next_0 P m (iI r) (iI p) (iI q) (iI (xb l)) S').trans ?_), j2, j3⟩
          simp only [e0'.o, g_isRunner e0' hR i1 i2, if_pos ci, g_isTime p1 p2 q1 q2, if_pos ct, iI_ji p1 p2, iI_ji q1 q2, g_isLonely e0' hR hr (show 0 ≤ p by omega) (show p ≤ 1000000000000 by omega) (show 1 ≤ q by omega) (show q ≤ 1000000000000 by omega), if_neg nl, j1, j4.i (by omega) j5, e0, xob_some, cond_true, t_10, t_00, ne_eq, not_true_eq_false, not_false_eq_true, if_true, if_false]
      · have ne : (iI (n : Int) = 0) = False := t_nz (by omega) (by omega) (by omega)
        obtain ⟨ans, a1, a2⟩ := d_nextLoop (P := P) k5 k6 hr n0 k7 k8 ct.1 ct.2.1 ct.2.2.1 ct.2.2.2 R0 R1 W0 (by omega) l
        refine ⟨jI ans, A, ⟨S1, xcJ_of ((e_X10_next_0 P x (iI r) (iI p) (iI q) (iI (xb l)) S).trans ?_), k2, k3⟩, fun S' M => ?_⟩
        · simp only [H.r0, hF.o, d_has hF i1 i2, if_pos ci, d_isTime p1 p2 q1 q2, if_pos ct, H.o, k1, k2.r10, k4.o, d_spans k4, k5.o, d_ssize k5, ne, d_scale k4, xob_some, cond_true, t_10, t_00, ne_eq, not_true_eq_false, not_false_eq_true, if_true, if_false]
          rw [if_neg nq, if_neg nq, dv, rm, iI_ji (by omega) (by omega), iI_ji (by omega) (by omega)]
          exact a1
        · obtain ⟨ob, e0', -, -, hR, -⟩ := id M
          rcases a2 with ⟨c1, c2⟩ | ⟨c1, k, c2, c3⟩
          · refine ⟨S', xcJ_of ((e_X11_next_0 P m (iI r) (iI p) (iI q) (iI (xb l)) S').trans ?_), M, xfr.rf⟩
            simp only [e0'.o, g_isRunner e0' hR i1 i2, if_pos ci, g_isTime p1 p2 q1 q2, if_pos ct, iI_ji p1 p2, iI_ji q1 q2, g_isLonely e0' hR hr (show 0 ≤ p by omega) (show p ≤ 1000000000000 by omega) (show 1 ≤ q by omega) (show q ≤ 1000000000000 by omega), el, if_pos c1, xob_some, cond_true, t_10, t_00, ne_eq, not_true_eq_false, not_false_eq_true, if_true, if_false]
            rw [d_part ct.1 (by omega) (by omega) (by omega), xob_some, c2]
          · obtain ⟨S2, ob1, j1, j2, j3, j4, j5, j6, j7⟩ := d_laysStretches (P := P) M hr k6
            refine ⟨S2, xcJ_of ((e_X11_next_0 P m (iI r) (iI p) (iI q) (iI (xb l)) S').trans ?_), j2, j3⟩
            simp only [e0'.o, g_isRunner e0' hR i1 i2, if_pos ci, g_isTime p1 p2 q1 q2, if_pos ct, iI_ji p1 p2, iI_ji q1 q2, g_isLonely e0' hR hr (show 0 ≤ p by omega) (show p ≤ 1000000000000 by omega) (show 1 ≤ q by omega) (show q ≤ 1000000000000 by omega), el, if_neg c1, j1, j4.i (by omega) j5, ne, xob_some, cond_true, t_10, t_00, ne_eq, not_true_eq_false, not_false_eq_true, if_true, if_false]
            rw [if_neg nq, dv, rm, iI_ji (by omega) (by omega), c3]
            exact g_nextLoop (P := P) j4 j5 j6 k6 n0 k7 k8 ct.1 ct.2.1 ct.2.2.1 ct.2.2.2 R0 R1 rfl l c2
    · refine ⟨jI (-1), A, ⟨S, xcJ_of ((e_X10_next_0 P x (iI i) (iI p) (iI q) (iI (xb l)) S).trans ?_), H, xfr.rf⟩, fun S' M => ?_⟩
      · simp only [H.r0, hF.o, d_has hF i1 i2, if_pos ci, d_isTime p1 p2 q1 q2, if_neg ct, xob_some, cond_true, t_10, t_00, ne_eq, not_true_eq_false, not_false_eq_true, if_true, if_false]
      · obtain ⟨ob, e0, -, -, hR, -⟩ := id M
        refine ⟨S', xcJ_of ((e_X11_next_0 P m (iI i) (iI p) (iI q) (iI (xb l)) S').trans ?_), M, xfr.rf⟩
        simp only [e0.o, g_isRunner e0 hR i1 i2, if_pos ci, g_isTime p1 p2 q1 q2, if_neg ct, xob_some, cond_true, t_10, t_00, ne_eq, not_true_eq_false, not_false_eq_true, if_true, if_false]
  · refine ⟨jI (-1), A, ⟨S, xcJ_of ((e_X10_next_0 P x (iI i) (iI p) (iI q) (iI (xb l)) S).trans ?_), H, xfr.rf⟩, fun S' M => ?_⟩
    · simp only [H.r0, hF.o, d_has hF i1 i2, if_neg ci, xob_some, cond_true, t_10, t_00, ne_eq, not_true_eq_false, not_false_eq_true, if_true, if_false]
    · obtain ⟨ob, e0, -, -, hR, -⟩ := id M
      refine ⟨S', xcJ_of ((e_X11_next_0 P m (iI i) (iI p) (iI q) (iI (xb l)) S').trans ?_), M, xfr.rf⟩
      simp only [e0.o, g_isRunner e0 hR i1 i2, if_neg ci, xob_some, cond_true, t_10, t_00, ne_eq, not_true_eq_false, not_false_eq_true, if_true, if_false]
end NX
