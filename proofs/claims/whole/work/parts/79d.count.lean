-- deps: 79c.pop
/-! count -/
section CO
variable {P : Nat → Nat} {S T : xS} {x m : Nat} {A : xAb} {ob ob0 : Nat → Value} {F : xF}
theorem xct_zero {p : Nat → Bool} : ∀ n, xct p n = 0 ↔ ∀ j, j < n → p j = false := by
  intro n
  induction n with
  | zero => exact ⟨fun _ j hj => absurd hj (Nat.not_lt_zero j), fun _ => rfl⟩
  | succ n ih =>
    simp only [xct]
    constructor
    · intro h j hj
      by_cases c : j = n
      · subst c
        cases hp : p j
        · rfl
        · rw [hp] at h; simp at h
      · exact ih.mp (by omega) j (by omega)
    · intro h
      rw [ih.mpr (fun j hj => h j (by omega)), h n (by omega)]
      rfl
theorem xct_or {p : Nat → Bool} {k : Nat} : ∀ N, xct (fun i => p i || decide (k = i)) N = xct p N + (if k < N ∧ p k = false then 1 else 0) := by
  intro N
  induction N with
  | zero => rw [if_neg (by omega)]; rfl
  | succ N ih =>
    simp only [xct]
    rw [ih]
    by_cases c : k = N
    · subst c
      rw [if_neg (by omega)]
      rcases Bool.eq_false_or_eq_true (p k) with hp | hp <;> simp [hp]
    · have e : decide (k = N) = false := decide_eq_false c
      simp only [e, Bool.or_false]
      have q : (if k < N ∧ p k = false then (1 : Nat) else 0) = (if k < N + 1 ∧ p k = false then 1 else 0) := by
        by_cases d : k < N ∧ p k = false
        · rw [if_pos d, if_pos ⟨by omega, d.2⟩]
        · rw [if_neg d, if_neg (fun z => d ⟨by have := z.1; omega, z.2⟩)]
      rw [q]
      omega
/-- all of them, as bits -/
def xbw (v : Nat → Int) : Nat → Nat
  | 0 => 0
  | n + 1 => xbw v n ||| 2 ^ (v n).toNat
/-- how many unlike -/
def xuk (v : Nat → Int) : Nat → Nat := xct (fun r => decide (xct (fun j => decide (v j = v r)) r = 0))
theorem xbw_lt {v : Nat → Int} : ∀ n, (∀ i, i < n → 0 ≤ v i ∧ v i ≤ 40) → xbw v n < 281474976710656 := by
  intro n
  induction n with
  | zero => intro _; show 0 < 281474976710656; decide
  | succ n ih =>
    intro h
    have b := h n (by omega)
    have e : 2 ^ (v n).toNat < 2 ^ 48 := Nat.pow_lt_pow_right (by decide) (by omega)
    exact Nat.or_lt_two_pow (show xbw v n < 2 ^ 48 from ih (fun i hi => h i (by omega))) e
theorem xbw_bit {v : Nat → Int} (i : Nat) : ∀ n, (∀ i, i < n → 0 ≤ v i ∧ v i ≤ 40) → ((xbw v n).testBit i = false ↔ xct (fun j => decide (v j = i)) n = 0) := by
  intro n
  induction n with
  | zero =>
    intro _
    exact ⟨fun _ => rfl, fun _ => Nat.zero_testBit i⟩
  | succ n ih =>
    intro h
    have b := h n (by omega)
    have ih := ih (fun i hi => h i (by omega))
    simp only [xbw, xct]
    rw [Nat.testBit_or, Nat.testBit_two_pow, Bool.or_eq_false_iff, ih]
    by_cases c : v n = i
    · have e1 : decide ((v n).toNat = i) = true := decide_eq_true (by omega)
      have e2 : decide (v n = (i : Int)) = true := decide_eq_true c
      simp [e1, e2]
    · have e1 : decide ((v n).toNat = i) = false := decide_eq_false (by omega)
      have e2 : decide (v n = (i : Int)) = false := decide_eq_false c
      simp [e1, e2]
theorem xuk_suc (v : Nat → Int) (n : Nat) : xuk v (n + 1) = xuk v n + (if xct (fun j => decide (v j = v n)) n = 0 then 1 else 0) := by
  have e : xuk v (n + 1) = xuk v n + (if decide (xct (fun j => decide (v j = v n)) n = 0) = true then 1 else 0) := rfl
  rw [e]
  by_cases c : xct (fun j => decide (v j = v n)) n = 0
  · simp [c]
  · simp [c]
theorem xbw_uk {v : Nat → Int} : ∀ n, (∀ i, i < n → 0 ≤ v i ∧ v i ≤ 40) → xct (fun i => (xbw v n).testBit i) 48 = xuk v n := by
  intro n
  induction n with
  | zero => intro _; exact (xct_zero 48).mpr (fun j _ => Nat.zero_testBit j)
  | succ n ih =>
    intro h
    have b := h n (by omega)
    have ih := ih (fun i hi => h i (by omega))
    have e : xct (fun i => (xbw v (n + 1)).testBit i) 48 = xct (fun i => (xbw v n).testBit i || decide ((v n).toNat = i)) 48 := xct_congr 48 (fun r _ => by
      show (xbw v n ||| 2 ^ (v n).toNat).testBit r = _
      rw [Nat.testBit_or, Nat.testBit_two_pow])
    rw [e, xct_or, ih]
    have bt := xbw_bit (v := v) (v n).toNat n (fun i hi => h i (by omega))
    have tv : (((v n).toNat : Nat) : Int) = v n := by omega
    rw [tv] at bt
    rw [xuk_suc]
    by_cases c : xct (fun j => decide (v j = v n)) n = 0
    · rw [if_pos ⟨by omega, bt.mpr c⟩, if_pos c]
    · rw [if_neg (fun q => c (bt.mp q.2)), if_neg c]
theorem j_one : ∀ k : Nat, k < 41 → jI 1 <<< ((iI (k : Int)).toInt64 &&& 63) = jI ((2 ^ k : Nat) : Int) := by decide +kernel
theorem i_127 {g : Nat} : iI (g : Int) &&& iI 127 = iI ((g % 128 : Nat) : Int) := by
  apply Int32.toBitVec_inj.mp
  apply BitVec.eq_of_toNat_eq
  rw [Int32.toBitVec_and, BitVec.toNat_and]
  have e1 : (iI (g : Int)).toBitVec.toNat = g % 4294967296 := by
    show (BitVec.ofInt 32 (g : Int)).toNat = _
    rw [BitVec.toNat_ofInt]
    omega
  have e2 : (iI 127).toBitVec.toNat = 127 := by decide +kernel
  have e3 : (iI ((g % 128 : Nat) : Int)).toBitVec.toNat = g % 128 := by
    show (BitVec.ofInt 32 ((g % 128 : Nat) : Int)).toNat = _
    rw [BitVec.toNat_ofInt]
    omega
  rw [e1, e2, e3, show (127 : Nat) = 2 ^ 7 - 1 from rfl, Nat.and_two_pow_sub_one_eq_mod]
  omega
theorem d_bits {z : Nat} (hz : z < 281474976710656) : xcI P m_J13_bitCount_95d88 [.long (jI z)] S = some (iI (xct (fun i => z.testBit i) 48 : Nat), S) := by
  obtain ⟨b1, b1', b2, b3, fin⟩ := x_pop hz
  obtain ⟨gb, ge⟩ := fin _ _ _ _ rfl rfl rfl rfl
  refine xcI_of ((e_J13_bitCount_95d88_0 P (jI z) S).trans ?_)
  have q1 : jI (z : Int) - (((jI (z : Int)).toUInt64 >>> ((iI 1).toInt64.toUInt64 &&& Int64.toUInt64 63)).toInt64 &&& jI 6148914691236517205) = jI (w1 z : Nat) := by
    have h : z / 2 &&& 6148914691236517205 ≤ z / 2 := Nat.and_le_left
    have a := j_and (a := z / 2) (b := 6148914691236517205) (by omega) (by decide)
    rw [j_shr (k := 1) (by omega) (by decide +kernel) (by decide)]
    refine (congrArg (fun q => jI (z : Int) - q) a).trans ?_
    show jI (z : Int) - jI _ = _
    rw [jI_sub]
    unfold w1
    congr 1
    omega
  rw [q1]
  generalize w1 z = z1 at *
  have q2 : (jI (z1 : Int) &&& jI 3689348814741910323) + (((jI (z1 : Int)).toUInt64 >>> ((iI 2).toInt64.toUInt64 &&& Int64.toUInt64 63)).toInt64 &&& jI 3689348814741910323) = jI (w2 z1 : Nat) := by
    have a := j_and (a := z1) (b := 3689348814741910323) (by omega) (by decide)
    have a' := j_and (a := z1 / 4) (b := 3689348814741910323) (by omega) (by decide)
    rw [j_shr (k := 2) (by omega) (by decide +kernel) (by decide)]
    refine (congr (congrArg (fun p q => p + q) a) a').trans ?_
    show jI _ + jI _ = _
    rw [jI_add]
    rfl
  rw [q2]
  generalize w2 z1 = z2 at *
  have q3 : (jI (z2 : Int) + ((jI (z2 : Int)).toUInt64 >>> ((iI 4).toInt64.toUInt64 &&& Int64.toUInt64 63)).toInt64) &&& jI 1085102592571150095 = jI (w3 z2 : Nat) := by
    have a := j_and (a := z2 + z2 / 16) (b := 1085102592571150095) (by omega) (by decide)
    rw [j_shr (k := 4) (by omega) (by decide +kernel) (by decide), jI_add]
    exact a
  rw [q3]
  generalize w3 z2 = z3 at *
  have q4 : jI (z3 : Int) + ((jI (z3 : Int)).toUInt64 >>> ((iI 8).toInt64.toUInt64 &&& Int64.toUInt64 63)).toInt64 = jI ((z3 + z3 / 256 : Nat) : Int) := by
    rw [j_shr (k := 8) (by omega) (by decide +kernel) (by decide), jI_add]
    rfl
  rw [q4]
  generalize z3 + z3 / 256 = z4 at *
  have q5 : jI (z4 : Int) + ((jI (z4 : Int)).toUInt64 >>> ((iI 16).toInt64.toUInt64 &&& Int64.toUInt64 63)).toInt64 = jI ((z4 + z4 / 65536 : Nat) : Int) := by
    rw [j_shr (k := 16) (by omega) (by decide +kernel) (by decide), jI_add]
    rfl
  rw [q5]
  generalize z4 + z4 / 65536 = z5 at *
  have q6 : jI (z5 : Int) + ((jI (z5 : Int)).toUInt64 >>> ((iI 32).toInt64.toUInt64 &&& Int64.toUInt64 63)).toInt64 = jI ((z5 + z5 / 4294967296 : Nat) : Int) := by
    rw [j_shr (k := 32) (by omega) (by decide +kernel) (by decide), jI_add]
    rfl
  rw [q6, jI_ij, i_127, ge]
/-- unlike speeds -/
theorem d_unlikeS {a : Nat} (h : xFd S a F) : xcI P m_X0_unlikeSpeeds [.ref a] S = some (iI (xuk F.2.1 F.1 : Nat), S) := by
  have hk := h.1.1
  have bd : ∀ i, i < F.1 → 0 ≤ F.2.1 i ∧ F.2.1 i ≤ 40 := fun i hi => ⟨(h.1.2 i hi).1, (h.1.2 i hi).2.1⟩
  obtain ⟨f, g, hs, -⟩ := h.2
  have r2 : xfI S a 0 2 = some (iI F.1) := xfI_at hs.2.1 rfl
  refine xcI_of ((e_X0_unlikeSpeeds_0 P a S).trans ?_)
  refine (xsteps (fun r => xrun P m_X0_unlikeSpeeds 4 [(0, .ref a), (1, .long (jI (xbw F.2.1 r : Nat))), (3, .int (iI r))] [] S) F.1 (by
    intro r hr
    have b := bd r hr
    have lt := xbw_lt (v := F.2.1) r (fun i hi => bd i (by omega))
    have p40 : 2 ^ (F.2.1 r).toNat < 2 ^ 48 := Nat.pow_lt_pow_right (by decide) (by omega)
    have j1 := j_one (F.2.1 r).toNat (by omega)
    rw [show (((F.2.1 r).toNat : Nat) : Int) = F.2.1 r by omega] at j1
    try dsimp only
    rw [e_X0_unlikeSpeeds_4, r2, xob_some, if_neg (by rw [iI_le (by omega) (by omega) (by omega) (by omega)]; omega), h.o, cond_true, d_speedAt h hr, xob_some]
    try dsimp only
    rw [j1, j_or lt p40, iI_suc]
    rfl)).trans ?_
  have lt := xbw_lt (v := F.2.1) F.1 bd
  try dsimp only
  rw [e_X0_unlikeSpeeds_4, r2, xob_some, if_pos (by rw [iI_le (by omega) (by omega) (by omega) (by omega)]; omega), d_bits lt, xob_some, xbw_uk F.1 bd]
theorem g_unlike (e0 : xMo S m ob) (hR : xRo S (m + 1) F) : xcI P m_X11_unlikeSpeeds [.ref m] S = some (iI (xuk F.2.1 F.1 : Nat), S) := by
  have hk := hR.1.1
  have bd : ∀ i, i < F.1 → 0 ≤ F.2.1 i ∧ F.2.1 i ≤ 40 := fun i hi => ⟨(hR.1.2 i hi).1, (hR.1.2 i hi).2.1⟩
  have ukl : ∀ r, xuk F.2.1 r ≤ r := fun r => xct_le _ r
  refine xcI_of ((e_X11_unlikeSpeeds_0 P m S).trans ?_)
  refine (xsteps (fun r => xrun P m_X11_unlikeSpeeds 4 [(0, .ref m), (1, .int (iI (xuk F.2.1 r : Nat))), (2, .int (iI r))] [] S) F.1 (by
    intro r hr
    have inner := xsteps (fun j => xrun P m_X11_unlikeSpeeds 19 [(0, .ref m), (1, .int (iI (xuk F.2.1 r : Nat))), (2, .int (iI r)), (3, .int (iI (if xct (fun j => decide (F.2.1 j = F.2.1 r)) j = 0 then 1 else 0))), (4, .int (iI j))] [] S) r (by
      intro j hj
      have bj := bd j (by omega)
      have br := bd r hr
      try dsimp only
      rw [e_X11_unlikeSpeeds_19, if_neg (by rw [iI_le (by omega) (by omega) (by omega) (by omega)]; omega)]
      simp only [e0.o, g_speedOf e0 hR (show j < F.1 by omega), g_speedOf e0 hR hr, iI_suc, xob_some, cond_true]
      by_cases c : xct (fun j => decide (F.2.1 j = F.2.1 r)) j = 0
      · rw [if_pos c, if_neg (by decide +kernel)]
        by_cases d : F.2.1 j = F.2.1 r
        · have e : ¬ xct (fun j => decide (F.2.1 j = F.2.1 r)) (j + 1) = 0 := fun q => by
            have := (xct_zero _).mp q j (by omega)
            rw [decide_eq_false_iff_not] at this
            exact this d
          rw [if_pos (by rw [d]), if_neg e]
        · have e : xct (fun j => decide (F.2.1 j = F.2.1 r)) (j + 1) = 0 := (xct_zero _).mpr (fun k hk => by
            by_cases f : k = j
            · rw [f]; exact decide_eq_false d
            · exact (xct_zero _).mp c k (by omega))
          rw [if_neg (by rw [iI_eq (by omega) (by omega) (by omega) (by omega)]; exact d), if_pos e]
      · have e : ¬ xct (fun j => decide (F.2.1 j = F.2.1 r)) (j + 1) = 0 := fun q => c ((xct_zero _).mpr (fun k hk => (xct_zero _).mp q k (by omega)))
        rw [if_neg c, if_pos (by decide +kernel), if_neg e])
    try dsimp only at inner ⊢
    have lr := ukl r
    have es := xuk_suc F.2.1 r
    rw [e_X11_unlikeSpeeds_4, e0.r1, xob_some, g_K hR, xob_some, if_neg (by rw [iI_le (by omega) (by omega) (by omega) (by omega)]; omega)]
    refine Eq.trans ?_ (inner.trans ?_)
    · rfl
    · rw [e_X11_unlikeSpeeds_19, if_pos (by rw [iI_le (by omega) (by omega) (by omega) (by omega)]; omega), es, iI_suc, iI_suc]
      by_cases c : xct (fun j => decide (F.2.1 j = F.2.1 r)) r = 0
      · rw [if_pos c, if_neg (by decide +kernel), if_pos c]
      · rw [if_neg c, if_pos (by decide +kernel), if_neg c]
        rfl)).trans ?_
  try dsimp only
  rw [e_X11_unlikeSpeeds_4, e0.r1, xob_some, g_K hR, xob_some, if_pos (by rw [iI_le (by omega) (by omega) (by omega) (by omega)]; omega)]
/-- sums -/
theorem g_sum {v : Nat → Int} {o : Nat} (e0 : xMo S m ob) (hR : xRo S (m + 1) F) (ho : o ≤ 7) (hv : ∀ r, r < F.1 → xrw F (o + r) = v r) : xcI P m_X11_sumOf [.ref m, .int (iI (o : Int))] S = some (iI (xsm v F.1), S) := by
  obtain ⟨ok, f, hf, hf2⟩ := id hR
  have hk := ok.1
  refine xcI_of ((e_X11_sumOf_0 P m (iI (o : Int)) S).trans ?_)
  refine (xsteps (fun r => xrun P m_X11_sumOf 4 [(0, .ref m), (1, .int (iI (o : Int))), (2, .int (iI (xsm v r))), (3, .int (iI r))] [] S) F.1 (by
    intro r hr
    try dsimp only
    have e1 : iI (o : Int) + iI (r : Int) = iI ((o + r : Nat) : Int) := by rw [iI_add]; congr 1
    have rd : xrdI S (m + 1) (iI ((o + r : Nat) : Int)) = some (iI (v r)) := by
      rw [xrdI_at hf (by omega) (by omega) (by omega), Int.toNat_natCast, hf2 _ (by omega), hv r hr]
    rw [e_X11_sumOf_4, e0.r1, xob_some, g_K hR, xob_some, if_neg (by rw [iI_le (by omega) (by omega) (by omega) (by omega)]; omega), xob_some, e1, rd, xob_some, iI_add, iI_suc]
    rfl)).trans ?_
  try dsimp only
  rw [e_X11_sumOf_4, e0.r1, xob_some, g_K hR, xob_some, if_pos (by rw [iI_le (by omega) (by omega) (by omega) (by omega)]; omega)]
theorem iI_wrap (z : Int) : iI z = iI (z + 4294967296) := by
  apply Int32.toBitVec_inj.mp
  show BitVec.ofInt 32 z = BitVec.ofInt 32 (z + 4294967296)
  apply BitVec.eq_of_toNat_eq
  rw [BitVec.toNat_ofInt, BitVec.toNat_ofInt]
  omega
theorem z_count (H : xCl S x A) {i : Int} (i1 : -2147483648 ≤ i) (i2 : i < 2147483648) : ∃ z A', xKI P S x m_X10_count [.int (iI i)] z A' ∧ ∀ S', xMl S' m A → xGI P S' m m_X11_count [.int (iI i)] z A' := by
  have hF := H.2.1
  have hT := H.2.2.2.2.2.1
  have ti : (iI i).toInt = i := iI_toInt i1 i2
  have cls : ∀ z : Int32, xrun P m_X10_count 1 [(0, .ref x), (1, .int (iI i))] [.int (iI i)] S = some (some (.int z), S) → xKI P S x m_X10_count [.int (iI i)] z A := fun z h => ⟨S, xcI_of ((e_X10_count_0 P x (iI i) S).trans h), H, xfr.rf⟩
  have mdl : ∀ (z : Int32) (S' : xS), xMl S' m A → xrun P m_X11_count 1 [(0, .ref m), (1, .int (iI i))] [.int (iI i)] S' = some (some (.int z), S') → xGI P S' m m_X11_count [.int (iI i)] z A := fun z S' M h => ⟨S', xcI_of ((e_X11_count_0 P m (iI i) S').trans h), M, xfr.rf⟩
  by_cases c : 0 ≤ i ∧ i ≤ 6
  · have hi : i = 0 ∨ i = 1 ∨ i = 2 ∨ i = 3 ∨ i = 4 ∨ i = 5 ∨ i = 6 := by omega
    rcases hi with rfl | rfl | rfl | rfl | rfl | rfl | rfl
    · refine ⟨_, A, cls (iI A.1.1) ?_, fun S' M => mdl _ S' M ?_⟩
      · rw [e_X10_count_1_0, H.r0, xob_some, hF.o, cond_true, d_size hF, xob_some]
      · obtain ⟨ob, e0, h5, h28, hR, -⟩ := id M
        rw [e_X11_count_1_0, e0.r1, xob_some, g_K hR, xob_some]
    · refine ⟨_, A, cls (iI (xsm A.1.2.1 A.1.1)) ?_, fun S' M => mdl _ S' M ?_⟩
      · rw [e_X10_count_1_1, H.r0, xob_some, hF.o, cond_true, d_sumOfSpeeds hF, xob_some]
      · obtain ⟨ob, e0, h5, h28, hR, -⟩ := id M
        have gs := g_sum (P := P) (o := 1) (v := A.1.2.1) e0 hR (by decide) (fun r hr => by
          have hk := hR.1.1
          unfold xrw
          rw [if_neg (by omega), if_pos (by omega), if_pos (by omega), show 1 + r - 1 = r by omega])
        have gs' : xcI P m_X11_sumOf [.ref m, .int (iI 1)] S' = some (iI (xsm A.1.2.1 A.1.1), S') := gs
        rw [e_X11_count_1_1, e0.o, cond_true, gs', xob_some]
    · refine ⟨_, A, cls (iI (xsm A.1.2.2 A.1.1)) ?_, fun S' M => mdl _ S' M ?_⟩
      · rw [e_X10_count_1_2, H.r0, xob_some, hF.o, cond_true, d_sumOfStarts hF, xob_some]
      · obtain ⟨ob, e0, h5, h28, hR, -⟩ := id M
        have gs := g_sum (P := P) (o := 7) (v := A.1.2.2) e0 hR (by decide) (fun r hr => by
          unfold xrw
          rw [if_neg (by omega), if_neg (by omega), if_pos (by omega), show 7 + r - 7 = r by omega])
        have gs' : xcI P m_X11_sumOf [.ref m, .int (iI 7)] S' = some (iI (xsm A.1.2.2 A.1.1), S') := gs
        rw [e_X11_count_1_2, e0.o, cond_true, gs', xob_some]
    · refine ⟨_, A, cls (iI A.2.1.length) ?_, fun S' M => mdl _ S' M ?_⟩
      · rw [e_X10_count_1_3, H.r4, xob_some, H.ho, cond_true, d_hsize H.hi, xob_some]
      · obtain ⟨ob, e0, h5, h28, hR, -⟩ := id M
        rw [e_X11_count_1_3, e0.i (by decide) h5, xob_some]
    · refine ⟨_, A, cls (iI A.2.2.2.1) ?_, fun S' M => mdl _ S' M ?_⟩
      · rw [e_X10_count_1_4, H.r5, xob_some, hT.o, cond_true, d_tsize hT, xob_some]
      · obtain ⟨ob, e0, h5, h28, hR, -⟩ := id M
        rw [e_X11_count_1_4, e0.i (by decide) h28, xob_some]
    · refine ⟨_, A, cls (iI (xmx A.1.2.1 A.1.1)) ?_, fun S' M => mdl _ S' M ?_⟩
      · rw [e_X10_count_1_5, H.r0, xob_some, hF.o, cond_true, d_greatestSpeed hF, xob_some]
      · obtain ⟨ob, e0, h5, h28, hR, -⟩ := id M
        rw [e_X11_count_1_5, e0.o, cond_true, g_fastest e0 hR, xob_some]
    · refine ⟨_, A, cls (iI (xuk A.1.2.1 A.1.1 : Nat)) ?_, fun S' M => mdl _ S' M ?_⟩
      · rw [e_X10_count_1_6, H.r0, xob_some, hF.o, cond_true, d_unlikeS hF, xob_some]
      · obtain ⟨ob, e0, h5, h28, hR, -⟩ := id M
        rw [e_X11_count_1_6, e0.o, cond_true, g_unlike e0 hR, xob_some]
  · have out : ∀ z : Int32, xcI P m_X10_countKept [.ref x, .int (iI i - iI 7)] S = some (z, S) → xKI P S x m_X10_count [.int (iI i)] z A := fun z h => cls z (by
      rw [e_X10_count_1_out P x (iI i) (iI i) S (by rw [ti]; omega), H.o, cond_true, h, xob_some])
    by_cases c2 : 7 ≤ i ∧ i ≤ 9
    · obtain ⟨o, rfl⟩ : ∃ o : Nat, i = (7 + o : Nat) := ⟨i.toNat - 7, by omega⟩
      have ho : o < 3 := by omega
      have eo : iI ((7 + o : Nat) : Int) - iI 7 = iI (o : Int) := by rw [iI_sub]; congr 1; omega
      obtain ⟨⟨f, hf, hf2⟩, ⟨g, hg, hg2⟩, hh⟩ := H.2.2.2.1
      have rdB : xrdB S (x + 17) (iI (o : Int)) = some (iI (if (A.2.2.1 o).isSome then 1 else 0)) := by rw [xrdB_at2 hg (by omega) (by omega) (by omega), Int.toNat_natCast, hg2 o ho]
      have rd : xrdR S (x + 7) (iI (o : Int)) = some (x + 8 + 3 * o) := by rw [xrdR_at hf (by omega) (by omega) (by omega), Int.toNat_natCast, hf2 o ho]
      have ck : ∀ z : Int32, (∀ (S' : xS), xMl S' m A → (xob (xfR S' m 11 7) none fun q1 => (xob (xrdB S' q1 (iI ((7 + o : Nat) : Int) - iI 7)) none fun q2 => (if q2 = 0 then (some (some (Value.int (iI 0)), S') : Option (Option Value × xS)) else (xob (xfR S' m 11 6) none fun q3 => (xob (xrdI S' q3 (((iI 13) * (iI ((7 + o : Nat) : Int) - iI 7)) + (iI 0))) none fun q4 => some (some (Value.int q4), S')))))) = some (some (Value.int z), S')) → ∀ S', xMl S' m A → xGI P S' m m_X11_count [.int (iI ((7 + o : Nat) : Int))] z A := by
        intro z h S' M
        refine mdl z S' M ?_
        have h' := h S' M
        have ho2 : o = 0 ∨ o = 1 ∨ o = 2 := by omega
        rcases ho2 with rfl | rfl | rfl
        · exact (e_X11_count_1_7 P m (iI 7) S').trans h'
        · exact (e_X11_count_1_8 P m (iI 8) S').trans h'
        · exact (e_X11_count_1_9 P m (iI 9) S').trans h'
      rcases hm : A.2.2.1 o with _ | G
      · refine ⟨iI 0, A, out _ ?_, ck _ (fun S' M => ?_)⟩
        · rw [hm] at rdB
          have rdB' : xrdB S (x + 17) (iI (o : Int)) = some (iI 0) := rdB
          rw [eo]
          refine xcI_of ((e_X10_countKept_0 P x (iI (o : Int)) S).trans ?_)
          simp only [d_isMark (show -2147483648 ≤ (o : Int) by omega) (show (o : Int) < 2147483648 by omega), if_pos (show 0 ≤ (o : Int) ∧ (o : Int) ≤ 2 by omega), H.r3, rdB', xob_some, cond_true, t_10, t_00, ne_eq, not_true_eq_false, not_false_eq_true, if_true, if_false]
        · obtain ⟨ob, e0, h5, h28, hR, -⟩ := id M
          obtain ⟨ob', -, -, -, -, -, ⟨-, g', hg', hg2'⟩, -⟩ := id M
          have rdm : xrdB S' (m + 6) (iI (o : Int)) = some (iI 0) := by
            rw [xrdB_at2 hg' (by omega) (by omega) (by omega), Int.toNat_natCast, hg2' o ho, hm]; rfl
          simp only [eo, e0.r7, rdm, xob_some, cond_true, t_10, t_00, ne_eq, not_true_eq_false, not_false_eq_true, if_true, if_false]
      · refine ⟨iI (G.1 : Int), A, out _ ?_, ck _ (fun S' M => ?_)⟩
        · rw [hm] at rdB
          have rdB' : xrdB S (x + 17) (iI (o : Int)) = some (iI 1) := rdB
          have hG := (hh o ho).2 G hm
          rw [eo]
          refine xcI_of ((e_X10_countKept_0 P x (iI (o : Int)) S).trans ?_)
          simp only [d_isMark (show -2147483648 ≤ (o : Int) by omega) (show (o : Int) < 2147483648 by omega), if_pos (show 0 ≤ (o : Int) ∧ (o : Int) ≤ 2 by omega), H.r3, rdB', H.r2, rd, hG.o, d_size hG, xob_some, cond_true, t_10, t_00, ne_eq, not_true_eq_false, not_false_eq_true, if_true, if_false]
        · obtain ⟨ob, e0, h5, h28, hR, -⟩ := id M
          obtain ⟨ob', -, -, -, -, -, ⟨⟨f', hf', hf2'⟩, g', hg', hg2'⟩, -⟩ := id M
          have q := hf2' o ho G hm
          have rdm : xrdB S' (m + 6) (iI (o : Int)) = some (iI 1) := by
            rw [xrdB_at2 hg' (by omega) (by omega) (by omega), Int.toNat_natCast, hg2' o ho, hm]; rfl
          have ek : iI 13 * iI (o : Int) + iI 0 = iI ((13 * o + 0 : Nat) : Int) := by rw [iI_mul, iI_add]; congr 1
          have rdk : xrdI S' (m + 5) (iI ((13 * o + 0 : Nat) : Int)) = some (iI (G.1 : Int)) := by
            rw [xrdI_at hf' (by omega) (by omega) (by omega), Int.toNat_natCast, q.2 0 (by decide), xrw_0]
          simp only [eo, e0.r7, rdm, e0.r6, ek, rdk, xob_some, cond_true, t_10, t_00, ne_eq, not_true_eq_false, not_false_eq_true, if_true, if_false]
    · refine ⟨iI (-1), A, out _ ?_, fun S' M => mdl _ S' M ?_⟩
      · refine xcI_of ((e_X10_countKept_0 P x (iI i - iI 7) S).trans ?_)
        rw [iI_sub]
        by_cases d : -2147483648 ≤ i - 7
        · simp only [d_isMark d (show i - 7 < 2147483648 by omega), if_neg (show ¬ (0 ≤ i - 7 ∧ i - 7 ≤ 2) by omega), xob_some, cond_true, t_10, t_00, ne_eq, not_true_eq_false, not_false_eq_true, if_true, if_false]
        · rw [iI_wrap]
          simp only [d_isMark (show -2147483648 ≤ i - 7 + 4294967296 by omega) (show i - 7 + 4294967296 < 2147483648 by omega), if_neg (show ¬ (0 ≤ i - 7 + 4294967296 ∧ i - 7 + 4294967296 ≤ 2) by omega), xob_some, cond_true, t_10, t_00, ne_eq, not_true_eq_false, not_false_eq_true, if_true, if_false]
      · exact e_X11_count_1_out P m (iI i) (iI i) S' (by rw [ti]; omega)
end CO
