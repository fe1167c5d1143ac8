-- deps: 79d.count
/-! a call of the law: class and reference answer alike -/
theorem x_and_nn (v : Int32) (c : Nat) (hc : c < 2147483648) : ∃ j : Nat, j ≤ c ∧ v &&& iI (c : Int) = iI (j : Int) := by
  refine ⟨(v.toBitVec &&& (iI (c : Int)).toBitVec).toNat, ?_, ?_⟩
  · rw [BitVec.toNat_and]
    refine Nat.le_trans Nat.and_le_right ?_
    have e : (iI (c : Int)).toBitVec.toNat = c := by
      show (BitVec.ofInt 32 (c : Int)).toNat = c
      rw [BitVec.toNat_ofInt]
      omega
    rw [e]
    exact Nat.le_refl c
  · apply Int32.toBitVec_inj.mp
    rw [Int32.toBitVec_and]
    show _ = BitVec.ofInt 32 _
    rw [BitVec.ofInt_natCast, BitVec.ofNat_toNat, BitVec.setWidth_eq]
theorem lg_self (v : Int64) : (lg_cmp v v = 0) = True := by
  obtain ⟨z, rfl, h1, h2⟩ := jI_of v
  simp [x_ceq h1 h2 h1 h2]
def xLb (P : Nat → Nat) (b L : Nat) (xs : Nat → Int32) (x : Nat) (S : xS) : Prop := b < x ∧ (∀ k, k ≤ 9 → P k < x) ∧ S.1 b = some (.inr (6, (L, .inl xs))) ∧ xPm P S ∧ xTs P S
def xLw (P : Nat → Nat) (b L : Nat) (xs : Nat → Int32) (x : Nat) (S : xS) (A : xAb) : Prop := xCl S x A ∧ xMl S (x + 89) A ∧ xLb P b L xs x S
section LW
variable {P : Nat → Nat} {b L : Nat} {xs : Nat → Int32} {x : Nat} {S T : xS} {A : xAb}
theorem xLb.fr {B : Nat → Prop} (h : xLb P b L xs x S) (hf : xfr S T B) (h0 : ∀ c, c < x → ¬ B c) : xLb P b L xs x T := by
  obtain ⟨h1, h2, h3, ⟨f, e, h4⟩, g1, g2, g3, g4, g5, g6, g7, g8, g9⟩ := h
  have k : ∀ k, k ≤ 9 → ¬ B (P k) := fun k hk => h0 _ (h2 k hk)
  exact ⟨h1, h2, (hf.2 _ (h0 _ h1)).trans h3, ⟨f, (hf.2 _ (k 0 (by decide))).trans e, h4⟩, g1.fr hf (k 1 (by decide)), g2.fr hf (k 2 (by decide)), g3.fr hf (k 3 (by decide)), g4.fr hf (k 4 (by decide)), g5.fr hf (k 5 (by decide)), g6.fr hf (k 6 (by decide)), g7.fr hf (k 7 (by decide)), g8.fr hf (k 8 (by decide)), g9.fr hf (k 9 (by decide))⟩
theorem xLb.rd (h : xLb P b L xs x S) (hL : L ≤ 3072) {i k : Nat} (hi : i + k < L) : xrdI S b (iI (i : Int) + iI (k : Int)) = some (xs (i + k)) := by
  rw [iI_add, show ((i : Int) + (k : Int)) = ((i + k : Nat) : Int) by omega, xrdI_at6 h.2.2.1 (by omega) (by omega) (by omega), Int.toNat_natCast]
theorem lw_I {fX fM : Nat} {as : List Value} (W : xLw P b L xs x S A) (z : ∃ v A', xKI P S x fX as v A' ∧ ∀ S', xMl S' (x + 89) A → xGI P S' (x + 89) fM as v A') : ∃ v S1 S2 A', xcI P fX (.ref x :: as) S = some (v, S1) ∧ xLb P b L xs x S1 ∧ xisO S1 (x + 89) 11 = true ∧ xcI P fM (.ref (x + 89) :: as) S1 = some (v, S2) ∧ xLw P b L xs x S2 A' ∧ S2.2 = S.2 := by
  obtain ⟨v, A', ⟨S1, c1, c2, c3⟩, g⟩ := z
  have M1 := W.2.1.fr c3 (fun b hb hc => by unfold xrg at hb hc; omega)
  obtain ⟨S2, d1, d2, d3⟩ := g S1 M1
  obtain ⟨ob, e0, -⟩ := id M1
  exact ⟨v, S1, S2, A', c1, W.2.2.fr c3 (fun c hc hb => by unfold xrg at hb; omega), e0.o, d1, ⟨c2.fr d3 (fun b hb hc => by unfold xrg at hb hc; omega), d2, (W.2.2.fr c3 (fun c hc hb => by unfold xrg at hb; omega)).fr d3 (fun c hc hb => by unfold xrg at hb; omega)⟩, d3.1.trans c3.1⟩
theorem lw_J {fX fM : Nat} {as : List Value} (W : xLw P b L xs x S A) (z : ∃ v A', xKJ P S x fX as v A' ∧ ∀ S', xMl S' (x + 89) A → xGJ P S' (x + 89) fM as v A') : ∃ v S1 S2 A', xcJ P fX (.ref x :: as) S = some (v, S1) ∧ xLb P b L xs x S1 ∧ xisO S1 (x + 89) 11 = true ∧ xcJ P fM (.ref (x + 89) :: as) S1 = some (v, S2) ∧ xLw P b L xs x S2 A' ∧ S2.2 = S.2 := by
  obtain ⟨v, A', ⟨S1, c1, c2, c3⟩, g⟩ := z
  have M1 := W.2.1.fr c3 (fun b hb hc => by unfold xrg at hb hc; omega)
  obtain ⟨S2, d1, d2, d3⟩ := g S1 M1
  obtain ⟨ob, e0, -⟩ := id M1
  exact ⟨v, S1, S2, A', c1, W.2.2.fr c3 (fun c hc hb => by unfold xrg at hb; omega), e0.o, d1, ⟨c2.fr d3 (fun b hb hc => by unfold xrg at hb hc; omega), d2, (W.2.2.fr c3 (fun c hc hb => by unfold xrg at hb; omega)).fr d3 (fun c hc hb => by unfold xrg at hb; omega)⟩, d3.1.trans c3.1⟩
theorem xLw.o (W : xLw P b L xs x S A) : xisO S x 10 = true := W.1.o
theorem xLw.tz (W : xLw P b L xs x S A) : ∀ k, 1 ≤ k → k ≤ 9 → P k < x := fun k _ hk => W.2.2.2.1 k hk
theorem lw_c0 (W : xLw P b L xs x S A) (hL : L ≤ 3072) {i : Nat} (hi : i + 5 < L) : ∃ S2 A', xrun P m_L_law 33 [(0, .ref b), (1, .ref x), (2, .ref (x + 89)), (3, .int (iI (i : Int)))] [.int (iI 0)] S = xrun P m_L_law 2643 [(0, .ref b), (1, .ref x), (2, .ref (x + 89)), (3, .int (iI (i : Int)))] [] S2 ∧ xLw P b L xs x S2 A' ∧ S2.2 = S.2 := by
  obtain ⟨a1, ha1, l1, u1⟩ := iI_of (xs (i + 1))
  obtain ⟨a2, ha2, l2, u2⟩ := iI_of (xs (i + 2))
  obtain ⟨a3, ha3, l3, u3⟩ := iI_of (xs (i + 3))
  obtain ⟨a4, ha4, l4, u4⟩ := iI_of (xs (i + 4))
  obtain ⟨a5, ha5, l5, u5⟩ := iI_of (xs (i + 5))
  obtain ⟨v, S1, S2, A', c1, B1, o1, c2, W2, e2⟩ := lw_I (as := [.int (iI a1), .int (iI a2), .int (iI a3), .int (iI a4), .int (iI a5)]) W (z_feed W.1 l1 u1 l2 u2 l3 u3 l4 u4 l5 u5)
  refine ⟨S2, A', ?_, W2, e2⟩
  have r1 : xrdI S b (iI (i : Int) + iI 1) = some (xs (i + 1)) := W.2.2.rd hL (k := 1) (by omega)
  have q1 : xrdI S1 b (iI (i : Int) + iI 1) = some (xs (i + 1)) := B1.rd hL (k := 1) (by omega)
  have r2 : xrdI S b (iI (i : Int) + iI 2) = some (xs (i + 2)) := W.2.2.rd hL (k := 2) (by omega)
  have q2 : xrdI S1 b (iI (i : Int) + iI 2) = some (xs (i + 2)) := B1.rd hL (k := 2) (by omega)
  have r3 : xrdI S b (iI (i : Int) + iI 3) = some (xs (i + 3)) := W.2.2.rd hL (k := 3) (by omega)
  have q3 : xrdI S1 b (iI (i : Int) + iI 3) = some (xs (i + 3)) := B1.rd hL (k := 3) (by omega)
  have r4 : xrdI S b (iI (i : Int) + iI 4) = some (xs (i + 4)) := W.2.2.rd hL (k := 4) (by omega)
  have q4 : xrdI S1 b (iI (i : Int) + iI 4) = some (xs (i + 4)) := B1.rd hL (k := 4) (by omega)
  have r5 : xrdI S b (iI (i : Int) + iI 5) = some (xs (i + 5)) := W.2.2.rd hL (k := 5) (by omega)
  have q5 : xrdI S1 b (iI (i : Int) + iI 5) = some (xs (i + 5)) := B1.rd hL (k := 5) (by omega)
  rw [e_L_law_33_0]
  simp only [r1, q1, r2, q2, r3, q3, r4, q4, r5, q5, ha1, ha2, ha3, ha4, ha5, W.o, o1, c1, c2, lg_self, xob_some, cond_true, if_true]
theorem lw_c1 (W : xLw P b L xs x S A) (hL : L ≤ 3072) {i : Nat} (hi : i + 5 < L) : ∃ S2 A', xrun P m_L_law 33 [(0, .ref b), (1, .ref x), (2, .ref (x + 89)), (3, .int (iI (i : Int)))] [.int (iI 1)] S = xrun P m_L_law 2643 [(0, .ref b), (1, .ref x), (2, .ref (x + 89)), (3, .int (iI (i : Int)))] [] S2 ∧ xLw P b L xs x S2 A' ∧ S2.2 = S.2 := by
  obtain ⟨a1, ha1, l1, u1⟩ := iI_of (xs (i + 1))
  obtain ⟨v, S1, S2, A', c1, B1, o1, c2, W2, e2⟩ := lw_I (as := [.int (iI a1)]) W (z_back W.1 l1 u1)
  refine ⟨S2, A', ?_, W2, e2⟩
  have r1 : xrdI S b (iI (i : Int) + iI 1) = some (xs (i + 1)) := W.2.2.rd hL (k := 1) (by omega)
  have q1 : xrdI S1 b (iI (i : Int) + iI 1) = some (xs (i + 1)) := B1.rd hL (k := 1) (by omega)
  rw [e_L_law_33_1]
  simp only [r1, q1, ha1, W.o, o1, c1, c2, lg_self, xob_some, cond_true, if_true]
theorem lw_c2 (W : xLw P b L xs x S A) (hL : L ≤ 3072) {i : Nat} (hi : i + 5 < L) : ∃ S2 A', xrun P m_L_law 33 [(0, .ref b), (1, .ref x), (2, .ref (x + 89)), (3, .int (iI (i : Int)))] [.int (iI 2)] S = xrun P m_L_law 2643 [(0, .ref b), (1, .ref x), (2, .ref (x + 89)), (3, .int (iI (i : Int)))] [] S2 ∧ xLw P b L xs x S2 A' ∧ S2.2 = S.2 := by
  obtain ⟨v, S1, S2, A', c1, B1, o1, c2, W2, e2⟩ := lw_I (as := []) W (z_text W.1 W.2.2.2.2.2.2 W.tz)
  refine ⟨S2, A', ?_, W2, e2⟩
  rw [e_L_law_33_2]
  simp only [W.o, o1, c1, c2, lg_self, xob_some, cond_true, if_true]
theorem lw_c3 (W : xLw P b L xs x S A) (hL : L ≤ 3072) {i : Nat} (hi : i + 5 < L) : ∃ S2 A', xrun P m_L_law 33 [(0, .ref b), (1, .ref x), (2, .ref (x + 89)), (3, .int (iI (i : Int)))] [.int (iI 3)] S = xrun P m_L_law 2643 [(0, .ref b), (1, .ref x), (2, .ref (x + 89)), (3, .int (iI (i : Int)))] [] S2 ∧ xLw P b L xs x S2 A' ∧ S2.2 = S.2 := by
  obtain ⟨a1, ha1, l1, u1⟩ := iI_of (xs (i + 1))
  obtain ⟨a2, ha2, l2, u2⟩ := iI_of (xs (i + 2))
  obtain ⟨v, S1, S2, A', c1, B1, o1, c2, W2, e2⟩ := lw_I (as := [.int (iI a1), .int (iI a2)]) W (z_run W.1 l1 u1 l2 u2)
  refine ⟨S2, A', ?_, W2, e2⟩
  have r1 : xrdI S b (iI (i : Int) + iI 1) = some (xs (i + 1)) := W.2.2.rd hL (k := 1) (by omega)
  have q1 : xrdI S1 b (iI (i : Int) + iI 1) = some (xs (i + 1)) := B1.rd hL (k := 1) (by omega)
  have r2 : xrdI S b (iI (i : Int) + iI 2) = some (xs (i + 2)) := W.2.2.rd hL (k := 2) (by omega)
  have q2 : xrdI S1 b (iI (i : Int) + iI 2) = some (xs (i + 2)) := B1.rd hL (k := 2) (by omega)
  rw [e_L_law_33_3]
  simp only [r1, q1, r2, q2, ha1, ha2, W.o, o1, c1, c2, lg_self, xob_some, cond_true, if_true]
theorem lw_c4 (W : xLw P b L xs x S A) (hL : L ≤ 3072) {i : Nat} (hi : i + 5 < L) : ∃ S2 A', xrun P m_L_law 33 [(0, .ref b), (1, .ref x), (2, .ref (x + 89)), (3, .int (iI (i : Int)))] [.int (iI 4)] S = xrun P m_L_law 2643 [(0, .ref b), (1, .ref x), (2, .ref (x + 89)), (3, .int (iI (i : Int)))] [] S2 ∧ xLw P b L xs x S2 A' ∧ S2.2 = S.2 := by
  obtain ⟨a1, ha1, l1, u1⟩ := iI_of (xs (i + 1))
  obtain ⟨v, S1, S2, A', c1, B1, o1, c2, W2, e2⟩ := lw_I (as := [.int (iI a1)]) W (z_drop W.1 l1 u1)
  refine ⟨S2, A', ?_, W2, e2⟩
  have r1 : xrdI S b (iI (i : Int) + iI 1) = some (xs (i + 1)) := W.2.2.rd hL (k := 1) (by omega)
  have q1 : xrdI S1 b (iI (i : Int) + iI 1) = some (xs (i + 1)) := B1.rd hL (k := 1) (by omega)
  rw [e_L_law_33_4]
  simp only [r1, q1, ha1, W.o, o1, c1, c2, lg_self, xob_some, cond_true, if_true]
theorem lw_c5 (W : xLw P b L xs x S A) (hL : L ≤ 3072) {i : Nat} (hi : i + 5 < L) : ∃ S2 A', xrun P m_L_law 33 [(0, .ref b), (1, .ref x), (2, .ref (x + 89)), (3, .int (iI (i : Int)))] [.int (iI 5)] S = xrun P m_L_law 2643 [(0, .ref b), (1, .ref x), (2, .ref (x + 89)), (3, .int (iI (i : Int)))] [] S2 ∧ xLw P b L xs x S2 A' ∧ S2.2 = S.2 := by
  obtain ⟨a1, ha1, l1, u1⟩ := iI_of (xs (i + 1))
  obtain ⟨a2, ha2, l2, u2⟩ := iI_of (xs (i + 2))
  obtain ⟨v, S1, S2, A', c1, B1, o1, c2, W2, e2⟩ := lw_I (as := [.int (iI a1), .int (iI a2)]) W (z_speed W.1 l1 u1 l2 u2)
  refine ⟨S2, A', ?_, W2, e2⟩
  have r1 : xrdI S b (iI (i : Int) + iI 1) = some (xs (i + 1)) := W.2.2.rd hL (k := 1) (by omega)
  have q1 : xrdI S1 b (iI (i : Int) + iI 1) = some (xs (i + 1)) := B1.rd hL (k := 1) (by omega)
  have r2 : xrdI S b (iI (i : Int) + iI 2) = some (xs (i + 2)) := W.2.2.rd hL (k := 2) (by omega)
  have q2 : xrdI S1 b (iI (i : Int) + iI 2) = some (xs (i + 2)) := B1.rd hL (k := 2) (by omega)
  rw [e_L_law_33_5]
  simp only [r1, q1, r2, q2, ha1, ha2, W.o, o1, c1, c2, lg_self, xob_some, cond_true, if_true]
theorem lw_c6 (W : xLw P b L xs x S A) (hL : L ≤ 3072) {i : Nat} (hi : i + 5 < L) : ∃ S2 A', xrun P m_L_law 33 [(0, .ref b), (1, .ref x), (2, .ref (x + 89)), (3, .int (iI (i : Int)))] [.int (iI 6)] S = xrun P m_L_law 2643 [(0, .ref b), (1, .ref x), (2, .ref (x + 89)), (3, .int (iI (i : Int)))] [] S2 ∧ xLw P b L xs x S2 A' ∧ S2.2 = S.2 := by
  obtain ⟨a1, ha1, l1, u1⟩ := iI_of (xs (i + 1))
  obtain ⟨a2, ha2, l2, u2⟩ := iI_of (xs (i + 2))
  obtain ⟨v, S1, S2, A', c1, B1, o1, c2, W2, e2⟩ := lw_I (as := [.int (iI a1), .int (iI a2)]) W (z_start W.1 l1 u1 l2 u2)
  refine ⟨S2, A', ?_, W2, e2⟩
  have r1 : xrdI S b (iI (i : Int) + iI 1) = some (xs (i + 1)) := W.2.2.rd hL (k := 1) (by omega)
  have q1 : xrdI S1 b (iI (i : Int) + iI 1) = some (xs (i + 1)) := B1.rd hL (k := 1) (by omega)
  have r2 : xrdI S b (iI (i : Int) + iI 2) = some (xs (i + 2)) := W.2.2.rd hL (k := 2) (by omega)
  have q2 : xrdI S1 b (iI (i : Int) + iI 2) = some (xs (i + 2)) := B1.rd hL (k := 2) (by omega)
  rw [e_L_law_33_6]
  simp only [r1, q1, r2, q2, ha1, ha2, W.o, o1, c1, c2, lg_self, xob_some, cond_true, if_true]
theorem lw_c7 (W : xLw P b L xs x S A) (hL : L ≤ 3072) {i : Nat} (hi : i + 5 < L) : ∃ S2 A', xrun P m_L_law 33 [(0, .ref b), (1, .ref x), (2, .ref (x + 89)), (3, .int (iI (i : Int)))] [.int (iI 7)] S = xrun P m_L_law 2643 [(0, .ref b), (1, .ref x), (2, .ref (x + 89)), (3, .int (iI (i : Int)))] [] S2 ∧ xLw P b L xs x S2 A' ∧ S2.2 = S.2 := by
  obtain ⟨a1, ha1, l1, u1⟩ := iI_of (xs (i + 1))
  obtain ⟨v, S1, S2, A', c1, B1, o1, c2, W2, e2⟩ := lw_I (as := [.int (iI a1)]) W (z_pace W.1 l1 u1)
  refine ⟨S2, A', ?_, W2, e2⟩
  have r1 : xrdI S b (iI (i : Int) + iI 1) = some (xs (i + 1)) := W.2.2.rd hL (k := 1) (by omega)
  have q1 : xrdI S1 b (iI (i : Int) + iI 1) = some (xs (i + 1)) := B1.rd hL (k := 1) (by omega)
  rw [e_L_law_33_7]
  simp only [r1, q1, ha1, W.o, o1, c1, c2, lg_self, xob_some, cond_true, if_true]
theorem lw_c8 (W : xLw P b L xs x S A) (hL : L ≤ 3072) {i : Nat} (hi : i + 5 < L) : ∃ S2 A', xrun P m_L_law 33 [(0, .ref b), (1, .ref x), (2, .ref (x + 89)), (3, .int (iI (i : Int)))] [.int (iI 8)] S = xrun P m_L_law 2643 [(0, .ref b), (1, .ref x), (2, .ref (x + 89)), (3, .int (iI (i : Int)))] [] S2 ∧ xLw P b L xs x S2 A' ∧ S2.2 = S.2 := by
  obtain ⟨a1, ha1, l1, u1⟩ := iI_of (xs (i + 1))
  obtain ⟨v, S1, S2, A', c1, B1, o1, c2, W2, e2⟩ := lw_I (as := [.int (iI a1)]) W (z_onward W.1 l1 u1)
  refine ⟨S2, A', ?_, W2, e2⟩
  have r1 : xrdI S b (iI (i : Int) + iI 1) = some (xs (i + 1)) := W.2.2.rd hL (k := 1) (by omega)
  have q1 : xrdI S1 b (iI (i : Int) + iI 1) = some (xs (i + 1)) := B1.rd hL (k := 1) (by omega)
  rw [e_L_law_33_8]
  simp only [r1, q1, ha1, W.o, o1, c1, c2, lg_self, xob_some, cond_true, if_true]
theorem lw_c9 (W : xLw P b L xs x S A) (hL : L ≤ 3072) {i : Nat} (hi : i + 5 < L) : ∃ S2 A', xrun P m_L_law 33 [(0, .ref b), (1, .ref x), (2, .ref (x + 89)), (3, .int (iI (i : Int)))] [.int (iI 9)] S = xrun P m_L_law 2643 [(0, .ref b), (1, .ref x), (2, .ref (x + 89)), (3, .int (iI (i : Int)))] [] S2 ∧ xLw P b L xs x S2 A' ∧ S2.2 = S.2 := by
  obtain ⟨a1, ha1, l1, u1⟩ := iI_of (xs (i + 1))
  obtain ⟨v, S1, S2, A', c1, B1, o1, c2, W2, e2⟩ := lw_I (as := [.int (iI a1)]) W (z_turn W.1 l1 u1)
  refine ⟨S2, A', ?_, W2, e2⟩
  have r1 : xrdI S b (iI (i : Int) + iI 1) = some (xs (i + 1)) := W.2.2.rd hL (k := 1) (by omega)
  have q1 : xrdI S1 b (iI (i : Int) + iI 1) = some (xs (i + 1)) := B1.rd hL (k := 1) (by omega)
  rw [e_L_law_33_9]
  simp only [r1, q1, ha1, W.o, o1, c1, c2, lg_self, xob_some, cond_true, if_true]
theorem lw_c10 (W : xLw P b L xs x S A) (hL : L ≤ 3072) {i : Nat} (hi : i + 5 < L) : ∃ S2 A', xrun P m_L_law 33 [(0, .ref b), (1, .ref x), (2, .ref (x + 89)), (3, .int (iI (i : Int)))] [.int (iI 10)] S = xrun P m_L_law 2643 [(0, .ref b), (1, .ref x), (2, .ref (x + 89)), (3, .int (iI (i : Int)))] [] S2 ∧ xLw P b L xs x S2 A' ∧ S2.2 = S.2 := by
  obtain ⟨v, S1, S2, A', c1, B1, o1, c2, W2, e2⟩ := lw_I (as := []) W (z_gate W.1)
  refine ⟨S2, A', ?_, W2, e2⟩
  rw [e_L_law_33_10]
  simp only [W.o, o1, c1, c2, lg_self, xob_some, cond_true, if_true]
theorem lw_c11 (W : xLw P b L xs x S A) (hL : L ≤ 3072) {i : Nat} (hi : i + 5 < L) : ∃ S2 A', xrun P m_L_law 33 [(0, .ref b), (1, .ref x), (2, .ref (x + 89)), (3, .int (iI (i : Int)))] [.int (iI 11)] S = xrun P m_L_law 2643 [(0, .ref b), (1, .ref x), (2, .ref (x + 89)), (3, .int (iI (i : Int)))] [] S2 ∧ xLw P b L xs x S2 A' ∧ S2.2 = S.2 := by
  obtain ⟨v, S1, S2, A', c1, B1, o1, c2, W2, e2⟩ := lw_I (as := []) W (z_mirror W.1)
  refine ⟨S2, A', ?_, W2, e2⟩
  rw [e_L_law_33_11]
  simp only [W.o, o1, c1, c2, lg_self, xob_some, cond_true, if_true]
theorem lw_c12 (W : xLw P b L xs x S A) (hL : L ≤ 3072) {i : Nat} (hi : i + 5 < L) : ∃ S2 A', xrun P m_L_law 33 [(0, .ref b), (1, .ref x), (2, .ref (x + 89)), (3, .int (iI (i : Int)))] [.int (iI 12)] S = xrun P m_L_law 2643 [(0, .ref b), (1, .ref x), (2, .ref (x + 89)), (3, .int (iI (i : Int)))] [] S2 ∧ xLw P b L xs x S2 A' ∧ S2.2 = S.2 := by
  obtain ⟨a1, ha1, l1, u1⟩ := iI_of (xs (i + 1))
  obtain ⟨v, S1, S2, A', c1, B1, o1, c2, W2, e2⟩ := lw_I (as := [.int (iI a1)]) W (z_keep W.1 l1 u1)
  refine ⟨S2, A', ?_, W2, e2⟩
  have r1 : xrdI S b (iI (i : Int) + iI 1) = some (xs (i + 1)) := W.2.2.rd hL (k := 1) (by omega)
  have q1 : xrdI S1 b (iI (i : Int) + iI 1) = some (xs (i + 1)) := B1.rd hL (k := 1) (by omega)
  rw [e_L_law_33_12]
  simp only [r1, q1, ha1, W.o, o1, c1, c2, lg_self, xob_some, cond_true, if_true]
theorem lw_c13 (W : xLw P b L xs x S A) (hL : L ≤ 3072) {i : Nat} (hi : i + 5 < L) : ∃ S2 A', xrun P m_L_law 33 [(0, .ref b), (1, .ref x), (2, .ref (x + 89)), (3, .int (iI (i : Int)))] [.int (iI 13)] S = xrun P m_L_law 2643 [(0, .ref b), (1, .ref x), (2, .ref (x + 89)), (3, .int (iI (i : Int)))] [] S2 ∧ xLw P b L xs x S2 A' ∧ S2.2 = S.2 := by
  obtain ⟨a1, ha1, l1, u1⟩ := iI_of (xs (i + 1))
  obtain ⟨v, S1, S2, A', c1, B1, o1, c2, W2, e2⟩ := lw_I (as := [.int (iI a1)]) W (z_take W.1 l1 u1)
  refine ⟨S2, A', ?_, W2, e2⟩
  have r1 : xrdI S b (iI (i : Int) + iI 1) = some (xs (i + 1)) := W.2.2.rd hL (k := 1) (by omega)
  have q1 : xrdI S1 b (iI (i : Int) + iI 1) = some (xs (i + 1)) := B1.rd hL (k := 1) (by omega)
  rw [e_L_law_33_13]
  simp only [r1, q1, ha1, W.o, o1, c1, c2, lg_self, xob_some, cond_true, if_true]
theorem lw_c14 (W : xLw P b L xs x S A) (hL : L ≤ 3072) {i : Nat} (hi : i + 5 < L) : ∃ S2 A', xrun P m_L_law 33 [(0, .ref b), (1, .ref x), (2, .ref (x + 89)), (3, .int (iI (i : Int)))] [.int (iI 14)] S = xrun P m_L_law 2643 [(0, .ref b), (1, .ref x), (2, .ref (x + 89)), (3, .int (iI (i : Int)))] [] S2 ∧ xLw P b L xs x S2 A' ∧ S2.2 = S.2 := by
  obtain ⟨a1, ha1, l1, u1⟩ := iI_of (xs (i + 1))
  obtain ⟨a2, ha2, l2, u2⟩ := iI_of (xs (i + 2))
  obtain ⟨v, S1, S2, A', c1, B1, o1, c2, W2, e2⟩ := lw_I (as := [.int (iI a1), .int (iI a2)]) W (z_swap W.1 l1 u1 l2 u2)
  refine ⟨S2, A', ?_, W2, e2⟩
  have r1 : xrdI S b (iI (i : Int) + iI 1) = some (xs (i + 1)) := W.2.2.rd hL (k := 1) (by omega)
  have q1 : xrdI S1 b (iI (i : Int) + iI 1) = some (xs (i + 1)) := B1.rd hL (k := 1) (by omega)
  have r2 : xrdI S b (iI (i : Int) + iI 2) = some (xs (i + 2)) := W.2.2.rd hL (k := 2) (by omega)
  have q2 : xrdI S1 b (iI (i : Int) + iI 2) = some (xs (i + 2)) := B1.rd hL (k := 2) (by omega)
  rw [e_L_law_33_14]
  simp only [r1, q1, r2, q2, ha1, ha2, W.o, o1, c1, c2, lg_self, xob_some, cond_true, if_true]
theorem lw_c15 (W : xLw P b L xs x S A) (hL : L ≤ 3072) {i : Nat} (hi : i + 5 < L) : ∃ S2 A', xrun P m_L_law 33 [(0, .ref b), (1, .ref x), (2, .ref (x + 89)), (3, .int (iI (i : Int)))] [.int (iI 15)] S = xrun P m_L_law 2643 [(0, .ref b), (1, .ref x), (2, .ref (x + 89)), (3, .int (iI (i : Int)))] [] S2 ∧ xLw P b L xs x S2 A' ∧ S2.2 = S.2 := by
  obtain ⟨v, S1, S2, A', c1, B1, o1, c2, W2, e2⟩ := lw_I (as := []) W (z_undo W.1)
  refine ⟨S2, A', ?_, W2, e2⟩
  rw [e_L_law_33_15]
  simp only [W.o, o1, c1, c2, lg_self, xob_some, cond_true, if_true]
theorem lw_c16 (W : xLw P b L xs x S A) (hL : L ≤ 3072) {i : Nat} (hi : i + 5 < L) : ∃ S2 A', xrun P m_L_law 33 [(0, .ref b), (1, .ref x), (2, .ref (x + 89)), (3, .int (iI (i : Int)))] [.int (iI 16)] S = xrun P m_L_law 2643 [(0, .ref b), (1, .ref x), (2, .ref (x + 89)), (3, .int (iI (i : Int)))] [] S2 ∧ xLw P b L xs x S2 A' ∧ S2.2 = S.2 := by
  obtain ⟨a1, ha1, l1, u1⟩ := iI_of (xs (i + 1))
  obtain ⟨a2, ha2, l2, u2⟩ := iI_of (xs (i + 2))
  obtain ⟨a3, ha3, l3, u3⟩ := iI_of (xs (i + 3))
  by_cases hb4 : xs (i + 4) = 0
  · obtain ⟨v, S1, S2, A', c1, B1, o1, c2, W2, e2⟩ := lw_I (as := [.int (iI a1), .int (iI a2), .int (iI a3), .int (iI 0)]) W (z_place W.1 l1 u1 l2 u2 l3 u3 false)
    refine ⟨S2, A', ?_, W2, e2⟩
    have r1 : xrdI S b (iI (i : Int) + iI 1) = some (xs (i + 1)) := W.2.2.rd hL (k := 1) (by omega)
    have q1 : xrdI S1 b (iI (i : Int) + iI 1) = some (xs (i + 1)) := B1.rd hL (k := 1) (by omega)
    have r2 : xrdI S b (iI (i : Int) + iI 2) = some (xs (i + 2)) := W.2.2.rd hL (k := 2) (by omega)
    have q2 : xrdI S1 b (iI (i : Int) + iI 2) = some (xs (i + 2)) := B1.rd hL (k := 2) (by omega)
    have r3 : xrdI S b (iI (i : Int) + iI 3) = some (xs (i + 3)) := W.2.2.rd hL (k := 3) (by omega)
    have q3 : xrdI S1 b (iI (i : Int) + iI 3) = some (xs (i + 3)) := B1.rd hL (k := 3) (by omega)
    have r4 : xrdI S b (iI (i : Int) + iI 4) = some (xs (i + 4)) := W.2.2.rd hL (k := 4) (by omega)
    have q4 : xrdI S1 b (iI (i : Int) + iI 4) = some (xs (i + 4)) := B1.rd hL (k := 4) (by omega)
    rw [e_L_law_33_16]
    simp only [e_L_law_741, e_L_law_773, r1, q1, r2, q2, r3, q3, r4, q4, ha1, ha2, ha3, if_pos hb4, W.o, o1, c1, c2, lg_self, xob_some, cond_true, if_true]
  · obtain ⟨v, S1, S2, A', c1, B1, o1, c2, W2, e2⟩ := lw_I (as := [.int (iI a1), .int (iI a2), .int (iI a3), .int (iI 1)]) W (z_place W.1 l1 u1 l2 u2 l3 u3 true)
    refine ⟨S2, A', ?_, W2, e2⟩
    have r1 : xrdI S b (iI (i : Int) + iI 1) = some (xs (i + 1)) := W.2.2.rd hL (k := 1) (by omega)
    have q1 : xrdI S1 b (iI (i : Int) + iI 1) = some (xs (i + 1)) := B1.rd hL (k := 1) (by omega)
    have r2 : xrdI S b (iI (i : Int) + iI 2) = some (xs (i + 2)) := W.2.2.rd hL (k := 2) (by omega)
    have q2 : xrdI S1 b (iI (i : Int) + iI 2) = some (xs (i + 2)) := B1.rd hL (k := 2) (by omega)
    have r3 : xrdI S b (iI (i : Int) + iI 3) = some (xs (i + 3)) := W.2.2.rd hL (k := 3) (by omega)
    have q3 : xrdI S1 b (iI (i : Int) + iI 3) = some (xs (i + 3)) := B1.rd hL (k := 3) (by omega)
    have r4 : xrdI S b (iI (i : Int) + iI 4) = some (xs (i + 4)) := W.2.2.rd hL (k := 4) (by omega)
    have q4 : xrdI S1 b (iI (i : Int) + iI 4) = some (xs (i + 4)) := B1.rd hL (k := 4) (by omega)
    rw [e_L_law_33_16]
    simp only [e_L_law_741, e_L_law_773, r1, q1, r2, q2, r3, q3, r4, q4, ha1, ha2, ha3, if_neg hb4, W.o, o1, c1, c2, lg_self, xob_some, cond_true, if_true]
theorem lw_c17 (W : xLw P b L xs x S A) (hL : L ≤ 3072) {i : Nat} (hi : i + 5 < L) : ∃ S2 A', xrun P m_L_law 33 [(0, .ref b), (1, .ref x), (2, .ref (x + 89)), (3, .int (iI (i : Int)))] [.int (iI 17)] S = xrun P m_L_law 2643 [(0, .ref b), (1, .ref x), (2, .ref (x + 89)), (3, .int (iI (i : Int)))] [] S2 ∧ xLw P b L xs x S2 A' ∧ S2.2 = S.2 := by
  obtain ⟨a1, ha1, l1, u1⟩ := iI_of (xs (i + 1))
  obtain ⟨a2, ha2, l2, u2⟩ := iI_of (xs (i + 2))
  obtain ⟨a3, ha3, l3, u3⟩ := iI_of (xs (i + 3))
  obtain ⟨a4, ha4, l4, u4⟩ := iI_of (xs (i + 4))
  by_cases hb5 : xs (i + 5) = 0
  · obtain ⟨v, S1, S2, A', c1, B1, o1, c2, W2, e2⟩ := lw_I (as := [.int (iI a1), .int (iI a2), .int (iI a3), .int (iI a4), .int (iI 0)]) W (z_apart W.1 l1 u1 l2 u2 l3 u3 l4 u4 false)
    refine ⟨S2, A', ?_, W2, e2⟩
    have r1 : xrdI S b (iI (i : Int) + iI 1) = some (xs (i + 1)) := W.2.2.rd hL (k := 1) (by omega)
    have q1 : xrdI S1 b (iI (i : Int) + iI 1) = some (xs (i + 1)) := B1.rd hL (k := 1) (by omega)
    have r2 : xrdI S b (iI (i : Int) + iI 2) = some (xs (i + 2)) := W.2.2.rd hL (k := 2) (by omega)
    have q2 : xrdI S1 b (iI (i : Int) + iI 2) = some (xs (i + 2)) := B1.rd hL (k := 2) (by omega)
    have r3 : xrdI S b (iI (i : Int) + iI 3) = some (xs (i + 3)) := W.2.2.rd hL (k := 3) (by omega)
    have q3 : xrdI S1 b (iI (i : Int) + iI 3) = some (xs (i + 3)) := B1.rd hL (k := 3) (by omega)
    have r4 : xrdI S b (iI (i : Int) + iI 4) = some (xs (i + 4)) := W.2.2.rd hL (k := 4) (by omega)
    have q4 : xrdI S1 b (iI (i : Int) + iI 4) = some (xs (i + 4)) := B1.rd hL (k := 4) (by omega)
    have r5 : xrdI S b (iI (i : Int) + iI 5) = some (xs (i + 5)) := W.2.2.rd hL (k := 5) (by omega)
    have q5 : xrdI S1 b (iI (i : Int) + iI 5) = some (xs (i + 5)) := B1.rd hL (k := 5) (by omega)
    rw [e_L_law_33_17]
    simp only [e_L_law_815, e_L_law_852, r1, q1, r2, q2, r3, q3, r4, q4, r5, q5, ha1, ha2, ha3, ha4, if_pos hb5, W.o, o1, c1, c2, lg_self, xob_some, cond_true, if_true]
  · obtain ⟨v, S1, S2, A', c1, B1, o1, c2, W2, e2⟩ := lw_I (as := [.int (iI a1), .int (iI a2), .int (iI a3), .int (iI a4), .int (iI 1)]) W (z_apart W.1 l1 u1 l2 u2 l3 u3 l4 u4 true)
    refine ⟨S2, A', ?_, W2, e2⟩
    have r1 : xrdI S b (iI (i : Int) + iI 1) = some (xs (i + 1)) := W.2.2.rd hL (k := 1) (by omega)
    have q1 : xrdI S1 b (iI (i : Int) + iI 1) = some (xs (i + 1)) := B1.rd hL (k := 1) (by omega)
    have r2 : xrdI S b (iI (i : Int) + iI 2) = some (xs (i + 2)) := W.2.2.rd hL (k := 2) (by omega)
    have q2 : xrdI S1 b (iI (i : Int) + iI 2) = some (xs (i + 2)) := B1.rd hL (k := 2) (by omega)
    have r3 : xrdI S b (iI (i : Int) + iI 3) = some (xs (i + 3)) := W.2.2.rd hL (k := 3) (by omega)
    have q3 : xrdI S1 b (iI (i : Int) + iI 3) = some (xs (i + 3)) := B1.rd hL (k := 3) (by omega)
    have r4 : xrdI S b (iI (i : Int) + iI 4) = some (xs (i + 4)) := W.2.2.rd hL (k := 4) (by omega)
    have q4 : xrdI S1 b (iI (i : Int) + iI 4) = some (xs (i + 4)) := B1.rd hL (k := 4) (by omega)
    have r5 : xrdI S b (iI (i : Int) + iI 5) = some (xs (i + 5)) := W.2.2.rd hL (k := 5) (by omega)
    have q5 : xrdI S1 b (iI (i : Int) + iI 5) = some (xs (i + 5)) := B1.rd hL (k := 5) (by omega)
    rw [e_L_law_33_17]
    simp only [e_L_law_815, e_L_law_852, r1, q1, r2, q2, r3, q3, r4, q4, r5, q5, ha1, ha2, ha3, ha4, if_neg hb5, W.o, o1, c1, c2, lg_self, xob_some, cond_true, if_true]
theorem lw_c18 (W : xLw P b L xs x S A) (hL : L ≤ 3072) {i : Nat} (hi : i + 5 < L) : ∃ S2 A', xrun P m_L_law 33 [(0, .ref b), (1, .ref x), (2, .ref (x + 89)), (3, .int (iI (i : Int)))] [.int (iI 18)] S = xrun P m_L_law 2643 [(0, .ref b), (1, .ref x), (2, .ref (x + 89)), (3, .int (iI (i : Int)))] [] S2 ∧ xLw P b L xs x S2 A' ∧ S2.2 = S.2 := by
  obtain ⟨a1, ha1, l1, u1⟩ := iI_of (xs (i + 1))
  obtain ⟨a2, ha2, l2, u2⟩ := iI_of (xs (i + 2))
  obtain ⟨a3, ha3, l3, u3⟩ := iI_of (xs (i + 3))
  by_cases hb4 : xs (i + 4) = 0
  · obtain ⟨v, S1, S2, A', c1, B1, o1, c2, W2, e2⟩ := lw_I (as := [.int (iI a1), .int (iI a2), .int (iI a3), .int (iI 0)]) W (z_nearest W.1 l1 u1 l2 u2 l3 u3 false)
    refine ⟨S2, A', ?_, W2, e2⟩
    have r1 : xrdI S b (iI (i : Int) + iI 1) = some (xs (i + 1)) := W.2.2.rd hL (k := 1) (by omega)
    have q1 : xrdI S1 b (iI (i : Int) + iI 1) = some (xs (i + 1)) := B1.rd hL (k := 1) (by omega)
    have r2 : xrdI S b (iI (i : Int) + iI 2) = some (xs (i + 2)) := W.2.2.rd hL (k := 2) (by omega)
    have q2 : xrdI S1 b (iI (i : Int) + iI 2) = some (xs (i + 2)) := B1.rd hL (k := 2) (by omega)
    have r3 : xrdI S b (iI (i : Int) + iI 3) = some (xs (i + 3)) := W.2.2.rd hL (k := 3) (by omega)
    have q3 : xrdI S1 b (iI (i : Int) + iI 3) = some (xs (i + 3)) := B1.rd hL (k := 3) (by omega)
    have r4 : xrdI S b (iI (i : Int) + iI 4) = some (xs (i + 4)) := W.2.2.rd hL (k := 4) (by omega)
    have q4 : xrdI S1 b (iI (i : Int) + iI 4) = some (xs (i + 4)) := B1.rd hL (k := 4) (by omega)
    rw [e_L_law_33_18]
    simp only [e_L_law_889, e_L_law_921, r1, q1, r2, q2, r3, q3, r4, q4, ha1, ha2, ha3, if_pos hb4, W.o, o1, c1, c2, lg_self, xob_some, cond_true, if_true]
  · obtain ⟨v, S1, S2, A', c1, B1, o1, c2, W2, e2⟩ := lw_I (as := [.int (iI a1), .int (iI a2), .int (iI a3), .int (iI 1)]) W (z_nearest W.1 l1 u1 l2 u2 l3 u3 true)
    refine ⟨S2, A', ?_, W2, e2⟩
    have r1 : xrdI S b (iI (i : Int) + iI 1) = some (xs (i + 1)) := W.2.2.rd hL (k := 1) (by omega)
    have q1 : xrdI S1 b (iI (i : Int) + iI 1) = some (xs (i + 1)) := B1.rd hL (k := 1) (by omega)
    have r2 : xrdI S b (iI (i : Int) + iI 2) = some (xs (i + 2)) := W.2.2.rd hL (k := 2) (by omega)
    have q2 : xrdI S1 b (iI (i : Int) + iI 2) = some (xs (i + 2)) := B1.rd hL (k := 2) (by omega)
    have r3 : xrdI S b (iI (i : Int) + iI 3) = some (xs (i + 3)) := W.2.2.rd hL (k := 3) (by omega)
    have q3 : xrdI S1 b (iI (i : Int) + iI 3) = some (xs (i + 3)) := B1.rd hL (k := 3) (by omega)
    have r4 : xrdI S b (iI (i : Int) + iI 4) = some (xs (i + 4)) := W.2.2.rd hL (k := 4) (by omega)
    have q4 : xrdI S1 b (iI (i : Int) + iI 4) = some (xs (i + 4)) := B1.rd hL (k := 4) (by omega)
    rw [e_L_law_33_18]
    simp only [e_L_law_889, e_L_law_921, r1, q1, r2, q2, r3, q3, r4, q4, ha1, ha2, ha3, if_neg hb4, W.o, o1, c1, c2, lg_self, xob_some, cond_true, if_true]
theorem lw_c19 (W : xLw P b L xs x S A) (hL : L ≤ 3072) {i : Nat} (hi : i + 5 < L) : ∃ S2 A', xrun P m_L_law 33 [(0, .ref b), (1, .ref x), (2, .ref (x + 89)), (3, .int (iI (i : Int)))] [.int (iI 19)] S = xrun P m_L_law 2643 [(0, .ref b), (1, .ref x), (2, .ref (x + 89)), (3, .int (iI (i : Int)))] [] S2 ∧ xLw P b L xs x S2 A' ∧ S2.2 = S.2 := by
  obtain ⟨a1, ha1, l1, u1⟩ := iI_of (xs (i + 1))
  obtain ⟨a2, ha2, l2, u2⟩ := iI_of (xs (i + 2))
  obtain ⟨v, S1, S2, A', c1, B1, o1, c2, W2, e2⟩ := lw_I (as := [.int (iI a1), .int (iI a2)]) W (z_lonely W.1 l1 u1 l2 u2)
  refine ⟨S2, A', ?_, W2, e2⟩
  have r1 : xrdI S b (iI (i : Int) + iI 1) = some (xs (i + 1)) := W.2.2.rd hL (k := 1) (by omega)
  have q1 : xrdI S1 b (iI (i : Int) + iI 1) = some (xs (i + 1)) := B1.rd hL (k := 1) (by omega)
  have r2 : xrdI S b (iI (i : Int) + iI 2) = some (xs (i + 2)) := W.2.2.rd hL (k := 2) (by omega)
  have q2 : xrdI S1 b (iI (i : Int) + iI 2) = some (xs (i + 2)) := B1.rd hL (k := 2) (by omega)
  rw [e_L_law_33_19]
  simp only [r1, q1, r2, q2, ha1, ha2, W.o, o1, c1, c2, lg_self, xob_some, cond_true, if_true]
theorem lw_c20 (W : xLw P b L xs x S A) (hL : L ≤ 3072) {i : Nat} (hi : i + 5 < L) : ∃ S2 A', xrun P m_L_law 33 [(0, .ref b), (1, .ref x), (2, .ref (x + 89)), (3, .int (iI (i : Int)))] [.int (iI 20)] S = xrun P m_L_law 2643 [(0, .ref b), (1, .ref x), (2, .ref (x + 89)), (3, .int (iI (i : Int)))] [] S2 ∧ xLw P b L xs x S2 A' ∧ S2.2 = S.2 := by
  obtain ⟨a1, ha1, l1, u1⟩ := iI_of (xs (i + 1))
  obtain ⟨a2, ha2, l2, u2⟩ := iI_of (xs (i + 2))
  by_cases hb3 : xs (i + 3) = 0
  · obtain ⟨v, S1, S2, A', c1, B1, o1, c2, W2, e2⟩ := lw_I (as := [.int (iI a1), .int (iI a2), .int (iI 0)]) W (z_hole W.1 l1 u1 l2 u2 false)
    refine ⟨S2, A', ?_, W2, e2⟩
    have r1 : xrdI S b (iI (i : Int) + iI 1) = some (xs (i + 1)) := W.2.2.rd hL (k := 1) (by omega)
    have q1 : xrdI S1 b (iI (i : Int) + iI 1) = some (xs (i + 1)) := B1.rd hL (k := 1) (by omega)
    have r2 : xrdI S b (iI (i : Int) + iI 2) = some (xs (i + 2)) := W.2.2.rd hL (k := 2) (by omega)
    have q2 : xrdI S1 b (iI (i : Int) + iI 2) = some (xs (i + 2)) := B1.rd hL (k := 2) (by omega)
    have r3 : xrdI S b (iI (i : Int) + iI 3) = some (xs (i + 3)) := W.2.2.rd hL (k := 3) (by omega)
    have q3 : xrdI S1 b (iI (i : Int) + iI 3) = some (xs (i + 3)) := B1.rd hL (k := 3) (by omega)
    rw [e_L_law_33_20]
    simp only [e_L_law_986, e_L_law_1013, r1, q1, r2, q2, r3, q3, ha1, ha2, if_pos hb3, W.o, o1, c1, c2, lg_self, xob_some, cond_true, if_true]
  · obtain ⟨v, S1, S2, A', c1, B1, o1, c2, W2, e2⟩ := lw_I (as := [.int (iI a1), .int (iI a2), .int (iI 1)]) W (z_hole W.1 l1 u1 l2 u2 true)
    refine ⟨S2, A', ?_, W2, e2⟩
    have r1 : xrdI S b (iI (i : Int) + iI 1) = some (xs (i + 1)) := W.2.2.rd hL (k := 1) (by omega)
    have q1 : xrdI S1 b (iI (i : Int) + iI 1) = some (xs (i + 1)) := B1.rd hL (k := 1) (by omega)
    have r2 : xrdI S b (iI (i : Int) + iI 2) = some (xs (i + 2)) := W.2.2.rd hL (k := 2) (by omega)
    have q2 : xrdI S1 b (iI (i : Int) + iI 2) = some (xs (i + 2)) := B1.rd hL (k := 2) (by omega)
    have r3 : xrdI S b (iI (i : Int) + iI 3) = some (xs (i + 3)) := W.2.2.rd hL (k := 3) (by omega)
    have q3 : xrdI S1 b (iI (i : Int) + iI 3) = some (xs (i + 3)) := B1.rd hL (k := 3) (by omega)
    rw [e_L_law_33_20]
    simp only [e_L_law_986, e_L_law_1013, r1, q1, r2, q2, r3, q3, ha1, ha2, if_neg hb3, W.o, o1, c1, c2, lg_self, xob_some, cond_true, if_true]
theorem lw_c21 (W : xLw P b L xs x S A) (hL : L ≤ 3072) {i : Nat} (hi : i + 5 < L) : ∃ S2 A', xrun P m_L_law 33 [(0, .ref b), (1, .ref x), (2, .ref (x + 89)), (3, .int (iI (i : Int)))] [.int (iI 21)] S = xrun P m_L_law 2643 [(0, .ref b), (1, .ref x), (2, .ref (x + 89)), (3, .int (iI (i : Int)))] [] S2 ∧ xLw P b L xs x S2 A' ∧ S2.2 = S.2 := by
  obtain ⟨a1, ha1, l1, u1⟩ := iI_of (xs (i + 1))
  obtain ⟨a2, ha2, l2, u2⟩ := iI_of (xs (i + 2))
  obtain ⟨v, S1, S2, A', c1, B1, o1, c2, W2, e2⟩ := lw_I (as := [.int (iI a1), .int (iI a2)]) W (z_alone W.1 l1 u1 l2 u2)
  refine ⟨S2, A', ?_, W2, e2⟩
  have r1 : xrdI S b (iI (i : Int) + iI 1) = some (xs (i + 1)) := W.2.2.rd hL (k := 1) (by omega)
  have q1 : xrdI S1 b (iI (i : Int) + iI 1) = some (xs (i + 1)) := B1.rd hL (k := 1) (by omega)
  have r2 : xrdI S b (iI (i : Int) + iI 2) = some (xs (i + 2)) := W.2.2.rd hL (k := 2) (by omega)
  have q2 : xrdI S1 b (iI (i : Int) + iI 2) = some (xs (i + 2)) := B1.rd hL (k := 2) (by omega)
  rw [e_L_law_33_21]
  simp only [r1, q1, r2, q2, ha1, ha2, W.o, o1, c1, c2, lg_self, xob_some, cond_true, if_true]
theorem lw_c22 (W : xLw P b L xs x S A) (hL : L ≤ 3072) {i : Nat} (hi : i + 5 < L) : ∃ S2 A', xrun P m_L_law 33 [(0, .ref b), (1, .ref x), (2, .ref (x + 89)), (3, .int (iI (i : Int)))] [.int (iI 22)] S = xrun P m_L_law 2643 [(0, .ref b), (1, .ref x), (2, .ref (x + 89)), (3, .int (iI (i : Int)))] [] S2 ∧ xLw P b L xs x S2 A' ∧ S2.2 = S.2 := by
  obtain ⟨a1, ha1, l1, u1⟩ := iI_of (xs (i + 1))
  obtain ⟨a2, ha2, l2, u2⟩ := iI_of (xs (i + 2))
  obtain ⟨v, S1, S2, A', c1, B1, o1, c2, W2, e2⟩ := lw_I (as := [.int (iI a1), .int (iI a2)]) W (z_crowd W.1 l1 u1 l2 u2)
  refine ⟨S2, A', ?_, W2, e2⟩
  have r1 : xrdI S b (iI (i : Int) + iI 1) = some (xs (i + 1)) := W.2.2.rd hL (k := 1) (by omega)
  have q1 : xrdI S1 b (iI (i : Int) + iI 1) = some (xs (i + 1)) := B1.rd hL (k := 1) (by omega)
  have r2 : xrdI S b (iI (i : Int) + iI 2) = some (xs (i + 2)) := W.2.2.rd hL (k := 2) (by omega)
  have q2 : xrdI S1 b (iI (i : Int) + iI 2) = some (xs (i + 2)) := B1.rd hL (k := 2) (by omega)
  rw [e_L_law_33_22]
  simp only [r1, q1, r2, q2, ha1, ha2, W.o, o1, c1, c2, lg_self, xob_some, cond_true, if_true]
theorem lw_c23 (W : xLw P b L xs x S A) (hL : L ≤ 3072) {i : Nat} (hi : i + 5 < L) : ∃ S2 A', xrun P m_L_law 33 [(0, .ref b), (1, .ref x), (2, .ref (x + 89)), (3, .int (iI (i : Int)))] [.int (iI 23)] S = xrun P m_L_law 2643 [(0, .ref b), (1, .ref x), (2, .ref (x + 89)), (3, .int (iI (i : Int)))] [] S2 ∧ xLw P b L xs x S2 A' ∧ S2.2 = S.2 := by
  obtain ⟨a1, ha1, l1, u1⟩ := iI_of (xs (i + 1))
  obtain ⟨a2, ha2, l2, u2⟩ := iI_of (xs (i + 2))
  obtain ⟨a3, ha3, l3, u3⟩ := iI_of (xs (i + 3))
  obtain ⟨v, S1, S2, A', c1, B1, o1, c2, W2, e2⟩ := lw_I (as := [.int (iI a1), .int (iI a2), .int (iI a3)]) W (z_ranked W.1 l1 u1 l2 u2 l3 u3)
  refine ⟨S2, A', ?_, W2, e2⟩
  have r1 : xrdI S b (iI (i : Int) + iI 1) = some (xs (i + 1)) := W.2.2.rd hL (k := 1) (by omega)
  have q1 : xrdI S1 b (iI (i : Int) + iI 1) = some (xs (i + 1)) := B1.rd hL (k := 1) (by omega)
  have r2 : xrdI S b (iI (i : Int) + iI 2) = some (xs (i + 2)) := W.2.2.rd hL (k := 2) (by omega)
  have q2 : xrdI S1 b (iI (i : Int) + iI 2) = some (xs (i + 2)) := B1.rd hL (k := 2) (by omega)
  have r3 : xrdI S b (iI (i : Int) + iI 3) = some (xs (i + 3)) := W.2.2.rd hL (k := 3) (by omega)
  have q3 : xrdI S1 b (iI (i : Int) + iI 3) = some (xs (i + 3)) := B1.rd hL (k := 3) (by omega)
  rw [e_L_law_33_23]
  simp only [r1, q1, r2, q2, r3, q3, ha1, ha2, ha3, W.o, o1, c1, c2, lg_self, xob_some, cond_true, if_true]
theorem lw_c24 (W : xLw P b L xs x S A) (hL : L ≤ 3072) {i : Nat} (hi : i + 5 < L) : ∃ S2 A', xrun P m_L_law 33 [(0, .ref b), (1, .ref x), (2, .ref (x + 89)), (3, .int (iI (i : Int)))] [.int (iI 24)] S = xrun P m_L_law 2643 [(0, .ref b), (1, .ref x), (2, .ref (x + 89)), (3, .int (iI (i : Int)))] [] S2 ∧ xLw P b L xs x S2 A' ∧ S2.2 = S.2 := by
  obtain ⟨a1, ha1, l1, u1⟩ := iI_of (xs (i + 1))
  obtain ⟨a2, ha2, l2, u2⟩ := iI_of (xs (i + 2))
  obtain ⟨a3, ha3, l3, u3⟩ := iI_of (xs (i + 3))
  obtain ⟨v, S1, S2, A', c1, B1, o1, c2, W2, e2⟩ := lw_I (as := [.int (iI a1), .int (iI a2), .int (iI a3)]) W (z_laps W.1 l1 u1 l2 u2 l3 u3)
  refine ⟨S2, A', ?_, W2, e2⟩
  have r1 : xrdI S b (iI (i : Int) + iI 1) = some (xs (i + 1)) := W.2.2.rd hL (k := 1) (by omega)
  have q1 : xrdI S1 b (iI (i : Int) + iI 1) = some (xs (i + 1)) := B1.rd hL (k := 1) (by omega)
  have r2 : xrdI S b (iI (i : Int) + iI 2) = some (xs (i + 2)) := W.2.2.rd hL (k := 2) (by omega)
  have q2 : xrdI S1 b (iI (i : Int) + iI 2) = some (xs (i + 2)) := B1.rd hL (k := 2) (by omega)
  have r3 : xrdI S b (iI (i : Int) + iI 3) = some (xs (i + 3)) := W.2.2.rd hL (k := 3) (by omega)
  have q3 : xrdI S1 b (iI (i : Int) + iI 3) = some (xs (i + 3)) := B1.rd hL (k := 3) (by omega)
  rw [e_L_law_33_24]
  simp only [r1, q1, r2, q2, r3, q3, ha1, ha2, ha3, W.o, o1, c1, c2, lg_self, xob_some, cond_true, if_true]
theorem lw_c25 (W : xLw P b L xs x S A) (hL : L ≤ 3072) {i : Nat} (hi : i + 5 < L) : ∃ S2 A', xrun P m_L_law 33 [(0, .ref b), (1, .ref x), (2, .ref (x + 89)), (3, .int (iI (i : Int)))] [.int (iI 25)] S = xrun P m_L_law 2643 [(0, .ref b), (1, .ref x), (2, .ref (x + 89)), (3, .int (iI (i : Int)))] [] S2 ∧ xLw P b L xs x S2 A' ∧ S2.2 = S.2 := by
  obtain ⟨a1, ha1, l1, u1⟩ := iI_of (xs (i + 1))
  obtain ⟨a2, ha2, l2, u2⟩ := iI_of (xs (i + 2))
  obtain ⟨a3, ha3, l3, u3⟩ := iI_of (xs (i + 3))
  obtain ⟨v, S1, S2, A', c1, B1, o1, c2, W2, e2⟩ := lw_I (as := [.int (iI a1), .int (iI a2), .int (iI a3)]) W (z_closest W.1 l1 u1 l2 u2 l3 u3)
  refine ⟨S2, A', ?_, W2, e2⟩
  have r1 : xrdI S b (iI (i : Int) + iI 1) = some (xs (i + 1)) := W.2.2.rd hL (k := 1) (by omega)
  have q1 : xrdI S1 b (iI (i : Int) + iI 1) = some (xs (i + 1)) := B1.rd hL (k := 1) (by omega)
  have r2 : xrdI S b (iI (i : Int) + iI 2) = some (xs (i + 2)) := W.2.2.rd hL (k := 2) (by omega)
  have q2 : xrdI S1 b (iI (i : Int) + iI 2) = some (xs (i + 2)) := B1.rd hL (k := 2) (by omega)
  have r3 : xrdI S b (iI (i : Int) + iI 3) = some (xs (i + 3)) := W.2.2.rd hL (k := 3) (by omega)
  have q3 : xrdI S1 b (iI (i : Int) + iI 3) = some (xs (i + 3)) := B1.rd hL (k := 3) (by omega)
  rw [e_L_law_33_25]
  simp only [r1, q1, r2, q2, r3, q3, ha1, ha2, ha3, W.o, o1, c1, c2, lg_self, xob_some, cond_true, if_true]
theorem lw_c26 (W : xLw P b L xs x S A) (hL : L ≤ 3072) {i : Nat} (hi : i + 5 < L) : ∃ S2 A', xrun P m_L_law 33 [(0, .ref b), (1, .ref x), (2, .ref (x + 89)), (3, .int (iI (i : Int)))] [.int (iI 26)] S = xrun P m_L_law 2643 [(0, .ref b), (1, .ref x), (2, .ref (x + 89)), (3, .int (iI (i : Int)))] [] S2 ∧ xLw P b L xs x S2 A' ∧ S2.2 = S.2 := by
  obtain ⟨a1, ha1, l1, u1⟩ := iI_of (xs (i + 1))
  obtain ⟨a2, ha2, l2, u2⟩ := iI_of (xs (i + 2))
  obtain ⟨a3, ha3, l3, u3⟩ := iI_of (xs (i + 3))
  by_cases hb4 : xs (i + 4) = 0
  · obtain ⟨v, S1, S2, A', c1, B1, o1, c2, W2, e2⟩ := lw_I (as := [.int (iI a1), .int (iI a2), .int (iI a3), .int (iI 0)]) W (z_between W.1 l1 u1 l2 u2 l3 u3 false)
    refine ⟨S2, A', ?_, W2, e2⟩
    have r1 : xrdI S b (iI (i : Int) + iI 1) = some (xs (i + 1)) := W.2.2.rd hL (k := 1) (by omega)
    have q1 : xrdI S1 b (iI (i : Int) + iI 1) = some (xs (i + 1)) := B1.rd hL (k := 1) (by omega)
    have r2 : xrdI S b (iI (i : Int) + iI 2) = some (xs (i + 2)) := W.2.2.rd hL (k := 2) (by omega)
    have q2 : xrdI S1 b (iI (i : Int) + iI 2) = some (xs (i + 2)) := B1.rd hL (k := 2) (by omega)
    have r3 : xrdI S b (iI (i : Int) + iI 3) = some (xs (i + 3)) := W.2.2.rd hL (k := 3) (by omega)
    have q3 : xrdI S1 b (iI (i : Int) + iI 3) = some (xs (i + 3)) := B1.rd hL (k := 3) (by omega)
    have r4 : xrdI S b (iI (i : Int) + iI 4) = some (xs (i + 4)) := W.2.2.rd hL (k := 4) (by omega)
    have q4 : xrdI S1 b (iI (i : Int) + iI 4) = some (xs (i + 4)) := B1.rd hL (k := 4) (by omega)
    rw [e_L_law_33_26]
    simp only [e_L_law_1245, e_L_law_1277, r1, q1, r2, q2, r3, q3, r4, q4, ha1, ha2, ha3, if_pos hb4, W.o, o1, c1, c2, lg_self, xob_some, cond_true, if_true]
  · obtain ⟨v, S1, S2, A', c1, B1, o1, c2, W2, e2⟩ := lw_I (as := [.int (iI a1), .int (iI a2), .int (iI a3), .int (iI 1)]) W (z_between W.1 l1 u1 l2 u2 l3 u3 true)
    refine ⟨S2, A', ?_, W2, e2⟩
    have r1 : xrdI S b (iI (i : Int) + iI 1) = some (xs (i + 1)) := W.2.2.rd hL (k := 1) (by omega)
    have q1 : xrdI S1 b (iI (i : Int) + iI 1) = some (xs (i + 1)) := B1.rd hL (k := 1) (by omega)
    have r2 : xrdI S b (iI (i : Int) + iI 2) = some (xs (i + 2)) := W.2.2.rd hL (k := 2) (by omega)
    have q2 : xrdI S1 b (iI (i : Int) + iI 2) = some (xs (i + 2)) := B1.rd hL (k := 2) (by omega)
    have r3 : xrdI S b (iI (i : Int) + iI 3) = some (xs (i + 3)) := W.2.2.rd hL (k := 3) (by omega)
    have q3 : xrdI S1 b (iI (i : Int) + iI 3) = some (xs (i + 3)) := B1.rd hL (k := 3) (by omega)
    have r4 : xrdI S b (iI (i : Int) + iI 4) = some (xs (i + 4)) := W.2.2.rd hL (k := 4) (by omega)
    have q4 : xrdI S1 b (iI (i : Int) + iI 4) = some (xs (i + 4)) := B1.rd hL (k := 4) (by omega)
    rw [e_L_law_33_26]
    simp only [e_L_law_1245, e_L_law_1277, r1, q1, r2, q2, r3, q3, r4, q4, ha1, ha2, ha3, if_neg hb4, W.o, o1, c1, c2, lg_self, xob_some, cond_true, if_true]
theorem lw_c27 (W : xLw P b L xs x S A) (hL : L ≤ 3072) {i : Nat} (hi : i + 5 < L) : ∃ S2 A', xrun P m_L_law 33 [(0, .ref b), (1, .ref x), (2, .ref (x + 89)), (3, .int (iI (i : Int)))] [.int (iI 27)] S = xrun P m_L_law 2643 [(0, .ref b), (1, .ref x), (2, .ref (x + 89)), (3, .int (iI (i : Int)))] [] S2 ∧ xLw P b L xs x S2 A' ∧ S2.2 = S.2 := by
  obtain ⟨a1, ha1, l1, u1⟩ := iI_of (xs (i + 1))
  obtain ⟨a2, ha2, l2, u2⟩ := iI_of (xs (i + 2))
  obtain ⟨a3, ha3, l3, u3⟩ := iI_of (xs (i + 3))
  obtain ⟨a4, ha4, l4, u4⟩ := iI_of (xs (i + 4))
  obtain ⟨v, S1, S2, A', c1, B1, o1, c2, W2, e2⟩ := lw_I (as := [.int (iI a1), .int (iI a2), .int (iI a3), .int (iI a4)]) W (z_passed W.1 l1 u1 l2 u2 l3 u3 l4 u4)
  refine ⟨S2, A', ?_, W2, e2⟩
  have r1 : xrdI S b (iI (i : Int) + iI 1) = some (xs (i + 1)) := W.2.2.rd hL (k := 1) (by omega)
  have q1 : xrdI S1 b (iI (i : Int) + iI 1) = some (xs (i + 1)) := B1.rd hL (k := 1) (by omega)
  have r2 : xrdI S b (iI (i : Int) + iI 2) = some (xs (i + 2)) := W.2.2.rd hL (k := 2) (by omega)
  have q2 : xrdI S1 b (iI (i : Int) + iI 2) = some (xs (i + 2)) := B1.rd hL (k := 2) (by omega)
  have r3 : xrdI S b (iI (i : Int) + iI 3) = some (xs (i + 3)) := W.2.2.rd hL (k := 3) (by omega)
  have q3 : xrdI S1 b (iI (i : Int) + iI 3) = some (xs (i + 3)) := B1.rd hL (k := 3) (by omega)
  have r4 : xrdI S b (iI (i : Int) + iI 4) = some (xs (i + 4)) := W.2.2.rd hL (k := 4) (by omega)
  have q4 : xrdI S1 b (iI (i : Int) + iI 4) = some (xs (i + 4)) := B1.rd hL (k := 4) (by omega)
  rw [e_L_law_33_27]
  simp only [r1, q1, r2, q2, r3, q3, r4, q4, ha1, ha2, ha3, ha4, W.o, o1, c1, c2, lg_self, xob_some, cond_true, if_true]
theorem lw_c28 (W : xLw P b L xs x S A) (hL : L ≤ 3072) {i : Nat} (hi : i + 5 < L) : ∃ S2 A', xrun P m_L_law 33 [(0, .ref b), (1, .ref x), (2, .ref (x + 89)), (3, .int (iI (i : Int)))] [.int (iI 28)] S = xrun P m_L_law 2643 [(0, .ref b), (1, .ref x), (2, .ref (x + 89)), (3, .int (iI (i : Int)))] [] S2 ∧ xLw P b L xs x S2 A' ∧ S2.2 = S.2 := by
  obtain ⟨a1, ha1, l1, u1⟩ := iI_of (xs (i + 1))
  obtain ⟨a2, ha2, l2, u2⟩ := iI_of (xs (i + 2))
  obtain ⟨v, S1, S2, A', c1, B1, o1, c2, W2, e2⟩ := lw_I (as := [.int (iI a1), .int (iI a2)]) W (z_best W.1 l1 u1 l2 u2)
  refine ⟨S2, A', ?_, W2, e2⟩
  have r1 : xrdI S b (iI (i : Int) + iI 1) = some (xs (i + 1)) := W.2.2.rd hL (k := 1) (by omega)
  have q1 : xrdI S1 b (iI (i : Int) + iI 1) = some (xs (i + 1)) := B1.rd hL (k := 1) (by omega)
  have r2 : xrdI S b (iI (i : Int) + iI 2) = some (xs (i + 2)) := W.2.2.rd hL (k := 2) (by omega)
  have q2 : xrdI S1 b (iI (i : Int) + iI 2) = some (xs (i + 2)) := B1.rd hL (k := 2) (by omega)
  rw [e_L_law_33_28]
  simp only [r1, q1, r2, q2, ha1, ha2, W.o, o1, c1, c2, lg_self, xob_some, cond_true, if_true]
end LW
section LX
variable {P : Nat → Nat} {b L : Nat} {xs : Nat → Int32} {x : Nat} {S T : xS} {A : xAb}
theorem lw_c29 (W : xLw P b L xs x S A) (hL : L ≤ 3072) {i : Nat} (hi : i + 5 < L) : ∃ S2 A', xrun P m_L_law 33 [(0, .ref b), (1, .ref x), (2, .ref (x + 89)), (3, .int (iI (i : Int)))] [.int (iI 29)] S = xrun P m_L_law 2643 [(0, .ref b), (1, .ref x), (2, .ref (x + 89)), (3, .int (iI (i : Int)))] [] S2 ∧ xLw P b L xs x S2 A' ∧ S2.2 = S.2 := by
  obtain ⟨a1, ha1, l1, u1⟩ := iI_of (xs (i + 1))
  obtain ⟨v, S1, S2, A', c1, B1, o1, c2, W2, e2⟩ := lw_I (as := [.int (iI a1)]) W (z_tight W.1 l1 u1)
  refine ⟨S2, A', ?_, W2, e2⟩
  have r1 : xrdI S b (iI (i : Int) + iI 1) = some (xs (i + 1)) := W.2.2.rd hL (k := 1) (by omega)
  have q1 : xrdI S1 b (iI (i : Int) + iI 1) = some (xs (i + 1)) := B1.rd hL (k := 1) (by omega)
  rw [e_L_law_33_29]
  simp only [r1, q1, ha1, W.o, o1, c1, c2, lg_self, xob_some, cond_true, if_true]
theorem lw_c30 (W : xLw P b L xs x S A) (hL : L ≤ 3072) {i : Nat} (hi : i + 5 < L) : ∃ S2 A', xrun P m_L_law 33 [(0, .ref b), (1, .ref x), (2, .ref (x + 89)), (3, .int (iI (i : Int)))] [.int (iI 30)] S = xrun P m_L_law 2643 [(0, .ref b), (1, .ref x), (2, .ref (x + 89)), (3, .int (iI (i : Int)))] [] S2 ∧ xLw P b L xs x S2 A' ∧ S2.2 = S.2 := by
  obtain ⟨v, S1, S2, A', c1, B1, o1, c2, W2, e2⟩ := lw_I (as := []) W (z_never W.1)
  refine ⟨S2, A', ?_, W2, e2⟩
  rw [e_L_law_33_30]
  simp only [W.o, o1, c1, c2, lg_self, xob_some, cond_true, if_true]
theorem lw_c31 (W : xLw P b L xs x S A) (hL : L ≤ 3072) {i : Nat} (hi : i + 5 < L) : ∃ S2 A', xrun P m_L_law 33 [(0, .ref b), (1, .ref x), (2, .ref (x + 89)), (3, .int (iI (i : Int)))] [.int (iI 31)] S = xrun P m_L_law 2643 [(0, .ref b), (1, .ref x), (2, .ref (x + 89)), (3, .int (iI (i : Int)))] [] S2 ∧ xLw P b L xs x S2 A' ∧ S2.2 = S.2 := by
  obtain ⟨a1, ha1, l1, u1⟩ := iI_of (xs (i + 1))
  obtain ⟨v, S1, S2, A', c1, B1, o1, c2, W2, e2⟩ := lw_I (as := [.int (iI a1)]) W (z_stretches W.1 l1 u1)
  refine ⟨S2, A', ?_, W2, e2⟩
  have r1 : xrdI S b (iI (i : Int) + iI 1) = some (xs (i + 1)) := W.2.2.rd hL (k := 1) (by omega)
  have q1 : xrdI S1 b (iI (i : Int) + iI 1) = some (xs (i + 1)) := B1.rd hL (k := 1) (by omega)
  rw [e_L_law_33_31]
  simp only [r1, q1, ha1, W.o, o1, c1, c2, lg_self, xob_some, cond_true, if_true]
theorem lw_c32 (W : xLw P b L xs x S A) (hL : L ≤ 3072) {i : Nat} (hi : i + 5 < L) : ∃ S2 A', xrun P m_L_law 33 [(0, .ref b), (1, .ref x), (2, .ref (x + 89)), (3, .int (iI (i : Int)))] [.int (iI 32)] S = xrun P m_L_law 2643 [(0, .ref b), (1, .ref x), (2, .ref (x + 89)), (3, .int (iI (i : Int)))] [] S2 ∧ xLw P b L xs x S2 A' ∧ S2.2 = S.2 := by
  obtain ⟨a1, ha1, l1, u1⟩ := iI_of (xs (i + 1))
  obtain ⟨a2, ha2, l2, u2⟩ := iI_of (xs (i + 2))
  by_cases hb3 : xs (i + 3) = 0
  · by_cases hb4 : xs (i + 4) = 0
    · obtain ⟨v, S1, S2, A', c1, B1, o1, c2, W2, e2⟩ := lw_J (as := [.int (iI a1), .int (iI a2), .int (iI 0), .int (iI 0)]) W (z_stretch W.1 l1 u1 l2 u2 false false)
      refine ⟨S2, A', ?_, W2, e2⟩
      have r1 : xrdI S b (iI (i : Int) + iI 1) = some (xs (i + 1)) := W.2.2.rd hL (k := 1) (by omega)
      have q1 : xrdI S1 b (iI (i : Int) + iI 1) = some (xs (i + 1)) := B1.rd hL (k := 1) (by omega)
      have r2 : xrdI S b (iI (i : Int) + iI 2) = some (xs (i + 2)) := W.2.2.rd hL (k := 2) (by omega)
      have q2 : xrdI S1 b (iI (i : Int) + iI 2) = some (xs (i + 2)) := B1.rd hL (k := 2) (by omega)
      have r3 : xrdI S b (iI (i : Int) + iI 3) = some (xs (i + 3)) := W.2.2.rd hL (k := 3) (by omega)
      have q3 : xrdI S1 b (iI (i : Int) + iI 3) = some (xs (i + 3)) := B1.rd hL (k := 3) (by omega)
      have r4 : xrdI S b (iI (i : Int) + iI 4) = some (xs (i + 4)) := W.2.2.rd hL (k := 4) (by omega)
      have q4 : xrdI S1 b (iI (i : Int) + iI 4) = some (xs (i + 4)) := B1.rd hL (k := 4) (by omega)
      rw [e_L_law_33_32]
      simp only [e_L_law_1454, e_L_law_1467, e_L_law_1494, e_L_law_1507, r1, q1, r2, q2, r3, q3, r4, q4, ha1, ha2, if_pos hb3, if_pos hb4, W.o, o1, c1, c2, lg_self, xob_some, cond_true, if_true]
    · obtain ⟨v, S1, S2, A', c1, B1, o1, c2, W2, e2⟩ := lw_J (as := [.int (iI a1), .int (iI a2), .int (iI 0), .int (iI 1)]) W (z_stretch W.1 l1 u1 l2 u2 false true)
      refine ⟨S2, A', ?_, W2, e2⟩
      have r1 : xrdI S b (iI (i : Int) + iI 1) = some (xs (i + 1)) := W.2.2.rd hL (k := 1) (by omega)
      have q1 : xrdI S1 b (iI (i : Int) + iI 1) = some (xs (i + 1)) := B1.rd hL (k := 1) (by omega)
      have r2 : xrdI S b (iI (i : Int) + iI 2) = some (xs (i + 2)) := W.2.2.rd hL (k := 2) (by omega)
      have q2 : xrdI S1 b (iI (i : Int) + iI 2) = some (xs (i + 2)) := B1.rd hL (k := 2) (by omega)
      have r3 : xrdI S b (iI (i : Int) + iI 3) = some (xs (i + 3)) := W.2.2.rd hL (k := 3) (by omega)
      have q3 : xrdI S1 b (iI (i : Int) + iI 3) = some (xs (i + 3)) := B1.rd hL (k := 3) (by omega)
      have r4 : xrdI S b (iI (i : Int) + iI 4) = some (xs (i + 4)) := W.2.2.rd hL (k := 4) (by omega)
      have q4 : xrdI S1 b (iI (i : Int) + iI 4) = some (xs (i + 4)) := B1.rd hL (k := 4) (by omega)
      rw [e_L_law_33_32]
      simp only [e_L_law_1454, e_L_law_1467, e_L_law_1494, e_L_law_1507, r1, q1, r2, q2, r3, q3, r4, q4, ha1, ha2, if_pos hb3, if_neg hb4, W.o, o1, c1, c2, lg_self, xob_some, cond_true, if_true]
  · by_cases hb4 : xs (i + 4) = 0
    · obtain ⟨v, S1, S2, A', c1, B1, o1, c2, W2, e2⟩ := lw_J (as := [.int (iI a1), .int (iI a2), .int (iI 1), .int (iI 0)]) W (z_stretch W.1 l1 u1 l2 u2 true false)
      refine ⟨S2, A', ?_, W2, e2⟩
      have r1 : xrdI S b (iI (i : Int) + iI 1) = some (xs (i + 1)) := W.2.2.rd hL (k := 1) (by omega)
      have q1 : xrdI S1 b (iI (i : Int) + iI 1) = some (xs (i + 1)) := B1.rd hL (k := 1) (by omega)
      have r2 : xrdI S b (iI (i : Int) + iI 2) = some (xs (i + 2)) := W.2.2.rd hL (k := 2) (by omega)
      have q2 : xrdI S1 b (iI (i : Int) + iI 2) = some (xs (i + 2)) := B1.rd hL (k := 2) (by omega)
      have r3 : xrdI S b (iI (i : Int) + iI 3) = some (xs (i + 3)) := W.2.2.rd hL (k := 3) (by omega)
      have q3 : xrdI S1 b (iI (i : Int) + iI 3) = some (xs (i + 3)) := B1.rd hL (k := 3) (by omega)
      have r4 : xrdI S b (iI (i : Int) + iI 4) = some (xs (i + 4)) := W.2.2.rd hL (k := 4) (by omega)
      have q4 : xrdI S1 b (iI (i : Int) + iI 4) = some (xs (i + 4)) := B1.rd hL (k := 4) (by omega)
      rw [e_L_law_33_32]
      simp only [e_L_law_1454, e_L_law_1467, e_L_law_1494, e_L_law_1507, r1, q1, r2, q2, r3, q3, r4, q4, ha1, ha2, if_neg hb3, if_pos hb4, W.o, o1, c1, c2, lg_self, xob_some, cond_true, if_true]
    · obtain ⟨v, S1, S2, A', c1, B1, o1, c2, W2, e2⟩ := lw_J (as := [.int (iI a1), .int (iI a2), .int (iI 1), .int (iI 1)]) W (z_stretch W.1 l1 u1 l2 u2 true true)
      refine ⟨S2, A', ?_, W2, e2⟩
      have r1 : xrdI S b (iI (i : Int) + iI 1) = some (xs (i + 1)) := W.2.2.rd hL (k := 1) (by omega)
      have q1 : xrdI S1 b (iI (i : Int) + iI 1) = some (xs (i + 1)) := B1.rd hL (k := 1) (by omega)
      have r2 : xrdI S b (iI (i : Int) + iI 2) = some (xs (i + 2)) := W.2.2.rd hL (k := 2) (by omega)
      have q2 : xrdI S1 b (iI (i : Int) + iI 2) = some (xs (i + 2)) := B1.rd hL (k := 2) (by omega)
      have r3 : xrdI S b (iI (i : Int) + iI 3) = some (xs (i + 3)) := W.2.2.rd hL (k := 3) (by omega)
      have q3 : xrdI S1 b (iI (i : Int) + iI 3) = some (xs (i + 3)) := B1.rd hL (k := 3) (by omega)
      have r4 : xrdI S b (iI (i : Int) + iI 4) = some (xs (i + 4)) := W.2.2.rd hL (k := 4) (by omega)
      have q4 : xrdI S1 b (iI (i : Int) + iI 4) = some (xs (i + 4)) := B1.rd hL (k := 4) (by omega)
      rw [e_L_law_33_32]
      simp only [e_L_law_1454, e_L_law_1467, e_L_law_1494, e_L_law_1507, r1, q1, r2, q2, r3, q3, r4, q4, ha1, ha2, if_neg hb3, if_neg hb4, W.o, o1, c1, c2, lg_self, xob_some, cond_true, if_true]
theorem lw_c33 (W : xLw P b L xs x S A) (hL : L ≤ 3072) {i : Nat} (hi : i + 5 < L) : ∃ S2 A', xrun P m_L_law 33 [(0, .ref b), (1, .ref x), (2, .ref (x + 89)), (3, .int (iI (i : Int)))] [.int (iI 33)] S = xrun P m_L_law 2643 [(0, .ref b), (1, .ref x), (2, .ref (x + 89)), (3, .int (iI (i : Int)))] [] S2 ∧ xLw P b L xs x S2 A' ∧ S2.2 = S.2 := by
  obtain ⟨a1, ha1, l1, u1⟩ := iI_of (xs (i + 1))
  by_cases hb2 : xs (i + 2) = 0
  · obtain ⟨v, S1, S2, A', c1, B1, o1, c2, W2, e2⟩ := lw_J (as := [.int (iI a1), .int (iI 0)]) W (z_hours W.1 l1 u1 false)
    refine ⟨S2, A', ?_, W2, e2⟩
    have r1 : xrdI S b (iI (i : Int) + iI 1) = some (xs (i + 1)) := W.2.2.rd hL (k := 1) (by omega)
    have q1 : xrdI S1 b (iI (i : Int) + iI 1) = some (xs (i + 1)) := B1.rd hL (k := 1) (by omega)
    have r2 : xrdI S b (iI (i : Int) + iI 2) = some (xs (i + 2)) := W.2.2.rd hL (k := 2) (by omega)
    have q2 : xrdI S1 b (iI (i : Int) + iI 2) = some (xs (i + 2)) := B1.rd hL (k := 2) (by omega)
    rw [e_L_law_33_33]
    simp only [e_L_law_1535, e_L_law_1557, r1, q1, r2, q2, ha1, if_pos hb2, W.o, o1, c1, c2, lg_self, xob_some, cond_true, if_true]
  · obtain ⟨v, S1, S2, A', c1, B1, o1, c2, W2, e2⟩ := lw_J (as := [.int (iI a1), .int (iI 1)]) W (z_hours W.1 l1 u1 true)
    refine ⟨S2, A', ?_, W2, e2⟩
    have r1 : xrdI S b (iI (i : Int) + iI 1) = some (xs (i + 1)) := W.2.2.rd hL (k := 1) (by omega)
    have q1 : xrdI S1 b (iI (i : Int) + iI 1) = some (xs (i + 1)) := B1.rd hL (k := 1) (by omega)
    have r2 : xrdI S b (iI (i : Int) + iI 2) = some (xs (i + 2)) := W.2.2.rd hL (k := 2) (by omega)
    have q2 : xrdI S1 b (iI (i : Int) + iI 2) = some (xs (i + 2)) := B1.rd hL (k := 2) (by omega)
    rw [e_L_law_33_33]
    simp only [e_L_law_1535, e_L_law_1557, r1, q1, r2, q2, ha1, if_neg hb2, W.o, o1, c1, c2, lg_self, xob_some, cond_true, if_true]
theorem lw_c34 (W : xLw P b L xs x S A) (hL : L ≤ 3072) {i : Nat} (hi : i + 5 < L) : ∃ S2 A', xrun P m_L_law 33 [(0, .ref b), (1, .ref x), (2, .ref (x + 89)), (3, .int (iI (i : Int)))] [.int (iI 34)] S = xrun P m_L_law 2643 [(0, .ref b), (1, .ref x), (2, .ref (x + 89)), (3, .int (iI (i : Int)))] [] S2 ∧ xLw P b L xs x S2 A' ∧ S2.2 = S.2 := by
  obtain ⟨a1, ha1, l1, u1⟩ := iI_of (xs (i + 1))
  obtain ⟨a2, ha2, l2, u2⟩ := iI_of (xs (i + 2))
  obtain ⟨a3, ha3, l3, u3⟩ := iI_of (xs (i + 3))
  by_cases hb4 : xs (i + 4) = 0
  · obtain ⟨v, S1, S2, A', c1, B1, o1, c2, W2, e2⟩ := lw_J (as := [.int (iI a1), .int (iI a2), .int (iI a3), .int (iI 0)]) W (z_next W.1 l1 u1 l2 u2 l3 u3 false)
    refine ⟨S2, A', ?_, W2, e2⟩
    have r1 : xrdI S b (iI (i : Int) + iI 1) = some (xs (i + 1)) := W.2.2.rd hL (k := 1) (by omega)
    have q1 : xrdI S1 b (iI (i : Int) + iI 1) = some (xs (i + 1)) := B1.rd hL (k := 1) (by omega)
    have r2 : xrdI S b (iI (i : Int) + iI 2) = some (xs (i + 2)) := W.2.2.rd hL (k := 2) (by omega)
    have q2 : xrdI S1 b (iI (i : Int) + iI 2) = some (xs (i + 2)) := B1.rd hL (k := 2) (by omega)
    have r3 : xrdI S b (iI (i : Int) + iI 3) = some (xs (i + 3)) := W.2.2.rd hL (k := 3) (by omega)
    have q3 : xrdI S1 b (iI (i : Int) + iI 3) = some (xs (i + 3)) := B1.rd hL (k := 3) (by omega)
    have r4 : xrdI S b (iI (i : Int) + iI 4) = some (xs (i + 4)) := W.2.2.rd hL (k := 4) (by omega)
    have q4 : xrdI S1 b (iI (i : Int) + iI 4) = some (xs (i + 4)) := B1.rd hL (k := 4) (by omega)
    rw [e_L_law_33_34]
    simp only [e_L_law_1595, e_L_law_1627, r1, q1, r2, q2, r3, q3, r4, q4, ha1, ha2, ha3, if_pos hb4, W.o, o1, c1, c2, lg_self, xob_some, cond_true, if_true]
  · obtain ⟨v, S1, S2, A', c1, B1, o1, c2, W2, e2⟩ := lw_J (as := [.int (iI a1), .int (iI a2), .int (iI a3), .int (iI 1)]) W (z_next W.1 l1 u1 l2 u2 l3 u3 true)
    refine ⟨S2, A', ?_, W2, e2⟩
    have r1 : xrdI S b (iI (i : Int) + iI 1) = some (xs (i + 1)) := W.2.2.rd hL (k := 1) (by omega)
    have q1 : xrdI S1 b (iI (i : Int) + iI 1) = some (xs (i + 1)) := B1.rd hL (k := 1) (by omega)
    have r2 : xrdI S b (iI (i : Int) + iI 2) = some (xs (i + 2)) := W.2.2.rd hL (k := 2) (by omega)
    have q2 : xrdI S1 b (iI (i : Int) + iI 2) = some (xs (i + 2)) := B1.rd hL (k := 2) (by omega)
    have r3 : xrdI S b (iI (i : Int) + iI 3) = some (xs (i + 3)) := W.2.2.rd hL (k := 3) (by omega)
    have q3 : xrdI S1 b (iI (i : Int) + iI 3) = some (xs (i + 3)) := B1.rd hL (k := 3) (by omega)
    have r4 : xrdI S b (iI (i : Int) + iI 4) = some (xs (i + 4)) := W.2.2.rd hL (k := 4) (by omega)
    have q4 : xrdI S1 b (iI (i : Int) + iI 4) = some (xs (i + 4)) := B1.rd hL (k := 4) (by omega)
    rw [e_L_law_33_34]
    simp only [e_L_law_1595, e_L_law_1627, r1, q1, r2, q2, r3, q3, r4, q4, ha1, ha2, ha3, if_neg hb4, W.o, o1, c1, c2, lg_self, xob_some, cond_true, if_true]
theorem lw_c35 (W : xLw P b L xs x S A) (hL : L ≤ 3072) {i : Nat} (hi : i + 5 < L) : ∃ S2 A', xrun P m_L_law 33 [(0, .ref b), (1, .ref x), (2, .ref (x + 89)), (3, .int (iI (i : Int)))] [.int (iI 35)] S = xrun P m_L_law 2643 [(0, .ref b), (1, .ref x), (2, .ref (x + 89)), (3, .int (iI (i : Int)))] [] S2 ∧ xLw P b L xs x S2 A' ∧ S2.2 = S.2 := by
  obtain ⟨a1, ha1, l1, u1⟩ := iI_of (xs (i + 1))
  obtain ⟨a2, ha2, l2, u2⟩ := iI_of (xs (i + 2))
  obtain ⟨a3, ha3, l3, u3⟩ := iI_of (xs (i + 3))
  by_cases hb4 : xs (i + 4) = 0
  · obtain ⟨v, S1, S2, A', c1, B1, o1, c2, W2, e2⟩ := lw_J (as := [.int (iI a1), .int (iI a2), .int (iI a3), .int (iI 0)]) W (z_hoursBy W.1 l1 u1 l2 u2 l3 u3 false)
    refine ⟨S2, A', ?_, W2, e2⟩
    have r1 : xrdI S b (iI (i : Int) + iI 1) = some (xs (i + 1)) := W.2.2.rd hL (k := 1) (by omega)
    have q1 : xrdI S1 b (iI (i : Int) + iI 1) = some (xs (i + 1)) := B1.rd hL (k := 1) (by omega)
    have r2 : xrdI S b (iI (i : Int) + iI 2) = some (xs (i + 2)) := W.2.2.rd hL (k := 2) (by omega)
    have q2 : xrdI S1 b (iI (i : Int) + iI 2) = some (xs (i + 2)) := B1.rd hL (k := 2) (by omega)
    have r3 : xrdI S b (iI (i : Int) + iI 3) = some (xs (i + 3)) := W.2.2.rd hL (k := 3) (by omega)
    have q3 : xrdI S1 b (iI (i : Int) + iI 3) = some (xs (i + 3)) := B1.rd hL (k := 3) (by omega)
    have r4 : xrdI S b (iI (i : Int) + iI 4) = some (xs (i + 4)) := W.2.2.rd hL (k := 4) (by omega)
    have q4 : xrdI S1 b (iI (i : Int) + iI 4) = some (xs (i + 4)) := B1.rd hL (k := 4) (by omega)
    rw [e_L_law_33_35]
    simp only [e_L_law_1665, e_L_law_1697, r1, q1, r2, q2, r3, q3, r4, q4, ha1, ha2, ha3, if_pos hb4, W.o, o1, c1, c2, lg_self, xob_some, cond_true, if_true]
  · obtain ⟨v, S1, S2, A', c1, B1, o1, c2, W2, e2⟩ := lw_J (as := [.int (iI a1), .int (iI a2), .int (iI a3), .int (iI 1)]) W (z_hoursBy W.1 l1 u1 l2 u2 l3 u3 true)
    refine ⟨S2, A', ?_, W2, e2⟩
    have r1 : xrdI S b (iI (i : Int) + iI 1) = some (xs (i + 1)) := W.2.2.rd hL (k := 1) (by omega)
    have q1 : xrdI S1 b (iI (i : Int) + iI 1) = some (xs (i + 1)) := B1.rd hL (k := 1) (by omega)
    have r2 : xrdI S b (iI (i : Int) + iI 2) = some (xs (i + 2)) := W.2.2.rd hL (k := 2) (by omega)
    have q2 : xrdI S1 b (iI (i : Int) + iI 2) = some (xs (i + 2)) := B1.rd hL (k := 2) (by omega)
    have r3 : xrdI S b (iI (i : Int) + iI 3) = some (xs (i + 3)) := W.2.2.rd hL (k := 3) (by omega)
    have q3 : xrdI S1 b (iI (i : Int) + iI 3) = some (xs (i + 3)) := B1.rd hL (k := 3) (by omega)
    have r4 : xrdI S b (iI (i : Int) + iI 4) = some (xs (i + 4)) := W.2.2.rd hL (k := 4) (by omega)
    have q4 : xrdI S1 b (iI (i : Int) + iI 4) = some (xs (i + 4)) := B1.rd hL (k := 4) (by omega)
    rw [e_L_law_33_35]
    simp only [e_L_law_1665, e_L_law_1697, r1, q1, r2, q2, r3, q3, r4, q4, ha1, ha2, ha3, if_neg hb4, W.o, o1, c1, c2, lg_self, xob_some, cond_true, if_true]
theorem lw_c36 (W : xLw P b L xs x S A) (hL : L ≤ 3072) {i : Nat} (hi : i + 5 < L) : ∃ S2 A', xrun P m_L_law 33 [(0, .ref b), (1, .ref x), (2, .ref (x + 89)), (3, .int (iI (i : Int)))] [.int (iI 36)] S = xrun P m_L_law 2643 [(0, .ref b), (1, .ref x), (2, .ref (x + 89)), (3, .int (iI (i : Int)))] [] S2 ∧ xLw P b L xs x S2 A' ∧ S2.2 = S.2 := by
  obtain ⟨a1, ha1, l1, u1⟩ := iI_of (xs (i + 1))
  obtain ⟨a2, ha2, l2, u2⟩ := iI_of (xs (i + 2))
  by_cases hb3 : xs (i + 3) = 0
  · obtain ⟨v, S1, S2, A', c1, B1, o1, c2, W2, e2⟩ := lw_J (as := [.int (iI a1), .int (iI a2), .int (iI 0)]) W (z_both W.1 l1 u1 l2 u2 false)
    refine ⟨S2, A', ?_, W2, e2⟩
    have r1 : xrdI S b (iI (i : Int) + iI 1) = some (xs (i + 1)) := W.2.2.rd hL (k := 1) (by omega)
    have q1 : xrdI S1 b (iI (i : Int) + iI 1) = some (xs (i + 1)) := B1.rd hL (k := 1) (by omega)
    have r2 : xrdI S b (iI (i : Int) + iI 2) = some (xs (i + 2)) := W.2.2.rd hL (k := 2) (by omega)
    have q2 : xrdI S1 b (iI (i : Int) + iI 2) = some (xs (i + 2)) := B1.rd hL (k := 2) (by omega)
    have r3 : xrdI S b (iI (i : Int) + iI 3) = some (xs (i + 3)) := W.2.2.rd hL (k := 3) (by omega)
    have q3 : xrdI S1 b (iI (i : Int) + iI 3) = some (xs (i + 3)) := B1.rd hL (k := 3) (by omega)
    rw [e_L_law_33_36]
    simp only [e_L_law_1730, e_L_law_1757, r1, q1, r2, q2, r3, q3, ha1, ha2, if_pos hb3, W.o, o1, c1, c2, lg_self, xob_some, cond_true, if_true]
  · obtain ⟨v, S1, S2, A', c1, B1, o1, c2, W2, e2⟩ := lw_J (as := [.int (iI a1), .int (iI a2), .int (iI 1)]) W (z_both W.1 l1 u1 l2 u2 true)
    refine ⟨S2, A', ?_, W2, e2⟩
    have r1 : xrdI S b (iI (i : Int) + iI 1) = some (xs (i + 1)) := W.2.2.rd hL (k := 1) (by omega)
    have q1 : xrdI S1 b (iI (i : Int) + iI 1) = some (xs (i + 1)) := B1.rd hL (k := 1) (by omega)
    have r2 : xrdI S b (iI (i : Int) + iI 2) = some (xs (i + 2)) := W.2.2.rd hL (k := 2) (by omega)
    have q2 : xrdI S1 b (iI (i : Int) + iI 2) = some (xs (i + 2)) := B1.rd hL (k := 2) (by omega)
    have r3 : xrdI S b (iI (i : Int) + iI 3) = some (xs (i + 3)) := W.2.2.rd hL (k := 3) (by omega)
    have q3 : xrdI S1 b (iI (i : Int) + iI 3) = some (xs (i + 3)) := B1.rd hL (k := 3) (by omega)
    rw [e_L_law_33_36]
    simp only [e_L_law_1730, e_L_law_1757, r1, q1, r2, q2, r3, q3, ha1, ha2, if_neg hb3, W.o, o1, c1, c2, lg_self, xob_some, cond_true, if_true]
theorem lw_c37 (W : xLw P b L xs x S A) (hL : L ≤ 3072) {i : Nat} (hi : i + 5 < L) : ∃ S2 A', xrun P m_L_law 33 [(0, .ref b), (1, .ref x), (2, .ref (x + 89)), (3, .int (iI (i : Int)))] [.int (iI 37)] S = xrun P m_L_law 2643 [(0, .ref b), (1, .ref x), (2, .ref (x + 89)), (3, .int (iI (i : Int)))] [] S2 ∧ xLw P b L xs x S2 A' ∧ S2.2 = S.2 := by
  by_cases hb1 : xs (i + 1) = 0
  · obtain ⟨v, S1, S2, A', c1, B1, o1, c2, W2, e2⟩ := lw_J (as := [.int (iI 0)]) W (z_someone W.1 false)
    refine ⟨S2, A', ?_, W2, e2⟩
    have r1 : xrdI S b (iI (i : Int) + iI 1) = some (xs (i + 1)) := W.2.2.rd hL (k := 1) (by omega)
    have q1 : xrdI S1 b (iI (i : Int) + iI 1) = some (xs (i + 1)) := B1.rd hL (k := 1) (by omega)
    rw [e_L_law_33_37]
    simp only [e_L_law_1780, e_L_law_1797, r1, q1, if_pos hb1, W.o, o1, c1, c2, lg_self, xob_some, cond_true, if_true]
  · obtain ⟨v, S1, S2, A', c1, B1, o1, c2, W2, e2⟩ := lw_J (as := [.int (iI 1)]) W (z_someone W.1 true)
    refine ⟨S2, A', ?_, W2, e2⟩
    have r1 : xrdI S b (iI (i : Int) + iI 1) = some (xs (i + 1)) := W.2.2.rd hL (k := 1) (by omega)
    have q1 : xrdI S1 b (iI (i : Int) + iI 1) = some (xs (i + 1)) := B1.rd hL (k := 1) (by omega)
    rw [e_L_law_33_37]
    simp only [e_L_law_1780, e_L_law_1797, r1, q1, if_neg hb1, W.o, o1, c1, c2, lg_self, xob_some, cond_true, if_true]
theorem lw_c38 (W : xLw P b L xs x S A) (hL : L ≤ 3072) {i : Nat} (hi : i + 5 < L) : ∃ S2 A', xrun P m_L_law 33 [(0, .ref b), (1, .ref x), (2, .ref (x + 89)), (3, .int (iI (i : Int)))] [.int (iI 38)] S = xrun P m_L_law 2643 [(0, .ref b), (1, .ref x), (2, .ref (x + 89)), (3, .int (iI (i : Int)))] [] S2 ∧ xLw P b L xs x S2 A' ∧ S2.2 = S.2 := by
  obtain ⟨a1, ha1, l1, u1⟩ := iI_of (xs (i + 1))
  obtain ⟨v, S1, S2, A', c1, B1, o1, c2, W2, e2⟩ := lw_I (as := [.int (iI a1)]) W (z_firsts W.1 l1 u1)
  refine ⟨S2, A', ?_, W2, e2⟩
  have r1 : xrdI S b (iI (i : Int) + iI 1) = some (xs (i + 1)) := W.2.2.rd hL (k := 1) (by omega)
  have q1 : xrdI S1 b (iI (i : Int) + iI 1) = some (xs (i + 1)) := B1.rd hL (k := 1) (by omega)
  rw [e_L_law_33_38]
  simp only [r1, q1, ha1, W.o, o1, c1, c2, lg_self, xob_some, cond_true, if_true]
theorem lw_c39 (W : xLw P b L xs x S A) (hL : L ≤ 3072) {i : Nat} (hi : i + 5 < L) : ∃ S2 A', xrun P m_L_law 33 [(0, .ref b), (1, .ref x), (2, .ref (x + 89)), (3, .int (iI (i : Int)))] [.int (iI 39)] S = xrun P m_L_law 2643 [(0, .ref b), (1, .ref x), (2, .ref (x + 89)), (3, .int (iI (i : Int)))] [] S2 ∧ xLw P b L xs x S2 A' ∧ S2.2 = S.2 := by
  obtain ⟨v, S1, S2, A', c1, B1, o1, c2, W2, e2⟩ := lw_I (as := []) W (z_tights W.1)
  refine ⟨S2, A', ?_, W2, e2⟩
  rw [e_L_law_33_39]
  simp only [W.o, o1, c1, c2, lg_self, xob_some, cond_true, if_true]
theorem lw_c40 (W : xLw P b L xs x S A) (hL : L ≤ 3072) {i : Nat} (hi : i + 5 < L) : ∃ S2 A', xrun P m_L_law 33 [(0, .ref b), (1, .ref x), (2, .ref (x + 89)), (3, .int (iI (i : Int)))] [.int (iI 40)] S = xrun P m_L_law 2643 [(0, .ref b), (1, .ref x), (2, .ref (x + 89)), (3, .int (iI (i : Int)))] [] S2 ∧ xLw P b L xs x S2 A' ∧ S2.2 = S.2 := by
  obtain ⟨a1, ha1, l1, u1⟩ := iI_of (xs (i + 1))
  obtain ⟨a2, ha2, l2, u2⟩ := iI_of (xs (i + 2))
  obtain ⟨a3, ha3, l3, u3⟩ := iI_of (xs (i + 3))
  obtain ⟨a4, ha4, l4, u4⟩ := iI_of (xs (i + 4))
  by_cases hb5 : xs (i + 5) = 0
  · obtain ⟨v, S1, S2, A', c1, B1, o1, c2, W2, e2⟩ := lw_J (as := [.int (iI a1), .int (iI a2), .int (iI a3), .int (iI a4), .int (iI 0)]) W (z_meetsNext W.1 l1 u1 l2 u2 l3 u3 l4 u4 false)
    refine ⟨S2, A', ?_, W2, e2⟩
    have r1 : xrdI S b (iI (i : Int) + iI 1) = some (xs (i + 1)) := W.2.2.rd hL (k := 1) (by omega)
    have q1 : xrdI S1 b (iI (i : Int) + iI 1) = some (xs (i + 1)) := B1.rd hL (k := 1) (by omega)
    have r2 : xrdI S b (iI (i : Int) + iI 2) = some (xs (i + 2)) := W.2.2.rd hL (k := 2) (by omega)
    have q2 : xrdI S1 b (iI (i : Int) + iI 2) = some (xs (i + 2)) := B1.rd hL (k := 2) (by omega)
    have r3 : xrdI S b (iI (i : Int) + iI 3) = some (xs (i + 3)) := W.2.2.rd hL (k := 3) (by omega)
    have q3 : xrdI S1 b (iI (i : Int) + iI 3) = some (xs (i + 3)) := B1.rd hL (k := 3) (by omega)
    have r4 : xrdI S b (iI (i : Int) + iI 4) = some (xs (i + 4)) := W.2.2.rd hL (k := 4) (by omega)
    have q4 : xrdI S1 b (iI (i : Int) + iI 4) = some (xs (i + 4)) := B1.rd hL (k := 4) (by omega)
    have r5 : xrdI S b (iI (i : Int) + iI 5) = some (xs (i + 5)) := W.2.2.rd hL (k := 5) (by omega)
    have q5 : xrdI S1 b (iI (i : Int) + iI 5) = some (xs (i + 5)) := B1.rd hL (k := 5) (by omega)
    rw [e_L_law_33_40]
    simp only [e_L_law_1876, e_L_law_1913, r1, q1, r2, q2, r3, q3, r4, q4, r5, q5, ha1, ha2, ha3, ha4, if_pos hb5, W.o, o1, c1, c2, lg_self, xob_some, cond_true, if_true]
  · obtain ⟨v, S1, S2, A', c1, B1, o1, c2, W2, e2⟩ := lw_J (as := [.int (iI a1), .int (iI a2), .int (iI a3), .int (iI a4), .int (iI 1)]) W (z_meetsNext W.1 l1 u1 l2 u2 l3 u3 l4 u4 true)
    refine ⟨S2, A', ?_, W2, e2⟩
    have r1 : xrdI S b (iI (i : Int) + iI 1) = some (xs (i + 1)) := W.2.2.rd hL (k := 1) (by omega)
    have q1 : xrdI S1 b (iI (i : Int) + iI 1) = some (xs (i + 1)) := B1.rd hL (k := 1) (by omega)
    have r2 : xrdI S b (iI (i : Int) + iI 2) = some (xs (i + 2)) := W.2.2.rd hL (k := 2) (by omega)
    have q2 : xrdI S1 b (iI (i : Int) + iI 2) = some (xs (i + 2)) := B1.rd hL (k := 2) (by omega)
    have r3 : xrdI S b (iI (i : Int) + iI 3) = some (xs (i + 3)) := W.2.2.rd hL (k := 3) (by omega)
    have q3 : xrdI S1 b (iI (i : Int) + iI 3) = some (xs (i + 3)) := B1.rd hL (k := 3) (by omega)
    have r4 : xrdI S b (iI (i : Int) + iI 4) = some (xs (i + 4)) := W.2.2.rd hL (k := 4) (by omega)
    have q4 : xrdI S1 b (iI (i : Int) + iI 4) = some (xs (i + 4)) := B1.rd hL (k := 4) (by omega)
    have r5 : xrdI S b (iI (i : Int) + iI 5) = some (xs (i + 5)) := W.2.2.rd hL (k := 5) (by omega)
    have q5 : xrdI S1 b (iI (i : Int) + iI 5) = some (xs (i + 5)) := B1.rd hL (k := 5) (by omega)
    rw [e_L_law_33_40]
    simp only [e_L_law_1876, e_L_law_1913, r1, q1, r2, q2, r3, q3, r4, q4, r5, q5, ha1, ha2, ha3, ha4, if_neg hb5, W.o, o1, c1, c2, lg_self, xob_some, cond_true, if_true]
theorem lw_c41 (W : xLw P b L xs x S A) (hL : L ≤ 3072) {i : Nat} (hi : i + 5 < L) : ∃ S2 A', xrun P m_L_law 33 [(0, .ref b), (1, .ref x), (2, .ref (x + 89)), (3, .int (iI (i : Int)))] [.int (iI 41)] S = xrun P m_L_law 2643 [(0, .ref b), (1, .ref x), (2, .ref (x + 89)), (3, .int (iI (i : Int)))] [] S2 ∧ xLw P b L xs x S2 A' ∧ S2.2 = S.2 := by
  obtain ⟨a1, ha1, l1, u1⟩ := iI_of (xs (i + 1))
  obtain ⟨a2, ha2, l2, u2⟩ := iI_of (xs (i + 2))
  obtain ⟨v, S1, S2, A', c1, B1, o1, c2, W2, e2⟩ := lw_I (as := [.int (iI a1), .int (iI a2)]) W (z_meets W.1 l1 u1 l2 u2)
  refine ⟨S2, A', ?_, W2, e2⟩
  have r1 : xrdI S b (iI (i : Int) + iI 1) = some (xs (i + 1)) := W.2.2.rd hL (k := 1) (by omega)
  have q1 : xrdI S1 b (iI (i : Int) + iI 1) = some (xs (i + 1)) := B1.rd hL (k := 1) (by omega)
  have r2 : xrdI S b (iI (i : Int) + iI 2) = some (xs (i + 2)) := W.2.2.rd hL (k := 2) (by omega)
  have q2 : xrdI S1 b (iI (i : Int) + iI 2) = some (xs (i + 2)) := B1.rd hL (k := 2) (by omega)
  rw [e_L_law_33_41]
  simp only [r1, q1, r2, q2, ha1, ha2, W.o, o1, c1, c2, lg_self, xob_some, cond_true, if_true]
theorem lw_c42 (W : xLw P b L xs x S A) (hL : L ≤ 3072) {i : Nat} (hi : i + 5 < L) : ∃ S2 A', xrun P m_L_law 33 [(0, .ref b), (1, .ref x), (2, .ref (x + 89)), (3, .int (iI (i : Int)))] [.int (iI 42)] S = xrun P m_L_law 2643 [(0, .ref b), (1, .ref x), (2, .ref (x + 89)), (3, .int (iI (i : Int)))] [] S2 ∧ xLw P b L xs x S2 A' ∧ S2.2 = S.2 := by
  obtain ⟨a1, ha1, l1, u1⟩ := iI_of (xs (i + 1))
  obtain ⟨a2, ha2, l2, u2⟩ := iI_of (xs (i + 2))
  obtain ⟨a3, ha3, l3, u3⟩ := iI_of (xs (i + 3))
  by_cases hb4 : xs (i + 4) = 0
  · obtain ⟨v, S1, S2, A', c1, B1, o1, c2, W2, e2⟩ := lw_I (as := [.int (iI a1), .int (iI a2), .int (iI a3), .int (iI 0)]) W (z_meeting W.1 l1 u1 l2 u2 l3 u3 false)
    refine ⟨S2, A', ?_, W2, e2⟩
    have r1 : xrdI S b (iI (i : Int) + iI 1) = some (xs (i + 1)) := W.2.2.rd hL (k := 1) (by omega)
    have q1 : xrdI S1 b (iI (i : Int) + iI 1) = some (xs (i + 1)) := B1.rd hL (k := 1) (by omega)
    have r2 : xrdI S b (iI (i : Int) + iI 2) = some (xs (i + 2)) := W.2.2.rd hL (k := 2) (by omega)
    have q2 : xrdI S1 b (iI (i : Int) + iI 2) = some (xs (i + 2)) := B1.rd hL (k := 2) (by omega)
    have r3 : xrdI S b (iI (i : Int) + iI 3) = some (xs (i + 3)) := W.2.2.rd hL (k := 3) (by omega)
    have q3 : xrdI S1 b (iI (i : Int) + iI 3) = some (xs (i + 3)) := B1.rd hL (k := 3) (by omega)
    have r4 : xrdI S b (iI (i : Int) + iI 4) = some (xs (i + 4)) := W.2.2.rd hL (k := 4) (by omega)
    have q4 : xrdI S1 b (iI (i : Int) + iI 4) = some (xs (i + 4)) := B1.rd hL (k := 4) (by omega)
    rw [e_L_law_33_42]
    simp only [e_L_law_1984, e_L_law_2016, r1, q1, r2, q2, r3, q3, r4, q4, ha1, ha2, ha3, if_pos hb4, W.o, o1, c1, c2, lg_self, xob_some, cond_true, if_true]
  · obtain ⟨v, S1, S2, A', c1, B1, o1, c2, W2, e2⟩ := lw_I (as := [.int (iI a1), .int (iI a2), .int (iI a3), .int (iI 1)]) W (z_meeting W.1 l1 u1 l2 u2 l3 u3 true)
    refine ⟨S2, A', ?_, W2, e2⟩
    have r1 : xrdI S b (iI (i : Int) + iI 1) = some (xs (i + 1)) := W.2.2.rd hL (k := 1) (by omega)
    have q1 : xrdI S1 b (iI (i : Int) + iI 1) = some (xs (i + 1)) := B1.rd hL (k := 1) (by omega)
    have r2 : xrdI S b (iI (i : Int) + iI 2) = some (xs (i + 2)) := W.2.2.rd hL (k := 2) (by omega)
    have q2 : xrdI S1 b (iI (i : Int) + iI 2) = some (xs (i + 2)) := B1.rd hL (k := 2) (by omega)
    have r3 : xrdI S b (iI (i : Int) + iI 3) = some (xs (i + 3)) := W.2.2.rd hL (k := 3) (by omega)
    have q3 : xrdI S1 b (iI (i : Int) + iI 3) = some (xs (i + 3)) := B1.rd hL (k := 3) (by omega)
    have r4 : xrdI S b (iI (i : Int) + iI 4) = some (xs (i + 4)) := W.2.2.rd hL (k := 4) (by omega)
    have q4 : xrdI S1 b (iI (i : Int) + iI 4) = some (xs (i + 4)) := B1.rd hL (k := 4) (by omega)
    rw [e_L_law_33_42]
    simp only [e_L_law_1984, e_L_law_2016, r1, q1, r2, q2, r3, q3, r4, q4, ha1, ha2, ha3, if_neg hb4, W.o, o1, c1, c2, lg_self, xob_some, cond_true, if_true]
theorem lw_c43 (W : xLw P b L xs x S A) (hL : L ≤ 3072) {i : Nat} (hi : i + 5 < L) : ∃ S2 A', xrun P m_L_law 33 [(0, .ref b), (1, .ref x), (2, .ref (x + 89)), (3, .int (iI (i : Int)))] [.int (iI 43)] S = xrun P m_L_law 2643 [(0, .ref b), (1, .ref x), (2, .ref (x + 89)), (3, .int (iI (i : Int)))] [] S2 ∧ xLw P b L xs x S2 A' ∧ S2.2 = S.2 := by
  obtain ⟨v, S1, S2, A', c1, B1, o1, c2, W2, e2⟩ := lw_I (as := []) W (z_meetings W.1)
  refine ⟨S2, A', ?_, W2, e2⟩
  rw [e_L_law_33_43]
  simp only [W.o, o1, c1, c2, lg_self, xob_some, cond_true, if_true]
theorem lw_c44 (W : xLw P b L xs x S A) (hL : L ≤ 3072) {i : Nat} (hi : i + 5 < L) : ∃ S2 A', xrun P m_L_law 33 [(0, .ref b), (1, .ref x), (2, .ref (x + 89)), (3, .int (iI (i : Int)))] [.int (iI 44)] S = xrun P m_L_law 2643 [(0, .ref b), (1, .ref x), (2, .ref (x + 89)), (3, .int (iI (i : Int)))] [] S2 ∧ xLw P b L xs x S2 A' ∧ S2.2 = S.2 := by
  obtain ⟨v, S1, S2, A', c1, B1, o1, c2, W2, e2⟩ := lw_I (as := []) W (z_gather W.1)
  refine ⟨S2, A', ?_, W2, e2⟩
  rw [e_L_law_33_44]
  simp only [W.o, o1, c1, c2, lg_self, xob_some, cond_true, if_true]
theorem lw_c45 (W : xLw P b L xs x S A) (hL : L ≤ 3072) {i : Nat} (hi : i + 5 < L) : ∃ S2 A', xrun P m_L_law 33 [(0, .ref b), (1, .ref x), (2, .ref (x + 89)), (3, .int (iI (i : Int)))] [.int (iI 45)] S = xrun P m_L_law 2643 [(0, .ref b), (1, .ref x), (2, .ref (x + 89)), (3, .int (iI (i : Int)))] [] S2 ∧ xLw P b L xs x S2 A' ∧ S2.2 = S.2 := by
  by_cases hb1 : xs (i + 1) = 0
  · obtain ⟨v, S1, S2, A', c1, B1, o1, c2, W2, e2⟩ := lw_I (as := [.int (iI 0)]) W (z_period W.1 false)
    refine ⟨S2, A', ?_, W2, e2⟩
    have r1 : xrdI S b (iI (i : Int) + iI 1) = some (xs (i + 1)) := W.2.2.rd hL (k := 1) (by omega)
    have q1 : xrdI S1 b (iI (i : Int) + iI 1) = some (xs (i + 1)) := B1.rd hL (k := 1) (by omega)
    rw [e_L_law_33_45]
    simp only [e_L_law_2064, e_L_law_2081, r1, q1, if_pos hb1, W.o, o1, c1, c2, lg_self, xob_some, cond_true, if_true]
  · obtain ⟨v, S1, S2, A', c1, B1, o1, c2, W2, e2⟩ := lw_I (as := [.int (iI 1)]) W (z_period W.1 true)
    refine ⟨S2, A', ?_, W2, e2⟩
    have r1 : xrdI S b (iI (i : Int) + iI 1) = some (xs (i + 1)) := W.2.2.rd hL (k := 1) (by omega)
    have q1 : xrdI S1 b (iI (i : Int) + iI 1) = some (xs (i + 1)) := B1.rd hL (k := 1) (by omega)
    rw [e_L_law_33_45]
    simp only [e_L_law_2064, e_L_law_2081, r1, q1, if_neg hb1, W.o, o1, c1, c2, lg_self, xob_some, cond_true, if_true]
theorem lw_c46 (W : xLw P b L xs x S A) (hL : L ≤ 3072) {i : Nat} (hi : i + 5 < L) : ∃ S2 A', xrun P m_L_law 33 [(0, .ref b), (1, .ref x), (2, .ref (x + 89)), (3, .int (iI (i : Int)))] [.int (iI 46)] S = xrun P m_L_law 2643 [(0, .ref b), (1, .ref x), (2, .ref (x + 89)), (3, .int (iI (i : Int)))] [] S2 ∧ xLw P b L xs x S2 A' ∧ S2.2 = S.2 := by
  obtain ⟨a1, ha1, l1, u1⟩ := iI_of (xs (i + 1))
  obtain ⟨a2, ha2, l2, u2⟩ := iI_of (xs (i + 2))
  obtain ⟨a3, ha3, l3, u3⟩ := iI_of (xs (i + 3))
  obtain ⟨v, S1, S2, A', c1, B1, o1, c2, W2, e2⟩ := lw_I (as := [.int (iI a1), .int (iI a2), .int (iI a3)]) W (z_grid W.1 l1 u1 l2 u2 l3 u3)
  refine ⟨S2, A', ?_, W2, e2⟩
  have r1 : xrdI S b (iI (i : Int) + iI 1) = some (xs (i + 1)) := W.2.2.rd hL (k := 1) (by omega)
  have q1 : xrdI S1 b (iI (i : Int) + iI 1) = some (xs (i + 1)) := B1.rd hL (k := 1) (by omega)
  have r2 : xrdI S b (iI (i : Int) + iI 2) = some (xs (i + 2)) := W.2.2.rd hL (k := 2) (by omega)
  have q2 : xrdI S1 b (iI (i : Int) + iI 2) = some (xs (i + 2)) := B1.rd hL (k := 2) (by omega)
  have r3 : xrdI S b (iI (i : Int) + iI 3) = some (xs (i + 3)) := W.2.2.rd hL (k := 3) (by omega)
  have q3 : xrdI S1 b (iI (i : Int) + iI 3) = some (xs (i + 3)) := B1.rd hL (k := 3) (by omega)
  rw [e_L_law_33_46]
  simp only [r1, q1, r2, q2, r3, q3, ha1, ha2, ha3, W.o, o1, c1, c2, lg_self, xob_some, cond_true, if_true]
theorem lw_c47 (W : xLw P b L xs x S A) (hL : L ≤ 3072) {i : Nat} (hi : i + 5 < L) : ∃ S2 A', xrun P m_L_law 33 [(0, .ref b), (1, .ref x), (2, .ref (x + 89)), (3, .int (iI (i : Int)))] [.int (iI 47)] S = xrun P m_L_law 2643 [(0, .ref b), (1, .ref x), (2, .ref (x + 89)), (3, .int (iI (i : Int)))] [] S2 ∧ xLw P b L xs x S2 A' ∧ S2.2 = S.2 := by
  obtain ⟨a1, ha1, l1, u1⟩ := iI_of (xs (i + 1))
  obtain ⟨a2, ha2, l2, u2⟩ := iI_of (xs (i + 2))
  obtain ⟨v, S1, S2, A', c1, B1, o1, c2, W2, e2⟩ := lw_I (as := [.int (iI a1), .int (iI a2)]) W (z_dense W.1 l1 u1 l2 u2)
  refine ⟨S2, A', ?_, W2, e2⟩
  have r1 : xrdI S b (iI (i : Int) + iI 1) = some (xs (i + 1)) := W.2.2.rd hL (k := 1) (by omega)
  have q1 : xrdI S1 b (iI (i : Int) + iI 1) = some (xs (i + 1)) := B1.rd hL (k := 1) (by omega)
  have r2 : xrdI S b (iI (i : Int) + iI 2) = some (xs (i + 2)) := W.2.2.rd hL (k := 2) (by omega)
  have q2 : xrdI S1 b (iI (i : Int) + iI 2) = some (xs (i + 2)) := B1.rd hL (k := 2) (by omega)
  rw [e_L_law_33_47]
  simp only [r1, q1, r2, q2, ha1, ha2, W.o, o1, c1, c2, lg_self, xob_some, cond_true, if_true]
theorem lw_c48 (W : xLw P b L xs x S A) (hL : L ≤ 3072) {i : Nat} (hi : i + 5 < L) : ∃ S2 A', xrun P m_L_law 33 [(0, .ref b), (1, .ref x), (2, .ref (x + 89)), (3, .int (iI (i : Int)))] [.int (iI 48)] S = xrun P m_L_law 2643 [(0, .ref b), (1, .ref x), (2, .ref (x + 89)), (3, .int (iI (i : Int)))] [] S2 ∧ xLw P b L xs x S2 A' ∧ S2.2 = S.2 := by
  obtain ⟨a1, ha1, l1, u1⟩ := iI_of (xs (i + 1))
  obtain ⟨v, S1, S2, A', c1, B1, o1, c2, W2, e2⟩ := lw_I (as := [.int (iI a1)]) W (z_leastGrid W.1 l1 u1)
  refine ⟨S2, A', ?_, W2, e2⟩
  have r1 : xrdI S b (iI (i : Int) + iI 1) = some (xs (i + 1)) := W.2.2.rd hL (k := 1) (by omega)
  have q1 : xrdI S1 b (iI (i : Int) + iI 1) = some (xs (i + 1)) := B1.rd hL (k := 1) (by omega)
  rw [e_L_law_33_48]
  simp only [r1, q1, ha1, W.o, o1, c1, c2, lg_self, xob_some, cond_true, if_true]
theorem lw_c49 (W : xLw P b L xs x S A) (hL : L ≤ 3072) {i : Nat} (hi : i + 5 < L) : ∃ S2 A', xrun P m_L_law 33 [(0, .ref b), (1, .ref x), (2, .ref (x + 89)), (3, .int (iI (i : Int)))] [.int (iI 49)] S = xrun P m_L_law 2643 [(0, .ref b), (1, .ref x), (2, .ref (x + 89)), (3, .int (iI (i : Int)))] [] S2 ∧ xLw P b L xs x S2 A' ∧ S2.2 = S.2 := by
  obtain ⟨a1, ha1, l1, u1⟩ := iI_of (xs (i + 1))
  obtain ⟨v, S1, S2, A', c1, B1, o1, c2, W2, e2⟩ := lw_I (as := [.int (iI a1)]) W (z_divided W.1 l1 u1)
  refine ⟨S2, A', ?_, W2, e2⟩
  have r1 : xrdI S b (iI (i : Int) + iI 1) = some (xs (i + 1)) := W.2.2.rd hL (k := 1) (by omega)
  have q1 : xrdI S1 b (iI (i : Int) + iI 1) = some (xs (i + 1)) := B1.rd hL (k := 1) (by omega)
  rw [e_L_law_33_49]
  simp only [r1, q1, ha1, W.o, o1, c1, c2, lg_self, xob_some, cond_true, if_true]
theorem lw_c50 (W : xLw P b L xs x S A) (hL : L ≤ 3072) {i : Nat} (hi : i + 5 < L) : ∃ S2 A', xrun P m_L_law 33 [(0, .ref b), (1, .ref x), (2, .ref (x + 89)), (3, .int (iI (i : Int)))] [.int (iI 50)] S = xrun P m_L_law 2643 [(0, .ref b), (1, .ref x), (2, .ref (x + 89)), (3, .int (iI (i : Int)))] [] S2 ∧ xLw P b L xs x S2 A' ∧ S2.2 = S.2 := by
  obtain ⟨a1, ha1, l1, u1⟩ := iI_of (xs (i + 1))
  obtain ⟨v, S1, S2, A', c1, B1, o1, c2, W2, e2⟩ := lw_I (as := [.int (iI a1)]) W (z_mates W.1 l1 u1)
  refine ⟨S2, A', ?_, W2, e2⟩
  have r1 : xrdI S b (iI (i : Int) + iI 1) = some (xs (i + 1)) := W.2.2.rd hL (k := 1) (by omega)
  have q1 : xrdI S1 b (iI (i : Int) + iI 1) = some (xs (i + 1)) := B1.rd hL (k := 1) (by omega)
  rw [e_L_law_33_50]
  simp only [r1, q1, ha1, W.o, o1, c1, c2, lg_self, xob_some, cond_true, if_true]
theorem lw_c51 (W : xLw P b L xs x S A) (hL : L ≤ 3072) {i : Nat} (hi : i + 5 < L) : ∃ S2 A', xrun P m_L_law 33 [(0, .ref b), (1, .ref x), (2, .ref (x + 89)), (3, .int (iI (i : Int)))] [.int (iI 51)] S = xrun P m_L_law 2643 [(0, .ref b), (1, .ref x), (2, .ref (x + 89)), (3, .int (iI (i : Int)))] [] S2 ∧ xLw P b L xs x S2 A' ∧ S2.2 = S.2 := by
  obtain ⟨a1, ha1, l1, u1⟩ := iI_of (xs (i + 1))
  obtain ⟨a2, ha2, l2, u2⟩ := iI_of (xs (i + 2))
  obtain ⟨v, S1, S2, A', c1, B1, o1, c2, W2, e2⟩ := lw_I (as := [.int (iI a1), .int (iI a2)]) W (z_rests W.1 l1 u1 l2 u2)
  refine ⟨S2, A', ?_, W2, e2⟩
  have r1 : xrdI S b (iI (i : Int) + iI 1) = some (xs (i + 1)) := W.2.2.rd hL (k := 1) (by omega)
  have q1 : xrdI S1 b (iI (i : Int) + iI 1) = some (xs (i + 1)) := B1.rd hL (k := 1) (by omega)
  have r2 : xrdI S b (iI (i : Int) + iI 2) = some (xs (i + 2)) := W.2.2.rd hL (k := 2) (by omega)
  have q2 : xrdI S1 b (iI (i : Int) + iI 2) = some (xs (i + 2)) := B1.rd hL (k := 2) (by omega)
  rw [e_L_law_33_51]
  simp only [r1, q1, r2, q2, ha1, ha2, W.o, o1, c1, c2, lg_self, xob_some, cond_true, if_true]
theorem lw_c52 (W : xLw P b L xs x S A) (hL : L ≤ 3072) {i : Nat} (hi : i + 5 < L) : ∃ S2 A', xrun P m_L_law 33 [(0, .ref b), (1, .ref x), (2, .ref (x + 89)), (3, .int (iI (i : Int)))] [.int (iI 52)] S = xrun P m_L_law 2643 [(0, .ref b), (1, .ref x), (2, .ref (x + 89)), (3, .int (iI (i : Int)))] [] S2 ∧ xLw P b L xs x S2 A' ∧ S2.2 = S.2 := by
  obtain ⟨v, S1, S2, A', c1, B1, o1, c2, W2, e2⟩ := lw_I (as := []) W (z_prime W.1 W.2.2.2.2.2.1)
  refine ⟨S2, A', ?_, W2, e2⟩
  rw [e_L_law_33_52]
  simp only [W.o, o1, c1, c2, lg_self, xob_some, cond_true, if_true]
theorem lw_c53 (W : xLw P b L xs x S A) (hL : L ≤ 3072) {i : Nat} (hi : i + 5 < L) : ∃ S2 A', xrun P m_L_law 33 [(0, .ref b), (1, .ref x), (2, .ref (x + 89)), (3, .int (iI (i : Int)))] [.int (iI 53)] S = xrun P m_L_law 2643 [(0, .ref b), (1, .ref x), (2, .ref (x + 89)), (3, .int (iI (i : Int)))] [] S2 ∧ xLw P b L xs x S2 A' ∧ S2.2 = S.2 := by
  obtain ⟨a1, ha1, l1, u1⟩ := iI_of (xs (i + 1))
  obtain ⟨a2, ha2, l2, u2⟩ := iI_of (xs (i + 2))
  obtain ⟨a3, ha3, l3, u3⟩ := iI_of (xs (i + 3))
  obtain ⟨a4, ha4, l4, u4⟩ := iI_of (xs (i + 4))
  obtain ⟨v, S1, S2, A', c1, B1, o1, c2, W2, e2⟩ := lw_I (as := [.int (iI a1), .int (iI a2), .int (iI a3), .int (iI a4)]) W (z_were W.1 l1 u1 l2 u2 l3 u3 l4 u4)
  refine ⟨S2, A', ?_, W2, e2⟩
  have r1 : xrdI S b (iI (i : Int) + iI 1) = some (xs (i + 1)) := W.2.2.rd hL (k := 1) (by omega)
  have q1 : xrdI S1 b (iI (i : Int) + iI 1) = some (xs (i + 1)) := B1.rd hL (k := 1) (by omega)
  have r2 : xrdI S b (iI (i : Int) + iI 2) = some (xs (i + 2)) := W.2.2.rd hL (k := 2) (by omega)
  have q2 : xrdI S1 b (iI (i : Int) + iI 2) = some (xs (i + 2)) := B1.rd hL (k := 2) (by omega)
  have r3 : xrdI S b (iI (i : Int) + iI 3) = some (xs (i + 3)) := W.2.2.rd hL (k := 3) (by omega)
  have q3 : xrdI S1 b (iI (i : Int) + iI 3) = some (xs (i + 3)) := B1.rd hL (k := 3) (by omega)
  have r4 : xrdI S b (iI (i : Int) + iI 4) = some (xs (i + 4)) := W.2.2.rd hL (k := 4) (by omega)
  have q4 : xrdI S1 b (iI (i : Int) + iI 4) = some (xs (i + 4)) := B1.rd hL (k := 4) (by omega)
  rw [e_L_law_33_53]
  simp only [r1, q1, r2, q2, r3, q3, r4, q4, ha1, ha2, ha3, ha4, W.o, o1, c1, c2, lg_self, xob_some, cond_true, if_true]
theorem lw_c54 (W : xLw P b L xs x S A) (hL : L ≤ 3072) {i : Nat} (hi : i + 5 < L) : ∃ S2 A', xrun P m_L_law 33 [(0, .ref b), (1, .ref x), (2, .ref (x + 89)), (3, .int (iI (i : Int)))] [.int (iI 54)] S = xrun P m_L_law 2643 [(0, .ref b), (1, .ref x), (2, .ref (x + 89)), (3, .int (iI (i : Int)))] [] S2 ∧ xLw P b L xs x S2 A' ∧ S2.2 = S.2 := by
  obtain ⟨a1, ha1, l1, u1⟩ := iI_of (xs (i + 1))
  obtain ⟨a2, ha2, l2, u2⟩ := iI_of (xs (i + 2))
  obtain ⟨v, S1, S2, A', c1, B1, o1, c2, W2, e2⟩ := lw_I (as := [.int (iI a1), .int (iI a2)]) W (z_kindest W.1 l1 u1 l2 u2)
  refine ⟨S2, A', ?_, W2, e2⟩
  have r1 : xrdI S b (iI (i : Int) + iI 1) = some (xs (i + 1)) := W.2.2.rd hL (k := 1) (by omega)
  have q1 : xrdI S1 b (iI (i : Int) + iI 1) = some (xs (i + 1)) := B1.rd hL (k := 1) (by omega)
  have r2 : xrdI S b (iI (i : Int) + iI 2) = some (xs (i + 2)) := W.2.2.rd hL (k := 2) (by omega)
  have q2 : xrdI S1 b (iI (i : Int) + iI 2) = some (xs (i + 2)) := B1.rd hL (k := 2) (by omega)
  rw [e_L_law_33_54]
  simp only [r1, q1, r2, q2, ha1, ha2, W.o, o1, c1, c2, lg_self, xob_some, cond_true, if_true]
theorem lw_c55 (W : xLw P b L xs x S A) (hL : L ≤ 3072) {i : Nat} (hi : i + 5 < L) : ∃ S2 A', xrun P m_L_law 33 [(0, .ref b), (1, .ref x), (2, .ref (x + 89)), (3, .int (iI (i : Int)))] [.int (iI 55)] S = xrun P m_L_law 2643 [(0, .ref b), (1, .ref x), (2, .ref (x + 89)), (3, .int (iI (i : Int)))] [] S2 ∧ xLw P b L xs x S2 A' ∧ S2.2 = S.2 := by
  obtain ⟨a1, ha1, l1, u1⟩ := iI_of (xs (i + 1))
  obtain ⟨a2, ha2, l2, u2⟩ := iI_of (xs (i + 2))
  obtain ⟨v, S1, S2, A', c1, B1, o1, c2, W2, e2⟩ := lw_I (as := [.int (iI a1), .int (iI a2)]) W (z_kindestStart W.1 l1 u1 l2 u2)
  refine ⟨S2, A', ?_, W2, e2⟩
  have r1 : xrdI S b (iI (i : Int) + iI 1) = some (xs (i + 1)) := W.2.2.rd hL (k := 1) (by omega)
  have q1 : xrdI S1 b (iI (i : Int) + iI 1) = some (xs (i + 1)) := B1.rd hL (k := 1) (by omega)
  have r2 : xrdI S b (iI (i : Int) + iI 2) = some (xs (i + 2)) := W.2.2.rd hL (k := 2) (by omega)
  have q2 : xrdI S1 b (iI (i : Int) + iI 2) = some (xs (i + 2)) := B1.rd hL (k := 2) (by omega)
  rw [e_L_law_33_55]
  simp only [r1, q1, r2, q2, ha1, ha2, W.o, o1, c1, c2, lg_self, xob_some, cond_true, if_true]
theorem lw_c56 (W : xLw P b L xs x S A) (hL : L ≤ 3072) {i : Nat} (hi : i + 5 < L) : ∃ S2 A', xrun P m_L_law 33 [(0, .ref b), (1, .ref x), (2, .ref (x + 89)), (3, .int (iI (i : Int)))] [.int (iI 56)] S = xrun P m_L_law 2643 [(0, .ref b), (1, .ref x), (2, .ref (x + 89)), (3, .int (iI (i : Int)))] [] S2 ∧ xLw P b L xs x S2 A' ∧ S2.2 = S.2 := by
  obtain ⟨a1, ha1, l1, u1⟩ := iI_of (xs (i + 1))
  obtain ⟨a2, ha2, l2, u2⟩ := iI_of (xs (i + 2))
  obtain ⟨v, S1, S2, A', c1, B1, o1, c2, W2, e2⟩ := lw_I (as := [.int (iI a1), .int (iI a2)]) W (z_harsh W.1 l1 u1 l2 u2)
  refine ⟨S2, A', ?_, W2, e2⟩
  have r1 : xrdI S b (iI (i : Int) + iI 1) = some (xs (i + 1)) := W.2.2.rd hL (k := 1) (by omega)
  have q1 : xrdI S1 b (iI (i : Int) + iI 1) = some (xs (i + 1)) := B1.rd hL (k := 1) (by omega)
  have r2 : xrdI S b (iI (i : Int) + iI 2) = some (xs (i + 2)) := W.2.2.rd hL (k := 2) (by omega)
  have q2 : xrdI S1 b (iI (i : Int) + iI 2) = some (xs (i + 2)) := B1.rd hL (k := 2) (by omega)
  rw [e_L_law_33_56]
  simp only [r1, q1, r2, q2, ha1, ha2, W.o, o1, c1, c2, lg_self, xob_some, cond_true, if_true]
theorem lw_c57 (W : xLw P b L xs x S A) (hL : L ≤ 3072) {i : Nat} (hi : i + 5 < L) : ∃ S2 A', xrun P m_L_law 33 [(0, .ref b), (1, .ref x), (2, .ref (x + 89)), (3, .int (iI (i : Int)))] [.int (iI 57)] S = xrun P m_L_law 2643 [(0, .ref b), (1, .ref x), (2, .ref (x + 89)), (3, .int (iI (i : Int)))] [] S2 ∧ xLw P b L xs x S2 A' ∧ S2.2 = S.2 := by
  obtain ⟨a1, ha1, l1, u1⟩ := iI_of (xs (i + 1))
  obtain ⟨a2, ha2, l2, u2⟩ := iI_of (xs (i + 2))
  obtain ⟨a3, ha3, l3, u3⟩ := iI_of (xs (i + 3))
  obtain ⟨v, S1, S2, A', c1, B1, o1, c2, W2, e2⟩ := lw_I (as := [.int (iI a1), .int (iI a2), .int (iI a3)]) W (z_without W.1 l1 u1 l2 u2 l3 u3)
  refine ⟨S2, A', ?_, W2, e2⟩
  have r1 : xrdI S b (iI (i : Int) + iI 1) = some (xs (i + 1)) := W.2.2.rd hL (k := 1) (by omega)
  have q1 : xrdI S1 b (iI (i : Int) + iI 1) = some (xs (i + 1)) := B1.rd hL (k := 1) (by omega)
  have r2 : xrdI S b (iI (i : Int) + iI 2) = some (xs (i + 2)) := W.2.2.rd hL (k := 2) (by omega)
  have q2 : xrdI S1 b (iI (i : Int) + iI 2) = some (xs (i + 2)) := B1.rd hL (k := 2) (by omega)
  have r3 : xrdI S b (iI (i : Int) + iI 3) = some (xs (i + 3)) := W.2.2.rd hL (k := 3) (by omega)
  have q3 : xrdI S1 b (iI (i : Int) + iI 3) = some (xs (i + 3)) := B1.rd hL (k := 3) (by omega)
  rw [e_L_law_33_57]
  simp only [r1, q1, r2, q2, r3, q3, ha1, ha2, ha3, W.o, o1, c1, c2, lg_self, xob_some, cond_true, if_true]
theorem lw_c58 (W : xLw P b L xs x S A) (hL : L ≤ 3072) {i : Nat} (hi : i + 5 < L) : ∃ S2 A', xrun P m_L_law 33 [(0, .ref b), (1, .ref x), (2, .ref (x + 89)), (3, .int (iI (i : Int)))] [.int (iI 58)] S = xrun P m_L_law 2643 [(0, .ref b), (1, .ref x), (2, .ref (x + 89)), (3, .int (iI (i : Int)))] [] S2 ∧ xLw P b L xs x S2 A' ∧ S2.2 = S.2 := by
  obtain ⟨v, S1, S2, A', c1, B1, o1, c2, W2, e2⟩ := lw_I (as := []) W (z_loneliest W.1)
  refine ⟨S2, A', ?_, W2, e2⟩
  rw [e_L_law_33_58]
  simp only [W.o, o1, c1, c2, lg_self, xob_some, cond_true, if_true]
theorem lw_c59 (W : xLw P b L xs x S A) (hL : L ≤ 3072) {i : Nat} (hi : i + 5 < L) : ∃ S2 A', xrun P m_L_law 33 [(0, .ref b), (1, .ref x), (2, .ref (x + 89)), (3, .int (iI (i : Int)))] [.int (iI 59)] S = xrun P m_L_law 2643 [(0, .ref b), (1, .ref x), (2, .ref (x + 89)), (3, .int (iI (i : Int)))] [] S2 ∧ xLw P b L xs x S2 A' ∧ S2.2 = S.2 := by
  obtain ⟨a1, ha1, l1, u1⟩ := iI_of (xs (i + 1))
  obtain ⟨v, S1, S2, A', c1, B1, o1, c2, W2, e2⟩ := lw_I (as := [.int (iI a1)]) W (z_spell W.1 W.2.2.2.2.2.2 W.tz l1 u1)
  refine ⟨S2, A', ?_, W2, e2⟩
  have r1 : xrdI S b (iI (i : Int) + iI 1) = some (xs (i + 1)) := W.2.2.rd hL (k := 1) (by omega)
  have q1 : xrdI S1 b (iI (i : Int) + iI 1) = some (xs (i + 1)) := B1.rd hL (k := 1) (by omega)
  rw [e_L_law_33_59]
  simp only [r1, q1, ha1, W.o, o1, c1, c2, lg_self, xob_some, cond_true, if_true]
theorem lw_c60 (W : xLw P b L xs x S A) (hL : L ≤ 3072) {i : Nat} (hi : i + 5 < L) : ∃ S2 A', xrun P m_L_law 33 [(0, .ref b), (1, .ref x), (2, .ref (x + 89)), (3, .int (iI (i : Int)))] [.int (iI 60)] S = xrun P m_L_law 2643 [(0, .ref b), (1, .ref x), (2, .ref (x + 89)), (3, .int (iI (i : Int)))] [] S2 ∧ xLw P b L xs x S2 A' ∧ S2.2 = S.2 := by
  obtain ⟨a1, ha1, l1, u1⟩ := iI_of (xs (i + 1))
  obtain ⟨a2, ha2, l2, u2⟩ := iI_of (xs (i + 2))
  obtain ⟨v, S1, S2, A', c1, B1, o1, c2, W2, e2⟩ := lw_I (as := [.int (iI a1), .int (iI a2)]) W (z_report W.1 W.2.2.2.2.2.2 W.tz l1 u1 l2 u2)
  refine ⟨S2, A', ?_, W2, e2⟩
  have r1 : xrdI S b (iI (i : Int) + iI 1) = some (xs (i + 1)) := W.2.2.rd hL (k := 1) (by omega)
  have q1 : xrdI S1 b (iI (i : Int) + iI 1) = some (xs (i + 1)) := B1.rd hL (k := 1) (by omega)
  have r2 : xrdI S b (iI (i : Int) + iI 2) = some (xs (i + 2)) := W.2.2.rd hL (k := 2) (by omega)
  have q2 : xrdI S1 b (iI (i : Int) + iI 2) = some (xs (i + 2)) := B1.rd hL (k := 2) (by omega)
  rw [e_L_law_33_60]
  simp only [r1, q1, r2, q2, ha1, ha2, W.o, o1, c1, c2, lg_self, xob_some, cond_true, if_true]
theorem lw_c61 (W : xLw P b L xs x S A) (hL : L ≤ 3072) {i : Nat} (hi : i + 5 < L) : ∃ S2 A', xrun P m_L_law 33 [(0, .ref b), (1, .ref x), (2, .ref (x + 89)), (3, .int (iI (i : Int)))] [.int (iI 61)] S = xrun P m_L_law 2643 [(0, .ref b), (1, .ref x), (2, .ref (x + 89)), (3, .int (iI (i : Int)))] [] S2 ∧ xLw P b L xs x S2 A' ∧ S2.2 = S.2 := by
  obtain ⟨a1, ha1, l1, u1⟩ := iI_of (xs (i + 1))
  obtain ⟨a2, ha2, l2, u2⟩ := iI_of (xs (i + 2))
  obtain ⟨a3, ha3, l3, u3⟩ := iI_of (xs (i + 3))
  obtain ⟨v, S1, S2, A', c1, B1, o1, c2, W2, e2⟩ := lw_I (as := [.int (iI a1), .int (iI a2), .int (iI a3)]) W (z_tells W.1 W.2.2.2.2.2.2 W.tz l1 u1 l2 u2 l3 u3)
  refine ⟨S2, A', ?_, W2, e2⟩
  have r1 : xrdI S b (iI (i : Int) + iI 1) = some (xs (i + 1)) := W.2.2.rd hL (k := 1) (by omega)
  have q1 : xrdI S1 b (iI (i : Int) + iI 1) = some (xs (i + 1)) := B1.rd hL (k := 1) (by omega)
  have r2 : xrdI S b (iI (i : Int) + iI 2) = some (xs (i + 2)) := W.2.2.rd hL (k := 2) (by omega)
  have q2 : xrdI S1 b (iI (i : Int) + iI 2) = some (xs (i + 2)) := B1.rd hL (k := 2) (by omega)
  have r3 : xrdI S b (iI (i : Int) + iI 3) = some (xs (i + 3)) := W.2.2.rd hL (k := 3) (by omega)
  have q3 : xrdI S1 b (iI (i : Int) + iI 3) = some (xs (i + 3)) := B1.rd hL (k := 3) (by omega)
  rw [e_L_law_33_61]
  simp only [r1, q1, r2, q2, r3, q3, ha1, ha2, ha3, W.o, o1, c1, c2, lg_self, xob_some, cond_true, if_true]
theorem lw_c62 (W : xLw P b L xs x S A) (hL : L ≤ 3072) {i : Nat} (hi : i + 5 < L) : ∃ S2 A', xrun P m_L_law 33 [(0, .ref b), (1, .ref x), (2, .ref (x + 89)), (3, .int (iI (i : Int)))] [.int (iI 62)] S = xrun P m_L_law 2643 [(0, .ref b), (1, .ref x), (2, .ref (x + 89)), (3, .int (iI (i : Int)))] [] S2 ∧ xLw P b L xs x S2 A' ∧ S2.2 = S.2 := by
  obtain ⟨a1, ha1, l1, u1⟩ := iI_of (xs (i + 1))
  obtain ⟨v, S1, S2, A', c1, B1, o1, c2, W2, e2⟩ := lw_I (as := [.int (iI a1)]) W (z_count W.1 l1 u1)
  refine ⟨S2, A', ?_, W2, e2⟩
  have r1 : xrdI S b (iI (i : Int) + iI 1) = some (xs (i + 1)) := W.2.2.rd hL (k := 1) (by omega)
  have q1 : xrdI S1 b (iI (i : Int) + iI 1) = some (xs (i + 1)) := B1.rd hL (k := 1) (by omega)
  rw [e_L_law_33_62]
  simp only [r1, q1, ha1, W.o, o1, c1, c2, lg_self, xob_some, cond_true, if_true]
theorem lw_c63 (W : xLw P b L xs x S A) (hL : L ≤ 3072) {i : Nat} (hi : i + 5 < L) : ∃ S2 A', xrun P m_L_law 33 [(0, .ref b), (1, .ref x), (2, .ref (x + 89)), (3, .int (iI (i : Int)))] [.int (iI 63)] S = xrun P m_L_law 2643 [(0, .ref b), (1, .ref x), (2, .ref (x + 89)), (3, .int (iI (i : Int)))] [] S2 ∧ xLw P b L xs x S2 A' ∧ S2.2 = S.2 := by
  obtain ⟨a1, ha1, l1, u1⟩ := iI_of (xs (i + 1))
  obtain ⟨a2, ha2, l2, u2⟩ := iI_of (xs (i + 2))
  obtain ⟨v, S1, S2, A', c1, B1, o1, c2, W2, e2⟩ := lw_I (as := [.int (iI a1), .int (iI a2)]) W (z_of W.1 l1 u1 l2 u2)
  refine ⟨S2, A', ?_, W2, e2⟩
  have r1 : xrdI S b (iI (i : Int) + iI 1) = some (xs (i + 1)) := W.2.2.rd hL (k := 1) (by omega)
  have q1 : xrdI S1 b (iI (i : Int) + iI 1) = some (xs (i + 1)) := B1.rd hL (k := 1) (by omega)
  have r2 : xrdI S b (iI (i : Int) + iI 2) = some (xs (i + 2)) := W.2.2.rd hL (k := 2) (by omega)
  have q2 : xrdI S1 b (iI (i : Int) + iI 2) = some (xs (i + 2)) := B1.rd hL (k := 2) (by omega)
  rw [e_L_law_33_63]
  simp only [r1, q1, r2, q2, ha1, ha2, W.o, o1, c1, c2, lg_self, xob_some, cond_true, if_true]
end LX
section LZ
variable {P : Nat → Nat} {b L : Nat} {xs : Nat → Int32} {x : Nat} {S T : xS} {A : xAb}
theorem lw_step (W : xLw P b L xs x S A) (hL : L ≤ 3072) {i : Nat} (hi : i + 6 ≤ L) : ∃ S2 A', xrun P m_L_law 18 [(0, .ref b), (1, .ref x), (2, .ref (x + 89)), (3, .int (iI (i : Int)))] [] S = xrun P m_L_law 18 [(0, .ref b), (1, .ref x), (2, .ref (x + 89)), (3, .int (iI (i + 6 : Nat)))] [] S2 ∧ xLw P b L xs x S2 A' ∧ S2.2 = S.2 := by
  obtain ⟨j, hj, ej⟩ := x_and_nn (xs i) 63 (by decide)
  have ej' : xs i &&& iI 63 = iI (j : Int) := ej
  have ln : xlen S b = some (iI (L : Int)) := by
    unfold xlen
    rw [W.2.2.2.2.1]
    rfl
  have rd : xrdI S b (iI (i : Int)) = some (xs i) := by rw [xrdI_at6 W.2.2.2.2.1 (by omega) (by omega) (by omega), Int.toNat_natCast]
  have key : ∃ S2 A', xrun P m_L_law 33 [(0, .ref b), (1, .ref x), (2, .ref (x + 89)), (3, .int (iI (i : Int)))] [.int (iI (j : Int))] S = xrun P m_L_law 2643 [(0, .ref b), (1, .ref x), (2, .ref (x + 89)), (3, .int (iI (i : Int)))] [] S2 ∧ xLw P b L xs x S2 A' ∧ S2.2 = S.2 := by
    match j, hj with
    | 0, _ => exact lw_c0 W hL (by omega)
    | 1, _ => exact lw_c1 W hL (by omega)
    | 2, _ => exact lw_c2 W hL (by omega)
    | 3, _ => exact lw_c3 W hL (by omega)
    | 4, _ => exact lw_c4 W hL (by omega)
    | 5, _ => exact lw_c5 W hL (by omega)
    | 6, _ => exact lw_c6 W hL (by omega)
    | 7, _ => exact lw_c7 W hL (by omega)
    | 8, _ => exact lw_c8 W hL (by omega)
    | 9, _ => exact lw_c9 W hL (by omega)
    | 10, _ => exact lw_c10 W hL (by omega)
    | 11, _ => exact lw_c11 W hL (by omega)
    | 12, _ => exact lw_c12 W hL (by omega)
    | 13, _ => exact lw_c13 W hL (by omega)
    | 14, _ => exact lw_c14 W hL (by omega)
    | 15, _ => exact lw_c15 W hL (by omega)
    | 16, _ => exact lw_c16 W hL (by omega)
    | 17, _ => exact lw_c17 W hL (by omega)
    | 18, _ => exact lw_c18 W hL (by omega)
    | 19, _ => exact lw_c19 W hL (by omega)
    | 20, _ => exact lw_c20 W hL (by omega)
    | 21, _ => exact lw_c21 W hL (by omega)
    | 22, _ => exact lw_c22 W hL (by omega)
    | 23, _ => exact lw_c23 W hL (by omega)
    | 24, _ => exact lw_c24 W hL (by omega)
    | 25, _ => exact lw_c25 W hL (by omega)
    | 26, _ => exact lw_c26 W hL (by omega)
    | 27, _ => exact lw_c27 W hL (by omega)
    | 28, _ => exact lw_c28 W hL (by omega)
    | 29, _ => exact lw_c29 W hL (by omega)
    | 30, _ => exact lw_c30 W hL (by omega)
    | 31, _ => exact lw_c31 W hL (by omega)
    | 32, _ => exact lw_c32 W hL (by omega)
    | 33, _ => exact lw_c33 W hL (by omega)
    | 34, _ => exact lw_c34 W hL (by omega)
    | 35, _ => exact lw_c35 W hL (by omega)
    | 36, _ => exact lw_c36 W hL (by omega)
    | 37, _ => exact lw_c37 W hL (by omega)
    | 38, _ => exact lw_c38 W hL (by omega)
    | 39, _ => exact lw_c39 W hL (by omega)
    | 40, _ => exact lw_c40 W hL (by omega)
    | 41, _ => exact lw_c41 W hL (by omega)
    | 42, _ => exact lw_c42 W hL (by omega)
    | 43, _ => exact lw_c43 W hL (by omega)
    | 44, _ => exact lw_c44 W hL (by omega)
    | 45, _ => exact lw_c45 W hL (by omega)
    | 46, _ => exact lw_c46 W hL (by omega)
    | 47, _ => exact lw_c47 W hL (by omega)
    | 48, _ => exact lw_c48 W hL (by omega)
    | 49, _ => exact lw_c49 W hL (by omega)
    | 50, _ => exact lw_c50 W hL (by omega)
    | 51, _ => exact lw_c51 W hL (by omega)
    | 52, _ => exact lw_c52 W hL (by omega)
    | 53, _ => exact lw_c53 W hL (by omega)
    | 54, _ => exact lw_c54 W hL (by omega)
    | 55, _ => exact lw_c55 W hL (by omega)
    | 56, _ => exact lw_c56 W hL (by omega)
    | 57, _ => exact lw_c57 W hL (by omega)
    | 58, _ => exact lw_c58 W hL (by omega)
    | 59, _ => exact lw_c59 W hL (by omega)
    | 60, _ => exact lw_c60 W hL (by omega)
    | 61, _ => exact lw_c61 W hL (by omega)
    | 62, _ => exact lw_c62 W hL (by omega)
    | 63, _ => exact lw_c63 W hL (by omega)
    | j + 64, h => omega
  obtain ⟨S2, A', k1, k2, k3⟩ := key
  refine ⟨S2, A', ?_, k2, k3⟩
  rw [e_L_law_18, ln, xob_some, iI_sub, if_neg (by rw [iI_lt (by omega) (by omega) (by omega) (by omega)]; omega), rd, xob_some, ej', k1, e_L_law_2643, iI_add]
  rfl
theorem lw_runs (hL : L ≤ 3072) : ∀ (d i : Nat) (S : xS) (A : xAb), L ≤ i + d → i ≤ L → xLw P b L xs x S A → ∃ T, xrun P m_L_law 18 [(0, .ref b), (1, .ref x), (2, .ref (x + 89)), (3, .int (iI (i : Int)))] [] S = some (some (.int (iI 1)), T) ∧ T.2 = S.2 := by
  have stop : ∀ (i : Nat) (S : xS) (A : xAb), L < i + 6 → i ≤ L → xLw P b L xs x S A → ∃ T, xrun P m_L_law 18 [(0, .ref b), (1, .ref x), (2, .ref (x + 89)), (3, .int (iI (i : Int)))] [] S = some (some (.int (iI 1)), T) ∧ T.2 = S.2 := by
    intro i S A h h2 W
    have ln : xlen S b = some (iI (L : Int)) := by
      unfold xlen
      rw [W.2.2.2.2.1]
      rfl
    refine ⟨S, ?_, rfl⟩
    rw [e_L_law_18, ln, xob_some, iI_sub, if_pos (by rw [iI_lt (by omega) (by omega) (by omega) (by omega)]; omega)]
  intro d
  induction d with
  | zero =>
    intro i S A hd h2 W
    exact stop i S A (by omega) h2 W
  | succ d ih =>
    intro i S A hd h2 W
    by_cases c : i + 6 ≤ L
    · obtain ⟨S2, A', k1, k2, k3⟩ := lw_step W hL c
      obtain ⟨T, t1, t2⟩ := ih (i + 6) S2 A' (by omega) c k2
      exact ⟨T, k1.trans t1, t2.trans k3⟩
    · exact stop i S A (by omega) h2 W
end LZ
