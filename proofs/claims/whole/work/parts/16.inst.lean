-- deps: 14b.loop
/-! Instant: where all are at one time, the ring being W long -/
def xIs (S : xS) (a k : Nat) (W : Int) (f : Nat → Int32) : Prop := S.1 a = some (.inl (2, [.ref (a + 1), .int (iI k), .int (iI W)])) ∧ S.1 (a + 1) = some (.inr (0, (6, .inl f)))
def xIn (S : xS) (a k : Nat) (W : Int) (pl : Nat → Int) : Prop := k ≤ 6 ∧ 0 < W ∧ W ≤ 11988 ∧ (∀ r, r < k → 0 ≤ pl r ∧ pl r < W) ∧ ∃ f, xIs S a k W f ∧ ∀ r, r < k → f r = iI (pl r)
theorem xIs.fr {S S1 : xS} {a k : Nat} {W : Int} {f : Nat → Int32} {A : Nat → Prop} (h : xIs S a k W f) (hf : xfr S S1 A) (h0 : ∀ c, xrg a 2 c → ¬ A c) : xIs S1 a k W f :=
  ⟨(hf.2 _ (h0 _ ⟨by omega, by omega⟩)).trans h.1, (hf.2 _ (h0 _ ⟨by omega, by omega⟩)).trans h.2⟩
/-- the way from i on to j -/
def xwy (pl : Nat → Int) (W : Int) (i j : Nat) : Int := (pl j - pl i) % W
/-- the shorter way -/
def xap (pl : Nat → Int) (W : Int) (i j : Nat) : Int := min (xwy pl W i j) (W - xwy pl W i j)
/-- the least of it and of f over the first n but i -/
def xlst (f : Nat → Int) (i : Int) (z : Int) : Nat → Int
  | 0 => z
  | n + 1 => if (n : Int) = i then xlst f i z n else min (xlst f i z n) (f n)
/-- a count -/
def xct (p : Nat → Bool) : Nat → Nat
  | 0 => 0
  | n + 1 => xct p n + (if p n then 1 else 0)
theorem xct_le (p : Nat → Bool) : ∀ n, xct p n ≤ n := by
  intro n
  induction n with
  | zero => simp [xct]
  | succ n ih => simp only [xct]; split <;> omega
theorem xlst_bd {f : Nat → Int} {i z A B : Int} (hz : A ≤ z ∧ z ≤ B) : ∀ n, (∀ j, j < n → A ≤ f j ∧ f j ≤ B) → A ≤ xlst f i z n ∧ xlst f i z n ≤ B := by
  intro n
  induction n with
  | zero => intro _; exact hz
  | succ n ih =>
    intro h
    have h1 := ih (fun j hj => h j (by omega))
    have h2 := h n (by omega)
    simp only [xlst]
    split
    · exact h1
    · omega
section IN
variable {P : Nat → Nat} {S : xS} {a k : Nat} {W : Int} {pl : Nat → Int}
theorem xIn.o (h : xIn S a k W pl) : xisO S a 2 = true := by
  obtain ⟨hk, hW, hW2, hp, f, e1, e2⟩ := h
  exact xisO_at e1.1
theorem xIn.n (h : xIn S a k W pl) : xfI S a 2 1 = some (iI k) := by
  obtain ⟨hk, hW, hW2, hp, f, e1, e2⟩ := h
  exact xfI_at e1.1 rfl
theorem xIn.w (h : xIn S a k W pl) : xfI S a 2 2 = some (iI W) := by
  obtain ⟨hk, hW, hW2, hp, f, e1, e2⟩ := h
  exact xfI_at e1.1 rfl
theorem d_whole (h : xIn S a k W pl) : xcI P m_X2_whole [.ref a] S = some (iI W, S) := by
  refine xcI_of ((e_X2_whole_0 P a S).trans ?_)
  rw [h.w, xob_some]
theorem d_placeAt (h : xIn S a k W pl) {r : Nat} (hr : r < k) : xcI P m_X2_placeAt [.ref a, .int (iI r)] S = some (iI (pl r), S) := by
  obtain ⟨hk, hW, hW2, hp, f, e1, e2⟩ := h
  refine xcI_of ((e_X2_placeAt_0 P a (iI r) S).trans ?_)
  simp (disch := omega) only [xfI_at (k := 1) e1.1 rfl, xfR_at (k := 0) e1.1 rfl, xob_some, iI_0, iI_lt, iI_le, xrdI_at e1.2]
  rw [if_neg (by omega), if_neg (by omega), if_neg (by omega), Int.toNat_natCast, e2 r hr]
theorem xwy_bd (h : xIn S a k W pl) {i j : Nat} : 0 ≤ xwy pl W i j ∧ xwy pl W i j < W :=
  ⟨Int.emod_nonneg _ (by have := h.2.1; omega), Int.emod_lt_of_pos _ h.2.1⟩
theorem d_wayFrom (h : xIn S a k W pl) {i j : Nat} (hi : i < k) (hj : j < k) : xcI P m_X2_wayFrom [.ref a, .int (iI i), .int (iI j)] S = some (iI (xwy pl W i j), S) := by
  have hW := h.2.1
  have hW2 := h.2.2.1
  have b1 := h.2.2.2.1 i hi
  have b2 := h.2.2.2.1 j hj
  refine xcI_of ((e_X2_wayFrom_0 P a (iI i) (iI j) S).trans ?_)
  rw [h.o, cond_true, d_placeAt h hj, xob_some]
  dsimp only
  rw [h.o, cond_true, d_placeAt h hi, xob_some]
  dsimp only
  rw [iI_sub, iI_0]
  simp (disch := omega) only [iI_le]
  unfold xwy
  by_cases c : 0 ≤ pl j - pl i
  · rw [if_pos c, Int.emod_eq_of_lt c (by omega)]
  · rw [if_neg c, h.w, xob_some, iI_add, x_emod_neg (by omega) (by omega)]
theorem d_apartOf (h : xIn S a k W pl) {i j : Nat} (hi : i < k) (hj : j < k) : xcI P m_X2_apartOf [.ref a, .int (iI i), .int (iI j)] S = some (iI (xap pl W i j), S) := by
  have hW := h.2.1
  have hW2 := h.2.2.1
  have b := xwy_bd h (i := i) (j := j)
  refine xcI_of ((e_X2_apartOf_0 P a (iI i) (iI j) S).trans ?_)
  rw [h.o, cond_true, d_wayFrom h hi hj, xob_some]
  dsimp only
  rw [h.w, xob_some, iI_sub, c_min (by omega) (by omega) (by omega) (by omega), xob_some]
  rfl
theorem xap_bd (h : xIn S a k W pl) {i j : Nat} : 0 ≤ xap pl W i j ∧ xap pl W i j ≤ W := by
  have b := xwy_bd h (i := i) (j := j)
  unfold xap
  omega
theorem l_nearestOf (h : xIn S a k W pl) {i : Nat} (hi : i < k) : ∀ d r, r + d = k → xrun P m_X2_nearestOf 9 [(0, .ref a), (1, .int (iI i)), (2, .int (iI (xlst (xap pl W i) i (W / 2) r))), (3, .int (iI r))] [] S = some (some (.int (iI (xlst (xap pl W i) i (W / 2) k))), S) := by
  have hk := h.1
  have hW := h.2.1
  have hW2 := h.2.2.1
  intro d
  induction d with
  | zero =>
    intro r hr
    rw [e_X2_nearestOf_9, h.n, xob_some]
    simp (disch := omega) only [iI_le]
    rw [if_pos (by omega), show r = k by omega]
  | succ d ih =>
    intro r hr
    have bd := xlst_bd (f := xap pl W i) (i := i) (z := W / 2) (A := 0) (B := W) (by omega) r (fun j _ => xap_bd h)
    have b2 := xap_bd h (i := i) (j := r)
    have g := ih (r + 1) (by omega)
    simp only [xlst] at g
    rw [e_X2_nearestOf_9, h.n, xob_some]
    simp (disch := omega) only [iI_le, iI_eq]
    rw [if_neg (by omega), iI_suc]
    by_cases c : (r : Int) = i
    · rw [if_pos c]
      rw [if_pos c] at g
      exact g
    · rw [if_neg c, h.o, cond_true, d_apartOf h hi (by omega), xob_some]
      dsimp only
      rw [c_min (by omega) (by omega) (by omega) (by omega), xob_some]
      dsimp only
      rw [if_neg c] at g
      exact g
theorem d_nearestOf (h : xIn S a k W pl) {i : Nat} (hi : i < k) : xcI P m_X2_nearestOf [.ref a, .int (iI i)] S = some (iI (xlst (xap pl W i) i (W / 2) k), S) := by
  have hW := h.2.1
  have hW2 := h.2.2.1
  refine xcI_of ((e_X2_nearestOf_0 P a (iI i) S).trans ?_)
  rw [h.w, xob_some, iI_div (by omega) (by omega) (by omega) (by omega)]
  exact l_nearestOf h hi k 0 (by omega)
theorem l_atPlaceOf (h : xIn S a k W pl) {i : Nat} (hi : i < k) : ∀ d r, r + d = k → xrun P m_X2_atPlaceOf 4 [(0, .ref a), (1, .int (iI i)), (2, .int (iI (xct (fun j => decide (pl j = pl i)) r))), (3, .int (iI r))] [] S = some (some (.int (iI (xct (fun j => decide (pl j = pl i)) k))), S) := by
  have hk := h.1
  have hW2 := h.2.2.1
  intro d
  induction d with
  | zero =>
    intro r hr
    rw [e_X2_atPlaceOf_4, h.n, xob_some]
    simp (disch := omega) only [iI_le]
    rw [if_pos (by omega), show r = k by omega]
  | succ d ih =>
    intro r hr
    have b1 := h.2.2.2.1 i hi
    have b2 := h.2.2.2.1 r (by omega)
    have g := ih (r + 1) (by omega)
    simp only [xct, decide_eq_true_eq] at g
    rw [e_X2_atPlaceOf_4, h.n, xob_some]
    simp (disch := omega) only [iI_le]
    rw [if_neg (by omega), h.o, cond_true, d_placeAt h (by omega), xob_some]
    dsimp only
    rw [h.o, cond_true, d_placeAt h hi, xob_some]
    dsimp only
    rw [iI_suc]
    simp (disch := omega) only [ne_eq, iI_eq, iI_add]
    by_cases c : pl r = pl i
    · rw [if_neg (by simpa using c)]
      rw [if_pos c] at g
      exact g
    · rw [if_pos c]
      rw [if_neg c] at g
      exact g
theorem d_atPlaceOf (h : xIn S a k W pl) {i : Nat} (hi : i < k) : xcI P m_X2_atPlaceOf [.ref a, .int (iI i)] S = some (iI (xct (fun j => decide (pl j = pl i)) k), S) :=
  xcI_of ((e_X2_atPlaceOf_0 P a (iI i) S).trans (l_atPlaceOf h hi k 0 (by omega)))
/-- how many are ahead of i in the order by places, then by numbers -/
def xrk2 (pl : Nat → Int) (k i : Nat) : Nat := xct (fun j => decide (pl j < pl i ∨ pl j = pl i ∧ j < i)) k
/-- the way to the next one that is z off at least -/
def xwn (pl : Nat → Int) (W : Int) (i : Nat) (z : Int) : Nat → Int := xfo (fun r s => if r = i then s else if xwy pl W i r < z then s else if s ≤ xwy pl W i r then s else xwy pl W i r) W
theorem xwn_suc (pl : Nat → Int) (W : Int) (i : Nat) (z : Int) (r : Nat) : xwn pl W i z (r + 1) = if (r : Int) = i then xwn pl W i z r else if xwy pl W i r < z then xwn pl W i z r else if xwn pl W i z r ≤ xwy pl W i r then xwn pl W i z r else xwy pl W i r := by
  simp only [Int.ofNat_inj]; rfl
theorem xwn_bd (h : xIn S a k W pl) {i : Nat} {z : Int} : ∀ n, 0 ≤ xwn pl W i z n ∧ xwn pl W i z n ≤ W := by
  have hW := h.2.1
  intro n
  induction n with
  | zero => show 0 ≤ W ∧ W ≤ W; omega
  | succ n ih =>
    have b := xwy_bd h (i := i) (j := n)
    rw [xwn_suc]
    repeat' split
    all_goals omega
theorem d_rankOf (h : xIn S a k W pl) {i : Nat} (hi : i < k) : xcI P m_X2_rankOf [.ref a, .int (iI i)] S = some (iI (xrk2 pl k i), S) := by
  have hk := h.1
  have hW2 := h.2.2.1
  have b1 := h.2.2.2.1 i hi
  refine xcI_of ((e_X2_rankOf_0 P a (iI i) S).trans ((xsteps (fun r => xrun P m_X2_rankOf 4 [(0, .ref a), (1, .int (iI i)), (2, .int (iI (xct (fun j => decide (pl j < pl i ∨ pl j = pl i ∧ j < i)) r))), (3, .int (iI r))] [] S) k ?_).trans ?_))
  · intro r hr
    try dsimp only
    have b2 := h.2.2.2.1 r hr
    rw [e_X2_rankOf_4]
    simp (disch := omega) only [h.n, h.o, cond_true, d_placeAt (P := P) h, xob_some, iI_suc, iI_0, iI_add, ne_eq, iI_eq, iI_lt, iI_le, xct, decide_eq_true_eq, not_true_eq_false, not_false_eq_true, if_true, if_false]
    repeat' split
    all_goals first | rfl | (exfalso; omega)
  · try dsimp only
    rw [e_X2_rankOf_4]
    simp (disch := omega) only [h.n, xob_some, iI_le]
    rw [if_pos (by omega)]
    rfl
theorem d_wayToNext (h : xIn S a k W pl) {i : Nat} (hi : i < k) {z : Int} (z0 : 0 ≤ z) (z1 : z ≤ 1) : xcI P m_X2_wayToNext [.ref a, .int (iI i), .int (iI z)] S = some (iI (xwn pl W i z k), S) := by
  have hk := h.1
  have hW := h.2.1
  have hW2 := h.2.2.1
  refine xcI_of ((e_X2_wayToNext_0 P a (iI i) (iI z) S).trans ?_)
  rw [h.w, xob_some]
  refine (xsteps (fun r => xrun P m_X2_wayToNext 8 [(0, .ref a), (1, .int (iI i)), (2, .int (iI z)), (3, .int (iI (xwn pl W i z r))), (4, .int (iI r))] [] S) k ?_).trans ?_
  · intro r hr
    try dsimp only
    have b2 := xwy_bd h (i := i) (j := r)
    have b3 := xwn_bd h (i := i) (z := z) r
    rw [e_X2_wayToNext_8]
    simp (disch := omega) only [h.n, h.o, cond_true, d_wayFrom (P := P) h hi, xob_some, iI_suc, iI_0, iI_add, ne_eq, iI_eq, iI_lt, iI_le, xwn_suc]
    repeat' split
    all_goals first | rfl | (exfalso; omega)
  · try dsimp only
    rw [e_X2_wayToNext_8]
    simp (disch := omega) only [h.n, xob_some, iI_le]
    rw [if_pos (by omega)]
theorem d_longestHole (h : xIn S a k W pl) : xcI P m_X2_longestHole [.ref a] S = some (iI (xfo (fun r s => max s (xwn pl W r 1 k)) 0 k), S) := by
  have hk := h.1
  have hW := h.2.1
  have hW2 := h.2.2.1
  refine xcI_of ((e_X2_longestHole_0 P a S).trans ?_)
  refine (xsteps (fun r => xrun P m_X2_longestHole 4 [(0, .ref a), (1, .int (iI (xfo (fun r s => max s (xwn pl W r 1 k)) 0 r))), (2, .int (iI r))] [] S) k ?_).trans ?_
  · intro r hr
    try dsimp only
    have b3 := xwn_bd h (i := r) (z := 1) k
    have b4 := xfo_inv (f := fun r s => max s (xwn pl W r 1 k)) (s := (0 : Int)) (fun r s => 0 ≤ s ∧ s ≤ W) (by omega) r (fun t s _ q => by have := xwn_bd h (i := t) (z := 1) k; omega)
    rw [e_X2_longestHole_4]
    simp (disch := omega) only [h.n, h.o, cond_true, d_wayToNext (P := P) h, xob_some, iI_le]
    rw [if_neg (by omega)]
    simp (disch := omega) only [c_max, xob_some, iI_suc, xfo]
  · try dsimp only
    rw [e_X2_longestHole_4]
    simp (disch := omega) only [h.n, xob_some, iI_le]
    rw [if_pos (by omega)]
theorem d_atRank (h : xIn S a k W pl) {n : Nat} (hn : n < 6) {t : Nat} (ht : t < k) (h1 : xrk2 pl k t = n) (h2 : ∀ j, j < t → xrk2 pl k j ≠ n) : xcI P m_X2_atRank [.ref a, .int (iI n)] S = some (iI t, S) := by
  have hk := h.1
  have hW2 := h.2.2.1
  refine xcI_of ((e_X2_atRank_0 P a (iI n) S).trans ?_)
  refine (xsteps (fun r => xrun P m_X2_atRank 2 [(0, .ref a), (1, .int (iI n)), (2, .int (iI r))] [] S) t ?_).trans ?_
  · intro r hr
    try dsimp only
    have b2 := xct_le (fun j => decide (pl j < pl r ∨ pl j = pl r ∧ j < r)) k
    have b3 := h2 r hr
    have b4 : xrk2 pl k r ≤ k := b2
    rw [e_X2_atRank_2]
    simp (disch := omega) only [h.n, h.o, cond_true, d_rankOf (P := P) h, xob_some, iI_le, ne_eq, iI_eq, iI_suc]
    rw [if_neg (by omega), if_pos (by omega)]
  · try dsimp only
    have b4 : xrk2 pl k t ≤ k := xct_le _ _
    rw [e_X2_atRank_2]
    simp (disch := omega) only [h.n, h.o, cond_true, d_rankOf (P := P) h, xob_some, iI_le, ne_eq, iI_eq, iI_suc]
    rw [if_neg (by omega), if_neg (by omega)]
/-- the closest pair so far: how far apart, its number -/
def xcpf (pl : Nat → Int) (W : Int) (k : Nat) (a b : Nat) (s : Int × Int) : Int × Int := if b ≤ a then s else if xap pl W a b < s.1 then (xap pl W a b, 10 * a + b) else s
def xcp (pl : Nat → Int) (W : Int) (k : Nat) : Nat → Int × Int := xfo (fun a s => xfo (xcpf pl W k a) s k) (W, 1)
theorem xcpf_id {pl : Nat → Int} {W : Int} {k a : Nat} {s : Int × Int} : ∀ n, n ≤ a + 1 → xfo (xcpf pl W k a) s n = s := by
  intro n
  induction n with
  | zero => intro _; rfl
  | succ n ih =>
    intro hn
    show xcpf pl W k a n _ = s
    rw [ih (by omega), xcpf, if_pos (by omega)]
theorem xcpf_bd (h : xIn S a k W pl) {i : Nat} (hi : i < 6) {s : Int × Int} (hs : 0 ≤ s.1 ∧ s.1 ≤ W ∧ 0 ≤ s.2 ∧ s.2 ≤ 66) : ∀ n, n ≤ 6 → 0 ≤ (xfo (xcpf pl W k i) s n).1 ∧ (xfo (xcpf pl W k i) s n).1 ≤ W ∧ 0 ≤ (xfo (xcpf pl W k i) s n).2 ∧ (xfo (xcpf pl W k i) s n).2 ≤ 66 := by
  intro n
  induction n with
  | zero => intro _; exact hs
  | succ n ih =>
    intro hn
    have g := ih (by omega)
    have b := xap_bd h (i := i) (j := n)
    simp only [xfo]
    rw [xcpf]
    split
    · exact g
    · split
      · dsimp only; omega
      · exact g
theorem xcp_bd (h : xIn S a k W pl) : ∀ n, n ≤ k → 0 ≤ (xcp pl W k n).1 ∧ (xcp pl W k n).1 ≤ W ∧ 0 ≤ (xcp pl W k n).2 ∧ (xcp pl W k n).2 ≤ 66 := by
  have hk := h.1
  have hW := h.2.1
  intro n
  induction n with
  | zero => intro _; show 0 ≤ W ∧ W ≤ W ∧ (0:Int) ≤ 1 ∧ (1:Int) ≤ 66; omega
  | succ n ih => intro hn; exact xcpf_bd h (by omega) (ih (by omega)) k hk
theorem d_closestPair (h : xIn S a k W pl) : xcI P m_X2_closestPair [.ref a] S = some (iI (xcp pl W k k).2, S) := by
  have hk := h.1
  have hW := h.2.1
  have hW2 := h.2.2.1
  refine xcI_of ((e_X2_closestPair_0 P a S).trans ?_)
  rw [h.w, xob_some]
  refine (xsteps (fun r => xrun P m_X2_closestPair 9 [(0, .ref a), (1, .int (iI (xcp pl W k r).2)), (2, .int (iI (xcp pl W k r).1)), (3, .int (iI r))] [] S) k ?_).trans ?_
  · intro r hr
    try dsimp only
    rw [e_X2_closestPair_9]
    simp (disch := omega) only [h.n, xob_some, iI_le, iI_suc]
    rw [if_neg (by omega)]
    have e0 := xcpf_id (pl := pl) (W := W) (k := k) (a := r) (s := xcp pl W k r) (r + 1) (by omega)
    have q := xstepsF (fun n => xrun P m_X2_closestPair 22 [(0, .ref a), (1, .int (iI (xfo (xcpf pl W k r) (xcp pl W k r) n).2)), (2, .int (iI (xfo (xcpf pl W k r) (xcp pl W k r) n).1)), (3, .int (iI r)), (4, .int (iI n))] [] S) (r + 1) k (by omega) (by
      intro n hn1 hn2
      try dsimp only
      have b := xcpf_bd h (i := r) (by omega) (xcp_bd h r (by omega)) n (by omega)
      have b2 := xap_bd h (i := r) (j := n)
      rw [e_X2_closestPair_22]
      simp (disch := omega) only [h.n, h.o, cond_true, d_apartOf (P := P) h, xob_some, iI_le, iI_suc, iI_mul, iI_add]
      rw [if_neg (by omega)]
      simp only [xfo]
      rw [xcpf, if_neg (show ¬ n ≤ r by omega)]
      by_cases c : xap pl W r n < (xfo (xcpf pl W k r) (xcp pl W k r) n).1
      · rw [if_neg (by omega), if_pos c]
        rfl
      · rw [if_pos (by omega), if_neg c]
        rfl)
    try dsimp only at q
    rw [e0] at q
    rw [q, e_X2_closestPair_22]
    simp (disch := omega) only [h.n, xob_some, iI_le, iI_suc]
    rw [if_pos (by omega)]
    rfl
  · try dsimp only
    rw [e_X2_closestPair_9]
    simp (disch := omega) only [h.n, xob_some, iI_le]
    rw [if_pos (by omega)]
end IN
