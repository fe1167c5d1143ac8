-- deps: 76.read
/-! reading: the class's reader -/
section RC
variable {P : Nat → Nat} {S S0 T : xS} {x m : Nat} {A : xAb} {F : xF} {n : Nat} {b : Nat → Int32}
/-- the reader at a place, with a fault or -1 -/
def xRd (S : xS) (x n : Nat) (b : Nat → Int32) (a : Nat) (fl : Int) : Prop := S.1 (x + 56) = some (.inl (5, [.ref (x + 57), .int (iI a), .int (iI fl)])) ∧ xTp S (x + 57) n b
theorem xRd.o {a : Nat} {fl : Int} (h : xRd S x n b a fl) : xisO S (x + 56) 5 = true := xisO_at h.1
theorem xRd.r0 {a : Nat} {fl : Int} (h : xRd S x n b a fl) : xfR S (x + 56) 5 0 = some (x + 57) := xfR_at h.1 rfl
theorem xRd.i1 {a : Nat} {fl : Int} (h : xRd S x n b a fl) : xfI S (x + 56) 5 1 = some (iI a) := xfI_at h.1 rfl
theorem xRd.i2 {a : Nat} {fl : Int} (h : xRd S x n b a fl) : xfI S (x + 56) 5 2 = some (iI fl) := xfI_at h.1 rfl
theorem xRd.fr {a : Nat} {fl : Int} {B : Nat → Prop} (h : xRd S x n b a fl) (hf : xfr S T B) (h0 : ¬ B (x + 56)) (h1 : ¬ B (x + 57)) (h2 : ¬ B (x + 58)) : xRd T x n b a fl := by
  obtain ⟨e, h3, f, e1, e2, e3⟩ := h
  exact ⟨(hf.2 _ h0).trans e, h3, f, (hf.2 _ h1).trans e1, (hf.2 _ h2).trans e2, e3⟩
theorem xRd.put1 {a : Nat} {fl : Int} (h : xRd S x n b a fl) (c : Nat) : ∃ T, xpf S (x + 56) 5 1 0 (.int (iI c)) = some T ∧ xRd T x n b c fl ∧ xfr S T (fun d => d = x + 56) := by
  refine ⟨xpt S (x + 56) (.inl (5, [.ref (x + 57), .int (iI c), .int (iI fl)])), (xpf_at h.1 (show 1 < 3 by decide) rfl).trans rfl, ?_, xfr.pt rfl⟩
  obtain ⟨e, h3, f, e1, e2, e3⟩ := h
  have hf : xfr S (xpt S (x + 56) (.inl (5, [.ref (x + 57), .int (iI c), .int (iI fl)]))) (fun d => d = x + 56) := xfr.pt rfl
  exact ⟨by rw [xpt_1, if_pos rfl], h3, f, (hf.2 _ (by omega)).trans e1, (hf.2 _ (by omega)).trans e2, e3⟩
theorem xRd.put2 {a : Nat} {fl : Int} (h : xRd S x n b a fl) (c : Int) : ∃ T, xpf S (x + 56) 5 2 0 (.int (iI c)) = some T ∧ xRd T x n b a c ∧ xfr S T (fun d => d = x + 56) := by
  refine ⟨xpt S (x + 56) (.inl (5, [.ref (x + 57), .int (iI a), .int (iI c)])), (xpf_at h.1 (show 2 < 3 by decide) rfl).trans rfl, ?_, xfr.pt rfl⟩
  obtain ⟨e, h3, f, e1, e2, e3⟩ := h
  have hf : xfr S (xpt S (x + 56) (.inl (5, [.ref (x + 57), .int (iI a), .int (iI c)]))) (fun d => d = x + 56) := xfr.pt rfl
  exact ⟨by rw [xpt_1, if_pos rfl], h3, f, (hf.2 _ (by omega)).trans e1, (hf.2 _ (by omega)).trans e2, e3⟩
theorem iI_tI (w : Int32) : iI w.toInt = w := Int32.ofInt_toInt w
theorem d_by {a : Nat} (h : xTp S a n b) {i : Nat} (hi : i < 100000) : xcI P m_X7_byteAt [.ref a, .int (iI i)] S = some (iI (xgv n b i), S) := by
  rw [d_byteAt h (by omega) (by omega)]
  unfold xgv
  by_cases c : i < n
  · rw [if_pos (by omega), if_pos c, Int.toNat_natCast, iI_tI]
  · rw [if_neg (by omega), if_neg c]
theorem d_isLetter {z : Int} (z1 : -1 ≤ z) (z2 : z ≤ 255) : xcI P m_X5_isLetter [.int (iI z)] S = some (iI (if cL z then 1 else 0), S) := by
  refine xcI_of ((e_X5_isLetter_0 P (iI z) S).trans ?_)
  by_cases c : z < 97
  · rw [if_pos (by rw [iI_lt (by omega) (by omega) (by omega) (by omega)]; omega), if_neg (by omega)]
  · rw [if_neg (by rw [iI_lt (by omega) (by omega) (by omega) (by omega)]; omega)]
    by_cases d : 122 < z
    · rw [if_pos (by rw [iI_lt (by omega) (by omega) (by omega) (by omega)]; omega), if_neg (by omega)]
    · rw [if_neg (by rw [iI_lt (by omega) (by omega) (by omega) (by omega)]; omega), if_pos (by omega)]
theorem d_isDigit {z : Int} (z1 : -1 ≤ z) (z2 : z ≤ 255) : xcI P m_X5_isDigit [.int (iI z)] S = some (iI (if cD z then 1 else 0), S) := by
  refine xcI_of ((e_X5_isDigit_0 P (iI z) S).trans ?_)
  by_cases c : z < 48
  · rw [if_pos (by rw [iI_lt (by omega) (by omega) (by omega) (by omega)]; omega), if_neg (by omega)]
  · rw [if_neg (by rw [iI_lt (by omega) (by omega) (by omega) (by omega)]; omega)]
    by_cases d : 57 < z
    · rw [if_pos (by rw [iI_lt (by omega) (by omega) (by omega) (by omega)]; omega), if_neg (by omega)]
    · rw [if_neg (by rw [iI_lt (by omega) (by omega) (by omega) (by omega)]; omega), if_pos (by omega)]
theorem d_skip (hg : xGv n (xgv n b)) {a a1 : Nat} {fl : Int} (h : xRd S x n b a fl) (hn : a ≤ n) (hx : xuo cB (xgv n b) a a1) : ∃ T, xcI P m_X5_skipBlanks [.ref (x + 56)] S = some (iI (if a < a1 then 1 else 0), T) ∧ xRd T x n b a1 fl ∧ xfr S T (fun d => d = x + 56) := by
  have n200 := h.2.1
  have ha1 := hx.le hg nB hn
  have key := xloopQ (run := fun v (Z : xS) => xrun P m_X5_skipBlanks 5 [(0, .ref (x + 56)), (1, .int (iI a))] [] Z)
    (Inv := fun v Z => xRd Z x n b v fl ∧ xfr S Z (fun d => d = x + 56))
    (fun res => ∃ T, res = some (some (.int (iI (if a < a1 then 1 else 0))), T) ∧ xRd T x n b a1 fl ∧ xfr S T (fun d => d = x + 56)) a a1 hx.1 (by
      rintro v Z va hv ⟨hZ, fZ⟩
      right
      have cb := hx.2.1 v va hv
      have vn : v < n := hg.le (by omega)
      obtain ⟨Y, y1, y2, y3⟩ := hZ.put1 (v + 1)
      refine ⟨Y, ?_, y2, fZ.tr y3⟩
      rw [e_X5_skipBlanks_5]
      simp only [hZ.i1, hZ.r0, hZ.2.o, d_tsize hZ.2, d_by hZ.2 (show v < 100000 by omega), iI_suc, y1, xob_some, cond_true]
      rw [if_neg (by rw [iI_le (by omega) (by omega) (by omega) (by omega)]; omega)]
      rcases cb with cb | cb
      · rw [cb, if_pos rfl]
      · rw [cb, if_neg (by decide +kernel), if_neg (by decide +kernel)]) (by
      rintro Z ⟨hZ, fZ⟩
      refine ⟨Z, ?_, hZ, fZ⟩
      have bd := hg.bd a1
      have ans : (if iI (a1 : Int) ≤ iI (a : Int) then (some (some (Value.int (iI 0)), Z) : Option (Option Value × xS)) else some (some (Value.int (iI 1)), Z)) = some (some (.int (iI (if a < a1 then 1 else 0))), Z) := by
        by_cases d : a < a1
        · rw [if_neg (by rw [iI_le (by omega) (by omega) (by omega) (by omega)]; omega), if_pos d]
        · rw [if_pos (by rw [iI_le (by omega) (by omega) (by omega) (by omega)]; omega), if_neg d]
      rw [e_X5_skipBlanks_5]
      simp only [hZ.i1, hZ.r0, hZ.2.o, d_tsize hZ.2, d_by hZ.2 (show a1 < 100000 by omega), xob_some, cond_true]
      have nb := hx.2.2
      by_cases c : n ≤ a1
      · rw [if_pos (by rw [iI_le (by omega) (by omega) (by omega) (by omega)]; omega)]
        exact ans
      · rw [if_neg (by rw [iI_le (by omega) (by omega) (by omega) (by omega)]; omega), if_neg (by rw [iI_eq (by omega) (by omega) (by omega) (by omega)]; omega), if_pos (by rw [ne_eq, iI_eq (by omega) (by omega) (by omega) (by omega)]; omega)]
        exact ans) (s := S) ⟨h, xfr.rf⟩
  obtain ⟨T, t1, t2, t3⟩ := key
  refine ⟨T, xcI_of ((e_X5_skipBlanks_0 P (x + 56) S).trans ?_), t2, t3⟩
  rw [h.i1, xob_some]
  exact t1
theorem d_digits (hg : xGv n (xgv n b)) {a d : Nat} {fl : Int} (h : xRd S x n b a fl) (hn : a ≤ n) (hx : xuo cD (xgv n b) a (a + d)) : xcI P m_X5_digitsHere [.ref (x + 56)] S = some (iI d, S) := by
  have n200 := h.2.1
  have ha1 := hx.le hg nD hn
  refine xcI_of ((e_X5_digitsHere_0 P (x + 56) S).trans ?_)
  refine (xsteps (fun r => xrun P m_X5_digitsHere 2 [(0, .ref (x + 56)), (1, .int (iI r))] [] S) d (by
    intro r hr
    have cd := hx.2.1 (a + r) (by omega) (by omega)
    have bd := hg.bd (a + r)
    have vn : a + r < n := hg.le (by omega)
    have e1 : iI (a : Int) + iI (r : Int) = iI ((a + r : Nat) : Int) := by rw [iI_add]; congr 1
    rw [e_X5_digitsHere_2]
    simp only [h.i1, h.r0, h.2.o, d_tsize h.2, e1, d_by h.2 (show a + r < 100000 by omega), d_isDigit bd.1 bd.2, if_pos cd, iI_suc, xob_some, cond_true]
    rw [if_neg (by rw [iI_le (by omega) (by omega) (by omega) (by omega)]; omega), if_neg (by decide +kernel)])).trans ?_
  have nd := hx.2.2
  have bd := hg.bd (a + d)
  have e1 : iI (a : Int) + iI (d : Int) = iI ((a + d : Nat) : Int) := by rw [iI_add]; congr 1
  rw [e_X5_digitsHere_2]
  simp only [h.i1, h.r0, h.2.o, d_tsize h.2, e1, d_by h.2 (show a + d < 100000 by omega), d_isDigit bd.1 bd.2, if_neg nd, xob_some, cond_true]
  by_cases c : n ≤ a + d
  · rw [if_pos (by rw [iI_le (by omega) (by omega) (by omega) (by omega)]; omega)]
  · rw [if_neg (by rw [iI_le (by omega) (by omega) (by omega) (by omega)]; omega), if_pos (by decide +kernel)]
theorem d_isWord (hg : xGv n (xgv n b)) {a j : Nat} {l : List Int} {fl : Int} (h : xRd S x n b a fl) (hn : a ≤ n) (ht : xTt P S j l) (hl : l.length < 100) (hl2 : ∀ k, k < l.length → 0 ≤ l.getD k 0 ∧ l.getD k 0 ≤ 255) : ∃ t : Bool, xcI P m_X5_isWord [.ref (x + 56), .ref (P j)] S = some (iI (xb t), S) ∧ (t = true ↔ xwrd l (xgv n b) a) := by
  have n200 := h.2.1
  obtain ⟨f, e, h2⟩ := ht
  have ln : xlenC S (P j) = some (iI (l.length : Nat)) := by unfold xlenC; rw [e]; rfl
  have rd : ∀ v, v < l.length → xrdC S (P j) (iI (v : Int)) = some (iI (l.getD v 0)) := fun v hv => by
    unfold xrdC
    rw [e]
    have e1 : (iI (v : Int)).toNatClampNeg = v := by rw [iI_clamp (by omega) (by omega), Int.toNat_natCast]
    have e2 : ¬ (iI (v : Int) < 0 ∨ l.length ≤ (iI (v : Int)).toNatClampNeg) := by
      rw [e1, iI_0, iI_lt (by omega) (by omega) (by omega) (by omega)]; omega
    dsimp only
    rw [if_pos ⟨rfl, e2⟩, e1, h2 v hv]
  have key := xloopQ (run := fun v (_ : Unit) => xrun P m_X5_isWord 2 [(0, .ref (x + 56)), (1, .ref (P j)), (2, .int (iI v))] [] S)
    (Inv := fun v _ => ∀ k, k < v → xgv n b (a + k) = l.getD k 0)
    (fun res => ∃ t : Bool, res = some (some (.int (iI (xb t))), S) ∧ (t = true ↔ xwrd l (xgv n b) a)) 0 l.length (Nat.zero_le _) (by
      intro v u _ hv hi
      have e1 : iI (a : Int) + iI (v : Int) = iI ((a + v : Nat) : Int) := by rw [iI_add]; congr 1
      have bd := hg.bd (a + v)
      have bl := hl2 v hv
      have st : xrun P m_X5_isWord 2 [(0, .ref (x + 56)), (1, .ref (P j)), (2, .int (iI v))] [] S = if iI (xgv n b (a + v)) = iI (l.getD v 0) then xrun P m_X5_isWord 2 [(0, .ref (x + 56)), (1, .ref (P j)), (2, .int (iI (v + 1 : Nat)))] [] S else some (some (.int (iI 0)), S) := by
        rw [e_X5_isWord_2]
        simp only [ln, h.i1, h.r0, h.2.o, e1, d_by h.2 (show a + v < 100000 by omega), rd v hv, iI_suc, xob_some, cond_true]
        rw [if_neg (by rw [iI_le (by omega) (by omega) (by omega) (by omega)]; omega)]
      by_cases c : xgv n b (a + v) = l.getD v 0
      · right
        refine ⟨(), ?_, fun k hk => ?_⟩
        · rw [st, if_pos (by rw [c])]
        · by_cases d : k = v
          · rw [d]; exact c
          · exact hi k (by omega)
      · left
        refine ⟨false, ?_, ⟨fun q => (by cases q), fun q => absurd (q.1 v hv) c⟩⟩
        rw [st, if_neg (by rw [iI_eq (by omega) (by omega) (by omega) (by omega)]; exact c)]
        rfl) (by
      intro u hi
      have e1 : iI (a : Int) + iI (l.length : Nat) = iI ((a + l.length : Nat) : Int) := by rw [iI_add]; congr 1
      have bd := hg.bd (a + l.length)
      have st : xrun P m_X5_isWord 2 [(0, .ref (x + 56)), (1, .ref (P j)), (2, .int (iI l.length))] [] S = if iI (if cL (xgv n b (a + l.length)) then 1 else 0) ≠ 0 then some (some (.int (iI 0)), S) else some (some (.int (iI 1)), S) := by
        rw [e_X5_isWord_2]
        simp only [ln, h.i1, h.r0, h.2.o, e1, d_by h.2 (show a + l.length < 100000 by omega), d_isLetter bd.1 bd.2, xob_some, cond_true]
        rw [if_pos (by rw [iI_le (by omega) (by omega) (by omega) (by omega)]; omega)]
      by_cases c : cL (xgv n b (a + l.length))
      · refine ⟨false, ?_, ⟨fun q => (by cases q), fun q => absurd c q.2⟩⟩
        rw [st, if_pos c, if_pos (by decide +kernel)]
        rfl
      · refine ⟨true, ?_, ⟨fun _ => ⟨hi, c⟩, fun _ => rfl⟩⟩
        rw [st, if_neg c, if_neg (by decide +kernel)]
        rfl) (s := ()) (fun k hk => absurd hk (Nat.not_lt_zero k))
  obtain ⟨t, t1, t2⟩ := key
  exact ⟨t, xcI_of ((e_X5_isWord_0 P (x + 56) (P j) S).trans t1), t2⟩
/-- a number is read -/
theorem d_readNumber (hg : xGv n (xgv n b)) {a a1 d : Nat} {fl most : Int} (h : xRd S x n b a fl) (hn : a ≤ n) (hB : xuo cB (xgv n b) a a1) (hD : xuo cD (xgv n b) a1 (a1 + d)) (m0 : 0 ≤ most) (m1 : most ≤ 1000) : ∃ T fl', xcI P m_X5_readNumber [.ref (x + 56), .int (iI most)] S = some (iI (xvl (xgv n b) a1 d), T) ∧ xRd T x n b (a1 + d) fl' ∧ xfr S T (fun d => d = x + 56) ∧ (xnum (xgv n b) most a a1 d → fl' = fl) ∧ (¬ xnum (xgv n b) most a a1 d → fl' = a1) := by
  have n200 := h.2.1
  have y1 := hB.le hg nB hn
  have y2 := hD.le hg nD y1
  obtain ⟨T1, s1, h1, f1⟩ := d_skip (P := P) hg h hn hB
  have dg := d_digits (P := P) hg h1 y1 hD
  have bv := xvl_bd hD
  -- the end
  have fin : ∀ j : Nat, j ≤ 2 → (d ≤ j ∨ 2 ≤ j) → ∃ T fl', xrun P m_X5_readNumber 16 [(0, .ref (x + 56)), (1, .int (iI most)), (2, .int (iI (if a < a1 then 1 else 0))), (3, .int (iI d)), (4, .int (iI (xvl (xgv n b) a1 d))), (5, .int (iI j))] [] T1 = some (some (.int (iI (xvl (xgv n b) a1 d))), T) ∧ xRd T x n b (a1 + d) fl' ∧ xfr T1 T (fun d => d = x + 56) ∧ (xnum (xgv n b) most a a1 d → fl' = fl) ∧ (¬ xnum (xgv n b) most a a1 d → fl' = a1) := by
    intro j hj hjd
    have ea : iI (a1 : Int) + iI (d : Int) = iI ((a1 + d : Nat) : Int) := by rw [iI_add]; congr 1
    by_cases c : xnum (xgv n b) most a a1 d
    · obtain ⟨T2, p1, p2, p3⟩ := h1.put1 (a1 + d)
      refine ⟨T2, fl, ?_, p2, p3, fun _ => rfl, fun q => absurd c q⟩
      obtain ⟨c1, c2, c3, c4⟩ := c
      have fi : (if iI (if a < a1 then 1 else 0) = 0 then xrun P m_X5_readNumber 79 [(0, .ref (x + 56)), (3, .int (iI d)), (4, .int (iI (xvl (xgv n b) a1 d)))] [] T1 else if iI (d : Int) < iI 1 then xrun P m_X5_readNumber 79 [(0, .ref (x + 56)), (3, .int (iI d)), (4, .int (iI (xvl (xgv n b) a1 d)))] [] T1 else if iI 2 < iI (d : Int) then xrun P m_X5_readNumber 79 [(0, .ref (x + 56)), (3, .int (iI d)), (4, .int (iI (xvl (xgv n b) a1 d)))] [] T1 else if iI (xvl (xgv n b) a1 d) ≤ iI most then (some (some (Value.int (iI (xvl (xgv n b) a1 d))), T2) : Option (Option Value × xS)) else xrun P m_X5_readNumber 79 [(0, .ref (x + 56)), (3, .int (iI d)), (4, .int (iI (xvl (xgv n b) a1 d)))] [] T1) = some (some (.int (iI (xvl (xgv n b) a1 d))), T2) := by
        rw [if_pos c1, if_neg (by decide +kernel), if_neg (by rw [iI_lt (by omega) (by omega) (by omega) (by omega)]; omega), if_neg (by rw [iI_lt (by omega) (by omega) (by omega) (by omega)]; omega), if_pos (by rw [iI_le (by omega) (by omega) (by omega) (by omega)]; omega)]
      rw [e_X5_readNumber_16]
      simp only [h1.i1, ea, p1, xob_some]
      by_cases q : d ≤ j
      · rw [if_pos (by rw [iI_le (by omega) (by omega) (by omega) (by omega)]; omega)]
        exact fi
      · rw [if_neg (by rw [iI_le (by omega) (by omega) (by omega) (by omega)]; omega), if_pos (by rw [iI_le (by omega) (by omega) (by omega) (by omega)]; omega)]
        exact fi
    · obtain ⟨T2, p1, p2, p3⟩ := h1.put2 (a1 : Int)
      obtain ⟨T3, p4, p5, p6⟩ := p2.put1 (a1 + d)
      refine ⟨T3, a1, ?_, p5, p3.tr p6, fun q => absurd q c, fun _ => rfl⟩
      have bad : xrun P m_X5_readNumber 79 [(0, .ref (x + 56)), (3, .int (iI d)), (4, .int (iI (xvl (xgv n b) a1 d)))] [] T1 = some (some (.int (iI (xvl (xgv n b) a1 d))), T3) := by
        rw [e_X5_readNumber_79]
        simp only [h1.i1, p1, p2.i1, ea, p4, xob_some]
      have fi : ∀ w, (if iI (if a < a1 then 1 else 0) = 0 then xrun P m_X5_readNumber 79 [(0, .ref (x + 56)), (3, .int (iI d)), (4, .int (iI (xvl (xgv n b) a1 d)))] [] T1 else if iI (d : Int) < iI 1 then xrun P m_X5_readNumber 79 [(0, .ref (x + 56)), (3, .int (iI d)), (4, .int (iI (xvl (xgv n b) a1 d)))] [] T1 else if iI 2 < iI (d : Int) then xrun P m_X5_readNumber 79 [(0, .ref (x + 56)), (3, .int (iI d)), (4, .int (iI (xvl (xgv n b) a1 d)))] [] T1 else if iI (xvl (xgv n b) a1 d) ≤ iI most then w else xrun P m_X5_readNumber 79 [(0, .ref (x + 56)), (3, .int (iI d)), (4, .int (iI (xvl (xgv n b) a1 d)))] [] T1) = some (some (.int (iI (xvl (xgv n b) a1 d))), T3) := by
        intro w
        by_cases c1 : a < a1
        · rw [if_pos c1, if_neg (by decide +kernel)]
          by_cases c2 : d < 1
          · rw [if_pos (by rw [iI_lt (by omega) (by omega) (by omega) (by omega)]; omega)]
            exact bad
          · rw [if_neg (by rw [iI_lt (by omega) (by omega) (by omega) (by omega)]; omega)]
            by_cases c3 : 2 < d
            · rw [if_pos (by rw [iI_lt (by omega) (by omega) (by omega) (by omega)]; omega)]
              exact bad
            · rw [if_neg (by rw [iI_lt (by omega) (by omega) (by omega) (by omega)]; omega)]
              by_cases c4 : xvl (xgv n b) a1 d ≤ most
              · exact absurd ⟨c1, by omega, by omega, c4⟩ c
              · rw [if_neg (by rw [iI_le (by omega) (by omega) (by omega) (by omega)]; omega)]
                exact bad
        · rw [if_neg c1, if_pos (by decide +kernel)]
          exact bad
      rw [e_X5_readNumber_16]
      by_cases q : d ≤ j
      · rw [if_pos (by rw [iI_le (by omega) (by omega) (by omega) (by omega)]; omega)]
        exact fi _
      · rw [if_neg (by rw [iI_le (by omega) (by omega) (by omega) (by omega)]; omega), if_pos (by rw [iI_le (by omega) (by omega) (by omega) (by omega)]; omega)]
        exact fi _
  -- the digits
  have one : ∀ (v : Int) (j : Nat), j < d → j < 2 → xrun P m_X5_readNumber 16 [(0, .ref (x + 56)), (1, .int (iI most)), (2, .int (iI (if a < a1 then 1 else 0))), (3, .int (iI d)), (4, .int (iI v)), (5, .int (iI j))] [] T1 = xrun P m_X5_readNumber 16 [(0, .ref (x + 56)), (1, .int (iI most)), (2, .int (iI (if a < a1 then 1 else 0))), (3, .int (iI d)), (4, .int (iI (10 * v + xgv n b (a1 + j) - 48))), (5, .int (iI (j + 1 : Nat)))] [] T1 := by
    intro v j hj hj2
    have ea : iI (a1 : Int) + iI (j : Int) = iI ((a1 + j : Nat) : Int) := by rw [iI_add]; congr 1
    rw [e_X5_readNumber_16, if_neg (by rw [iI_le (by omega) (by omega) (by omega) (by omega)]; omega), if_neg (by rw [iI_le (by omega) (by omega) (by omega) (by omega)]; omega)]
    simp only [h1.i1, h1.r0, h1.2.o, ea, d_by h1.2 (show a1 + j < 100000 by omega), iI_mul, iI_add, iI_sub, xob_some, cond_true]
    rfl
  have all : ∃ T fl', xrun P m_X5_readNumber 16 [(0, .ref (x + 56)), (1, .int (iI most)), (2, .int (iI (if a < a1 then 1 else 0))), (3, .int (iI d)), (4, .int (iI 0)), (5, .int (iI 0))] [] T1 = some (some (.int (iI (xvl (xgv n b) a1 d))), T) ∧ xRd T x n b (a1 + d) fl' ∧ xfr T1 T (fun d => d = x + 56) ∧ (xnum (xgv n b) most a a1 d → fl' = fl) ∧ (¬ xnum (xgv n b) most a a1 d → fl' = a1) := by
    by_cases d0 : d = 0
    · have hv : xvl (xgv n b) a1 d = 0 := by unfold xvl; rw [if_pos d0]
      obtain ⟨T, fl', t1, t2⟩ := fin 0 (by decide) (Or.inl (by omega))
      refine ⟨T, fl', ?_, t2⟩
      rw [hv] at t1 ⊢
      exact t1
    · have o1 := one 0 0 (by omega) (by omega)
      by_cases d1 : d = 1
      · have hv : xvl (xgv n b) a1 d = 10 * 0 + xgv n b (a1 + 0) - 48 := by unfold xvl; rw [if_neg d0, if_pos d1]; simp
        obtain ⟨T, fl', t1, t2⟩ := fin 1 (by decide) (Or.inl (by omega))
        refine ⟨T, fl', ?_, t2⟩
        rw [← hv] at o1
        exact o1.trans t1
      · have o2 := one (10 * 0 + xgv n b (a1 + 0) - 48) 1 (by omega) (by omega)
        have hv : xvl (xgv n b) a1 d = 10 * (10 * 0 + xgv n b (a1 + 0) - 48) + xgv n b (a1 + 1) - 48 := by
          unfold xvl
          rw [if_neg d0, if_neg d1]
          have e0 : xgv n b (a1 + 0) = xgv n b a1 := rfl
          omega
        obtain ⟨T, fl', t1, t2⟩ := fin 2 (by decide) (Or.inr (by omega))
        refine ⟨T, fl', ?_, t2⟩
        rw [← hv] at o2
        exact (o1.trans o2).trans t1
  obtain ⟨T, fl', t1, t2, t3, t4⟩ := all
  refine ⟨T, fl', xcI_of ((e_X5_readNumber_0 P (x + 56) (iI most) S).trans ?_), t2, f1.tr t3, t4⟩
  simp only [h.o, s1, h1.o, dg, xob_some, cond_true]
  exact t1
end RC
