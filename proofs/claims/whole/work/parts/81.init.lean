-- deps: 80.law
/-! the constructors: what they lay, one cell behind another -/
def xup (S : xS) (L : List xC) (k : Nat) : xS := (fun b => if b < S.2.1 then S.1 b else L[b - S.2.1]?, S.2.1 + L.length, S.2.2 + k)
def xar (kd n : Nat) : xC := .inr (kd, (n, (match kd with | 1 => .inr (.inl (fun _ => 0)) | 4 => .inr (.inr (.inr (.inr (fun _ => none)))) | _ => .inl (fun _ => 0))))
def xra (n : Nat) (f : Nat → Option Nat) : xC := .inr (4, (n, .inr (.inr (.inr (.inr f)))))
theorem set_mid {α : Type} (c e : α) (R : List α) : ∀ L : List α, (L ++ c :: R).set L.length e = L ++ e :: R := by
  intro L
  induction L with
  | nil => rfl
  | cons a L ih =>
    show a :: (L ++ c :: R).set L.length e = a :: (L ++ e :: R)
    rw [ih]
theorem get_mid {α : Type} (c : α) (R : List α) (L : List α) : (L ++ c :: R)[L.length]? = some c := by
  rw [List.getElem?_append_right (Nat.le_refl _), Nat.sub_self]
  rfl
section UP
variable {P : Nat → Nat} {S : xS} {L R : List xC} {k : Nat}
theorem up_app (c : xC) (n : Nat) : ((fun b => if b = (xup S L k).2.1 then some c else (xup S L k).1 b, (xup S L k).2.1 + 1, (xup S L k).2.2 + n) : xS) = xup S (L ++ [c]) (k + n) := by
  unfold xup
  refine Prod.ext (funext fun b => ?_) (Prod.ext ?_ ?_)
  · dsimp only
    by_cases h : b = S.2.1 + L.length
    · rw [if_pos h, if_neg (by omega), h, Nat.add_sub_cancel_left, get_mid]
    · rw [if_neg h]
      by_cases h2 : b < S.2.1
      · rw [if_pos h2, if_pos h2]
      · rw [if_neg h2, if_neg h2]
        by_cases h3 : b - S.2.1 < L.length
        · rw [List.getElem?_append_left h3]
        · rw [List.getElem?_append_right (by omega), List.getElem?_eq_none (by omega), List.getElem?_eq_none (by simp; omega)]
  · show S.2.1 + L.length + 1 = S.2.1 + (L ++ [c]).length
    rw [List.length_append]
    rfl
  · show S.2.2 + k + n = S.2.2 + (k + n)
    omega
theorem up_nwa (kd n : Nat) : xnwa (xup S L k) kd n = xup S (L ++ [xar kd n]) (k + n) := up_app (xar kd n) n
theorem up_new (ci : Nat) : xnew (xup S L k) ci = xup S (L ++ [.inl (ci, xdef ci)]) (k + (xdef ci).length) := up_app (.inl (ci, xdef ci)) (xdef ci).length
theorem up_2 : (xup S L k).2.1 = S.2.1 + L.length := rfl
theorem up_get (j : Nat) : (xup S L k).1 (S.2.1 + j) = L[j]? := by
  show (if S.2.1 + j < S.2.1 then S.1 (S.2.1 + j) else L[S.2.1 + j - S.2.1]?) = _
  rw [if_neg (by omega), Nat.add_sub_cancel_left]
theorem up_set {j : Nat} (hj : j < L.length) (e : xC) : xpt (xup S L k) (S.2.1 + j) e = xup S (L.set j e) k := by
  unfold xpt xup
  refine Prod.ext (funext fun b => ?_) (Prod.ext ?_ rfl)
  · dsimp only
    by_cases h : b = S.2.1 + j
    · rw [if_pos h, if_neg (by omega), h, Nat.add_sub_cancel_left, List.getElem?_set_self hj]
    · rw [if_neg h]
      by_cases h2 : b < S.2.1
      · rw [if_pos h2, if_pos h2]
      · rw [if_neg h2, if_neg h2, List.getElem?_set_ne (by omega)]
  · show S.2.1 + L.length = S.2.1 + (L.set j e).length
    rw [List.length_set]
theorem up_pf {ci f : Nat} {fs : List Value} {tag : Int} {v : Value} (h1 : Nat.blt f fs.length = true) (h2 : xfit tag v = true) : xpf (xup S (L ++ .inl (ci, fs) :: R) k) (S.2.1 + L.length) ci f tag v = some (xup S (L ++ .inl (ci, fs.set f v) :: R) k) := by
  rw [xpf_at ((up_get L.length).trans (get_mid _ _ _)) (Nat.blt_eq.mp h1) h2, up_set (by simp), set_mid]
theorem up_isO {ci : Nat} {fs : List Value} : xisO (xup S (L ++ .inl (ci, fs) :: R) k) (S.2.1 + L.length) ci = true := xisO_at ((up_get L.length).trans (get_mid _ _ _))
theorem up_wrR {n i v : Nat} {f : Nat → Option Nat} (hi : i < n) (hn : n < 1000) : xwrR (xup S (L ++ xra n f :: R) k) (S.2.1 + L.length) (iI (i : Int)) v = some (xup S (L ++ xra n (va_up f i (some v)) :: R) k) := by
  unfold xwrR
  rw [up_get L.length, get_mid]
  have e : (iI (i : Int)).toNatClampNeg = i := by rw [iI_clamp (by omega) (by omega), Int.toNat_natCast]
  have e2 : ¬ (iI (i : Int) < 0 ∨ n ≤ (iI (i : Int)).toNatClampNeg) := by
    rw [e, iI_0, iI_lt (by omega) (by omega) (by omega) (by omega)]; omega
  show (if 4 = 4 ∧ ¬ (iI (i : Int) < 0 ∨ n ≤ (iI (i : Int)).toNatClampNeg) then _ else _) = _
  rw [if_pos ⟨rfl, e2⟩, e, up_set (by simp), set_mid]
  rfl
theorem up_wrB {n i : Nat} {f : Nat → Int32} {v : Int32} (hi : i < n) (hn : n < 1000) : xwrB (xup S (L ++ .inr (3, (n, .inl f)) :: R) k) (S.2.1 + L.length) (iI (i : Int)) v = some (xup S (L ++ .inr (3, (n, .inl (va_up f i (vp_nar .byte v)))) :: R) k) := by
  unfold xwrB
  rw [up_get L.length, get_mid]
  have e : (iI (i : Int)).toNatClampNeg = i := by rw [iI_clamp (by omega) (by omega), Int.toNat_natCast]
  have e2 : ¬ (iI (i : Int) < 0 ∨ n ≤ (iI (i : Int)).toNatClampNeg) := by
    rw [e, iI_0, iI_lt (by omega) (by omega) (by omega) (by omega)]; omega
  show (if 3 = 2 ∧ ¬ (iI (i : Int) < 0 ∨ n ≤ (iI (i : Int)).toNatClampNeg) then _ else if 3 = 3 ∧ ¬ (iI (i : Int) < 0 ∨ n ≤ (iI (i : Int)).toNatClampNeg) then _ else _) = _
  rw [if_neg (by intro h; exact absurd h.1 (by decide)), if_pos ⟨rfl, e2⟩, e, up_set (by simp), set_mid]

theorem tn_3 : (iI 3).toNatClampNeg = 3 := by decide +kernel
theorem tn_6 : (iI 6).toNatClampNeg = 6 := by decide +kernel
theorem tn_12 : (iI 12).toNatClampNeg = 12 := by decide +kernel
theorem tn_13 : (iI 13).toNatClampNeg = 13 := by decide +kernel
theorem tn_24 : (iI 24).toNatClampNeg = 24 := by decide +kernel
theorem tn_39 : (iI 39).toNatClampNeg = 39 := by decide +kernel
theorem tn_156 : (iI 156).toNatClampNeg = 156 := by decide +kernel
theorem tn_200 : (iI 200).toNatClampNeg = 200 := by decide +kernel
theorem tn_210 : (iI 210).toNatClampNeg = 210 := by decide +kernel
theorem tn_1230 : (iI 1230).toNatClampNeg = 1230 := by decide +kernel
theorem tn_1300 : (iI 1300).toNatClampNeg = 1300 := by decide +kernel
theorem tn_16000 : (iI 16000).toNatClampNeg = 16000 := by decide +kernel
theorem xdl_0 : (xdef 0).length = 3 := by rfl
theorem xdl_1 : (xdef 1).length = 3 := by rfl
theorem xdl_2 : (xdef 2).length = 3 := by rfl
theorem xdl_3 : (xdef 3).length = 3 := by rfl
theorem xdl_4 : (xdef 4).length = 7 := by rfl
theorem xdl_5 : (xdef 5).length = 3 := by rfl
theorem xdl_6 : (xdef 6).length = 3 := by rfl
theorem xdl_7 : (xdef 7).length = 2 := by rfl
theorem xdl_8 : (xdef 8).length = 9 := by rfl
theorem xdl_9 : (xdef 9).length = 3 := by rfl
theorem xdl_10 : (xdef 10).length = 12 := by rfl
theorem xdl_11 : (xdef 11).length = 35 := by rfl
def xB0 (a : Nat) : List xC := [.inl (0, [.ref (a + 1), .ref (a + 2), .int (iI 0)]), xar 0 6, xar 0 6]
def xB2 (a : Nat) : List xC := [.inl (2, [.ref (a + 1), .int (iI 0), .int (iI 12)]), xar 0 6]
def xB3 (a : Nat) : List xC := [.inl (3, [.ref (a + 1), .ref (a + 2), .int (iI 0)]), xar 0 6, xar 0 6]
def xB4 (a : Nat) : List xC := .inl (4, [.ref (a + 1), .int (iI 0), .int (iI 1), .int (iI 0), .int (iI 1), .int (iI 0), .int (iI 1)]) :: xB3 (a + 1)
def xB6 (a n : Nat) : List xC := [.inl (6, [.ref (a + 1), .ref (a + 2), .int (iI 0)]), xar 1 n, xar 1 n]
def xB7 (a : Nat) : List xC := [.inl (7, [.ref (a + 1), .int (iI 0)]), xar 0 200]
def xB8 (a : Nat) : List xC := .inl (8, [.ref (a + 1), .ref (a + 4), .ref (a + 7), .ref (a + 10), .ref (a + 13), .ref (a + 16), .ref (a + 19), .long (jI 1), .int (iI 1)]) :: (xB3 (a + 1) ++ (xB6 (a + 4) 210 ++ (xB6 (a + 7) 210 ++ (xB6 (a + 10) 210 ++ (xB6 (a + 13) 1230 ++ (xB6 (a + 16) 1230 ++ [xar 1 6]))))))
def xB9 : List xC := [.inl (9, [.int (iI (-1)), .int (iI (-2)), .int (iI 0)])]
theorem lv_cons (c : xC) (L : List xC) : S.2.1 + (L ++ [c]).length = S.2.1 + L.length + 1 := by
  rw [List.length_append]; rfl
theorem lv_cons2 (c d : xC) (L : List xC) : S.2.1 + (L ++ [c, d]).length = S.2.1 + L.length + 2 := by
  rw [List.length_append]; rfl
theorem i_X0 : xcV P m_X0_init [.ref (S.2.1 + L.length)] (xup S (L ++ [.inl (0, xdef 0)]) k) = some (xup S (L ++ xB0 (S.2.1 + L.length)) (k + 6 + 6)) := by
  refine xcV_of ((e_X0_init_0 P _ _).trans ?_)
  simp only [tn_6, up_nwa, up_2, lv_cons, List.append_assoc, List.cons_append, List.nil_append]
  rw [up_pf rfl rfl, xob_some]
  simp only [tn_6, up_nwa, up_2, lv_cons2, List.append_assoc, List.cons_append, List.nil_append]
  rw [up_pf rfl rfl, xob_some, up_pf rfl rfl, xob_some]
  rfl
theorem i_X2 : xcV P m_X2_init [.ref (S.2.1 + L.length)] (xup S (L ++ [.inl (2, xdef 2)]) k) = some (xup S (L ++ xB2 (S.2.1 + L.length)) (k + 6)) := by
  refine xcV_of ((e_X2_init_0 P _ _).trans ?_)
  simp only [tn_6, up_nwa, up_2, lv_cons, List.append_assoc, List.cons_append, List.nil_append]
  rw [up_pf rfl rfl, xob_some, up_pf rfl rfl, xob_some, up_pf rfl rfl, xob_some]
  rfl
theorem i_X3 : xcV P m_X3_init [.ref (S.2.1 + L.length)] (xup S (L ++ [.inl (3, xdef 3)]) k) = some (xup S (L ++ xB3 (S.2.1 + L.length)) (k + 6 + 6)) := by
  refine xcV_of ((e_X3_init_0 P _ _).trans ?_)
  simp only [tn_6, up_nwa, up_2, lv_cons, List.append_assoc, List.cons_append, List.nil_append]
  rw [up_pf rfl rfl, xob_some]
  simp only [tn_6, up_nwa, up_2, lv_cons2, List.append_assoc, List.cons_append, List.nil_append]
  rw [up_pf rfl rfl, xob_some, up_pf rfl rfl, xob_some]
  rfl
theorem i_X7 : xcV P m_X7_init [.ref (S.2.1 + L.length)] (xup S (L ++ [.inl (7, xdef 7)]) k) = some (xup S (L ++ xB7 (S.2.1 + L.length)) (k + 200)) := by
  refine xcV_of ((e_X7_init_0 P _ _).trans ?_)
  simp only [tn_200, up_nwa, up_2, lv_cons, List.append_assoc, List.cons_append, List.nil_append]
  rw [up_pf rfl rfl, xob_some, up_pf rfl rfl, xob_some]
  rfl
theorem i_X9 : xcV P m_X9_init [.ref (S.2.1 + L.length)] (xup S (L ++ [.inl (9, xdef 9)]) k) = some (xup S (L ++ xB9) k) := by
  refine xcV_of ((e_X9_init_0 P _ _).trans ?_)
  rw [up_pf rfl rfl, xob_some, up_pf rfl rfl, xob_some, up_pf rfl rfl, xob_some]
  rfl
theorem i_X6 {n : Nat} (hn : n < 2000) : xcV P m_X6_init [.ref (S.2.1 + L.length), .int (iI (n : Int))] (xup S (L ++ [.inl (6, xdef 6)]) k) = some (xup S (L ++ xB6 (S.2.1 + L.length) n) (k + n + n)) := by
  refine xcV_of ((e_X6_init_0 P _ _ _).trans ?_)
  have e : max 0 (n : Int) = (n : Int) := by omega
  have tn : (iI (n : Int)).toNatClampNeg = n := by rw [iI_clamp (by omega) (by omega), Int.toNat_natCast]
  have c0 : ¬ (iI (n : Int) < 0 ∨ 1000000 ≤ n) := by rw [iI_0, iI_lt (by omega) (by omega) (by omega) (by omega)]; omega
  rw [up_pf rfl rfl, xob_some, c_max (by omega) (by omega) (by omega) (by omega), xob_some]
  simp only [e, tn]
  rw [if_neg c0]
  simp only [up_nwa, up_2, lv_cons, List.append_assoc, List.cons_append, List.nil_append]
  rw [up_pf rfl rfl, xob_some, c_max (by omega) (by omega) (by omega) (by omega), xob_some]
  simp only [e, tn]
  rw [if_neg c0]
  simp only [up_nwa, up_2, lv_cons2, List.append_assoc, List.cons_append, List.nil_append]
  rw [up_pf rfl rfl, xob_some]
  rfl
end UP
