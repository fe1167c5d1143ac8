-- deps: 81.init
/-! the constructors of the larger objects -/
theorem xar_4 (n : Nat) : xar 4 n = xra n (fun _ => none) := rfl
theorem xar_3 (n : Nat) : xar 3 n = .inr (3, (n, .inl (fun _ => 0))) := rfl
theorem xdef_10 : xdef 10 = [.null, .null, .null, .null, .null, .null, .null, .null, .null, .null, .null, .null] := by rfl
theorem xdef_11 : xdef 11 = [.int 0, .null, .null, .null, .null, .int 0, .null, .null, .null, .long 0, .long 0, .long 0, .long 0, .null, .null, .int 0, .null, .null, .null, .null, .int 0, .long 0, .long 0, .null, .null, .null, .int 0, .null, .int 0, .null, .int 0, .int 0, .int 0, .int 0, .int 0] := by rfl
section UQ
variable {P : Nat → Nat} {S : xS} {L R : List xC} {k : Nat}
theorem up_pf0 {ci f : Nat} {fs : List Value} {tag : Int} {v : Value} (h1 : Nat.blt f fs.length = true) (h2 : xfit tag v = true) : xpf (xup S (.inl (ci, fs) :: R) k) S.2.1 ci f tag v = some (xup S (.inl (ci, fs.set f v) :: R) k) := up_pf (L := []) h1 h2
def xB5 (a : Nat) : List xC := .inl (5, [.ref (a + 1), .int (iI 0), .int (iI (-1))]) :: xB7 (a + 1)
/-- the reader hands its tape out -/
theorem st_tape {fs : List Value} {v w : Nat} {p q : Value} {g : Nat × xS → xR} (h1 : fs[5]? = some (.ref v)) (h2 : (xup S (.inl (10, fs) :: R) k).1 v = some (.inl (5, [.ref w, p, q]))) : (xob (xfR (xup S (.inl (10, fs) :: R) k) S.2.1 10 5) none fun q17 => bif xisO (xup S (.inl (10, fs) :: R) k) q17 5 then xob (xcR P m_X5_tape [.ref q17] (xup S (.inl (10, fs) :: R) k)) none g else none) = g (w, xup S (.inl (10, fs) :: R) k) := by
  have e0 : xfR (xup S (.inl (10, fs) :: R) k) S.2.1 10 5 = some v := xfR_at ((up_get 0).trans rfl) h1
  have e1 : xcR P m_X5_tape [.ref v] (xup S (.inl (10, fs) :: R) k) = some (w, xup S (.inl (10, fs) :: R) k) := by
    refine xcR_of ((e_X5_tape_0 P _ _).trans ?_)
    rw [xfR_at h2 rfl, xob_some]
  rw [e0, xob_some, xisO_at h2, cond_true, e1, xob_some]
theorem i_X4 : xcV P m_X4_init [.ref (S.2.1 + L.length)] (xup S (L ++ [.inl (4, xdef 4)]) k) = some (xup S (L ++ xB4 (S.2.1 + L.length)) (k + 3 + 6 + 6)) := by
  refine xcV_of ((e_X4_init_0 P _ _).trans ?_)
  simp only [up_new, up_2, xdl_3]
  rw [i_X3, xob_some]
  simp only [List.append_assoc, List.cons_append, List.nil_append]
  rw [up_pf rfl rfl, xob_some, up_pf rfl rfl, xob_some, up_pf rfl rfl, xob_some, up_pf rfl rfl, xob_some, up_pf rfl rfl, xob_some, up_pf rfl rfl, xob_some, up_pf rfl rfl, xob_some]
  simp only [List.length_append]
  rfl
theorem i_X5 : xcV P m_X5_init [.ref (S.2.1 + L.length)] (xup S (L ++ [.inl (5, xdef 5)]) k) = some (xup S (L ++ xB5 (S.2.1 + L.length)) (k + 2 + 200)) := by
  refine xcV_of ((e_X5_init_0 P _ _).trans ?_)
  simp only [up_new, up_2, xdl_7]
  rw [i_X7, xob_some]
  simp only [List.append_assoc, List.cons_append, List.nil_append]
  rw [up_pf rfl rfl, xob_some, up_pf rfl rfl, xob_some, up_pf rfl rfl, xob_some]
  simp only [List.length_append]
  rfl
theorem i_X6a : xcV P m_X6_init [.ref (S.2.1 + L.length), .int (iI 210)] (xup S (L ++ [.inl (6, xdef 6)]) k) = some (xup S (L ++ xB6 (S.2.1 + L.length) 210) (k + 210 + 210)) := i_X6 (n := 210) (by decide)
theorem i_X6b : xcV P m_X6_init [.ref (S.2.1 + L.length), .int (iI 1230)] (xup S (L ++ [.inl (6, xdef 6)]) k) = some (xup S (L ++ xB6 (S.2.1 + L.length) 1230) (k + 1230 + 1230)) := i_X6 (n := 1230) (by decide)
theorem i_X8 : xcV P m_X8_init [.ref (S.2.1 + L.length)] (xup S (L ++ [.inl (8, xdef 8)]) k) = some (xup S (L ++ xB8 (S.2.1 + L.length)) (k + 3 + 6 + 6 + 3 + 210 + 210 + 3 + 210 + 210 + 3 + 210 + 210 + 3 + 1230 + 1230 + 3 + 1230 + 1230 + 6)) := by
  refine xcV_of ((e_X8_init_0 P _ _).trans ?_)
  simp only [up_new, up_2, xdl_3]
  rw [i_X3, xob_some]
  simp only [List.append_assoc, List.cons_append, List.nil_append]
  rw [up_pf rfl rfl, xob_some]
  simp only [up_new, up_2, xdl_6]
  rw [i_X6a, xob_some]
  simp only [List.append_assoc, List.cons_append, List.nil_append]
  rw [up_pf rfl rfl, xob_some]
  simp only [up_new, up_2, xdl_6]
  rw [i_X6a, xob_some]
  simp only [List.append_assoc, List.cons_append, List.nil_append]
  rw [up_pf rfl rfl, xob_some]
  simp only [up_new, up_2, xdl_6]
  rw [i_X6a, xob_some]
  simp only [List.append_assoc, List.cons_append, List.nil_append]
  rw [up_pf rfl rfl, xob_some]
  simp only [up_new, up_2, xdl_6]
  rw [i_X6b, xob_some]
  simp only [List.append_assoc, List.cons_append, List.nil_append]
  rw [up_pf rfl rfl, xob_some]
  simp only [up_new, up_2, xdl_6]
  rw [i_X6b, xob_some]
  simp only [List.append_assoc, List.cons_append, List.nil_append]
  rw [up_pf rfl rfl, xob_some]
  simp only [tn_6, up_nwa, up_2, List.append_assoc, List.cons_append, List.nil_append]
  rw [up_pf rfl rfl, xob_some, up_pf rfl rfl, xob_some, up_pf rfl rfl, xob_some]
  simp only [List.length_append]
  rfl
theorem st_fld {n i : Nat} {f : Nat → Option Nat} {g : xS → xR} (hi : i < n) (hn : n < 1000) : (xob (xcV P m_X0_init [.ref (S.2.1 + (L ++ xra n f :: R).length)] (xnew (xup S (L ++ xra n f :: R) k) 0)) none fun q1 => bif xisO q1 (S.2.1 + (L ++ xra n f :: R).length) 0 then xob (xwrR q1 (S.2.1 + L.length) (iI (i : Int)) (S.2.1 + (L ++ xra n f :: R).length)) none g else none) = g (xup S (L ++ xra n (va_up f i (some (S.2.1 + (L ++ xra n f :: R).length))) :: (R ++ xB0 (S.2.1 + (L ++ xra n f :: R).length))) (k + 3 + 6 + 6)) := by
  rw [up_new, xdl_0, i_X0, xob_some]
  have h : xisO (xup S ((L ++ xra n f :: R) ++ xB0 (S.2.1 + (L ++ xra n f :: R).length)) (k + 3 + 6 + 6)) (S.2.1 + (L ++ xra n f :: R).length) 0 = true := up_isO
  rw [h, cond_true]
  have e : ∀ X : List xC, (L ++ xra n f :: R) ++ X = L ++ xra n f :: (R ++ X) := fun X => by simp only [List.append_assoc, List.cons_append, List.nil_append]
  rw [e, up_wrR hi hn, xob_some]
theorem st_fld_12_0 {f : Nat → Option Nat} {g : xS → xR} : (xob (xcV P m_X0_init [.ref (S.2.1 + (L ++ xra 12 f :: R).length)] (xnew (xup S (L ++ xra 12 f :: R) k) 0)) none fun q1 => bif xisO q1 (S.2.1 + (L ++ xra 12 f :: R).length) 0 then xob (xwrR q1 (S.2.1 + L.length) (iI 0) (S.2.1 + (L ++ xra 12 f :: R).length)) none g else none) = g (xup S (L ++ xra 12 (va_up f 0 (some (S.2.1 + (L ++ xra 12 f :: R).length))) :: (R ++ xB0 (S.2.1 + (L ++ xra 12 f :: R).length))) (k + 3 + 6 + 6)) := st_fld (i := 0) (by decide) (by decide)
theorem st_fld_12_1 {f : Nat → Option Nat} {g : xS → xR} : (xob (xcV P m_X0_init [.ref (S.2.1 + (L ++ xra 12 f :: R).length)] (xnew (xup S (L ++ xra 12 f :: R) k) 0)) none fun q1 => bif xisO q1 (S.2.1 + (L ++ xra 12 f :: R).length) 0 then xob (xwrR q1 (S.2.1 + L.length) (iI 1) (S.2.1 + (L ++ xra 12 f :: R).length)) none g else none) = g (xup S (L ++ xra 12 (va_up f 1 (some (S.2.1 + (L ++ xra 12 f :: R).length))) :: (R ++ xB0 (S.2.1 + (L ++ xra 12 f :: R).length))) (k + 3 + 6 + 6)) := st_fld (i := 1) (by decide) (by decide)
theorem st_fld_12_2 {f : Nat → Option Nat} {g : xS → xR} : (xob (xcV P m_X0_init [.ref (S.2.1 + (L ++ xra 12 f :: R).length)] (xnew (xup S (L ++ xra 12 f :: R) k) 0)) none fun q1 => bif xisO q1 (S.2.1 + (L ++ xra 12 f :: R).length) 0 then xob (xwrR q1 (S.2.1 + L.length) (iI 2) (S.2.1 + (L ++ xra 12 f :: R).length)) none g else none) = g (xup S (L ++ xra 12 (va_up f 2 (some (S.2.1 + (L ++ xra 12 f :: R).length))) :: (R ++ xB0 (S.2.1 + (L ++ xra 12 f :: R).length))) (k + 3 + 6 + 6)) := st_fld (i := 2) (by decide) (by decide)
theorem st_fld_12_3 {f : Nat → Option Nat} {g : xS → xR} : (xob (xcV P m_X0_init [.ref (S.2.1 + (L ++ xra 12 f :: R).length)] (xnew (xup S (L ++ xra 12 f :: R) k) 0)) none fun q1 => bif xisO q1 (S.2.1 + (L ++ xra 12 f :: R).length) 0 then xob (xwrR q1 (S.2.1 + L.length) (iI 3) (S.2.1 + (L ++ xra 12 f :: R).length)) none g else none) = g (xup S (L ++ xra 12 (va_up f 3 (some (S.2.1 + (L ++ xra 12 f :: R).length))) :: (R ++ xB0 (S.2.1 + (L ++ xra 12 f :: R).length))) (k + 3 + 6 + 6)) := st_fld (i := 3) (by decide) (by decide)
theorem st_fld_12_4 {f : Nat → Option Nat} {g : xS → xR} : (xob (xcV P m_X0_init [.ref (S.2.1 + (L ++ xra 12 f :: R).length)] (xnew (xup S (L ++ xra 12 f :: R) k) 0)) none fun q1 => bif xisO q1 (S.2.1 + (L ++ xra 12 f :: R).length) 0 then xob (xwrR q1 (S.2.1 + L.length) (iI 4) (S.2.1 + (L ++ xra 12 f :: R).length)) none g else none) = g (xup S (L ++ xra 12 (va_up f 4 (some (S.2.1 + (L ++ xra 12 f :: R).length))) :: (R ++ xB0 (S.2.1 + (L ++ xra 12 f :: R).length))) (k + 3 + 6 + 6)) := st_fld (i := 4) (by decide) (by decide)
theorem st_fld_12_5 {f : Nat → Option Nat} {g : xS → xR} : (xob (xcV P m_X0_init [.ref (S.2.1 + (L ++ xra 12 f :: R).length)] (xnew (xup S (L ++ xra 12 f :: R) k) 0)) none fun q1 => bif xisO q1 (S.2.1 + (L ++ xra 12 f :: R).length) 0 then xob (xwrR q1 (S.2.1 + L.length) (iI 5) (S.2.1 + (L ++ xra 12 f :: R).length)) none g else none) = g (xup S (L ++ xra 12 (va_up f 5 (some (S.2.1 + (L ++ xra 12 f :: R).length))) :: (R ++ xB0 (S.2.1 + (L ++ xra 12 f :: R).length))) (k + 3 + 6 + 6)) := st_fld (i := 5) (by decide) (by decide)
theorem st_fld_12_6 {f : Nat → Option Nat} {g : xS → xR} : (xob (xcV P m_X0_init [.ref (S.2.1 + (L ++ xra 12 f :: R).length)] (xnew (xup S (L ++ xra 12 f :: R) k) 0)) none fun q1 => bif xisO q1 (S.2.1 + (L ++ xra 12 f :: R).length) 0 then xob (xwrR q1 (S.2.1 + L.length) (iI 6) (S.2.1 + (L ++ xra 12 f :: R).length)) none g else none) = g (xup S (L ++ xra 12 (va_up f 6 (some (S.2.1 + (L ++ xra 12 f :: R).length))) :: (R ++ xB0 (S.2.1 + (L ++ xra 12 f :: R).length))) (k + 3 + 6 + 6)) := st_fld (i := 6) (by decide) (by decide)
theorem st_fld_12_7 {f : Nat → Option Nat} {g : xS → xR} : (xob (xcV P m_X0_init [.ref (S.2.1 + (L ++ xra 12 f :: R).length)] (xnew (xup S (L ++ xra 12 f :: R) k) 0)) none fun q1 => bif xisO q1 (S.2.1 + (L ++ xra 12 f :: R).length) 0 then xob (xwrR q1 (S.2.1 + L.length) (iI 7) (S.2.1 + (L ++ xra 12 f :: R).length)) none g else none) = g (xup S (L ++ xra 12 (va_up f 7 (some (S.2.1 + (L ++ xra 12 f :: R).length))) :: (R ++ xB0 (S.2.1 + (L ++ xra 12 f :: R).length))) (k + 3 + 6 + 6)) := st_fld (i := 7) (by decide) (by decide)
theorem st_fld_12_8 {f : Nat → Option Nat} {g : xS → xR} : (xob (xcV P m_X0_init [.ref (S.2.1 + (L ++ xra 12 f :: R).length)] (xnew (xup S (L ++ xra 12 f :: R) k) 0)) none fun q1 => bif xisO q1 (S.2.1 + (L ++ xra 12 f :: R).length) 0 then xob (xwrR q1 (S.2.1 + L.length) (iI 8) (S.2.1 + (L ++ xra 12 f :: R).length)) none g else none) = g (xup S (L ++ xra 12 (va_up f 8 (some (S.2.1 + (L ++ xra 12 f :: R).length))) :: (R ++ xB0 (S.2.1 + (L ++ xra 12 f :: R).length))) (k + 3 + 6 + 6)) := st_fld (i := 8) (by decide) (by decide)
theorem st_fld_12_9 {f : Nat → Option Nat} {g : xS → xR} : (xob (xcV P m_X0_init [.ref (S.2.1 + (L ++ xra 12 f :: R).length)] (xnew (xup S (L ++ xra 12 f :: R) k) 0)) none fun q1 => bif xisO q1 (S.2.1 + (L ++ xra 12 f :: R).length) 0 then xob (xwrR q1 (S.2.1 + L.length) (iI 9) (S.2.1 + (L ++ xra 12 f :: R).length)) none g else none) = g (xup S (L ++ xra 12 (va_up f 9 (some (S.2.1 + (L ++ xra 12 f :: R).length))) :: (R ++ xB0 (S.2.1 + (L ++ xra 12 f :: R).length))) (k + 3 + 6 + 6)) := st_fld (i := 9) (by decide) (by decide)
theorem st_fld_12_10 {f : Nat → Option Nat} {g : xS → xR} : (xob (xcV P m_X0_init [.ref (S.2.1 + (L ++ xra 12 f :: R).length)] (xnew (xup S (L ++ xra 12 f :: R) k) 0)) none fun q1 => bif xisO q1 (S.2.1 + (L ++ xra 12 f :: R).length) 0 then xob (xwrR q1 (S.2.1 + L.length) (iI 10) (S.2.1 + (L ++ xra 12 f :: R).length)) none g else none) = g (xup S (L ++ xra 12 (va_up f 10 (some (S.2.1 + (L ++ xra 12 f :: R).length))) :: (R ++ xB0 (S.2.1 + (L ++ xra 12 f :: R).length))) (k + 3 + 6 + 6)) := st_fld (i := 10) (by decide) (by decide)
theorem st_fld_12_11 {f : Nat → Option Nat} {g : xS → xR} : (xob (xcV P m_X0_init [.ref (S.2.1 + (L ++ xra 12 f :: R).length)] (xnew (xup S (L ++ xra 12 f :: R) k) 0)) none fun q1 => bif xisO q1 (S.2.1 + (L ++ xra 12 f :: R).length) 0 then xob (xwrR q1 (S.2.1 + L.length) (iI 11) (S.2.1 + (L ++ xra 12 f :: R).length)) none g else none) = g (xup S (L ++ xra 12 (va_up f 11 (some (S.2.1 + (L ++ xra 12 f :: R).length))) :: (R ++ xB0 (S.2.1 + (L ++ xra 12 f :: R).length))) (k + 3 + 6 + 6)) := st_fld (i := 11) (by decide) (by decide)
theorem st_fld_3_0 {f : Nat → Option Nat} {g : xS → xR} : (xob (xcV P m_X0_init [.ref (S.2.1 + (L ++ xra 3 f :: R).length)] (xnew (xup S (L ++ xra 3 f :: R) k) 0)) none fun q1 => bif xisO q1 (S.2.1 + (L ++ xra 3 f :: R).length) 0 then xob (xwrR q1 (S.2.1 + L.length) (iI 0) (S.2.1 + (L ++ xra 3 f :: R).length)) none g else none) = g (xup S (L ++ xra 3 (va_up f 0 (some (S.2.1 + (L ++ xra 3 f :: R).length))) :: (R ++ xB0 (S.2.1 + (L ++ xra 3 f :: R).length))) (k + 3 + 6 + 6)) := st_fld (i := 0) (by decide) (by decide)
theorem st_fld_3_1 {f : Nat → Option Nat} {g : xS → xR} : (xob (xcV P m_X0_init [.ref (S.2.1 + (L ++ xra 3 f :: R).length)] (xnew (xup S (L ++ xra 3 f :: R) k) 0)) none fun q1 => bif xisO q1 (S.2.1 + (L ++ xra 3 f :: R).length) 0 then xob (xwrR q1 (S.2.1 + L.length) (iI 1) (S.2.1 + (L ++ xra 3 f :: R).length)) none g else none) = g (xup S (L ++ xra 3 (va_up f 1 (some (S.2.1 + (L ++ xra 3 f :: R).length))) :: (R ++ xB0 (S.2.1 + (L ++ xra 3 f :: R).length))) (k + 3 + 6 + 6)) := st_fld (i := 1) (by decide) (by decide)
theorem st_fld_3_2 {f : Nat → Option Nat} {g : xS → xR} : (xob (xcV P m_X0_init [.ref (S.2.1 + (L ++ xra 3 f :: R).length)] (xnew (xup S (L ++ xra 3 f :: R) k) 0)) none fun q1 => bif xisO q1 (S.2.1 + (L ++ xra 3 f :: R).length) 0 then xob (xwrR q1 (S.2.1 + L.length) (iI 2) (S.2.1 + (L ++ xra 3 f :: R).length)) none g else none) = g (xup S (L ++ xra 3 (va_up f 2 (some (S.2.1 + (L ++ xra 3 f :: R).length))) :: (R ++ xB0 (S.2.1 + (L ++ xra 3 f :: R).length))) (k + 3 + 6 + 6)) := st_fld (i := 2) (by decide) (by decide)
def xF1 (a : Nat) : Nat → Option Nat := (va_up (va_up (va_up (va_up (va_up (va_up (va_up (va_up (va_up (va_up (va_up (va_up (fun _ => none) 0 (some (a + 2))) 1 (some (a + 5))) 2 (some (a + 8))) 3 (some (a + 11))) 4 (some (a + 14))) 5 (some (a + 17))) 6 (some (a + 20))) 7 (some (a + 23))) 8 (some (a + 26))) 9 (some (a + 29))) 10 (some (a + 32))) 11 (some (a + 35)))
def xB1 (a : Nat) : List xC := .inl (1, [.ref (a + 1), .int (iI 0), .int (iI 0)]) :: xra 12 (xF1 a) :: (xB0 (a + 2) ++ (xB0 (a + 5) ++ (xB0 (a + 8) ++ (xB0 (a + 11) ++ (xB0 (a + 14) ++ (xB0 (a + 17) ++ (xB0 (a + 20) ++ (xB0 (a + 23) ++ (xB0 (a + 26) ++ (xB0 (a + 29) ++ (xB0 (a + 32) ++ (xB0 (a + 35)))))))))))))
theorem i_X1 : xcV P m_X1_init [.ref (S.2.1 + L.length)] (xup S (L ++ [.inl (1, xdef 1)]) k) = some (xup S (L ++ xB1 (S.2.1 + L.length)) (k + 12 + 3 + 6 + 6 + 3 + 6 + 6 + 3 + 6 + 6 + 3 + 6 + 6 + 3 + 6 + 6 + 3 + 6 + 6 + 3 + 6 + 6 + 3 + 6 + 6 + 3 + 6 + 6 + 3 + 6 + 6 + 3 + 6 + 6 + 3 + 6 + 6)) := by
  refine xcV_of ((e_X1_init_0 P _ _).trans ?_)
  simp only [tn_12, up_nwa, up_2, xar_4]
  rw [st_fld_12_0]
  simp only [up_2]
  rw [st_fld_12_1]
  simp only [up_2]
  rw [st_fld_12_2]
  simp only [up_2]
  rw [st_fld_12_3]
  simp only [up_2]
  rw [st_fld_12_4]
  simp only [up_2]
  rw [st_fld_12_5]
  simp only [up_2]
  rw [st_fld_12_6]
  simp only [up_2]
  rw [st_fld_12_7]
  simp only [up_2]
  rw [st_fld_12_8]
  simp only [up_2]
  rw [st_fld_12_9]
  simp only [up_2]
  rw [st_fld_12_10]
  simp only [up_2]
  rw [st_fld_12_11]
  simp only [List.append_assoc, List.cons_append, List.nil_append]
  rw [up_pf rfl rfl, xob_some, up_pf rfl rfl, xob_some, up_pf rfl rfl, xob_some]
  simp only [List.length_append]
  rfl
def xF2 (a : Nat) : Nat → Option Nat := (va_up (va_up (va_up (fun _ => none) 0 (some (a + 1))) 1 (some (a + 4))) 2 (some (a + 7)))
def xB10 (z : Nat) : List xC := .inl (10, [.ref (z + 1), .ref (z + 4), .ref (z + 7), .ref (z + 17), .ref (z + 18), .ref (z + 56), .ref (z + 57), .ref (z + 59), .ref (z + 61), .ref (z + 64), .ref (z + 68), .ref (z + 88)]) :: (xB0 (z + 1) ++ (xB0 (z + 4) ++ (xra 3 (xF2 (z + 7)) :: (xB0 (z + 8) ++ (xB0 (z + 11) ++ (xB0 (z + 14) ++ (xar 2 3 :: (xB1 (z + 18) ++ (xB5 (z + 56) ++ ((xB2 (z + 59) ++ (xB3 (z + 61) ++ (xB4 (z + 64) ++ (xB8 (z + 68) ++ xB9))))))))))))))
theorem i_X10 : xcV P m_X10_init [.ref S.2.1] (xup S [.inl (10, xdef 10)] k) = some (xup S (xB10 S.2.1) (k + 3 + 6 + 6 + 3 + 6 + 6 + 3 + 3 + 6 + 6 + 3 + 6 + 6 + 3 + 6 + 6 + 3 + 3 + 12 + 3 + 6 + 6 + 3 + 6 + 6 + 3 + 6 + 6 + 3 + 6 + 6 + 3 + 6 + 6 + 3 + 6 + 6 + 3 + 6 + 6 + 3 + 6 + 6 + 3 + 6 + 6 + 3 + 6 + 6 + 3 + 6 + 6 + 3 + 6 + 6 + 3 + 2 + 200 + 3 + 6 + 3 + 6 + 6 + 7 + 3 + 6 + 6 + 9 + 3 + 6 + 6 + 3 + 210 + 210 + 3 + 210 + 210 + 3 + 210 + 210 + 3 + 1230 + 1230 + 3 + 1230 + 1230 + 6 + 3)) := by
  rw [xdef_10]
  refine xcV_of ((e_X10_init_0 P _ _).trans ?_)
  simp only [up_new, up_2, xdl_0]
  rw [i_X0, xob_some]
  simp only [List.append_assoc, List.cons_append, List.nil_append]
  rw [up_pf0 rfl rfl, xob_some]
  simp only [up_new, up_2, xdl_0]
  rw [i_X0, xob_some]
  simp only [List.append_assoc, List.cons_append, List.nil_append]
  rw [up_pf0 rfl rfl, xob_some]
  simp only [tn_3, up_nwa, up_2, xar_4]
  rw [st_fld_3_0]
  simp only [up_2]
  rw [st_fld_3_1]
  simp only [up_2]
  rw [st_fld_3_2]
  simp only [List.append_assoc, List.cons_append, List.nil_append]
  rw [up_pf0 rfl rfl, xob_some]
  simp only [tn_3, up_nwa, up_2, List.append_assoc, List.cons_append, List.nil_append]
  rw [up_pf0 rfl rfl, xob_some]
  simp only [up_new, up_2, xdl_1]
  rw [i_X1, xob_some]
  simp only [List.append_assoc, List.cons_append, List.nil_append]
  rw [up_pf0 rfl rfl, xob_some]
  simp only [up_new, up_2, xdl_5]
  rw [i_X5, xob_some]
  simp only [List.append_assoc, List.cons_append, List.nil_append]
  rw [up_pf0 rfl rfl, xob_some]
  refine Eq.trans (st_tape rfl ((up_get 56).trans rfl)) ?_
  dsimp only
  rw [up_pf0 rfl rfl, xob_some]
  simp only [up_new, up_2, xdl_2]
  rw [i_X2, xob_some]
  simp only [List.append_assoc, List.cons_append, List.nil_append]
  rw [up_pf0 rfl rfl, xob_some]
  simp only [up_new, up_2, xdl_3]
  rw [i_X3, xob_some]
  simp only [List.append_assoc, List.cons_append, List.nil_append]
  rw [up_pf0 rfl rfl, xob_some]
  simp only [up_new, up_2, xdl_4]
  rw [i_X4, xob_some]
  simp only [List.append_assoc, List.cons_append, List.nil_append]
  rw [up_pf0 rfl rfl, xob_some]
  simp only [up_new, up_2, xdl_8]
  rw [i_X8, xob_some]
  simp only [List.append_assoc, List.cons_append, List.nil_append]
  rw [up_pf0 rfl rfl, xob_some]
  simp only [up_new, up_2, xdl_9]
  rw [i_X9, xob_some]
  simp only [List.append_assoc, List.cons_append, List.nil_append]
  rw [up_pf0 rfl rfl, xob_some]
  rfl
theorem up_wrB_0 {f : Nat → Int32} {v : Int32} : xwrB (xup S (L ++ .inr (3, (24, .inl f)) :: R) k) (S.2.1 + L.length) (iI 0) v = some (xup S (L ++ .inr (3, (24, .inl (va_up f 0 (vp_nar .byte v)))) :: R) k) := up_wrB (i := 0) (by decide) (by decide)
theorem up_wrB_1 {f : Nat → Int32} {v : Int32} : xwrB (xup S (L ++ .inr (3, (24, .inl f)) :: R) k) (S.2.1 + L.length) (iI 1) v = some (xup S (L ++ .inr (3, (24, .inl (va_up f 1 (vp_nar .byte v)))) :: R) k) := up_wrB (i := 1) (by decide) (by decide)
theorem up_wrB_2 {f : Nat → Int32} {v : Int32} : xwrB (xup S (L ++ .inr (3, (24, .inl f)) :: R) k) (S.2.1 + L.length) (iI 2) v = some (xup S (L ++ .inr (3, (24, .inl (va_up f 2 (vp_nar .byte v)))) :: R) k) := up_wrB (i := 2) (by decide) (by decide)
theorem up_wrB_3 {f : Nat → Int32} {v : Int32} : xwrB (xup S (L ++ .inr (3, (24, .inl f)) :: R) k) (S.2.1 + L.length) (iI 3) v = some (xup S (L ++ .inr (3, (24, .inl (va_up f 3 (vp_nar .byte v)))) :: R) k) := up_wrB (i := 3) (by decide) (by decide)
theorem up_wrB_4 {f : Nat → Int32} {v : Int32} : xwrB (xup S (L ++ .inr (3, (24, .inl f)) :: R) k) (S.2.1 + L.length) (iI 4) v = some (xup S (L ++ .inr (3, (24, .inl (va_up f 4 (vp_nar .byte v)))) :: R) k) := up_wrB (i := 4) (by decide) (by decide)
theorem up_wrB_5 {f : Nat → Int32} {v : Int32} : xwrB (xup S (L ++ .inr (3, (24, .inl f)) :: R) k) (S.2.1 + L.length) (iI 5) v = some (xup S (L ++ .inr (3, (24, .inl (va_up f 5 (vp_nar .byte v)))) :: R) k) := up_wrB (i := 5) (by decide) (by decide)
theorem up_wrB_6 {f : Nat → Int32} {v : Int32} : xwrB (xup S (L ++ .inr (3, (24, .inl f)) :: R) k) (S.2.1 + L.length) (iI 6) v = some (xup S (L ++ .inr (3, (24, .inl (va_up f 6 (vp_nar .byte v)))) :: R) k) := up_wrB (i := 6) (by decide) (by decide)
theorem up_wrB_7 {f : Nat → Int32} {v : Int32} : xwrB (xup S (L ++ .inr (3, (24, .inl f)) :: R) k) (S.2.1 + L.length) (iI 7) v = some (xup S (L ++ .inr (3, (24, .inl (va_up f 7 (vp_nar .byte v)))) :: R) k) := up_wrB (i := 7) (by decide) (by decide)
theorem up_wrB_8 {f : Nat → Int32} {v : Int32} : xwrB (xup S (L ++ .inr (3, (24, .inl f)) :: R) k) (S.2.1 + L.length) (iI 8) v = some (xup S (L ++ .inr (3, (24, .inl (va_up f 8 (vp_nar .byte v)))) :: R) k) := up_wrB (i := 8) (by decide) (by decide)
theorem up_wrB_9 {f : Nat → Int32} {v : Int32} : xwrB (xup S (L ++ .inr (3, (24, .inl f)) :: R) k) (S.2.1 + L.length) (iI 9) v = some (xup S (L ++ .inr (3, (24, .inl (va_up f 9 (vp_nar .byte v)))) :: R) k) := up_wrB (i := 9) (by decide) (by decide)
theorem up_wrB_10 {f : Nat → Int32} {v : Int32} : xwrB (xup S (L ++ .inr (3, (24, .inl f)) :: R) k) (S.2.1 + L.length) (iI 10) v = some (xup S (L ++ .inr (3, (24, .inl (va_up f 10 (vp_nar .byte v)))) :: R) k) := up_wrB (i := 10) (by decide) (by decide)
theorem up_wrB_11 {f : Nat → Int32} {v : Int32} : xwrB (xup S (L ++ .inr (3, (24, .inl f)) :: R) k) (S.2.1 + L.length) (iI 11) v = some (xup S (L ++ .inr (3, (24, .inl (va_up f 11 (vp_nar .byte v)))) :: R) k) := up_wrB (i := 11) (by decide) (by decide)
theorem up_wrB_12 {f : Nat → Int32} {v : Int32} : xwrB (xup S (L ++ .inr (3, (24, .inl f)) :: R) k) (S.2.1 + L.length) (iI 12) v = some (xup S (L ++ .inr (3, (24, .inl (va_up f 12 (vp_nar .byte v)))) :: R) k) := up_wrB (i := 12) (by decide) (by decide)
theorem up_wrB_13 {f : Nat → Int32} {v : Int32} : xwrB (xup S (L ++ .inr (3, (24, .inl f)) :: R) k) (S.2.1 + L.length) (iI 13) v = some (xup S (L ++ .inr (3, (24, .inl (va_up f 13 (vp_nar .byte v)))) :: R) k) := up_wrB (i := 13) (by decide) (by decide)
theorem up_wrB_14 {f : Nat → Int32} {v : Int32} : xwrB (xup S (L ++ .inr (3, (24, .inl f)) :: R) k) (S.2.1 + L.length) (iI 14) v = some (xup S (L ++ .inr (3, (24, .inl (va_up f 14 (vp_nar .byte v)))) :: R) k) := up_wrB (i := 14) (by decide) (by decide)
theorem up_wrB_15 {f : Nat → Int32} {v : Int32} : xwrB (xup S (L ++ .inr (3, (24, .inl f)) :: R) k) (S.2.1 + L.length) (iI 15) v = some (xup S (L ++ .inr (3, (24, .inl (va_up f 15 (vp_nar .byte v)))) :: R) k) := up_wrB (i := 15) (by decide) (by decide)
theorem up_wrB_16 {f : Nat → Int32} {v : Int32} : xwrB (xup S (L ++ .inr (3, (24, .inl f)) :: R) k) (S.2.1 + L.length) (iI 16) v = some (xup S (L ++ .inr (3, (24, .inl (va_up f 16 (vp_nar .byte v)))) :: R) k) := up_wrB (i := 16) (by decide) (by decide)
theorem up_wrB_17 {f : Nat → Int32} {v : Int32} : xwrB (xup S (L ++ .inr (3, (24, .inl f)) :: R) k) (S.2.1 + L.length) (iI 17) v = some (xup S (L ++ .inr (3, (24, .inl (va_up f 17 (vp_nar .byte v)))) :: R) k) := up_wrB (i := 17) (by decide) (by decide)
theorem up_wrB_18 {f : Nat → Int32} {v : Int32} : xwrB (xup S (L ++ .inr (3, (24, .inl f)) :: R) k) (S.2.1 + L.length) (iI 18) v = some (xup S (L ++ .inr (3, (24, .inl (va_up f 18 (vp_nar .byte v)))) :: R) k) := up_wrB (i := 18) (by decide) (by decide)
theorem up_wrB_19 {f : Nat → Int32} {v : Int32} : xwrB (xup S (L ++ .inr (3, (24, .inl f)) :: R) k) (S.2.1 + L.length) (iI 19) v = some (xup S (L ++ .inr (3, (24, .inl (va_up f 19 (vp_nar .byte v)))) :: R) k) := up_wrB (i := 19) (by decide) (by decide)
theorem up_wrB_20 {f : Nat → Int32} {v : Int32} : xwrB (xup S (L ++ .inr (3, (24, .inl f)) :: R) k) (S.2.1 + L.length) (iI 20) v = some (xup S (L ++ .inr (3, (24, .inl (va_up f 20 (vp_nar .byte v)))) :: R) k) := up_wrB (i := 20) (by decide) (by decide)
theorem up_wrB_21 {f : Nat → Int32} {v : Int32} : xwrB (xup S (L ++ .inr (3, (24, .inl f)) :: R) k) (S.2.1 + L.length) (iI 21) v = some (xup S (L ++ .inr (3, (24, .inl (va_up f 21 (vp_nar .byte v)))) :: R) k) := up_wrB (i := 21) (by decide) (by decide)
theorem up_wrB_22 {f : Nat → Int32} {v : Int32} : xwrB (xup S (L ++ .inr (3, (24, .inl f)) :: R) k) (S.2.1 + L.length) (iI 22) v = some (xup S (L ++ .inr (3, (24, .inl (va_up f 22 (vp_nar .byte v)))) :: R) k) := up_wrB (i := 22) (by decide) (by decide)
theorem up_wrB_23 {f : Nat → Int32} {v : Int32} : xwrB (xup S (L ++ .inr (3, (24, .inl f)) :: R) k) (S.2.1 + L.length) (iI 23) v = some (xup S (L ++ .inr (3, (24, .inl (va_up f 23 (vp_nar .byte v)))) :: R) k) := up_wrB (i := 23) (by decide) (by decide)
def xFw : Nat → Int32 := (va_up (va_up (va_up (va_up (va_up (va_up (va_up (va_up (va_up (va_up (va_up (va_up (va_up (va_up (va_up (va_up (va_up (va_up (va_up (va_up (va_up (va_up (va_up (va_up (fun _ => 0) 0 (vp_nar .byte (iI 114))) 1 (vp_nar .byte (iI 117))) 2 (vp_nar .byte (iI 110))) 3 (vp_nar .byte (iI 0))) 4 (vp_nar .byte (iI 102))) 5 (vp_nar .byte (iI 114))) 6 (vp_nar .byte (iI 111))) 7 (vp_nar .byte (iI 109))) 8 (vp_nar .byte (iI 0))) 9 (vp_nar .byte (iI 98))) 10 (vp_nar .byte (iI 121))) 11 (vp_nar .byte (iI 0))) 12 (vp_nar .byte (iI 116))) 13 (vp_nar .byte (iI 111))) 14 (vp_nar .byte (iI 0))) 15 (vp_nar .byte (iI 104))) 16 (vp_nar .byte (iI 111))) 17 (vp_nar .byte (iI 117))) 18 (vp_nar .byte (iI 114))) 19 (vp_nar .byte (iI 115))) 20 (vp_nar .byte (iI 0))) 21 (vp_nar .byte (iI 97))) 22 (vp_nar .byte (iI 116))) 23 (vp_nar .byte (iI 0)))
theorem xFw_at : ∀ i, i < 24 → xFw i = iI (xwds.getD i 0) := by decide +kernel
theorem i_wd {g : xS → xR} : (xob (xwrB (xup S (L ++ .inr (3, (24, .inl (fun _ => 0))) :: R) k) (S.2.1 + L.length) (iI 0) (iI 114)) none fun w0 => (xob (xwrB w0 (S.2.1 + L.length) (iI 1) (iI 117)) none fun w1 => (xob (xwrB w1 (S.2.1 + L.length) (iI 2) (iI 110)) none fun w2 => (xob (xwrB w2 (S.2.1 + L.length) (iI 3) (iI 0)) none fun w3 => (xob (xwrB w3 (S.2.1 + L.length) (iI 4) (iI 102)) none fun w4 => (xob (xwrB w4 (S.2.1 + L.length) (iI 5) (iI 114)) none fun w5 => (xob (xwrB w5 (S.2.1 + L.length) (iI 6) (iI 111)) none fun w6 => (xob (xwrB w6 (S.2.1 + L.length) (iI 7) (iI 109)) none fun w7 => (xob (xwrB w7 (S.2.1 + L.length) (iI 8) (iI 0)) none fun w8 => (xob (xwrB w8 (S.2.1 + L.length) (iI 9) (iI 98)) none fun w9 => (xob (xwrB w9 (S.2.1 + L.length) (iI 10) (iI 121)) none fun w10 => (xob (xwrB w10 (S.2.1 + L.length) (iI 11) (iI 0)) none fun w11 => (xob (xwrB w11 (S.2.1 + L.length) (iI 12) (iI 116)) none fun w12 => (xob (xwrB w12 (S.2.1 + L.length) (iI 13) (iI 111)) none fun w13 => (xob (xwrB w13 (S.2.1 + L.length) (iI 14) (iI 0)) none fun w14 => (xob (xwrB w14 (S.2.1 + L.length) (iI 15) (iI 104)) none fun w15 => (xob (xwrB w15 (S.2.1 + L.length) (iI 16) (iI 111)) none fun w16 => (xob (xwrB w16 (S.2.1 + L.length) (iI 17) (iI 117)) none fun w17 => (xob (xwrB w17 (S.2.1 + L.length) (iI 18) (iI 114)) none fun w18 => (xob (xwrB w18 (S.2.1 + L.length) (iI 19) (iI 115)) none fun w19 => (xob (xwrB w19 (S.2.1 + L.length) (iI 20) (iI 0)) none fun w20 => (xob (xwrB w20 (S.2.1 + L.length) (iI 21) (iI 97)) none fun w21 => (xob (xwrB w21 (S.2.1 + L.length) (iI 22) (iI 116)) none fun w22 => (xob (xwrB w22 (S.2.1 + L.length) (iI 23) (iI 0)) none g)))))))))))))))))))))))) = g (xup S (L ++ .inr (3, (24, .inl xFw)) :: R) k) := by
  rw [up_wrB_0, xob_some]
  rw [up_wrB_1, xob_some]
  rw [up_wrB_2, xob_some]
  rw [up_wrB_3, xob_some]
  rw [up_wrB_4, xob_some]
  rw [up_wrB_5, xob_some]
  rw [up_wrB_6, xob_some]
  rw [up_wrB_7, xob_some]
  rw [up_wrB_8, xob_some]
  rw [up_wrB_9, xob_some]
  rw [up_wrB_10, xob_some]
  rw [up_wrB_11, xob_some]
  rw [up_wrB_12, xob_some]
  rw [up_wrB_13, xob_some]
  rw [up_wrB_14, xob_some]
  rw [up_wrB_15, xob_some]
  rw [up_wrB_16, xob_some]
  rw [up_wrB_17, xob_some]
  rw [up_wrB_18, xob_some]
  rw [up_wrB_19, xob_some]
  rw [up_wrB_20, xob_some]
  rw [up_wrB_21, xob_some]
  rw [up_wrB_22, xob_some]
  rw [up_wrB_23, xob_some]
  rfl
def xB11 (a : Nat) : List xC := .inl (11, [.int (iI 0), .ref (a + 1), .ref (a + 2), .ref (a + 3), .ref (a + 4), .int 0, .ref (a + 5), .ref (a + 6), .ref (a + 7), .long 0, .long 0, .long 0, .long 0, .ref (a + 8), .ref (a + 9), .int 0, .ref (a + 10), .ref (a + 11), .ref (a + 12), .ref (a + 13), .int 0, .long 0, .long 0, .ref (a + 14), .ref (a + 15), .ref (a + 16), .int 0, .ref (a + 17), .int 0, .ref (a + 18), .int 0, .int 0, .int 0, .int 0, .int 0]) :: [xar 0 13, xar 0 13, xar 0 13, xar 0 156, xar 0 39, xar 2 3, xar 0 6, xar 1 1300, xar 1 1300, xar 1 1300, xar 1 1300, xar 1 1300, xar 1 1300, xar 1 6, xar 1 6, xar 0 16000, xar 0 200, .inr (3, (24, .inl xFw))]
theorem i_X11 : xcV P m_X11_init [.ref (S.2.1 + L.length)] (xup S (L ++ [.inl (11, xdef 11)]) k) = some (xup S (L ++ xB11 (S.2.1 + L.length)) (k + 13 + 13 + 13 + 156 + 39 + 3 + 6 + 1300 + 1300 + 1300 + 1300 + 1300 + 1300 + 6 + 6 + 16000 + 200 + 24)) := by
  rw [xdef_11]
  refine xcV_of ((e_X11_init_0 P _ _).trans ?_)
  simp only [tn_13, up_nwa, up_2, List.append_assoc, List.cons_append, List.nil_append]
  rw [up_pf rfl rfl, xob_some]
  simp only [tn_13, up_nwa, up_2, List.append_assoc, List.cons_append, List.nil_append]
  rw [up_pf rfl rfl, xob_some]
  simp only [tn_13, up_nwa, up_2, List.append_assoc, List.cons_append, List.nil_append]
  rw [up_pf rfl rfl, xob_some]
  simp only [tn_156, up_nwa, up_2, List.append_assoc, List.cons_append, List.nil_append]
  rw [up_pf rfl rfl, xob_some]
  simp only [tn_39, up_nwa, up_2, List.append_assoc, List.cons_append, List.nil_append]
  rw [up_pf rfl rfl, xob_some]
  simp only [tn_3, up_nwa, up_2, List.append_assoc, List.cons_append, List.nil_append]
  rw [up_pf rfl rfl, xob_some]
  simp only [tn_6, up_nwa, up_2, List.append_assoc, List.cons_append, List.nil_append]
  rw [up_pf rfl rfl, xob_some]
  simp only [tn_1300, up_nwa, up_2, List.append_assoc, List.cons_append, List.nil_append]
  rw [up_pf rfl rfl, xob_some]
  simp only [tn_1300, up_nwa, up_2, List.append_assoc, List.cons_append, List.nil_append]
  rw [up_pf rfl rfl, xob_some]
  simp only [tn_1300, up_nwa, up_2, List.append_assoc, List.cons_append, List.nil_append]
  rw [up_pf rfl rfl, xob_some]
  simp only [tn_1300, up_nwa, up_2, List.append_assoc, List.cons_append, List.nil_append]
  rw [up_pf rfl rfl, xob_some]
  simp only [tn_1300, up_nwa, up_2, List.append_assoc, List.cons_append, List.nil_append]
  rw [up_pf rfl rfl, xob_some]
  simp only [tn_1300, up_nwa, up_2, List.append_assoc, List.cons_append, List.nil_append]
  rw [up_pf rfl rfl, xob_some]
  simp only [tn_6, up_nwa, up_2, List.append_assoc, List.cons_append, List.nil_append]
  rw [up_pf rfl rfl, xob_some]
  simp only [tn_6, up_nwa, up_2, List.append_assoc, List.cons_append, List.nil_append]
  rw [up_pf rfl rfl, xob_some]
  simp only [tn_16000, up_nwa, up_2, List.append_assoc, List.cons_append, List.nil_append]
  rw [up_pf rfl rfl, xob_some]
  simp only [tn_200, up_nwa, up_2, List.append_assoc, List.cons_append, List.nil_append]
  rw [up_pf rfl rfl, xob_some]
  simp only [tn_24, up_nwa, up_2, xar_3]
  rw [i_wd]
  simp only [List.append_assoc, List.cons_append, List.nil_append]
  rw [up_pf rfl rfl, xob_some, up_pf rfl rfl, xob_some]
  simp only [List.length_append, List.length_cons, List.length_nil, Nat.zero_add, Nat.reduceAdd, ← Nat.add_assoc, List.set_cons_succ, List.set_cons_zero]
  rfl
end UQ
