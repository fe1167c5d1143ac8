-- deps: 78.readd
/-! reading: the reference's tokens -/
/-- what comes at a place, glued to a word or a number before it or not -/
def xTok (g : Nat → Int) (a : Nat) (gl : Bool) (tok : Int) (sp : Nat) (nu : Value) : Prop :=
  (g a = -1 ∧ tok = 0 ∧ sp = a) ∨ (cL (g a) ∧ xuo cL g a sp ∧ (gl = true ∧ tok = 4 ∨ gl = false ∧ tok = 1)) ∨ (cD (g a) ∧ xuo cD g a sp ∧ ((gl = true ∨ 2 < sp - a) ∧ tok = 4 ∨ ¬ (gl = true ∨ 2 < sp - a) ∧ tok = 2) ∧ nu = .int (iI (xvl g a (sp - a)))) ∨ (g a ≠ -1 ∧ ¬ cL (g a) ∧ ¬ cD (g a) ∧ sp = a + 1 ∧ (g a = 59 ∧ tok = 3 ∨ g a ≠ 59 ∧ tok = 4))
def xTk (S : xS) (m n : Nat) (b : Nat → Int32) (sp : Nat) (tok : Int) (bg nu : Value) (wr : Bool) (ob0 : Nat → Value) : Prop := ∃ ob, xMo S m ob ∧ (∀ k, k < 30 → ob k = ob0 k) ∧ ob 28 = .int (iI n) ∧ ob 30 = .int (iI sp) ∧ ob 31 = .int (iI tok) ∧ ob 32 = bg ∧ ob 33 = nu ∧ ob 34 = .int (iI (xb wr)) ∧ xMt S (m + 17) n b ∧ xMw S (m + 18)
section TK
variable {P : Nat → Nat} {S S0 T : xS} {x m n sp a : Nat} {F : xF} {b : Nat → Int32} {tok : Int} {bg nu : Value} {wr gl : Bool} {ob0 : Nat → Value}
theorem xTk.o (h : xTk S m n b sp tok bg nu wr ob0) : xisO S m 11 = true := by
  obtain ⟨ob, e0, -⟩ := h
  exact e0.o
theorem xTk.f28 (h : xTk S m n b sp tok bg nu wr ob0) : xfI S m 11 28 = some (iI n) := by
  obtain ⟨ob, e0, -, e, -⟩ := h
  exact e0.i (by decide) e
theorem xTk.f30 (h : xTk S m n b sp tok bg nu wr ob0) : xfI S m 11 30 = some (iI sp) := by
  obtain ⟨ob, e0, -, -, e, -⟩ := h
  exact e0.i (by decide) e
theorem xTk.f31 (h : xTk S m n b sp tok bg nu wr ob0) : xfI S m 11 31 = some (iI tok) := by
  obtain ⟨ob, e0, -, -, -, e, -⟩ := h
  exact e0.i (by decide) e
theorem xTk.f32 {v : Int32} (h : xTk S m n b sp tok (.int v) nu wr ob0) : xfI S m 11 32 = some v := by
  obtain ⟨ob, e0, -, -, -, -, e, -⟩ := h
  exact e0.i (by decide) e
theorem xTk.f33 {v : Int32} (h : xTk S m n b sp tok bg (.int v) wr ob0) : xfI S m 11 33 = some v := by
  obtain ⟨ob, e0, -, -, -, -, -, e, -⟩ := h
  exact e0.i (by decide) e
theorem xTk.f34 (h : xTk S m n b sp tok bg nu wr ob0) : xfI S m 11 34 = some (iI (xb wr)) := by
  obtain ⟨ob, e0, -, -, -, -, -, -, e, -⟩ := h
  exact e0.i (by decide) e
theorem xTk.r2 (h : xTk S m n b sp tok bg nu wr ob0) : xfR S m 11 2 = some (m + 2) := by
  obtain ⟨ob, e0, -⟩ := h
  exact e0.r2
theorem xTk.r27 (h : xTk S m n b sp tok bg nu wr ob0) : xfR S m 11 27 = some (m + 17) := by
  obtain ⟨ob, e0, -⟩ := h
  exact e0.r27
theorem xTk.r29 (h : xTk S m n b sp tok bg nu wr ob0) : xfR S m 11 29 = some (m + 18) := by
  obtain ⟨ob, e0, -⟩ := h
  exact e0.r29
theorem xTk.fr {B : Nat → Prop} (h : xTk S m n b sp tok bg nu wr ob0) (hf : xfr S T B) (h0 : ¬ B m) (h1 : ¬ B (m + 17)) (h2 : ¬ B (m + 18)) : xTk T m n b sp tok bg nu wr ob0 := by
  obtain ⟨ob, e0, e1, e2, e3, e4, e5, e6, e7, e8, e9⟩ := h
  exact ⟨ob, e0.fr hf h0, e1, e2, e3, e4, e5, e6, e7, e8.fr hf h1, e9.fr hf h2⟩
theorem xTk.wd (h : xTk S m n b sp tok bg nu wr ob0) : xMw S (m + 18) := by
  obtain ⟨ob, e0, e1, e2, e3, e4, e5, e6, e7, e8, e9⟩ := h
  exact e9
theorem xTk.n200 (h : xTk S m n b sp tok bg nu wr ob0) : n ≤ 200 := by
  obtain ⟨ob, e0, e1, e2, e3, e4, e5, e6, e7, e8, e9⟩ := h
  exact e8.1
theorem xTk.p30 (h : xTk S m n b sp tok bg nu wr ob0) (c : Nat) : ∃ T, xpf S m 11 30 0 (.int (iI c)) = some T ∧ xTk T m n b c tok bg nu wr ob0 ∧ xfr S T (fun d => d = m) := by
  obtain ⟨ob, e0, e1, e2, e3, e4, e5, e6, e7, e8, e9⟩ := h
  obtain ⟨T, p1, p2, p3⟩ := e0.put (k := 30) (by decide) (by decide) (tag := 0) (v := .int (iI c)) rfl
  exact ⟨T, p1, ⟨_, p2, fun k hk => by rw [va_up_at, if_neg (by omega)]; exact e1 k hk, by rw [va_up_at, if_neg (by decide)]; exact e2, by rw [va_up_at, if_pos rfl], by rw [va_up_at, if_neg (by decide)]; exact e4, by rw [va_up_at, if_neg (by decide)]; exact e5, by rw [va_up_at, if_neg (by decide)]; exact e6, by rw [va_up_at, if_neg (by decide)]; exact e7, e8.fr p3 (by omega), e9.fr p3 (by omega)⟩, p3⟩
theorem xTk.p31 (h : xTk S m n b sp tok bg nu wr ob0) (c : Int) : ∃ T, xpf S m 11 31 0 (.int (iI c)) = some T ∧ xTk T m n b sp c bg nu wr ob0 ∧ xfr S T (fun d => d = m) := by
  obtain ⟨ob, e0, e1, e2, e3, e4, e5, e6, e7, e8, e9⟩ := h
  obtain ⟨T, p1, p2, p3⟩ := e0.put (k := 31) (by decide) (by decide) (tag := 0) (v := .int (iI c)) rfl
  exact ⟨T, p1, ⟨_, p2, fun k hk => by rw [va_up_at, if_neg (by omega)]; exact e1 k hk, by rw [va_up_at, if_neg (by decide)]; exact e2, by rw [va_up_at, if_neg (by decide)]; exact e3, by rw [va_up_at, if_pos rfl], by rw [va_up_at, if_neg (by decide)]; exact e5, by rw [va_up_at, if_neg (by decide)]; exact e6, by rw [va_up_at, if_neg (by decide)]; exact e7, e8.fr p3 (by omega), e9.fr p3 (by omega)⟩, p3⟩
theorem xTk.p32 (h : xTk S m n b sp tok bg nu wr ob0) (c : Int) : ∃ T, xpf S m 11 32 0 (.int (iI c)) = some T ∧ xTk T m n b sp tok (.int (iI c)) nu wr ob0 ∧ xfr S T (fun d => d = m) := by
  obtain ⟨ob, e0, e1, e2, e3, e4, e5, e6, e7, e8, e9⟩ := h
  obtain ⟨T, p1, p2, p3⟩ := e0.put (k := 32) (by decide) (by decide) (tag := 0) (v := .int (iI c)) rfl
  exact ⟨T, p1, ⟨_, p2, fun k hk => by rw [va_up_at, if_neg (by omega)]; exact e1 k hk, by rw [va_up_at, if_neg (by decide)]; exact e2, by rw [va_up_at, if_neg (by decide)]; exact e3, by rw [va_up_at, if_neg (by decide)]; exact e4, by rw [va_up_at, if_pos rfl], by rw [va_up_at, if_neg (by decide)]; exact e6, by rw [va_up_at, if_neg (by decide)]; exact e7, e8.fr p3 (by omega), e9.fr p3 (by omega)⟩, p3⟩
theorem xTk.p33 (h : xTk S m n b sp tok bg nu wr ob0) (c : Int) : ∃ T, xpf S m 11 33 0 (.int (iI c)) = some T ∧ xTk T m n b sp tok bg (.int (iI c)) wr ob0 ∧ xfr S T (fun d => d = m) := by
  obtain ⟨ob, e0, e1, e2, e3, e4, e5, e6, e7, e8, e9⟩ := h
  obtain ⟨T, p1, p2, p3⟩ := e0.put (k := 33) (by decide) (by decide) (tag := 0) (v := .int (iI c)) rfl
  exact ⟨T, p1, ⟨_, p2, fun k hk => by rw [va_up_at, if_neg (by omega)]; exact e1 k hk, by rw [va_up_at, if_neg (by decide)]; exact e2, by rw [va_up_at, if_neg (by decide)]; exact e3, by rw [va_up_at, if_neg (by decide)]; exact e4, by rw [va_up_at, if_neg (by decide)]; exact e5, by rw [va_up_at, if_pos rfl], by rw [va_up_at, if_neg (by decide)]; exact e7, e8.fr p3 (by omega), e9.fr p3 (by omega)⟩, p3⟩
theorem xTk.p34 (h : xTk S m n b sp tok bg nu wr ob0) : ∃ T, xpf S m 11 34 3 (.int (iI 1)) = some T ∧ xTk T m n b sp tok bg nu true ob0 ∧ xfr S T (fun d => d = m) := by
  obtain ⟨ob, e0, e1, e2, e3, e4, e5, e6, e7, e8, e9⟩ := h
  obtain ⟨T, p1, p2, p3⟩ := e0.put (k := 34) (by decide) (by decide) (tag := 3) (v := .int (iI 1)) (by decide +kernel)
  exact ⟨T, p1, ⟨_, p2, fun k hk => by rw [va_up_at, if_neg (by omega)]; exact e1 k hk, by rw [va_up_at, if_neg (by decide)]; exact e2, by rw [va_up_at, if_neg (by decide)]; exact e3, by rw [va_up_at, if_neg (by decide)]; exact e4, by rw [va_up_at, if_neg (by decide)]; exact e5, by rw [va_up_at, if_neg (by decide)]; exact e6, by rw [va_up_at, if_pos rfl]; rfl, e8.fr p3 (by omega), e9.fr p3 (by omega)⟩, p3⟩
theorem xTk.rd (h : xTk S m n b sp tok bg nu wr ob0) {i : Nat} (hi : i < n) : xrdI S (m + 17) (iI (i : Int)) = some (iI (xgv n b i)) := by
  have n200 := h.n200
  obtain ⟨ob, e0, e1, e2, e3, e4, e5, e6, e7, ⟨-, f, hf, hf2⟩, e9⟩ := h
  rw [xrdI_at hf (by omega) (by omega) (by omega), Int.toNat_natCast, hf2 i hi]
  unfold xgv
  rw [if_pos hi, iI_tI]
theorem g_here (h : xTk S m n b sp tok bg nu wr ob0) (hs : sp < 100000) : xcI P m_X11_here [.ref m] S = some (iI (xgv n b sp), S) := by
  have n200 := h.n200
  refine xcI_of ((e_X11_here_0 P m S).trans ?_)
  rw [h.f30, xob_some, h.f28, xob_some]
  by_cases c : sp < n
  · rw [if_neg (by rw [iI_le (by omega) (by omega) (by omega) (by omega)]; omega), h.r27, xob_some, xob_some, h.rd c, xob_some]
  · rw [if_pos (by rw [iI_le (by omega) (by omega) (by omega) (by omega)]; omega)]
    unfold xgv
    rw [if_neg c]
theorem xTok.le {g : Nat → Int} (hg : xGv n g) (ha : a ≤ n) (h : xTok g a gl tok sp nu) : a ≤ sp ∧ sp ≤ n := by
  rcases h with ⟨-, -, e⟩ | ⟨-, e, -⟩ | ⟨-, e, -⟩ | ⟨e1, -, -, e2, -⟩
  · omega
  · exact ⟨e.1, e.le hg nL ha⟩
  · exact ⟨e.1, e.le hg nD ha⟩
  · have := hg.le e1
    omega
theorem xvl_suc {g : Nat → Int} {a j : Nat} (hj : j < 2) : xvl g a (j + 1) = 10 * xvl g a j + g (a + j) - 48 := by
  unfold xvl
  have h : j = 0 ∨ j = 1 := by omega
  rcases h with rfl | rfl
  · rw [if_neg (by omega), if_pos rfl, if_pos rfl, Nat.add_zero]; omega
  · rw [if_neg (by omega), if_neg (by omega), if_neg (by omega), if_pos rfl]; omega
theorem xvl_big {g : Nat → Int} {a j : Nat} (hj : 2 ≤ j) : xvl g a (j + 1) = xvl g a j := by
  unfold xvl
  rw [if_neg (by omega), if_neg (by omega), if_neg (by omega), if_neg (by omega)]
theorem g_inL {z : Int} (z1 : -1 ≤ z) (z2 : z ≤ 255) : xcI P m_X11_in [.long (iI z).toInt64, .long (jI 97), .long (jI 122)] S = some (iI (if cL z then 1 else 0), S) := g_inM (by omega) (by omega) (by decide) (by decide) (by decide) (by decide)
theorem g_inD {z : Int} (z1 : -1 ≤ z) (z2 : z ≤ 255) : xcI P m_X11_in [.long (iI z).toInt64, .long (jI 48), .long (jI 57)] S = some (iI (if cD z then 1 else 0), S) := g_inM (by omega) (by omega) (by decide) (by decide) (by decide) (by decide)
/-- letters on -/
theorem l_go108 (hg : xGv n (xgv n b)) (ya : a ≤ n) {e : Nat} (he : xuo cL (xgv n b) a e) {tok' : Int} (ht : gl = true ∧ tok' = 4 ∨ gl = false ∧ tok' = 1) (h : xTk S m n b a tok bg nu wr ob0) : ∃ T, xrun P m_X11_goesOn 108 [(0, .ref m), (3, .int (iI (xb gl)))] [] S = some (none, T) ∧ xTk T m n b e tok' bg nu wr ob0 ∧ xfr S T (fun d => d = m) := by
  have n200 := h.n200
  have ye := he.le hg nL ya
  refine xloopQ (run := fun v (Z : xS) => xrun P m_X11_goesOn 108 [(0, .ref m), (3, .int (iI (xb gl)))] [] Z)
    (Inv := fun v Z => xTk Z m n b v tok bg nu wr ob0 ∧ xfr S Z (fun d => d = m))
    (fun res => ∃ T, res = some (none, T) ∧ xTk T m n b e tok' bg nu wr ob0 ∧ xfr S T (fun d => d = m)) a e he.1 ?_ ?_ (s := S) ⟨h, xfr.rf⟩
  · rintro v Z va hv ⟨hZ, fZ⟩
    right
    have bd := hg.bd v
    have cl := he.2.1 v va hv
    obtain ⟨T, p1, p2, p3⟩ := hZ.p30 (v + 1)
    refine ⟨T, ?_, p2, fZ.tr p3⟩
    try dsimp only
    rw [e_X11_goesOn_108]
    simp only [hZ.o, g_here hZ (show v < 100000 by omega), g_inL bd.1 bd.2, if_pos cl, t_10, hZ.f30, iI_suc, p1, xob_some, cond_true, t_10, t_00, ne_eq, not_true_eq_false, not_false_eq_true, if_true, if_false]
  · rintro Z ⟨hZ, fZ⟩
    have bd := hg.bd e
    have cl := he.2.2
    rcases ht with ⟨rfl, rfl⟩ | ⟨rfl, rfl⟩
    · obtain ⟨T, p1, p2, p3⟩ := hZ.p31 4
      refine ⟨T, ?_, p2, fZ.tr p3⟩
      try dsimp only
      rw [e_X11_goesOn_108]
      simp only [hZ.o, g_here hZ (show e < 100000 by omega), g_inL bd.1 bd.2, if_neg cl, t_00, t_xb1, p1, xob_some, cond_true, t_10, t_00, ne_eq, not_true_eq_false, not_false_eq_true, if_true, if_false]
    · obtain ⟨T, p1, p2, p3⟩ := hZ.p31 1
      refine ⟨T, ?_, p2, fZ.tr p3⟩
      try dsimp only
      rw [e_X11_goesOn_108]
      simp only [hZ.o, g_here hZ (show e < 100000 by omega), g_inL bd.1 bd.2, if_neg cl, t_00, t_xb0, p1, xob_some, cond_true, t_10, t_00, ne_eq, not_true_eq_false, not_false_eq_true, if_true, if_false]
/-- digits on -/
theorem l_go174 (hg : xGv n (xgv n b)) (ya : a ≤ n) {e : Nat} (he : xuo cD (xgv n b) a e) {tok' : Int} (ht : (gl = true ∨ 2 < e - a) ∧ tok' = 4 ∨ ¬ (gl = true ∨ 2 < e - a) ∧ tok' = 2) (h : xTk S m n b a tok (.int (iI a)) (.int (iI 0)) wr ob0) : ∃ T, xrun P m_X11_goesOn 174 [(0, .ref m), (3, .int (iI (xb gl)))] [] S = some (none, T) ∧ xTk T m n b e tok' (.int (iI a)) (.int (iI (xvl (xgv n b) a (e - a)))) wr ob0 ∧ xfr S T (fun d => d = m) := by
  have n200 := h.n200
  have ye := he.le hg nD ya
  refine xloopQ (run := fun v (Z : xS) => xrun P m_X11_goesOn 174 [(0, .ref m), (3, .int (iI (xb gl)))] [] Z)
    (Inv := fun v Z => xTk Z m n b v tok (.int (iI a)) (.int (iI (xvl (xgv n b) a (v - a)))) wr ob0 ∧ xfr S Z (fun d => d = m))
    (fun res => ∃ T, res = some (none, T) ∧ xTk T m n b e tok' (.int (iI a)) (.int (iI (xvl (xgv n b) a (e - a)))) wr ob0 ∧ xfr S T (fun d => d = m)) a e he.1 ?_ ?_ (s := S) ⟨?_, xfr.rf⟩
  · rintro v Z va hv ⟨hZ, fZ⟩
    right
    have bd := hg.bd v
    have cl := he.2.1 v va hv
    have es : iI (v : Int) - iI (a : Int) = iI ((v - a : Nat) : Int) := by rw [iI_sub]; congr 1; omega
    by_cases c : 2 ≤ v - a
    · obtain ⟨T, p1, p2, p3⟩ := hZ.p30 (v + 1)
      refine ⟨T, ?_, ?_, fZ.tr p3⟩
      · try dsimp only
        rw [e_X11_goesOn_174]
        simp only [hZ.o, g_here hZ (show v < 100000 by omega), g_inD bd.1 bd.2, if_pos cl, t_10, hZ.f30, hZ.f32, es, iI_suc, p1, xob_some, cond_true, t_10, t_00, ne_eq, not_true_eq_false, not_false_eq_true, if_true, if_false]
        rw [if_pos (by rw [iI_le (by omega) (by omega) (by omega) (by omega)]; omega)]
      · have e2 : v + 1 - a = v - a + 1 := by omega
        rw [e2, xvl_big c]
        exact p2
    · obtain ⟨T1, p1, p2, p3⟩ := hZ.p33 (10 * xvl (xgv n b) a (v - a) + xgv n b v - 48)
      obtain ⟨T, p4, p5, p6⟩ := p2.p30 (v + 1)
      refine ⟨T, ?_, ?_, (fZ.tr p3).tr p6⟩
      · try dsimp only
        rw [e_X11_goesOn_174]
        simp only [hZ.o, g_here hZ (show v < 100000 by omega), g_inD bd.1 bd.2, if_pos cl, t_10, hZ.f30, hZ.f32, hZ.f33, es, iI_suc, iI_mul, iI_add, iI_sub, xob_some, cond_true, t_10, t_00, ne_eq, not_true_eq_false, not_false_eq_true, if_true, if_false]
        rw [if_neg (by rw [iI_le (by omega) (by omega) (by omega) (by omega)]; omega)]
        simp only [p1, p2.f30, iI_suc, p4, xob_some, cond_true, t_10, t_00, ne_eq, not_true_eq_false, not_false_eq_true, if_true, if_false]
      · have e2 : v + 1 - a = v - a + 1 := by omega
        rw [e2, xvl_suc (by omega), show a + (v - a) = v by omega]
        exact p5
  · rintro Z ⟨hZ, fZ⟩
    have bd := hg.bd e
    have cl := he.2.2
    have es : iI (e : Int) - iI (a : Int) = iI ((e - a : Nat) : Int) := by rw [iI_sub]; congr 1; have := he.1; omega
    rcases ht with ⟨c, rfl⟩ | ⟨c, rfl⟩
    · obtain ⟨T, p1, p2, p3⟩ := hZ.p31 4
      refine ⟨T, ?_, p2, fZ.tr p3⟩
      try dsimp only
      rw [e_X11_goesOn_174]
      simp only [hZ.o, g_here hZ (show e < 100000 by omega), g_inD bd.1 bd.2, if_neg cl, t_00, hZ.f30, hZ.f32, es, xob_some, cond_true, t_10, t_00, ne_eq, not_true_eq_false, not_false_eq_true, if_true, if_false]
      cases gl
      · have c2 : 2 < e - a := by
          rcases c with c | c
          · cases c
          · exact c
        simp only [t_xb0, p1, xob_some, cond_true, t_10, t_00, ne_eq, not_true_eq_false, not_false_eq_true, if_true, if_false]
        rw [if_neg (by rw [iI_le (by omega) (by omega) (by omega) (by omega)]; omega)]
      · simp only [t_xb1, p1, xob_some, cond_true, t_10, t_00, ne_eq, not_true_eq_false, not_false_eq_true, if_true, if_false]
    · obtain ⟨T, p1, p2, p3⟩ := hZ.p31 2
      refine ⟨T, ?_, p2, fZ.tr p3⟩
      have cg : gl = false := by
        cases gl
        · rfl
        · exact absurd (Or.inl rfl) c
      have c2 : ¬ 2 < e - a := fun q => c (Or.inr q)
      try dsimp only
      rw [e_X11_goesOn_174, cg]
      simp only [hZ.o, g_here hZ (show e < 100000 by omega), g_inD bd.1 bd.2, if_neg cl, t_00, hZ.f30, hZ.f32, es, t_xb0, p1, xob_some, cond_true, t_10, t_00, ne_eq, not_true_eq_false, not_false_eq_true, if_true, if_false]
      rw [if_pos (by rw [iI_le (by omega) (by omega) (by omega) (by omega)]; omega)]
  · rw [Nat.sub_self]
    exact h
/-- by the first byte -/
theorem l_go72 (hg : xGv n (xgv n b)) (ya : a ≤ n) (h : xTk S m n b a tok (.int (iI a)) nu wr ob0) : ∃ T sp' tok' nu', xrun P m_X11_goesOn 72 [(0, .ref m)] [.int (iI (xb gl))] S = some (none, T) ∧ xTk T m n b sp' tok' (.int (iI a)) nu' wr ob0 ∧ xTok (xgv n b) a gl tok' sp' nu' ∧ xfr S T (fun d => d = m) := by
  have n200 := h.n200
  have bd := hg.bd a
  by_cases c0 : xgv n b a = -1
  · obtain ⟨T, p1, p2, p3⟩ := h.p31 0
    refine ⟨T, a, 0, nu, ?_, p2, Or.inl ⟨c0, rfl, rfl⟩, p3⟩
    rw [e_X11_goesOn_72]
    simp only [h.o, g_here h (show a < 100000 by omega), c0, p1, xob_some, cond_true, t_10, t_00, ne_eq, not_true_eq_false, not_false_eq_true, if_true, if_false]
  · have c0' : (iI (xgv n b a) = iI (-1)) = False := t_e (by omega) (by omega) (by omega) (by omega) c0
    by_cases c1 : cL (xgv n b a)
    · obtain ⟨e, he, -⟩ := xuo_at hg nL ya
      obtain ⟨tok', ht⟩ : ∃ tok' : Int, gl = true ∧ tok' = 4 ∨ gl = false ∧ tok' = 1 := by
        cases gl
        · exact ⟨1, Or.inr ⟨rfl, rfl⟩⟩
        · exact ⟨4, Or.inl ⟨rfl, rfl⟩⟩
      obtain ⟨T, t1, t2, t3⟩ := l_go108 (P := P) hg ya he ht h
      refine ⟨T, e, tok', nu, ?_, t2, Or.inr (Or.inl ⟨c1, he, ht⟩), t3⟩
      rw [e_X11_goesOn_72]
      simp only [h.o, g_here h (show a < 100000 by omega), c0', g_inL bd.1 bd.2, if_pos c1, t_10, xob_some, cond_true, t_10, t_00, ne_eq, not_true_eq_false, not_false_eq_true, if_true, if_false]
      exact t1
    · by_cases c2 : cD (xgv n b a)
      · obtain ⟨e, he, -⟩ := xuo_at hg nD ya
        obtain ⟨tok', ht⟩ : ∃ tok' : Int, (gl = true ∨ 2 < e - a) ∧ tok' = 4 ∨ ¬ (gl = true ∨ 2 < e - a) ∧ tok' = 2 := by
          by_cases q : gl = true ∨ 2 < e - a
          · exact ⟨4, Or.inl ⟨q, rfl⟩⟩
          · exact ⟨2, Or.inr ⟨q, rfl⟩⟩
        obtain ⟨T1, p1, p2, p3⟩ := h.p33 0
        obtain ⟨T, t1, t2, t3⟩ := l_go174 (P := P) hg ya he ht p2
        refine ⟨T, e, tok', _, ?_, t2, Or.inr (Or.inr (Or.inl ⟨c2, he, ht, rfl⟩)), p3.tr t3⟩
        rw [e_X11_goesOn_72]
        simp only [h.o, g_here h (show a < 100000 by omega), c0', g_inL bd.1 bd.2, g_inD bd.1 bd.2, if_neg c1, if_pos c2, t_10, t_00, p1, xob_some, cond_true, t_10, t_00, ne_eq, not_true_eq_false, not_false_eq_true, if_true, if_false]
        exact t1
      · obtain ⟨T1, p1, p2, p3⟩ := h.p30 (a + 1)
        by_cases c3 : xgv n b a = 59
        · obtain ⟨T, p4, p5, p6⟩ := p2.p31 3
          refine ⟨T, a + 1, 3, nu, ?_, p5, Or.inr (Or.inr (Or.inr ⟨c0, c1, c2, rfl, Or.inl ⟨c3, rfl⟩⟩)), p3.tr p6⟩
          rw [e_X11_goesOn_72]
          simp only [h.o, g_here h (show a < 100000 by omega), c0', g_inL bd.1 bd.2, g_inD bd.1 bd.2, if_neg c1, if_neg c2, t_00, h.f30, iI_suc, p1, xob_some, cond_true, t_10, t_00, ne_eq, not_true_eq_false, not_false_eq_true, if_true, if_false]
          rw [c3]
          simp only [p4, xob_some, cond_true, t_10, t_00, ne_eq, not_true_eq_false, not_false_eq_true, if_true, if_false]
        · obtain ⟨T, p4, p5, p6⟩ := p2.p31 4
          have c3' : (iI (xgv n b a) = iI 59) = False := t_e (by omega) (by omega) (by omega) (by omega) c3
          refine ⟨T, a + 1, 4, nu, ?_, p5, Or.inr (Or.inr (Or.inr ⟨c0, c1, c2, rfl, Or.inr ⟨c3, rfl⟩⟩)), p3.tr p6⟩
          rw [e_X11_goesOn_72]
          simp only [h.o, g_here h (show a < 100000 by omega), c0', g_inL bd.1 bd.2, g_inD bd.1 bd.2, if_neg c1, if_neg c2, t_00, h.f30, iI_suc, p1, c3', p4, xob_some, cond_true, t_10, t_00, ne_eq, not_true_eq_false, not_false_eq_true, if_true, if_false]
/-- the next token is read -/
theorem g_goesOn (hg : xGv n (xgv n b)) (h : xTk S m n b sp tok bg nu wr ob0) (t0 : 0 ≤ tok) (t1 : tok ≤ 4) (hn : sp ≤ n) (hB : xuo cB (xgv n b) sp a) (hgl : gl = decide (a = sp ∧ (tok = 1 ∨ tok = 2))) : ∃ T sp' tok' nu', xcV P m_X11_goesOn [.ref m] S = some T ∧ xTk T m n b sp' tok' (.int (iI a)) nu' wr ob0 ∧ xTok (xgv n b) a gl tok' sp' nu' ∧ xfr S T (fun d => d = m) := by
  have n200 := h.n200
  have ya := hB.le hg nB hn
  have key := xloopQ (run := fun v (Z : xS) => xrun P m_X11_goesOn 10 [(0, .ref m), (1, .int (iI tok)), (2, .int (iI sp))] [] Z)
    (Inv := fun v Z => xTk Z m n b v tok bg nu wr ob0 ∧ xfr S Z (fun d => d = m))
    (fun res => ∃ T sp' tok' nu', res = some (none, T) ∧ xTk T m n b sp' tok' (.int (iI a)) nu' wr ob0 ∧ xTok (xgv n b) a gl tok' sp' nu' ∧ xfr S T (fun d => d = m)) sp a hB.1 (by
      rintro v Z va hv ⟨hZ, fZ⟩
      right
      have cb := hB.2.1 v va hv
      obtain ⟨T, p1, p2, p3⟩ := hZ.p30 (v + 1)
      refine ⟨T, ?_, p2, fZ.tr p3⟩
      rw [e_X11_goesOn_10]
      simp only [hZ.o, g_here hZ (show v < 100000 by omega), hZ.f30, iI_suc, p1, xob_some, cond_true]
      rcases cb with cb | cb
      · rw [cb, if_pos rfl]
      · rw [cb, if_neg (by decide +kernel), if_neg (by decide +kernel)]) (by
      rintro Z ⟨hZ, fZ⟩
      have bd := hg.bd a
      have nb := hB.2.2
      obtain ⟨T1, p1, p2, p3⟩ := hZ.p32 (a : Int)
      obtain ⟨T, sp', tok', nu', w1, w2, w3, w4⟩ := l_go72 (P := P) (gl := gl) hg ya p2
      refine ⟨T, sp', tok', nu', ?_, w2, w3, (fZ.tr p3).tr w4⟩
      rw [e_X11_goesOn_10]
      simp only [hZ.o, g_here hZ (show a < 100000 by omega), hZ.f30, p1, p2.f32, xob_some, cond_true]
      rw [if_neg (by rw [iI_eq (by omega) (by omega) (by omega) (by omega)]; omega), if_pos (by rw [ne_eq, iI_eq (by omega) (by omega) (by omega) (by omega)]; omega)]
      by_cases c : a = sp
      · rw [if_neg (by rw [ne_eq, iI_eq (by omega) (by omega) (by omega) (by omega)]; omega)]
        by_cases c1 : tok = 1
        · rw [if_pos (by rw [c1])]
          have : gl = true := by rw [hgl, decide_eq_true_iff]; exact ⟨c, Or.inl c1⟩
          rw [this] at w1
          exact w1
        · rw [if_neg (by rw [iI_eq (by omega) (by omega) (by omega) (by omega)]; exact c1)]
          by_cases c2 : tok = 2
          · rw [if_neg (by rw [c2]; exact fun z => z rfl)]
            have : gl = true := by rw [hgl, decide_eq_true_iff]; exact ⟨c, Or.inr c2⟩
            rw [this] at w1
            exact w1
          · rw [if_pos (by rw [ne_eq, iI_eq (by omega) (by omega) (by omega) (by omega)]; exact c2)]
            have : gl = false := by rw [hgl, decide_eq_false_iff_not]; exact fun q => by omega
            rw [this] at w1
            exact w1
      · rw [if_pos (by rw [ne_eq, iI_eq (by omega) (by omega) (by omega) (by omega)]; omega)]
        have : gl = false := by rw [hgl, decide_eq_false_iff_not]; exact fun q => c q.1
        rw [this] at w1
        exact w1) (s := S) ⟨h, xfr.rf⟩
  obtain ⟨T, sp', tok', nu', w1, w2⟩ := key
  refine ⟨T, sp', tok', nu', xcV_of ((e_X11_goesOn_0 P m S).trans ?_), w2⟩
  rw [h.f31, xob_some, h.f30, xob_some]
  exact w1
theorem xTok.tb {g : Nat → Int} (h : xTok g a gl tok sp nu) : 0 ≤ tok ∧ tok ≤ 4 := by
  rcases h with ⟨-, e, -⟩ | ⟨-, -, e⟩ | ⟨-, -, e, -⟩ | ⟨-, -, -, -, e⟩ <;> omega
/-- a word is taken -/
theorem g_takes (hg : xGv n (xgv n b)) (h : xTk S m n b sp tok (.int (iI a)) nu false ob0) (ht : xTok (xgv n b) a gl tok sp nu) (ha : a ≤ n) {w r : Nat} {l : List Int} (h10 : w ≤ 10) (hr : xwf 24 0 w = some r) (hl1 : ∀ i, i < l.length → xwds.getD (r + i) 0 = l.getD i 0 ∧ cL (l.getD i 0)) (hl2 : xwds.getD (r + l.length) 0 = 0) (hl3 : r + l.length < 24) (hl0 : 0 < l.length) :
    (tok = 1 ∧ xwrd l (xgv n b) a → sp = a + l.length ∧ ∀ a', xuo cB (xgv n b) (a + l.length) a' → ∃ T sp' tok' nu', xcI P m_X11_takesWord [.ref m, .int (iI (w : Int))] S = some (iI 1, T) ∧ xTk T m n b sp' tok' (.int (iI a')) nu' false ob0 ∧ xTok (xgv n b) a' (decide (a' = a + l.length)) tok' sp' nu' ∧ xfr S T (fun d => d = m)) ∧ (¬ (tok = 1 ∧ xwrd l (xgv n b) a) → xcI P m_X11_takesWord [.ref m, .int (iI (w : Int))] S = some (iI 0, S)) := by
  have n200 := h.n200
  have sb := ht.le hg ha
  have tb := ht.tb
  by_cases c1 : tok = 1
  · -- a word lies there
    have hx : xuo cL (xgv n b) a sp := by
      rcases ht with ⟨-, e, -⟩ | ⟨-, e, -⟩ | ⟨-, -, e, -⟩ | ⟨-, -, -, -, e⟩
      · omega
      · exact e
      · omega
      · omega
    have f31 := h.f31
    rw [c1] at f31
    have rdw : ∀ k, k ≤ l.length → xrdB S (m + 18) (iI (r : Int) + iI (k : Int)) = some (iI (xwds.getD (r + k) 0)) := fun k hk => by
      rw [iI_add, show ((r : Int) + (k : Int)) = ((r + k : Nat) : Int) by omega]
      exact h.wd.rd (by omega)
    have start : ∀ res, xrun P m_X11_takesWord 25 [(0, .ref m), (2, .int (iI (r : Int))), (3, .int (iI ((0 : Nat) : Int)))] [] S = res → xrun P m_X11_takesWord 0 [(0, .ref m), (1, .int (iI (w : Int)))] [] S = res := by
      intro res hres
      obtain ⟨ob, e0, -⟩ := id h
      rw [e_X11_takesWord_0, h.f34, xob_some, if_neg (by decide +kernel), f31, xob_some, if_pos rfl, h.o, cond_true, g_wordFrom e0 h.wd h10 hr, xob_some]
      exact hres
    have es : ∀ k : Nat, iI (a : Int) + iI (k : Int) = iI ((a + k : Nat) : Int) := fun k => by rw [iI_add]; congr 1
    -- one sign on
    have one : ∀ k, k < l.length → a + k < sp → xgv n b (a + k) = l.getD k 0 → xrun P m_X11_takesWord 25 [(0, .ref m), (2, .int (iI (r : Int))), (3, .int (iI (k : Int)))] [] S = xrun P m_X11_takesWord 25 [(0, .ref m), (2, .int (iI (r : Int))), (3, .int (iI (k + 1 : Nat)))] [] S := by
      intro k hk hks he
      have h1 := hl1 k hk
      rw [e_X11_takesWord_25]
      simp only [h.f32, h.f30, h.r29, h.r27, es, rdw k (by omega), h.rd (show a + k < n by omega), iI_suc, xob_some]
      rw [if_neg (by rw [iI_le (by omega) (by omega) (by omega) (by omega)]; omega), if_neg (by rw [h1.1, he]; exact fun z => z rfl)]
    -- it ends here
    have no1 : ∀ k, k < l.length → a + k = sp → xrun P m_X11_takesWord 25 [(0, .ref m), (2, .int (iI (r : Int))), (3, .int (iI (k : Int)))] [] S = some (some (.int (iI 0)), S) := by
      intro k hk hks
      have h1 := hl1 k hk
      have cl := h1.2
      have w0 : (iI (xwds.getD (r + k) 0) = 0) = False := by rw [h1.1]; exact t_nz (by omega) (by omega) (by omega)
      rw [e_X11_takesWord_25]
      simp only [h.f32, h.f30, h.r29, h.r27, es, rdw k (by omega), xob_some]
      rw [if_pos (by rw [iI_le (by omega) (by omega) (by omega) (by omega)]; omega), if_neg (by rw [hks]; exact fun z => z rfl), if_neg (by rw [w0]; exact id)]
    have no2 : ∀ k, k ≤ l.length → a + k < sp → xgv n b (a + k) ≠ xwds.getD (r + k) 0 → xrun P m_X11_takesWord 25 [(0, .ref m), (2, .int (iI (r : Int))), (3, .int (iI (k : Int)))] [] S = some (some (.int (iI 0)), S) := by
      intro k hk hks hne
      have wb := xwds_bd (r + k) (by omega)
      have bd := hg.bd (a + k)
      rw [e_X11_takesWord_25]
      simp only [h.f32, h.f30, h.r29, h.r27, es, rdw k hk, h.rd (show a + k < n by omega), xob_some]
      rw [if_neg (by rw [iI_le (by omega) (by omega) (by omega) (by omega)]; omega), if_pos (by rw [ne_eq, iI_eq (by omega) (by omega) (by omega) (by omega)]; exact fun q => hne q.symm), if_pos (by rw [ne_eq, iI_eq (by omega) (by omega) (by omega) (by omega)]; omega)]
    have key := xloopQ (run := fun k (_ : Unit) => xrun P m_X11_takesWord 25 [(0, .ref m), (2, .int (iI (r : Int))), (3, .int (iI (k : Int)))] [] S)
      (Inv := fun k _ => a + k ≤ sp ∧ ∀ j, j < k → xgv n b (a + j) = l.getD j 0)
      (fun res => (¬ xwrd l (xgv n b) a ∧ res = some (some (.int (iI 0)), S)) ∨ (xwrd l (xgv n b) a ∧ sp = a + l.length ∧ res = xrun P m_X11_takesWord 25 [(0, .ref m), (2, .int (iI (r : Int))), (3, .int (iI (l.length : Nat)))] [] S)) 0 l.length (Nat.zero_le _) (by
        rintro k u - hk ⟨i1, i2⟩
        have h1 := hl1 k hk
        by_cases c : a + k = sp
        · refine Or.inl (Or.inl ⟨fun q => ?_, no1 k hk c⟩)
          have := q.1 k hk
          rw [c] at this
          have := hx.2.2
          omega
        · by_cases d : xgv n b (a + k) = l.getD k 0
          · refine Or.inr ⟨(), one k hk (by omega) d, by omega, fun j hj => ?_⟩
            by_cases f : j = k
            · rw [f]; exact d
            · exact i2 j (by omega)
          · exact Or.inl (Or.inl ⟨fun q => d (q.1 k hk), no2 k (by omega) (by omega) (by rw [h1.1]; exact d)⟩)) (by
        rintro u ⟨i1, i2⟩
        by_cases c : a + l.length = sp
        · exact Or.inr ⟨⟨i2, by rw [c]; exact hx.2.2⟩, c.symm, rfl⟩
        · have cl := hx.2.1 (a + l.length) (by omega) (by omega)
          exact Or.inl ⟨fun q => q.2 cl, no2 l.length (Nat.le_refl _) (by omega) (by rw [hl2]; omega)⟩) (s := ()) ⟨by omega, fun j hj => absurd hj (Nat.not_lt_zero j)⟩
    rcases key with ⟨k1, k2⟩ | ⟨k1, k2, k3⟩
    · exact ⟨fun q => absurd q.2 k1, fun _ => xcI_of (start _ k2)⟩
    · refine ⟨fun _ => ⟨k2, fun a' hB => ?_⟩, fun q => absurd ⟨c1, k1⟩ q⟩
      obtain ⟨T, sp', tok', nu', w1, w2, w3, w4⟩ := g_goesOn (P := P) (gl := decide (a' = a + l.length)) hg h tb.1 tb.2 sb.2 (by rw [k2]; exact hB) (by
        rw [decide_eq_decide]
        constructor
        · intro q; exact ⟨by omega, Or.inl c1⟩
        · intro q; omega)
      refine ⟨T, sp', tok', nu', xcI_of (start _ (k3.trans ?_)), w2, w3, w4⟩
      rw [e_X11_takesWord_25]
      simp only [h.f32, h.f30, h.r29, es, rdw l.length (Nat.le_refl _), hl2, h.o, w1, xob_some, cond_true]
      rw [if_pos (by rw [iI_le (by omega) (by omega) (by omega) (by omega)]; omega), if_neg (by rw [k2]; exact fun z => z rfl), if_pos (by decide +kernel)]
  · refine ⟨fun q => absurd q.1 c1, fun _ => xcI_of ((e_X11_takesWord_0 P m (iI (w : Int)) S).trans ?_)⟩
    rw [h.f34, xob_some, if_neg (by decide +kernel), h.f31, xob_some, if_neg (by rw [iI_eq (by omega) (by omega) (by omega) (by omega)]; exact c1)]
theorem g_takesWrong (h : xTk S m n b sp tok bg nu true ob0) (w : Int32) : xcI P m_X11_takesWord [.ref m, .int w] S = some (iI 0, S) := by
  refine xcI_of ((e_X11_takesWord_0 P m w S).trans ?_)
  rw [h.f34, xob_some, if_pos (by decide +kernel)]
/-- a number is wanted -/
theorem g_needs (hg : xGv n (xgv n b)) {a0 : Nat} (h : xTk S m n b sp tok (.int (iI a)) nu false ob0) (ht : xTok (xgv n b) a (decide (a = a0)) tok sp nu) (h0 : a0 ≤ a) (ha : a ≤ n) {most : Int} (m0 : 0 ≤ most) (m1 : most ≤ 1000) {d : Nat} (hD : xuo cD (xgv n b) a (a + d)) :
    (xnum (xgv n b) most a0 a d → ∀ a', xuo cB (xgv n b) (a + d) a' → ∃ T sp' tok' nu', xcI P m_X11_needsNumber [.ref m, .int (iI most)] S = some (iI (xvl (xgv n b) a d), T) ∧ xTk T m n b sp' tok' (.int (iI a')) nu' false ob0 ∧ xTok (xgv n b) a' (decide (a' = a + d)) tok' sp' nu' ∧ xfr S T (fun d => d = m)) ∧ (¬ xnum (xgv n b) most a0 a d → ∃ T, xcI P m_X11_needsNumber [.ref m, .int (iI most)] S = some (iI 0, T) ∧ xTk T m n b sp tok (.int (iI a)) nu true ob0 ∧ xfr S T (fun d => d = m)) := by
  have n200 := h.n200
  have sb := ht.le hg ha
  have tb := ht.tb
  have vb := xvl_bd hD
  have bad : ∀ (T : xS), xpf S m 11 34 3 (.int (iI 1)) = some T → (tok ≠ 2 ∨ (nu = .int (iI (xvl (xgv n b) a d)) ∧ most < xvl (xgv n b) a d)) → xcI P m_X11_needsNumber [.ref m, .int (iI most)] S = some (iI 0, T) := by
    intro T p1 hc
    refine xcI_of ((e_X11_needsNumber_0 P m (iI most) S).trans ?_)
    rw [h.f34, xob_some, if_neg (by decide +kernel), h.f31, xob_some, p1]
    by_cases c : tok = 2
    · rcases hc with hc | ⟨hc1, hc2⟩
      · exact absurd c hc
      · rw [hc1] at h
        rw [if_neg (by rw [c]; exact fun z => z rfl), h.f33, xob_some, if_neg (by rw [iI_le (by omega) (by omega) (by omega) (by omega)]; omega), xob_some]
    · rw [if_pos (by rw [ne_eq, iI_eq (by omega) (by omega) (by omega) (by omega)]; exact c), xob_some]
  constructor
  · rintro ⟨c1, c2, c3, c4⟩ a' hB
    have cd := hD.2.1 a (Nat.le_refl _) (by omega)
    have q : xuo cD (xgv n b) a sp ∧ ((decide (a = a0) = true ∨ 2 < sp - a) ∧ tok = 4 ∨ ¬ (decide (a = a0) = true ∨ 2 < sp - a) ∧ tok = 2) ∧ nu = .int (iI (xvl (xgv n b) a (sp - a))) := by
      rcases ht with ⟨e, -, -⟩ | ⟨e, -, -⟩ | ⟨-, e1, e2, e3⟩ | ⟨-, -, e, -⟩
      · omega
      · omega
      · exact ⟨e1, e2, e3⟩
      · exact absurd cd e
    obtain ⟨q1, q2, q3⟩ := q
    have es := q1.uq hD
    subst es
    rw [show a + d - a = d by omega] at q2 q3
    have t2 : tok = 2 := by
      rcases q2 with ⟨q2, -⟩ | ⟨-, q2⟩
      · rcases q2 with q2 | q2
        · rw [decide_eq_true_iff] at q2; omega
        · omega
      · exact q2
    obtain ⟨T, sp', tok', nu', w1, w2, w3, w4⟩ := g_goesOn (P := P) (gl := decide (a' = a + d)) hg h tb.1 tb.2 sb.2 hB (by
      rw [decide_eq_decide]
      constructor
      · intro q; exact ⟨q, Or.inr t2⟩
      · intro q; exact q.1)
    refine ⟨T, sp', tok', nu', xcI_of ((e_X11_needsNumber_0 P m (iI most) S).trans ?_), w2, w3, w4⟩
    have h' := h
    rw [q3] at h'
    rw [h.f34, xob_some, if_neg (by decide +kernel), h.f31, xob_some, if_neg (by rw [t2]; exact fun z => z rfl), h'.f33, xob_some, if_pos (by rw [iI_le (by omega) (by omega) (by omega) (by omega)]; omega), xob_some, h.o, cond_true, w1, xob_some]
  · intro c
    obtain ⟨T, p1, p2, p3⟩ := h.p34
    refine ⟨T, bad T p1 ?_, p2, p3⟩
    rcases ht with ⟨-, e, -⟩ | ⟨-, -, e⟩ | ⟨e0, e1, e2, e3⟩ | ⟨-, -, -, -, e⟩
    · left; omega
    · left; omega
    · have es := e1.uq hD
      subst es
      rw [show a + d - a = d by omega] at e2 e3
      rcases e2 with ⟨-, e2⟩ | ⟨e2, -⟩
      · left; omega
      · right
        refine ⟨e3, ?_⟩
        by_cases c4 : xvl (xgv n b) a d ≤ most
        · refine absurd ⟨?_, ?_, ?_, c4⟩ c
          · by_cases f : a = a0
            · exact absurd (Or.inl (decide_eq_true f)) e2
            · omega
          · by_cases f : d = 0
            · have := hD.2.2
              subst f
              exact absurd e0 this
            · omega
          · by_cases f : 2 < d
            · exact absurd (Or.inr f) e2
            · omega
        · omega
    · left; omega
end TK
