-- deps: 55.grid
/-! prime -/
def xprl : List Nat := [2, 3, 5, 7, 11, 13, 17, 19, 23, 29, 31, 37, 41, 43, 47, 53, 59, 61, 67, 71, 73, 79, 83, 89, 97]
def xPm (P : Nat → Nat) (S : xS) : Prop := ∃ f, S.1 (P 0) = some (.inr (6, (25, .inl f))) ∧ ∀ i, i < 25 → f i = iI (xprl.getD i 0 : Nat)
/-- no two speeds alike by p -/
def xul (F : xF) (p : Int) : Bool := decide (∀ b, b < F.1 → ∀ c, c < b → (F.2.1 b - F.2.1 c).tmod p ≠ 0)
theorem xul_t {F : xF} {p : Int} : xul F p = true ↔ ∀ b, b < F.1 → ∀ c, c < b → (F.2.1 b - F.2.1 c).tmod p ≠ 0 := by unfold xul; rw [decide_eq_true_eq]
theorem xul_f {F : xF} {p : Int} {b c : Nat} (hb : b < F.1) (hc : c < b) (h : (F.2.1 b - F.2.1 c).tmod p = 0) : xul F p = false := by
  cases hx : xul F p
  · rfl
  · exact absurd h (xul_t.mp hx b hb c hc)
def xprm (n : Nat) : Bool := decide (∀ d, d < n → 2 ≤ d → n % d ≠ 0)
theorem xprl_1 : ∀ n, n < 98 → 2 ≤ n → xprm n = true → xprl.filter (fun p => decide (n ≤ p)) = n :: xprl.filter (fun p => decide (n + 1 ≤ p)) := by decide +kernel
theorem xprl_2 : ∀ n, n < 98 → 2 ≤ n → xprm n = false → xprl.filter (fun p => decide (n ≤ p)) = xprl.filter (fun p => decide (n + 1 ≤ p)) := by decide +kernel
theorem xprl_bd : ∀ i, i < 25 → 2 ≤ xprl.getD i 0 ∧ xprl.getD i 0 ≤ 97 := by decide +kernel
theorem xprl_3 : ∀ i, i < 25 → xprl.drop i = xprl.getD i 0 :: xprl.drop (i + 1) := by decide +kernel
def xpra (F : xF) (l : List Nat) : Int := match l.find? (fun p => xul F (p : Nat)) with
  | some p => p
  | none => -2
theorem xpra_nil (F : xF) : xpra F [] = -2 := rfl
theorem xpra_cons (F : xF) (p : Nat) (l : List Nat) : xpra F (p :: l) = if xul F p then (p : Int) else xpra F l := by
  unfold xpra
  rw [List.find?_cons]
  cases xul F p <;> rfl
section PR
variable {P : Nat → Nat} {S : xS} {x m a : Nat} {A : xAb} {ob : Nat → Value} {F : xF}
theorem x_srem {u p : Int} (u1 : -40 ≤ u) (u2 : u ≤ 40) (p1 : 2 ≤ p) (p2 : p ≤ 97) : (iI u - iI u / iI p * iI p ≠ 0) ↔ u.tmod p ≠ 0 := by
  have b := x_tmod_lt (a := u) (b := p) (by omega)
  rw [iI_tdiv (by omega) (by omega) (by omega) (by omega), iI_mul, iI_sub, x_tmod, ne_eq, iI_0, iI_eq (by omega) (by omega) (by omega) (by omega)]
theorem d_unlikeMod (hF : xFd S a F) {p : Int} (p1 : 2 ≤ p) (p2 : p ≤ 97) : xcI P m_X0_speedsUnlikeModulo [.ref a, .int (iI p)] S = some (iI (if xul F p then 1 else 0), S) := by
  have hk := hF.1.1
  refine xcI_of ((e_X0_speedsUnlikeModulo_0 P a (iI p) S).trans ?_)
  refine xloopQ (run := fun r (_ : Unit) => xrun P m_X0_speedsUnlikeModulo 2 [(0, .ref a), (1, .int (iI p)), (2, .int (iI r))] [] S) (Inv := fun r _ => ∀ c, c < r → ∀ b, c < b → b < F.1 → (F.2.1 b - F.2.1 c).tmod p ≠ 0) (fun res => res = some (some (.int (iI (if xul F p then 1 else 0))), S)) 0 F.1 (Nat.zero_le _) ?_ ?_ (s := ()) (fun c hc => by omega)
  · intro r _ _ hr hi
    have br := hF.1.2 r hr
    have inner : ((∀ b, r < b → b < F.1 → (F.2.1 b - F.2.1 r).tmod p ≠ 0) ∧ xrun P m_X0_speedsUnlikeModulo 14 [(0, .ref a), (1, .int (iI p)), (2, .int (iI r)), (3, .int (iI ((r + 1 : Nat) : Int)))] [] S = xrun P m_X0_speedsUnlikeModulo 2 [(0, .ref a), (1, .int (iI p)), (2, .int (iI ((r + 1 : Nat) : Int)))] [] S) ∨ (xul F p = false ∧ xrun P m_X0_speedsUnlikeModulo 14 [(0, .ref a), (1, .int (iI p)), (2, .int (iI r)), (3, .int (iI ((r + 1 : Nat) : Int)))] [] S = some (some (.int (iI 0)), S)) := by
      refine xloopQ (run := fun n (_ : Unit) => xrun P m_X0_speedsUnlikeModulo 14 [(0, .ref a), (1, .int (iI p)), (2, .int (iI r)), (3, .int (iI n))] [] S) (Inv := fun n _ => ∀ b, r < b → b < n → (F.2.1 b - F.2.1 r).tmod p ≠ 0)
        (fun res => ((∀ b, r < b → b < F.1 → (F.2.1 b - F.2.1 r).tmod p ≠ 0) ∧ res = xrun P m_X0_speedsUnlikeModulo 2 [(0, .ref a), (1, .int (iI p)), (2, .int (iI ((r + 1 : Nat) : Int)))] [] S) ∨ (xul F p = false ∧ res = some (some (.int (iI 0)), S))) (r + 1) F.1 (by omega) ?_ ?_ (s := ()) (fun b hb hb2 => by omega)
      · intro n _ hn1 hn2 hj
        have bn := hF.1.2 n hn2
        have sr := x_srem (u := F.2.1 r - F.2.1 n) (by omega) (by omega) p1 p2
        have eneg : (F.2.1 r - F.2.1 n).tmod p = -((F.2.1 n - F.2.1 r).tmod p) := by rw [← Int.neg_tmod, Int.neg_sub]
        have nz : ¬ iI p = 0 := by rw [t_nz (by omega) (by omega) (by omega)]; exact fun z => z
        rw [e_X0_speedsUnlikeModulo_14, d_k hF, xob_some, if_neg (by rw [iI_le (by omega) (by omega) (by omega) (by omega)]; omega), if_neg nz]
        simp only [hF.o, d_speedAt hF hr, d_speedAt hF hn2, iI_sub, iI_suc, xob_some, cond_true]
        rw [if_neg nz]
        by_cases c : (F.2.1 n - F.2.1 r).tmod p = 0
        · exact Or.inl (Or.inr ⟨xul_f hn2 (by omega) c, by rw [if_neg (by rw [sr, eneg, c]; decide)]⟩)
        · refine Or.inr ⟨(), ?_, ?_⟩
          · rw [if_pos (by rw [sr, eneg]; omega)]
          · intro b hb hb2
            by_cases d : b = n
            · rw [d]; exact c
            · exact hj b hb (by omega)
      · intro _ hj
        refine Or.inl ⟨hj, ?_⟩
        rw [e_X0_speedsUnlikeModulo_14, d_k hF, xob_some, if_pos (by rw [iI_le (by omega) (by omega) (by omega) (by omega)]; omega), iI_suc]
    rw [e_X0_speedsUnlikeModulo_2, d_k hF, xob_some, if_neg (by rw [iI_le (by omega) (by omega) (by omega) (by omega)]; omega), iI_suc]
    rcases inner with ⟨h1, h2⟩ | ⟨h1, h2⟩
    · refine Or.inr ⟨(), h2, ?_⟩
      intro c hc b hb hb2
      by_cases d : c = r
      · subst d; exact h1 b hb hb2
      · exact hi c (by omega) b hb hb2
    · refine Or.inl ?_
      rw [h2, h1]
      rfl
  · intro _ hi
    rw [e_X0_speedsUnlikeModulo_2, d_k hF, xob_some, if_pos (by rw [iI_le (by omega) (by omega) (by omega) (by omega)]; omega)]
    rw [xul_t.mpr (fun b hb c hc => hi c (by omega) b hc hb)]
    rfl
theorem g_areUnlike (h : xMo S m ob) (hF : xRo S (m + 1) F) {p : Int} (p1 : 2 ≤ p) (p2 : p ≤ 97) : xcI P m_X11_areUnlike [.ref m, .int (iI p)] S = some (iI (if xul F p then 1 else 0), S) := by
  have hk := hF.1.1
  refine xcI_of ((e_X11_areUnlike_0 P m (iI p) S).trans ?_)
  refine xloopQ (run := fun r (_ : Unit) => xrun P m_X11_areUnlike 2 [(0, .ref m), (1, .int (iI p)), (2, .int (iI r))] [] S) (Inv := fun r _ => ∀ b, b < r → ∀ c, c < b → (F.2.1 b - F.2.1 c).tmod p ≠ 0) (fun res => res = some (some (.int (iI (if xul F p then 1 else 0))), S)) 0 F.1 (Nat.zero_le _) ?_ ?_ (s := ()) (fun c hc => by omega)
  · intro r _ _ hr hi
    have br := hF.1.2 r hr
    have inner : ((∀ c, c < r → (F.2.1 r - F.2.1 c).tmod p ≠ 0) ∧ xrun P m_X11_areUnlike 14 [(0, .ref m), (1, .int (iI p)), (2, .int (iI r)), (3, .int (iI ((0 : Nat) : Int)))] [] S = xrun P m_X11_areUnlike 2 [(0, .ref m), (1, .int (iI p)), (2, .int (iI ((r + 1 : Nat) : Int)))] [] S) ∨ (xul F p = false ∧ xrun P m_X11_areUnlike 14 [(0, .ref m), (1, .int (iI p)), (2, .int (iI r)), (3, .int (iI ((0 : Nat) : Int)))] [] S = some (some (.int (iI 0)), S)) := by
      refine xloopQ (run := fun n (_ : Unit) => xrun P m_X11_areUnlike 14 [(0, .ref m), (1, .int (iI p)), (2, .int (iI r)), (3, .int (iI n))] [] S) (Inv := fun n _ => ∀ c, c < n → (F.2.1 r - F.2.1 c).tmod p ≠ 0)
        (fun res => ((∀ c, c < r → (F.2.1 r - F.2.1 c).tmod p ≠ 0) ∧ res = xrun P m_X11_areUnlike 2 [(0, .ref m), (1, .int (iI p)), (2, .int (iI ((r + 1 : Nat) : Int)))] [] S) ∨ (xul F p = false ∧ res = some (some (.int (iI 0)), S))) 0 r (Nat.zero_le _) ?_ ?_ (s := ()) (fun b hb => by omega)
      · intro n _ _ hn2 hj
        have bn := hF.1.2 n (by omega)
        have sr := x_srem (u := F.2.1 r - F.2.1 n) (by omega) (by omega) p1 p2
        have nz : ¬ iI p = 0 := by rw [t_nz (by omega) (by omega) (by omega)]; exact fun z => z
        rw [e_X11_areUnlike_14, if_neg (by rw [iI_le (by omega) (by omega) (by omega) (by omega)]; omega)]
        simp only [h.o, g_speedOf h hF hr, g_speedOf h hF (show n < F.1 by omega), iI_sub, iI_suc, xob_some, cond_true]
        rw [if_neg nz]
        by_cases c : (F.2.1 r - F.2.1 n).tmod p = 0
        · exact Or.inl (Or.inr ⟨xul_f hr hn2 c, by rw [if_neg (by rw [sr, c]; decide)]⟩)
        · refine Or.inr ⟨(), ?_, ?_⟩
          · rw [if_pos (by rw [sr]; exact c)]
          · intro b hb
            by_cases d : b = n
            · rw [d]; exact c
            · exact hj b (by omega)
      · intro _ hj
        refine Or.inl ⟨hj, ?_⟩
        rw [e_X11_areUnlike_14, if_pos (by rw [iI_le (by omega) (by omega) (by omega) (by omega)]; omega), iI_suc]
    rw [e_X11_areUnlike_2, h.r1, xob_some, g_K hF, xob_some, if_neg (by rw [iI_le (by omega) (by omega) (by omega) (by omega)]; omega)]
    rcases inner with ⟨h1, h2⟩ | ⟨h1, h2⟩
    · refine Or.inr ⟨(), h2, ?_⟩
      intro b hb c hc
      by_cases d : b = r
      · subst d; exact h1 c hc
      · exact hi b (by omega) c hc
    · refine Or.inl ?_
      refine (show _ = _ from h2).trans ?_
      rw [h1]
      rfl
  · intro _ hi
    rw [e_X11_areUnlike_2, h.r1, xob_some, g_K hF, xob_some, if_pos (by rw [iI_le (by omega) (by omega) (by omega) (by omega)]; omega)]
    rw [xul_t.mpr hi]
    rfl
theorem g_isPrime {n : Nat} (n1 : 2 ≤ n) (n2 : n ≤ 97) : xcI P m_X11_isPrime [.int (iI n)] S = some (iI (if xprm n then 1 else 0), S) := by
  refine xcI_of ((e_X11_isPrime_0 P (iI n) S).trans ?_)
  refine xloopQ (run := fun r (_ : Unit) => xrun P m_X11_isPrime 2 [(0, .int (iI n)), (1, .int (iI r))] [] S) (Inv := fun r _ => ∀ d, d < r → 2 ≤ d → n % d ≠ 0) (fun res => res = some (some (.int (iI (if xprm n then 1 else 0))), S)) 2 n n1 ?_ ?_ (s := ()) (fun d hd hd2 => by omega)
  · intro r _ hr1 hr2 hi
    have nz : ¬ iI r = 0 := by rw [t_nz (by omega) (by omega) (by omega)]; exact fun z => z
    rw [e_X11_isPrime_2, if_neg (by rw [iI_le (by omega) (by omega) (by omega) (by omega)]; omega), if_neg nz, iI_rem (by omega) (by omega) (by omega) (by omega), iI_suc]
    have em : (n : Int) % (r : Int) = (n % r : Nat) := (Int.natCast_emod n r).symm
    have lm := Nat.mod_lt n (show 0 < r by omega)
    have ez : (iI ((n : Int) % (r : Int)) ≠ 0) ↔ n % r ≠ 0 := by
      rw [em, ne_eq, iI_0, iI_eq (by omega) (by omega) (by omega) (by omega)]
      omega
    by_cases c : n % r = 0
    · refine Or.inl ?_
      rw [if_neg (by rw [ez]; omega)]
      have : xprm n = false := by
        unfold xprm
        rw [decide_eq_false_iff_not]
        exact fun z => z r hr2 hr1 c
      rw [this]
      rfl
    · refine Or.inr ⟨(), by rw [if_pos (ez.mpr c)], ?_⟩
      intro d hd hd2
      by_cases e : d = r
      · rw [e]; exact c
      · exact hi d (by omega) hd2
  · intro _ hi
    rw [e_X11_isPrime_2, if_pos (by rw [iI_le (by omega) (by omega) (by omega) (by omega)]; omega)]
    have : xprm n = true := by unfold xprm; rw [decide_eq_true_eq]; exact hi
    rw [this]
    rfl
theorem z_prime (H : xCl S x A) (hp : xPm P S) : ∃ v A', xKI P S x m_X10_prime [] v A' ∧ ∀ S', xMl S' m A → xGI P S' m m_X11_prime [] v A' := by
  have hF := H.2.1
  have hk := hF.1.1
  obtain ⟨f, hf, hf2⟩ := hp
  refine ⟨iI (xpra A.1 xprl), A, ⟨S, xcI_of ((e_X10_prime_0 P x S).trans ?_), H, xfr.rf⟩, fun S' M => ?_⟩
  · have hl : xlen S (P 0) = some (iI (25 : Nat)) := by unfold xlen; rw [hf]; rfl
    rw [hl, xob_some]
    refine xloopQ (run := fun r (_ : Unit) => xrun P m_X10_prime 9 [(0, .ref x), (1, .ref (P 0)), (2, .int (iI (25 : Nat))), (3, .int (iI r))] [] S) (Inv := fun r _ => xpra A.1 xprl = xpra A.1 (xprl.drop r)) (fun res => res = some (some (.int (iI (xpra A.1 xprl))), S)) 0 25 (Nat.zero_le _) ?_ ?_ (s := ()) rfl
    · intro r _ _ hr hi
      have bp := xprl_bd r hr
      rw [e_X10_prime_9, if_neg (by rw [iI_le (by omega) (by omega) (by omega) (by omega)]; omega), xrdI_at6 hf (by omega) (by omega) (by omega), xob_some, H.r0, xob_some, hF.o, cond_true]
      have hfr : f ((r : Int)).toNat = iI (xprl.getD r 0 : Nat) := hf2 r hr
      rw [hfr, d_unlikeMod hF (by omega) (by omega), xob_some, iI_suc]
      rw [xprl_3 r hr, xpra_cons] at hi
      dsimp only
      by_cases c : xul A.1 (xprl.getD r 0 : Nat) = true
      · refine Or.inl ?_
        rw [if_pos c] at hi
        rw [if_pos c, if_neg (show ¬ iI 1 = 0 by decide +kernel), hi]
      · refine Or.inr ⟨(), ?_, ?_⟩
        · rw [if_neg c, if_pos (show iI 0 = 0 by decide +kernel)]
        · rw [if_neg c] at hi
          exact hi
    · intro _ hi
      have : xpra A.1 xprl = -2 := hi
      rw [e_X10_prime_9, if_pos (by decide +kernel), this]
  · obtain ⟨ob, e0, -, -, hR, -⟩ := id M
    refine ⟨S', xcI_of ((e_X11_prime_0 P m S').trans ?_), M, xfr.rf⟩
    have start : xpra A.1 xprl = xpra A.1 (xprl.filter (fun p => decide (2 ≤ p))) := by rw [show xprl.filter (fun p => decide (2 ≤ p)) = xprl by decide +kernel]
    refine xloopQ (run := fun r (_ : Unit) => xrun P m_X11_prime 2 [(0, .ref m), (1, .int (iI r))] [] S') (Inv := fun r _ => xpra A.1 xprl = xpra A.1 (xprl.filter (fun p => decide (r ≤ p)))) (fun res => res = some (some (.int (iI (xpra A.1 xprl))), S')) 2 98 (by omega) ?_ ?_ (s := ()) start
    · intro r _ hr1 hr2 hi
      rw [e_X11_prime_2, if_neg (by rw [iI_lt (by omega) (by omega) (by omega) (by omega)]; omega), g_isPrime hr1 (by omega), xob_some, iI_suc]
      dsimp only
      cases hx : xprm r
      · refine Or.inr ⟨(), ?_, ?_⟩
        · rw [if_neg (show ¬ false = true by decide), if_pos (show iI 0 = 0 by decide +kernel)]
        · rw [xprl_2 r hr2 hr1 hx] at hi
          exact hi
      · rw [if_pos rfl, if_neg (show ¬ iI 1 = 0 by decide +kernel), e0.o, cond_true, g_areUnlike e0 hR (by omega) (by omega), xob_some]
        rw [xprl_1 r hr2 hr1 hx, xpra_cons] at hi
        dsimp only
        by_cases c : xul A.1 r = true
        · refine Or.inl ?_
          rw [if_pos c] at hi
          rw [if_pos c, if_neg (show ¬ iI 1 = 0 by decide +kernel), hi]
        · refine Or.inr ⟨(), ?_, ?_⟩
          · rw [if_neg c, if_pos (show iI 0 = 0 by decide +kernel)]
          · rw [if_neg c] at hi
            exact hi
    · intro _ hi
      have : xpra A.1 xprl = -2 := hi
      rw [e_X11_prime_2, if_pos (by decide +kernel), this]
end PR
