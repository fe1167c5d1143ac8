-- deps: 07.run
/-! what a run gives, without a number of steps -/
theorem xev_up {P : Nat → Nat} : ∀ (n k m pc : Nat) (lv : xL) (st : List Value) (S : xS) (r : Option Value × xS), xev P n m pc lv st S = some r → n ≤ k → xev P k m pc lv st S = some r := by
  intro n
  induction n with
  | zero => intro k m pc lv st S r h; cases h
  | succ n ih =>
    intro k m pc lv st S r h hk
    obtain ⟨k, rfl⟩ : ∃ k', k = k' + 1 := ⟨k - 1, by omega⟩
    unfold xev at h ⊢
    split at h
    · cases h
    · rename_i q hq
      exact h
    · rename_i pc' lv' st' S' hq
      exact ih k _ _ _ _ _ _ h (by omega)
    · rename_i m' a S' pc' lv' st' hq
      split at h
      · rename_i v2 S2 h3
        rw [ih k _ _ _ _ _ _ h3 (by omega)]
        exact ih k _ _ _ _ _ _ h (by omega)
      · cases h
noncomputable def xrun (P : Nat → Nat) (m pc : Nat) (lv : xL) (st : List Value) (S : xS) : xR := @dite _ (∃ r n, xev P n m pc lv st S = some r) (Classical.propDecidable _) (fun h => some (Classical.choose h)) (fun _ => none)
theorem xrun_of {P : Nat → Nat} {n m pc : Nat} {lv : xL} {st : List Value} {S : xS} {r : Option Value × xS} (h : xev P n m pc lv st S = some r) : xrun P m pc lv st S = some r := by
  have hx : ∃ r n, xev P n m pc lv st S = some r := ⟨r, n, h⟩
  unfold xrun
  rw [dif_pos hx]
  obtain ⟨k, hk⟩ := Classical.choose_spec hx
  have h1 := xev_up _ (max n k) _ _ _ _ _ _ h (Nat.le_max_left _ _)
  have h2 := xev_up _ (max n k) _ _ _ _ _ _ hk (Nat.le_max_right _ _)
  rw [h1] at h2
  exact h2.symm
theorem xrun_ex {P : Nat → Nat} {m pc : Nat} {lv : xL} {st : List Value} {S : xS} {r : Option Value × xS} (h : xrun P m pc lv st S = some r) : ∃ n, xev P n m pc lv st S = some r := by
  unfold xrun at h
  split at h
  · rename_i hx
    cases h
    exact Classical.choose_spec hx
  · cases h

noncomputable def xcall (P : Nat → Nat) (m : Nat) (a : List Value) (S : xS) : xR := xrun P m 0 (lv_args 0 a) [] S
noncomputable def xcI (P : Nat → Nat) (m : Nat) (a : List Value) (S : xS) : Option (Int32 × xS) := match xcall P m a S with | some (some (.int v), S1) => some (v, S1) | _ => none
noncomputable def xcJ (P : Nat → Nat) (m : Nat) (a : List Value) (S : xS) : Option (Int64 × xS) := match xcall P m a S with | some (some (.long v), S1) => some (v, S1) | _ => none
noncomputable def xcR (P : Nat → Nat) (m : Nat) (a : List Value) (S : xS) : Option (Nat × xS) := match xcall P m a S with | some (some (.ref v), S1) => some (v, S1) | _ => none
noncomputable def xcV (P : Nat → Nat) (m : Nat) (a : List Value) (S : xS) : Option xS := match xcall P m a S with | some (none, S1) => some S1 | _ => none
/-- behind a call: the answer's kind is the method's -/
noncomputable def xcont (P : Nat → Nat) (k : Nat → xL → List Value → xS → xR) (m' : Nat) (a : List Value) (S : xS) (pc : Nat) (l : xL) (rest : List Value) : xR := match xrt m' with
  | none => xob (xcV P m' a S) none fun S1 => k pc l rest S1
  | some .long => xob (xcJ P m' a S) none fun q => k pc l (.long q.1 :: rest) q.2
  | some (.object _) => xob (xcR P m' a S) none fun q => k pc l (.ref q.1 :: rest) q.2
  | some _ => xob (xcI P m' a S) none fun q => k pc l (.int q.1 :: rest) q.2
theorem xpar {ρ : Type} (bad : ρ) (ret : Option Value → xS → ρ) (jmp : Nat → xL → List Value → xS → ρ) (cal : Nat → List Value → xS → Nat → xL → List Value → ρ) (P : Nat → Nat) (m pc : Nat) (i : Instr) (x : xX) (l : xL) (st : List Value) (S : xS) :
    xst bad ret jmp cal P m pc i x l st S = (match xst none xrN xjN xcN P m pc i x l st S with
      | none => bad
      | some (.inl (v, S)) => ret v S
      | some (.inr (.inl (pc, l, st, S))) => jmp pc l st S
      | some (.inr (.inr (m, a, S, pc, l, st))) => cal m a S pc l st) := by
  cases i <;> first
    | rfl
    | (simp only [xst, xob, xldR, xldI, xldJ, xsI, xsR, xsJ, xoI1, xoJ1, xoI2, xoJ2, xoJI, xodiv, xoldiv, xodup, xodup2, xopop, xoinc, xogf, xopf, xoal, xoaI, xoaJ, xoaR, xoasI, xoasJ, xoasR, xoret, xolret, xoaret, xovret, xoV, xoS, xoI, xonwa, xosw, Bool.cond_eq_ite] <;> (repeat' split) <;> first | rfl | simp_all)
    | (rename_i cnd _; cases cnd <;> simp only [xst, xob1, xob2] <;> (repeat' split) <;> first | rfl | simp_all)
/-- the answer's kind -/
def xkind (rt : Option FieldType) (v : Option Value) : Prop := match rt with
  | none => v = none
  | some .long => ∃ w, v = some (.long w)
  | some (.object _) => ∃ w, v = some (.ref w)
  | some _ => ∃ w, v = some (.int w)
theorem xev_kind {P : Nat → Nat} : ∀ (n m pc : Nat) (lv : xL) (st : List Value) (S : xS) (r : Option Value × xS), xev P n m pc lv st S = some r → xkind (xrt m) r.1 := by
  intro n
  induction n with
  | zero => intro m pc lv st S r h; cases h
  | succ n ih =>
    intro m pc lv st S r h
    unfold xev at h
    split at h
    · cases h
    · rename_i q hq
      cases h
      obtain ⟨v, S1⟩ := r
      obtain ⟨i, x, -, h2⟩ := xnx_of hq
      rcases xret_of h2 with ⟨-, w, -, rfl, hrt⟩ | ⟨-, w, -, rfl, hrt⟩ | ⟨-, w, C, -, rfl, hrt⟩ | ⟨-, -, rfl, hrt⟩
      · rcases hrt with hrt | ⟨hrt, -⟩ <;> rw [hrt] <;> exact ⟨w, rfl⟩
      · rw [hrt]; exact ⟨w, rfl⟩
      · rw [hrt]; exact ⟨w, rfl⟩
      · rw [hrt]; rfl
    · exact ih _ _ _ _ _ _ h
    · split at h
      · exact ih _ _ _ _ _ _ h
      · cases h
theorem xcont_eq {P : Nat → Nat} {k : Nat → xL → List Value → xS → xR} {m' : Nat} {a : List Value} {S : xS} {pc : Nat} {l : xL} {rest : List Value} : xcont P k m' a S pc l rest = (match xcall P m' a S with | some q => k pc l (q.1.toList ++ rest) q.2 | none => none) := by
  unfold xcont
  cases hc : xcall P m' a S with
  | none =>
    split <;> simp [xob, xcV, xcJ, xcR, xcI, hc]
  | some q =>
    obtain ⟨n, hn⟩ := xrun_ex hc
    have hk := xev_kind _ _ _ _ _ _ _ hn
    obtain ⟨v, S1⟩ := q
    unfold xkind at hk
    split at hk
    · dsimp only at hk; subst hk; simp [xob, xcV, hc]
    · obtain ⟨w, hw⟩ := hk; dsimp only at hw; subst hw; simp [xob, xcJ, hc]
    · obtain ⟨w, hw⟩ := hk; dsimp only at hw; subst hw; simp [xob, xcR, hc]
    · obtain ⟨w, hw⟩ := hk; dsimp only at hw; subst hw
      simp [xob, xcI, hc]
noncomputable def xJm (P : Nat → Nat) (m : Nat) : Nat → xL → List Value → xS → xR := fun pc l st S => xrun P m pc (xnorm m pc l) st S
theorem xrun_eq {P : Nat → Nat} {m pc : Nat} {i : Instr} {x : xX} (hi : xin m pc = some (i, x)) (l : xL) (st : List Value) (S : xS) :
    xrun P m pc l st S = xst none (fun v S => some (v, S)) (xJm P m) (xcont P (xJm P m)) P m pc i x l st S := by
  rw [xpar]
  have hx : xnx P m pc l st S = xst none xrN xjN xcN P m pc i x l st S := by unfold xnx; rw [hi]
  rw [← hx]
  apply Option.ext
  intro r
  constructor
  · intro h
    obtain ⟨n, hn⟩ := xrun_ex h
    cases n with
    | zero => cases hn
    | succ n =>
      unfold xev at hn
      split at hn
      · cases hn
      · rename_i q hq; rw [hq]; exact hn
      · rename_i pc' lv' st' S' hq; rw [hq]; exact xrun_of hn
      · rename_i m' a S' pc' lv' st' hq
        rw [hq]
        dsimp only
        split at hn
        · rename_i v2 S2 h3
          have hc : xcall P m' a S' = some (v2, S2) := xrun_of h3
          rw [xcont_eq, hc]
          exact xrun_of hn
        · cases hn
  · intro h
    split at h
    · cases h
    · rename_i v S' hq
      exact xrun_of (n := 1) (by unfold xev; rw [hq]; exact h)
    · rename_i pc' lv' st' S' hq
      obtain ⟨n, hn⟩ := xrun_ex h
      exact xrun_of (n := n + 1) (by unfold xev; rw [hq]; exact hn)
    · rename_i m' a S' pc' lv' st' hq
      rw [xcont_eq] at h
      split at h
      · rename_i q hc
        obtain ⟨n1, h1⟩ := xrun_ex hc
        obtain ⟨n2, h2⟩ := xrun_ex h
        have g1 := xev_up _ (max n1 n2) _ _ _ _ _ _ h1 (Nat.le_max_left _ _)
        have g2 := xev_up _ (max n1 n2) _ _ _ _ _ _ h2 (Nat.le_max_right _ _)
        exact xrun_of (n := max n1 n2 + 1) (by unfold xev; rw [hq]; dsimp only; rw [g1]; exact g2)
      · cases h
/-- so many instructions, up to the next labels -/
noncomputable def xgo (P : Nat → Nat) (m : Nat) : Nat → Nat → xL → List Value → xS → xR
  | 0, pc, l, st, S => xrun P m pc l st S
  | k + 1, pc, l, st, S => match xin m pc with
    | some (i, x) => xst none (fun v S => some (v, S)) (fun pc l st S => match xlv m pc with | some ks => xrun P m pc (ks.filterMap (fun k => (xget l k).map (fun v => (k, v)))) st S | none => xgo P m k pc l st S) (xcont P (fun pc l st S => match xlv m pc with | some ks => xrun P m pc (ks.filterMap (fun k => (xget l k).map (fun v => (k, v)))) st S | none => xgo P m k pc l st S)) P m pc i x l st S
    | none => none
theorem xrun_none {P : Nat → Nat} {m pc : Nat} (hi : xin m pc = none) (l : xL) (st : List Value) (S : xS) : xrun P m pc l st S = none := by
  cases h : xrun P m pc l st S with
  | none => rfl
  | some r =>
    obtain ⟨n, hn⟩ := xrun_ex h
    cases n with
    | zero => cases hn
    | succ n => unfold xev xnx at hn; rw [hi] at hn; cases hn
theorem xgo_eq (P : Nat → Nat) (m : Nat) : ∀ (k pc : Nat) (l : xL) (st : List Value) (S : xS), xrun P m pc l st S = xgo P m k pc l st S := by
  intro k
  induction k with
  | zero => intro pc l st S; rfl
  | succ k ih =>
    intro pc l st S
    unfold xgo
    split
    · rename_i i x hi
      rw [xrun_eq hi]
      have e : xJm P m = (fun pc l st S => match xlv m pc with | some ks => xrun P m pc (ks.filterMap (fun k => (xget l k).map (fun v => (k, v)))) st S | none => xgo P m k pc l st S) := by
        funext pc l st S
        unfold xJm xnorm
        split
        · rename_i ks hks; rw [hks]
        · rename_i hks; rw [hks]; exact ih pc l st S
      rw [e]
    · rename_i hi
      exact xrun_none hi l st S
