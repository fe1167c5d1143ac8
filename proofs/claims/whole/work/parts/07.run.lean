/-! a run of the abstract machine is a run of the machine -/
def xge (S : xS) (r : (Option Value × xS) ⊕ (Nat × xL × List Value × xS) ⊕ (Nat × List Value × xS × Nat × xL × List Value)) : Prop := match r with
  | .inl q => q.2 = S
  | .inr (.inl q) => S.2.1 ≤ q.2.2.2.2.1 ∧ S.2.2 ≤ q.2.2.2.2.2
  | .inr (.inr q) => q.2.2.1 = S
theorem xge_V {P : Nat → Nat} {m pc k : Nat} {x : xX} {lv : xL} {st : List Value} {S : xS} {r : (Option Value × xS) ⊕ (Nat × xL × List Value × xS) ⊕ (Nat × List Value × xS × Nat × xL × List Value)} (h : xst none xrN xjN xcN P m pc (.invokevirtual k) x lv st S = some r) : xge S r := by
  have z : S.2.1 ≤ S.2.1 ∧ S.2.2 ≤ S.2.2 := ⟨Nat.le_refl _, Nat.le_refl _⟩
  simp only [xst] at h
  unfold xoV xob at h
  cases h1 : Nat.beq x.1 1000 with
  | true =>
    rw [h1] at h
    dsimp only [cond_true] at h
    split at h
    · split at h
      · obtain ⟨-, h⟩ := xi_bif h; cases h; exact z
      · cases h
    · cases h
  | false =>
    rw [h1] at h
    dsimp only [cond_false] at h
    cases h2 : Nat.beq x.1 1001 with
    | true =>
      rw [h2] at h
      dsimp only [cond_true] at h
      split at h
      · split at h
        · obtain ⟨-, h⟩ := xi_bif h; cases h; exact z
        · cases h
      · cases h
    | false =>
      rw [h2] at h
      dsimp only [cond_false] at h
      split at h
      · obtain ⟨-, h⟩ := xi_bif h; obtain ⟨-, h⟩ := xi_bif h; cases h; rfl
      · cases h
theorem xnr_V {P : Nat → Nat} {m pc k : Nat} {x : xX} {lv : xL} {st : List Value} {S : xS} {q : Option Value × xS} : ¬ xst none xrN xjN xcN P m pc (.invokevirtual k) x lv st S = some (.inl q) := by
  intro h
  simp only [xst] at h
  unfold xoV xob at h
  cases h1 : Nat.beq x.1 1000 with
  | true =>
    rw [h1] at h
    dsimp only [cond_true] at h
    split at h
    · split at h
      · obtain ⟨-, h⟩ := xi_bif h; cases h
      · cases h
    · cases h
  | false =>
    rw [h1] at h
    dsimp only [cond_false] at h
    cases h2 : Nat.beq x.1 1001 with
    | true =>
      rw [h2] at h
      dsimp only [cond_true] at h
      split at h
      · split at h
        · obtain ⟨-, h⟩ := xi_bif h; cases h
        · cases h
      · cases h
    | false =>
      rw [h2] at h
      dsimp only [cond_false] at h
      split at h
      · obtain ⟨-, h⟩ := xi_bif h; obtain ⟨-, h⟩ := xi_bif h; cases h
      · cases h
theorem xi_if1 {P : Nat → Nat} {m pc : Nat} {cnd : Jvm.ClassFile.Cond} {off : Int} {x : xX} {lv : xL} {st : List Value} {S : xS} {r : (Option Value × xS) ⊕ (Nat × xL × List Value × xS) ⊕ (Nat × List Value × xS × Nat × xL × List Value)} (h : xst none xrN xjN xcN P m pc (.ifCond cnd off) x lv st S = some r) : ∃ t q, r = .inr (.inl (t, lv, q, S)) := by
  simp only [xst] at h
  split at h
  · cases cnd <;> simp only [xob1] at h <;> split at h <;> cases h <;> exact ⟨_, _, rfl⟩
  · cases h
theorem xi_if2 {P : Nat → Nat} {m pc : Nat} {cnd : Jvm.ClassFile.Cond} {off : Int} {x : xX} {lv : xL} {st : List Value} {S : xS} {r : (Option Value × xS) ⊕ (Nat × xL × List Value × xS) ⊕ (Nat × List Value × xS × Nat × xL × List Value)} (h : xst none xrN xjN xcN P m pc (.if_icmp cnd off) x lv st S = some r) : ∃ t q, r = .inr (.inl (t, lv, q, S)) := by
  simp only [xst] at h
  split at h
  · cases cnd <;> simp only [xob2] at h <;> split at h <;> cases h <;> exact ⟨_, _, rfl⟩
  · cases h
theorem xge_step {P : Nat → Nat} {m pc : Nat} {i : Instr} {x : xX} {lv : xL} {st : List Value} {S : xS} {r : (Option Value × xS) ⊕ (Nat × xL × List Value × xS) ⊕ (Nat × List Value × xS × Nat × xL × List Value)} (h : xst none xrN xjN xcN P m pc i x lv st S = some r) : xge S r := by
  have z : S.2.1 ≤ S.2.1 ∧ S.2.2 ≤ S.2.2 := ⟨Nat.le_refl _, Nat.le_refl _⟩
  cases i <;> first
    | (cases h; done)
    | (cases h; exact z)
    | (cases h; exact ⟨Nat.le_succ _, Nat.le_add_right _ _⟩)
    | (obtain ⟨v, hv, rfl⟩ := xi_ldR h; exact z)
    | (obtain ⟨v, hv, rfl⟩ := xi_ldI h; exact z)
    | (obtain ⟨v, hv, rfl⟩ := xi_ldJ h; exact z)
    | (obtain ⟨v, q, rfl, hn, rfl⟩ := xi_sR h; exact z)
    | (obtain ⟨v, q, rfl, hn, rfl⟩ := xi_sI h; exact z)
    | (obtain ⟨v, q, rfl, hn, rfl⟩ := xi_sJ h; exact z)
    | (obtain ⟨v, w, q, rfl, rfl⟩ := xi_I2 h; exact z)
    | (obtain ⟨v, w, q, rfl, rfl⟩ := xi_J2 h; exact z)
    | (obtain ⟨v, w, q, rfl, rfl⟩ := xi_JI h; exact z)
    | (obtain ⟨v, q, rfl, rfl⟩ := xi_I1 h; exact z)
    | (obtain ⟨v, q, rfl, rfl⟩ := xi_J1 h; exact z)
    | (obtain ⟨v, w, q, rfl, h0, rfl⟩ := xi_div h; exact z)
    | (obtain ⟨v, w, q, rfl, h0, rfl⟩ := xi_ldiv h; exact z)
    | (obtain ⟨v, q, rfl, hc, rfl⟩ := xi_dup h; exact z)
    | (obtain ⟨v, w, q, rfl, hc, hc2, rfl⟩ := xi_dup2 h; exact z)
    | (obtain ⟨v, q, rfl, hc, rfl⟩ := xi_pop h; exact z)
    | (obtain ⟨v, hv, hn, rfl⟩ := xi_inc h; exact z)
    | (obtain ⟨a, q, v, rfl, hv, rfl⟩ := xi_gf h; exact z)
    | (obtain ⟨a, q, v, fs, rfl, hfs, hlen, hfit, rfl⟩ := xi_pf h; exact z)
    | (obtain ⟨a, q, k, n, y, rfl, ha, h5, rfl⟩ := xi_al h; exact z)
    | (obtain ⟨a, q, i, v, rfl, hv, rfl⟩ := xi_aI h; exact z)
    | (obtain ⟨a, q, i, n, f, rfl, ha, hi, rfl⟩ := xi_aJ h; exact z)
    | (obtain ⟨a, q, i, n, f, b, rfl, ha, hi, hfb, rfl⟩ := xi_aR h; exact z)
    | (obtain ⟨a, q, i, v, S1, rfl, hv, rfl⟩ := xi_asI h; first | (obtain ⟨n, f, ha, hi, rfl⟩ := xi_wrI hv; exact z) | (obtain ⟨n, f, hc⟩ := xi_wrB hv; rcases hc with ⟨ha, hi, rfl⟩ | ⟨ha, hi, rfl⟩ <;> exact z))
    | (obtain ⟨a, q, i, v, n, f, rfl, ha, hi, rfl⟩ := xi_asJ h; exact z)
    | (obtain ⟨a, q, i, v, n, f, fs, rfl, hv, ha, hi, rfl⟩ := xi_asR h; exact z)
    | (obtain ⟨n, q, rfl, hn, hlt, rfl⟩ := xi_nwa h; exact ⟨Nat.le_succ _, Nat.le_add_right _ _⟩)
    | (obtain ⟨v, q, tgt, rfl, rfl, hc⟩ := xi_sw h; exact z)
    | (obtain ⟨as, q, hp, hq8, hmx, rfl⟩ := xi_S h; rfl)
    | (rcases xi_I h with ⟨h2, a, q, rfl, hq8, rfl⟩ | ⟨h2, as, b, q, hp, hq8, hmx, rfl⟩; exact z; rfl)
    | (simp only [xst] at h; unfold xoret at h; split at h
       · split at h
         · cases h; rfl
         · obtain ⟨-, h⟩ := xi_bif h; cases h; rfl
         · cases h
       · cases h)
    | (simp only [xst] at h; unfold xolret at h; split at h
       · split at h
         · cases h; rfl
         · cases h
       · cases h)
    | (simp only [xst] at h; unfold xoaret at h; split at h
       · split at h
         · cases h; rfl
         · cases h
       · cases h)
    | (simp only [xst] at h; unfold xovret at h; split at h
       · split at h
         · cases h; rfl
         · cases h
       · cases h)
    | (simp only [xst] at h; split at h
       · rename_i cnd _ _ _; cases cnd <;> simp only [xob1] at h <;> split at h <;> cases h <;> exact z
       · cases h)
    | (simp only [xst] at h; split at h
       · rename_i cnd _ _ _ _; cases cnd <;> simp only [xob2] at h <;> split at h <;> cases h <;> exact z
       · cases h)
    | (obtain ⟨t, q, rfl⟩ := xi_if1 h; exact z)
    | (obtain ⟨t, q, rfl⟩ := xi_if2 h; exact z)
    | (exact xge_V h)

theorem xnx_of {P : Nat → Nat} {m pc : Nat} {lv : xL} {st : List Value} {S : xS} {r : (Option Value × xS) ⊕ (Nat × xL × List Value × xS) ⊕ (Nat × List Value × xS × Nat × xL × List Value)} (h : xnx P m pc lv st S = some r) : ∃ i x, xin m pc = some (i, x) ∧ xst none xrN xjN xcN P m pc i x lv st S = some r := by
  unfold xnx at h
  split at h
  · rename_i i x hi; exact ⟨i, x, hi, h⟩
  · cases h
theorem xev_mono {P : Nat → Nat} : ∀ (n m pc : Nat) (lv : xL) (st : List Value) (S : xS) (v : Option Value) (S1 : xS), xev P n m pc lv st S = some (v, S1) → S.2.1 ≤ S1.2.1 ∧ S.2.2 ≤ S1.2.2 := by
  intro n
  induction n with
  | zero => intro m pc lv st S v S1 h; cases h
  | succ n ih =>
    intro m pc lv st S v S1 h
    unfold xev at h
    split at h
    · cases h
    · rename_i r hr
      cases h
      obtain ⟨i, x, -, h2⟩ := xnx_of hr
      have := xge_step h2
      have e : S1 = S := this
      rw [e]
      exact ⟨Nat.le_refl _, Nat.le_refl _⟩
    · rename_i pc' lv' st' S' hr
      obtain ⟨i, x, -, h2⟩ := xnx_of hr
      have g : S.2.1 ≤ S'.2.1 ∧ S.2.2 ≤ S'.2.2 := xge_step h2
      have g2 := ih _ _ _ _ _ _ _ h
      exact ⟨Nat.le_trans g.1 g2.1, Nat.le_trans g.2 g2.2⟩
    · rename_i m' a S' pc' lv' st' hr
      obtain ⟨i, x, -, h2⟩ := xnx_of hr
      have e : S' = S := xge_step h2
      subst e
      split at h
      · rename_i v2 S2 h3
        have g1 := ih _ _ _ _ _ _ _ h3
        have g2 := ih _ _ _ _ _ _ _ h
        exact ⟨Nat.le_trans g1.1 g2.1, Nat.le_trans g1.2 g2.2⟩
      · cases h
theorem xnorm_has {ls : Array Slot} {nL m pc : Nat} {l : xL} (h : lv_has ls nL l) : lv_has ls nL (xnorm m pc l) := by
  unfold xnorm
  split
  · rename_i ks _
    refine ⟨h.1, h.2.1, fun q hq => ?_⟩
    obtain ⟨k, -, hk⟩ := List.mem_filterMap.mp hq
    cases hv : xget l k with
    | none => rw [hv] at hk; cases hk
    | some v => rw [hv] at hk; cases hk; exact xget_at h hv
  · exact h
def xMetN (l : Launch) (D : va_G) (CA : Nat → ClassId) (z0 : Nat) (P : Nat → Nat) (n : Nat) : Prop := ∀ (m : Nat) (a : List Value) (S : xS) (v : Option Value) (S1 : xS), xev P n m 0 (lv_args 0 a) [] S = some (v, S1) → m < 332 → xcs a ≤ xml m → xMet l D CA z0 P m a S v S1
def xWalk (l : Launch) (D : va_G) (CA : Nat → ClassId) (z0 : Nat) (P : Nat → Nat) (n : Nat) : Prop := ∀ (p : Program) (e : Env) (R : Room) (s : State) (m : MethodId) (args : Array Value) (below : List Frame) (meth : Method) (c : Code) (Q : State → Prop) (mm s0 : Nat), xFx p s m args meth c R D CA z0 P mm → ∀ (v : Option Value) (S1 : xS), S1.2.1 ≤ s.heap.size + R.cells → S1.2.2 ≤ s0 + R.slots →
  (∀ (pc : Nat) (lv : xL) (st : List Value) (S : xS) (ls : Array Slot) (H : Heap) (locs : List Loc) (cells slots : Nat), xnx P mm pc lv st S = some (.inl (v, S1)) → lv_has ls (xml mm) lv → xWd D CA z0 s0 s H locs cells slots S → W p l e R s m args below meth c H locs cells slots Q (F0 m pc ls st)) →
  ∀ (pc : Nat) (lv : xL) (st : List Value) (S : xS), xev P n mm pc lv st S = some (v, S1) → ∀ (ls : Array Slot) (H : Heap) (locs : List Loc) (cells slots : Nat), lv_has ls (xml mm) lv → xWd D CA z0 s0 s H locs cells slots S → W p l e R s m args below meth c H locs cells slots Q (F0 m pc ls st)
theorem xWalk_succ {l : Launch} {D : va_G} {CA : Nat → ClassId} {z0 : Nat} {P : Nat → Nat} {n : Nat} (hw : xWalk l D CA z0 P n) (hm : xMetN l D CA z0 P n) : xWalk l D CA z0 P (n + 1) := by
  intro p e R s m args below meth c Q mm s0 F v S1 hb1 hb2 hret pc lv st S h ls H locs cells slots hl hW
  have h0 := h
  unfold xev at h
  split at h
  · cases h
  · rename_i r hr
    cases h
    exact hret pc lv st S ls H locs cells slots hr hl hW
  · rename_i pc' lv' st' S' hr
    obtain ⟨i, x, h1, h2⟩ := xnx_of hr
    have g := xev_mono _ _ _ _ _ _ _ _ h
    exact xt_step F h1 h2 hl hW ⟨Nat.le_trans g.1 hb1, Nat.le_trans g.2 hb2, fun ls H locs cells slots hl hW => hw p e R s m args below meth c Q mm s0 F v S1 hb1 hb2 hret pc' (xnorm mm pc' lv') st' S' h ls H locs cells slots (xnorm_has hl) hW⟩
  · rename_i m' a S' pc' lv' st' hr
    obtain ⟨i, x, h1, h2⟩ := xnx_of hr
    split at h
    · rename_i v2 S2 h3
      have g := xev_mono _ _ _ _ _ _ _ _ h3
      have g2 := xev_mono _ _ _ _ _ _ _ _ h
      exact xt_step F h1 h2 hl hW ⟨v2, S2, fun q1 q2 => hm m' a S' v2 S2 h3 q1 q2, g.1, g.2, Nat.le_trans g2.1 hb1, Nat.le_trans g2.2 hb2, fun ls H locs cells slots hl hW => hw p e R s m args below meth c Q mm s0 F v S1 hb1 hb2 hret pc' (xnorm mm pc' lv') (v2.toList ++ st') S2 h ls H locs cells slots (xnorm_has hl) hW⟩
    · cases h
/-- which instruction ends a method, and with what -/
theorem xret_of {P : Nat → Nat} {m pc : Nat} {i : Instr} {x : xX} {lv : xL} {st : List Value} {S S1 : xS} {v : Option Value} (h : xst none xrN xjN xcN P m pc i x lv st S = some (.inl (v, S1))) :
    (i = .ireturn ∧ ∃ w, st = [.int w] ∧ v = some (.int w) ∧ (xrt m = some .int ∨ (xrt m = some .boolean ∧ (w = 0 ∨ w = 1)))) ∨ (i = .lreturn ∧ ∃ w, st = [.long w] ∧ v = some (.long w) ∧ xrt m = some .long) ∨ (i = .areturn ∧ ∃ w C, st = [.ref w] ∧ v = some (.ref w) ∧ xrt m = some (.object C)) ∨ (i = .return_ ∧ st = [] ∧ v = none ∧ xrt m = none) := by
  cases i <;> first
    | (cases h; done)
    | (obtain ⟨v, hv, hr⟩ := xi_ldR h; cases hr; done)
    | (obtain ⟨v, hv, hr⟩ := xi_ldI h; cases hr; done)
    | (obtain ⟨v, hv, hr⟩ := xi_ldJ h; cases hr; done)
    | (obtain ⟨v, q, _, hn, hr⟩ := xi_sR h; cases hr; done)
    | (obtain ⟨v, q, _, hn, hr⟩ := xi_sI h; cases hr; done)
    | (obtain ⟨v, q, _, hn, hr⟩ := xi_sJ h; cases hr; done)
    | (obtain ⟨v, w, q, _, hr⟩ := xi_I2 h; cases hr; done)
    | (obtain ⟨v, w, q, _, hr⟩ := xi_J2 h; cases hr; done)
    | (obtain ⟨v, w, q, _, hr⟩ := xi_JI h; cases hr; done)
    | (obtain ⟨v, q, _, hr⟩ := xi_I1 h; cases hr; done)
    | (obtain ⟨v, q, _, hr⟩ := xi_J1 h; cases hr; done)
    | (obtain ⟨v, w, q, _, h0, hr⟩ := xi_div h; cases hr; done)
    | (obtain ⟨v, w, q, _, h0, hr⟩ := xi_ldiv h; cases hr; done)
    | (obtain ⟨v, q, _, hc, hr⟩ := xi_dup h; cases hr; done)
    | (obtain ⟨v, w, q, _, hc, hc2, hr⟩ := xi_dup2 h; cases hr; done)
    | (obtain ⟨v, q, _, hc, hr⟩ := xi_pop h; cases hr; done)
    | (obtain ⟨v, hv, hn, hr⟩ := xi_inc h; cases hr; done)
    | (obtain ⟨a, q, v, _, hv, hr⟩ := xi_gf h; cases hr; done)
    | (obtain ⟨a, q, v, fs, _, hfs, hlen, hfit, hr⟩ := xi_pf h; cases hr; done)
    | (obtain ⟨a, q, k, n, y, _, ha, h5, hr⟩ := xi_al h; cases hr; done)
    | (obtain ⟨a, q, i, v, _, hv, hr⟩ := xi_aI h; cases hr; done)
    | (obtain ⟨a, q, i, n, f, _, ha, hi, hr⟩ := xi_aJ h; cases hr; done)
    | (obtain ⟨a, q, i, n, f, b, _, ha, hi, hfb, hr⟩ := xi_aR h; cases hr; done)
    | (obtain ⟨a, q, i, v, S1, _, hv, hr⟩ := xi_asI h; cases hr; done)
    | (obtain ⟨a, q, i, v, n, f, _, ha, hi, hr⟩ := xi_asJ h; cases hr; done)
    | (obtain ⟨a, q, i, v, n, f, fs, _, hv, ha, hi, hr⟩ := xi_asR h; cases hr; done)
    | (obtain ⟨n, q, _, hn, hlt, hr⟩ := xi_nwa h; cases hr; done)
    | (obtain ⟨v, q, tgt, _, hr, hc⟩ := xi_sw h; cases hr; done)
    | (obtain ⟨as, q, hp, hq8, hmx, hr⟩ := xi_S h; cases hr; done)
    | (rcases xi_I h with ⟨h2, a, q, _, hq8, hr⟩ | ⟨h2, as, b, q, hp, hq8, hmx, hr⟩ <;> (cases hr; done))
    | (refine Or.inl ⟨rfl, ?_⟩; simp only [xst] at h; unfold xoret at h; split at h
       · split at h
         · rename_i hrt; cases h; exact ⟨_, rfl, rfl, Or.inl hrt⟩
         · rename_i hrt; obtain ⟨hb, h⟩ := xi_bif h; cases h; exact ⟨_, rfl, rfl, Or.inr ⟨hrt, by simpa using hb⟩⟩
         · cases h
       · cases h)
    | (refine Or.inr (Or.inl ⟨rfl, ?_⟩); simp only [xst] at h; unfold xolret at h; split at h
       · split at h
         · rename_i hrt; cases h; exact ⟨_, rfl, rfl, hrt⟩
         · cases h
       · cases h)
    | (refine Or.inr (Or.inr (Or.inl ⟨rfl, ?_⟩)); simp only [xst] at h; unfold xoaret at h; split at h
       · split at h
         · rename_i hrt; cases h; exact ⟨_, _, rfl, rfl, hrt⟩
         · cases h
       · cases h)
    | (refine Or.inr (Or.inr (Or.inr ⟨rfl, ?_⟩)); simp only [xst] at h; unfold xovret at h; split at h
       · split at h
         · rename_i hrt; cases h; exact ⟨rfl, rfl, hrt⟩
         · cases h
       · cases h)
    | (exfalso; simp only [xst] at h; split at h
       · rename_i cnd _ _ _; cases cnd <;> simp only [xob1] at h <;> split at h <;> cases h
       · cases h)
    | (exfalso; simp only [xst] at h; split at h
       · rename_i cnd _ _ _ _; cases cnd <;> simp only [xob2] at h <;> split at h <;> cases h
       · cases h)
    | (obtain ⟨t, q, hr⟩ := xi_if1 h; cases hr; done)
    | (obtain ⟨t, q, hr⟩ := xi_if2 h; cases hr; done)
    | (exact absurd h xnr_V)
theorem xMetN_of {l : Launch} {D : va_G} {CA : Nat → ClassId} {z0 : Nat} {P : Nat → Nat} {n : Nat} (hw : xWalk l D CA z0 P n) : xMetN l D CA z0 P n := by
  intro mm a S v S1 h hlt hcs
  have mono := xev_mono _ _ _ _ _ _ _ _ h
  obtain ⟨-, -, hplain, -⟩ := xm_facts hlt
  refine x_ofW (cc := xcd mm) (maxL := xml mm) (ret := xrt mm) hplain rfl ?_
  intro p e s m args below meth c s₁ B hml hv
  obtain ⟨rfl, hsz, hz0, hP, hE⟩ := hv
  have hts := atoms_spec (ws := xws mm) B.pre
  have hown : s.vm.findClass (xnm mm).cls = some m.cls := findClass_of_methodNamed B.named
  have hlocks := B.notSynchronized
  have hr := B.returns
  have hnm : meth.name = (xnm mm).name := (name_of_methodNamed B.named B.method).1
  have hl := lv_entry a (n := xml mm) (by rw [xcs_len]; exact hcs)
  rw [lg_entry_eq]
  have F : xFx p s m a.toArray meth c (headSpec (xws mm) { frames := xrk mm, cells := S1.2.1 - S.2.1, slots := S1.2.2 - S.2.2, locals := xlr mm }).room D CA z0 P mm := ⟨B.exec, B.bytes, hml, hown, fun w h => hts w (List.mem_cons_of_mem _ h), hnm, hE, by omega, Nat.le_refl _, Nat.le_refl _⟩
  have hb := B.bytes
  have hx := B.exec
  refine hw p e _ s m a.toArray below meth c _ mm S.2.2 F v S1 ?_ ?_ ?_ 0 (lv_args 0 a) [] S h _ s.heap [] 0 0 hl ⟨hP, hsz, va_S.rf, by omega, rfl⟩
  · show S1.2.1 ≤ s.heap.size + (S1.2.1 - S.2.1); omega
  · show S1.2.2 ≤ S.2.2 + (S1.2.2 - S.2.2); omega
  · intro pc lv st S' ls H locs cells slots hn hl hW
    obtain ⟨i, x, h1, h2⟩ := xnx_of hn
    have e1 : S1 = S' := xge_step h2
    subst e1
    have hok := xiok_all mm pc
    simp only [xiok, h1, Bool.and_eq_true, decide_eq_true_eq] at hok
    obtain ⟨hd, -⟩ := hok
    obtain ⟨w1, w2, w3, w4, w5⟩ := hW
    have hc : cells = S1.2.1 - S.2.1 := by omega
    have hs : slots = S1.2.2 - S.2.2 := by omega
    subst hc; subst hs
    have hq : ∀ t : State, t.heap = H → s.WarmedH t.vm → (fun (_ : Array Value) st oc t => oc = Outcome.returned v ∧ t.heap.size = S1.2.1 ∧ xP D CA z0 S1.1 t t.heap ∧ va_F (xA z0) st t) a.toArray s (.returned v) t := by
      intro t ht hWt
      exact ⟨rfl, by rw [ht]; exact w2, by rw [ht]; exact w1.moved hWt.alike, w3.F ht⟩
    rcases xret_of h2 with ⟨rfl, w, rfl, rfl, hrt⟩ | ⟨rfl, w, rfl, rfl, hrt⟩ | ⟨rfl, w, C, rfl, rfl, hrt⟩ | ⟨rfl, rfl, rfl, hrt⟩
    · rcases hrt with hrt | ⟨hrt, h01⟩
      · exact W.iret hx hb (hr.trans hrt) hq w3.2.2 hd
      · exact W.zret hx hb (hr.trans hrt) (by rcases h01 with rfl | rfl <;> decide) hq w3.2.2 hd
    · exact W.lret hx hb (hr.trans hrt) hq w3.2.2 hd
    · exact W.aret hx hb (hr.trans hrt) (Or.inl ⟨_, rfl⟩) (Or.inr ⟨_, rfl⟩) hq w3.2.2 hd
    · exact W.vret hx hb (hr.trans hrt) hq w3.2.2 hd
/-- EVERY RUN OF THE ABSTRACT MACHINE IS A RUN OF THE MACHINE -/
theorem xall (l : Launch) (D : va_G) (CA : Nat → ClassId) (z0 : Nat) (P : Nat → Nat) (n : Nat) : xWalk l D CA z0 P n ∧ xMetN l D CA z0 P n := by
  induction n with
  | zero =>
    have h0 : xWalk l D CA z0 P 0 := by
      intro p e R s m args below meth c Q mm s0 F v S1 hb1 hb2 hret pc lv st S h
      cases h
    exact ⟨h0, xMetN_of h0⟩
  | succ n ih =>
    have h1 := xWalk_succ ih.1 ih.2
    exact ⟨h1, xMetN_of h1⟩
