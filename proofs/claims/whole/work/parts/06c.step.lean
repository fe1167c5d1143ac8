/-! a step of the abstract machine is a row of the kit's -/
theorem xone {D : va_G} {cl : List vw_C} {q : Nat × va_E} {H : Heap} (h : va_at D cl q H) : va_P D cl [q] H := by
  intro k r hk
  cases k with
  | zero => cases hk; exact h
  | succ k => simp at hk
section XT
variable {p : Program} {l : Launch} {e : Env} {R : Room} {s : State} {m : MethodId} {args : Array Value} {below : List Frame} {meth : Method} {c : Code} {Q : State → Prop} {D : va_G} {CA : Nat → ClassId} {z0 s0 mm pc : Nat} {P : Nat → Nat}
variable {H : Heap} {locs : List Loc} {cells slots : Nat} {ls : Array Slot} {S : xS} {rest : List Value}
theorem xt_get (F : xFx p s m args meth c R D CA z0 P mm) (hW : xWd D CA z0 s0 s H locs cells slots S) {k a : Nat} {x : xX} (hd : decode (xcd mm) pc = .ok (.getfield k, 3)) (hw : xwok mm pc (.getfield k) x = true) {v : Value} (hv : xfd S a x.1 x.2.1 = some v)
    (kk : W p l e R s m args below meth c H locs cells slots Q (F0 m (pc + 3) ls (v :: rest))) : W p l e R s m args below meth c H locs cells slots Q (F0 m pc ls (.ref a :: rest)) := by
  obtain ⟨hx, hb, hml, hown, hts, hnm, hE, hz0, hfr, hlr⟩ := F
  obtain ⟨fs, hfs, hfk⟩ := xfd_at hv
  unfold xwok at hw
  dsimp only at hw
  split at hw
  · rename_i C T N hcl
    simp only [Bool.and_eq_true, Nat.blt_eq] at hw
    exact va_get (D := D) (cl := vwCl) (T := T) (N := N) (C := C) (ci := x.1) hx hb hts (xu_in hcl) hown hE.1 (xone (hW.1 a _ hfs).2) 0 rfl hcl x.2.1 hw.1 (hts _ (xwd_in hw.2)) (fun _ h => h) hfk hd kk
  · cases hw
theorem xt_put (F : xFx p s m args meth c R D CA z0 P mm) (hW : xWd D CA z0 s0 s H locs cells slots S) {k a : Nat} {x : xX} (hd : decode (xcd mm) pc = .ok (.putfield k, 3)) (hw : xwok mm pc (.putfield k) x = true) {v : Value} {fs : List Value} (hfs : S.1 a = some (.inl (x.1, fs))) (hlen : x.2.1 < fs.length) (hfit : xfit x.2.2.2 v = true)
    (kk : ∀ (H1 : Heap) (locs1 : List Loc), xWd D CA z0 s0 s H1 locs1 cells slots (xpt S a (.inl (x.1, fs.set x.2.1 v))) → W p l e R s m args below meth c H1 locs1 cells slots Q (F0 m (pc + 3) ls rest)) : W p l e R s m args below meth c H locs cells slots Q (F0 m pc ls (v :: .ref a :: rest)) := by
  obtain ⟨hx, hb, hml, hown, hts, hnm, hE, hz0, hfr, hlr⟩ := F
  unfold xwok at hw
  dsimp only at hw
  split at hw
  · rename_i C T N hcl
    simp only [Bool.and_eq_true, Nat.blt_eq, decide_eq_true_eq, Bool.or_eq_true, Bool.not_eq_true'] at hw
    obtain ⟨⟨⟨hk, hwl⟩, htag⟩, hfin⟩ := hw
    obtain ⟨ty, hty, hnmd⟩ := xty_ok hcl
    have hlink := hts _ (xwd_in hwl)
    have hin := xu_in hcl
    have hK := hE.1
    have hap := va_apart (own := (xnm mm).cls) hts hin ty hty hnmd hK hcl
    obtain ⟨hza, hva⟩ := hW.1 a _ hfs
    obtain ⟨r, h1, cell, q1, q2, q3, q4⟩ := hva
    have hr : r = (C, T, N) := Option.some.inj (h1.symm.trans hcl)
    subst hr
    obtain ⟨hS, hfc, kC, hkC, hkind⟩ := hK.1 x.1 _ hcl
    obtain ⟨cf, kf, fi, f, hi, hsl⟩ := hS x.2.1 hk
    have hlay := hts _ (hin _ (u_in_lay hk))
    have htx : xtag (ty x.2.1) = x.2.2.2 := by
      rw [hty x.2.1 hk] at htag
      exact Option.some.inj htag
    rw [← htx] at hfit
    obtain ⟨hn, hft⟩ := xfit_ok hfit
    have hst := (u_facts hfc hkC (u_lays hts hin hk) hi).1
    have hdsc := hty x.2.1 hk
    have fin : ∀ (H' : Heap), H'[a]? = some (cell.setSlot f.slot v) → H'.size = H.size → (∀ q, q ≠ a → H'[q]? = H[q]?) → W p l e R s m args below meth c H' (locs ++ [⟨a, f.slot⟩]) cells slots Q (F0 m (pc + 3) ls rest) := by
      intro H' e1 e2 e3
      refine kk H' _ (hW.put hza ⟨hza, _, hcl, ?_⟩ e2 e3)
      rw [hsl] at e1
      exact t_OB.to (V := updV (vp_V fs) x.2.1 v) ⟨_, e1, q2, q3, t_set q4 hap hk v⟩ (fun j _ => vp_updV_set hlen v j)
    unfold u_lay at hlay
    by_cases hf : (T x.2.1).2.2.2 = true
    · rw [if_pos hf] at hlay
      obtain ⟨hni, hdecl⟩ := hfin.resolve_left (by rw [hf]; decide)
      have hcf : m.cls = cf := by
        obtain ⟨_, _, c', _, _, _, -, -, hf', -, -, -, hown2, -⟩ := Cond.laysFinal_spec hlay
        have e1 : c' = cf := by have := hi.symm.trans hf'; simp at this; exact this.1.symm
        rw [hdecl] at hown2
        rw [← e1]; exact Option.some.inj (hown.symm.trans hown2)
      have h6 := u_fits hfc hkC hkind (Or.inr hlay) hi hdsc hn hft
      exact W.putFinK hx hb hown hlink hi hst hcf (hnm.trans hni) (by rw [q2]; exact h6) q1 q3 (by rw [hsl]; exact k2_hasslot (q4 _ hk)) rfl rfl hd fin
    · rw [if_neg hf] at hlay
      have h6 := u_store hfc hkC hkind hlay hi hdsc hn hft
      exact W.putK hx hb (f := f) ⟨hown, hlink, ⟨_, _, _, hi⟩, hst⟩ (by rw [q2]; exact h6) q1 q3 (by rw [hsl]; exact k2_hasslot (q4 _ hk)) rfl rfl hd fin
  · cases hw
theorem xt_arr (hW : xWd D CA z0 s0 s H locs cells slots S) {a k : Nat} {y : vp_A} (h : S.1 a = some (.inr (k, y))) (hk : k < 5) : z0 ≤ a ∧ H[a]? = some (vp_cell (CA k) y) := by
  have h1 := hW.1 a _ h
  unfold xat at h1
  dsimp only at h1
  rw [if_pos hk] at h1
  exact h1
theorem xt_arr6 (hW : xWd D CA z0 s0 s H locs cells slots S) {a : Nat} {y : vp_A} (h : S.1 a = some (.inr (6, y))) : ∃ f, y.2 = .inl f ∧ va_T .int a y.1 (fun j => .int (f j)) (xA z0) s H := by
  have h1 := hW.1 a _ h
  unfold xat at h1
  dsimp only at h1
  rw [if_neg (by decide), if_pos rfl] at h1
  exact h1
theorem xt_store (hW : xWd D CA z0 s0 s H locs cells slots S) {a k i : Nat} {y y' : vp_A} (h : S.1 a = some (.inr (k, y))) (hk : k < 5) {H1 : Heap} (h1 : H1[a]? = some (vp_cell (CA k) y')) (z : H1.size = H.size) (o : ∀ q : Nat, q ≠ a → H1[q]? = H[q]?) : xWd D CA z0 s0 s H1 (locs ++ [⟨a, i⟩]) cells slots (xpt S a (.inr (k, y'))) := by
  have h2 := xt_arr hW h hk
  refine hW.put h2.1 ?_ z o
  unfold xat
  dsimp only
  rw [if_pos hk]
  exact ⟨h2.1, h1⟩
theorem xGood {m' : Nat} (h : m' < 332) : GoodIn xTW (xws m') := by
  intro w hw
  rcases List.mem_cons.mp hw with rfl | hw
  · have hmk := xmok_all m' h
    simp only [xmok, Bool.and_eq_true] at hmk
    have h1 := xwd_in hmk.1.1.1.1.1
    exact ⟨h1, xTW_good _ h1⟩
  · exact ⟨hw, xTW_good _ hw⟩
theorem xcok_of {x : xX} {k : Nat} (h : xcok mm x k = true) : x.1 < 332 ∧ x.2.1 = xna x.1 ∧ xstt x.1 = k ∧ xrk x.1 + 1 ≤ xrk mm ∧ 8 + (xml x.1 + 11) + xlr x.1 ≤ xlr mm := by
  simp only [xcok, Bool.and_eq_true, Nat.blt_eq, Nat.ble_eq] at h
  exact ⟨h.1.1.1.1, Nat.eq_of_beq_eq_true h.1.1.1.2, Nat.eq_of_beq_eq_true h.1.1.2, h.1.2, h.2⟩
/-- what the table says of a method -/
theorem xm_facts {m' : Nat} (h : m' < 332) : Jvm.Cond.initialized (xnm m').cls ∈ xTW ∧ ((xnm m').cls ≠ "java/lang/invoke/MethodHandle" ∧ (xnm m').cls ≠ "java/lang/invoke/VarHandle" ∧ (parseMethodDescriptor (xnm m').desc).map (fun d => d.parameters.length) = some (xna m')) ∧ plainFor (xnm m') = true ∧ (xstt m' = 1 → Jvm.Cond.static (xnm m') ∈ xTW) ∧
    (xstt m' = 0 → Jvm.Cond.instanceMethod (xnm m') ∈ xTW ∧ Jvm.Cond.selects (xnm m').cls (xnm m') (xnm m') ∈ xTW ∧ ∃ q, vwCl[xow m']? = some q ∧ (xnm m').cls = q.1) ∧
    (xstt m' = 3 → Jvm.Cond.instanceMethod (xnm m') ∈ xTW ∧ (xnm m').name = "<init>" ∧ xrt m' = none) := by
  have hmk := xmok_all m' h
  simp only [xmok, Bool.and_eq_true, decide_eq_true_eq] at hmk
  obtain ⟨⟨⟨⟨⟨h1, h2⟩, h3⟩, h4⟩, h5⟩, h6⟩ := hmk
  refine ⟨xwd_in h2, ⟨h4.1, h4.2, h5⟩, h3, fun e => ?_, fun e => ?_, fun e => ?_⟩
  · rw [e] at h6; exact xwd_in h6
  · rw [e] at h6
    simp only [Bool.and_eq_true] at h6
    refine ⟨xwd_in h6.1.1, xwd_in h6.1.2, ?_⟩
    cases hq : vwCl[xow m']? with
    | none => rw [hq] at h6; exact absurd h6.2 Bool.false_ne_true
    | some q => rw [hq] at h6; exact ⟨q, rfl, of_decide_eq_true h6.2⟩
  · rw [e] at h6
    simp only [Bool.and_eq_true, decide_eq_true_eq] at h6
    exact ⟨xwd_in h6.1.1, h6.1.2, h6.2⟩
theorem xpre (F : xFx p s m args meth c R D CA z0 P mm) (hW : xWd D CA z0 s0 s H locs cells slots S) {a : List Value} : ∀ U : State, U.heap = H → s.WarmedH U.vm → va_Pc a (fun U => U.heap.size = S.2.1 ∧ z0 ≤ S.2.1 ∧ xP D CA z0 S.1 U U.heap ∧ xEnv D CA z0 P U U.heap) a.toArray U := by
  intro U hU hWm
  obtain ⟨h1, h2, h3, h4, h5⟩ := hW
  have hz0 := F.2.2.2.2.2.2.2.1
  refine ⟨rfl, by rw [hU]; exact h2, by omega, by rw [hU]; exact h1.moved hWm.alike, ?_⟩
  rw [hU]
  exact xEnv.moved hWm (fun b hb hn => h3.2.1 b hb hn) F.2.2.2.2.2.2.1
theorem xbud (hW : xWd D CA z0 s0 s H locs cells slots S) {S1 : xS} (h1 : S.2.1 ≤ S1.2.1) (h2 : S.2.2 ≤ S1.2.2) (h3 : S1.2.1 ≤ s.heap.size + R.cells) (h4 : S1.2.2 ≤ s0 + R.slots) : cells + (S1.2.1 - S.2.1) ≤ R.cells ∧ slots + (S1.2.2 - S.2.2) ≤ R.slots := by
  obtain ⟨-, -, -, h5, h6⟩ := hW
  omega
theorem xaft (hW : xWd D CA z0 s0 s H locs cells slots S) {S1 : xS} (h1 : S.2.1 ≤ S1.2.1) (h2 : S.2.2 ≤ S1.2.2) {H1 : Heap} {locs1 : List Loc} (hz : H1.size = S1.2.1) (hp : xP D CA z0 S1.1 s H1) (hS : va_S (xA z0) s.heap H1 locs1) : xWd D CA z0 s0 s H1 locs1 (cells + (S1.2.1 - S.2.1)) (slots + (S1.2.2 - S.2.2)) S1 := by
  obtain ⟨-, -, -, h5, h6⟩ := hW
  exact ⟨hp, hz, hS, by omega, by omega⟩
/-- behind a call -/
theorem xt_call {x : xX} {lv : xL} {a : List Value} {st0 q : List Value} (hW : xWd D CA z0 s0 s H locs cells slots S) (hl : lv_has ls (xml mm) lv) {G : Prop} (hx1 : x.1 < 332) (hmx : xcs a ≤ xml x.1)
    (hk : xGo p l e R s m args below meth c Q D CA z0 s0 mm P G (.inr (.inr (x.1, a, S, pc + 3, lv, q))))
    (hr : ∀ (v : Option Value) (S1 : xS), xMet l D CA z0 P x.1 a S v S1 → cells + (S1.2.1 - S.2.1) ≤ R.cells ∧ slots + (S1.2.2 - S.2.2) ≤ R.slots → va_Run p l e R s m args below meth c H locs cells slots (S1.2.1 - S.2.1) (S1.2.2 - S.2.2) (F0 m pc ls st0) q (fun st oc t => oc = .returned v ∧ t.heap.size = S1.2.1 ∧ xP D CA z0 S1.1 t t.heap ∧ va_F (xA z0) st t) (xA z0)) : W p l e R s m args below meth c H locs cells slots Q (F0 m pc ls st0) := by
  obtain ⟨v, S1, hM, h1, h2, h3, h4, hkk⟩ := hk
  exact x_call (hr v S1 (hM hx1 hmx) (xbud hW h1 h2 h3 h4)) hW.2.2.1 (fun H1 locs1 hz hp hS => hkk ls H1 locs1 _ _ hl (xaft hW h1 h2 hz hp hS))
theorem xt_invV (F : xFx p s m args meth c R D CA z0 P mm) (hW : xWd D CA z0 s0 s H locs cells slots S) (hl : ls.size = xml mm) {k b : Nat} {x : xX} {as q fs : List Value} (hd : decode (xcd mm) pc = .ok (.invokevirtual k, 3)) (hc : xcok mm x 0 = true) (hw : xwd x.2.2.1 (.methodLink (xnm mm).cls k (xnm x.1)) = true) (hb0 : S.1 b = some (.inl (xow x.1, fs))) (hn : as.length = x.2.1) (hq : xcs q ≤ 8)
    {v : Option Value} {S1 : xS} (hM : xMet l D CA z0 P x.1 (.ref b :: as) S v S1) (hbd : cells + (S1.2.1 - S.2.1) ≤ R.cells ∧ slots + (S1.2.2 - S.2.2) ≤ R.slots) : va_Run p l e R s m args below meth c H locs cells slots (S1.2.1 - S.2.1) (S1.2.2 - S.2.2) (F0 m pc ls (as.reverse ++ .ref b :: q)) q (fun st oc t => oc = .returned v ∧ t.heap.size = S1.2.1 ∧ xP D CA z0 S1.1 t t.heap ∧ va_F (xA z0) st t) (xA z0) := by
  obtain ⟨h1, h2, h3, h4, h5⟩ := xcok_of hc
  obtain ⟨f1, f2, f3, -, f5, -⟩ := xm_facts h1
  obtain ⟨f6, f7, qq, f8, f9⟩ := f5 h3
  have FF := F
  obtain ⟨hx, hb, hml, hown, hts, hnm, hE, hz0, hfr, hlr⟩ := F
  have hrec := va_recv hE.1 (xone (hW.1 b _ hb0).2) f8 (q0 := 0) rfl
  rw [← f9] at hrec
  exact va_runV (As := as) (rest := q) (Ts := xTW) ⟨hx, hb, hml, hown, hts⟩ hM ⟨callB_of (xna x.1) hts (xGood h1) rfl rfl rfl (hts _ f1) (hts _ (xwd_in hw)) f2 ⟨Nat.le_trans h4 hfr, Nat.le_trans h5 hlr⟩, hts _ f6, hts _ f7⟩ ⟨xblind, hrec, xpre FF hW⟩ rfl (hn.trans h2) hl rfl (lv_room hq) hd hbd
theorem xt_invS (F : xFx p s m args meth c R D CA z0 P mm) (hW : xWd D CA z0 s0 s H locs cells slots S) (hl : ls.size = xml mm) {k : Nat} {x : xX} {as q : List Value} (hd : decode (xcd mm) pc = .ok (.invokestatic k, 3)) (hc : xcok mm x 1 = true) (hw : xwd x.2.2.1 (.methodLink (xnm mm).cls k (xnm x.1)) = true ∨ xnok mm x k = true) (hn : as.length = x.2.1) (hq : xcs q ≤ 8)
    {v : Option Value} {S1 : xS} (hM : xMet l D CA z0 P x.1 as S v S1) (hbd : cells + (S1.2.1 - S.2.1) ≤ R.cells ∧ slots + (S1.2.2 - S.2.2) ≤ R.slots) : va_Run p l e R s m args below meth c H locs cells slots (S1.2.1 - S.2.1) (S1.2.2 - S.2.2) (F0 m pc ls (as.reverse ++ q)) q (fun st oc t => oc = .returned v ∧ t.heap.size = S1.2.1 ∧ xP D CA z0 S1.1 t t.heap ∧ va_F (xA z0) st t) (xA z0) := by
  obtain ⟨h1, h2, h3, h4, h5⟩ := xcok_of hc
  obtain ⟨f1, f2, f3, f4, -, -⟩ := xm_facts h1
  have f6 := f4 h3
  have FF := F
  obtain ⟨hx, hb, hml, hown, hts, hnm, hE, hz0, hfr, hlr⟩ := F
  rcases hw with hw | hw
  · exact va_runS (As := as) (rest := q) (Ts := xTW) ⟨hx, hb, hml, hown, hts⟩ hM ⟨callB_of (xna x.1) hts (xGood h1) rfl rfl rfl (hts _ f1) (hts _ (xwd_in hw)) f2 ⟨Nat.le_trans h4 hfr, Nat.le_trans h5 hlr⟩, hts _ f6⟩ ⟨xblind, xpre FF hW⟩ rfl (hn.trans h2) hl rfl (lv_room hq) hd hbd
  · unfold xnok at hw
    split at hw
    · rename_i o i y hh hne
      simp only [Bool.and_eq_true, decide_eq_true_eq] at hw
      obtain ⟨⟨rfl, rfl⟩, rfl⟩ := hw
      have hN := hE.2.2.2.1 _ (List.mem_of_getElem? hne)
      exact va_runSN (As := as) (rest := q) (Ts := xTW) ⟨hx, hb, hml, hown, hts⟩ hM ⟨va_cnB (xna x.1) hts (xGood h1) rfl rfl rfl hN (hts _ f1) f2 ⟨Nat.le_trans h4 hfr, Nat.le_trans h5 hlr⟩, hts _ f6, trivial⟩ ⟨xblind, xpre FF hW⟩ rfl (hn.trans h2) hl rfl (lv_room hq) hd hbd
    · cases hw
theorem xt_invI (F : xFx p s m args meth c R D CA z0 P mm) (hW : xWd D CA z0 s0 s H locs cells slots S) (hl : ls.size = xml mm) {k b : Nat} {x : xX} {as q : List Value} (hd : decode (xcd mm) pc = .ok (.invokespecial k, 3)) (hc : xcok mm x 3 = true) (hw : xwd x.2.2.1 (.methodLink (xnm mm).cls k (xnm x.1)) = true ∨ xnok mm x k = true) (hn : as.length = x.2.1) (hq : xcs q ≤ 8)
    {v : Option Value} {S1 : xS} (hM : xMet l D CA z0 P x.1 (.ref b :: as) S v S1) (hbd : cells + (S1.2.1 - S.2.1) ≤ R.cells ∧ slots + (S1.2.2 - S.2.2) ≤ R.slots) : va_Run p l e R s m args below meth c H locs cells slots (S1.2.1 - S.2.1) (S1.2.2 - S.2.2) (F0 m pc ls (as.reverse ++ .ref b :: q)) q (fun st oc t => oc = .returned v ∧ t.heap.size = S1.2.1 ∧ xP D CA z0 S1.1 t t.heap ∧ va_F (xA z0) st t) (xA z0) := by
  obtain ⟨h1, h2, h3, h4, h5⟩ := xcok_of hc
  obtain ⟨f1, f2, f3, -, -, f5⟩ := xm_facts h1
  obtain ⟨f6, f7, f8⟩ := f5 h3
  have FF := F
  obtain ⟨hx, hb, hml, hown, hts, hnm, hE, hz0, hfr, hlr⟩ := F
  have hG := xGood h1
  unfold xMet at hM
  unfold xws at hM hG
  rw [f8] at hM hG
  rcases hw with hw | hw
  · exact va_runI (As := as) (rest := q) (Ts := xTW) ⟨hx, hb, hml, hown, hts⟩ hM ⟨callB_of (xna x.1) hts hG rfl rfl rfl (hts _ f1) (hts _ (xwd_in hw)) f2 ⟨Nat.le_trans h4 hfr, Nat.le_trans h5 hlr⟩, f7, hts _ f6⟩ ⟨xblind, xpre FF hW⟩ rfl (hn.trans h2) hl rfl (lv_room hq) hd hbd
  · unfold xnok at hw
    split at hw
    · rename_i o i y hh hne
      simp only [Bool.and_eq_true, decide_eq_true_eq] at hw
      obtain ⟨⟨rfl, rfl⟩, rfl⟩ := hw
      have hN := hE.2.2.2.1 _ (List.mem_of_getElem? hne)
      exact va_runIN (As := as) (rest := q) (Ts := xTW) ⟨hx, hb, hml, hown, hts⟩ hM ⟨va_cnB (xna x.1) hts hG rfl rfl rfl hN (hts _ f1) f2 ⟨Nat.le_trans h4 hfr, Nat.le_trans h5 hlr⟩, f7, hts _ f6⟩ ⟨xblind, xpre FF hW⟩ rfl (hn.trans h2) hl rfl (lv_room hq) hd hbd
    · cases hw
theorem xdef_len {ci : Nat} {q : vw_C} (h : vwCl[ci]? = some q) : (xdef ci).length = q.2.2 := by
  unfold xdef
  rw [h]
  simp
theorem xdef_at {ci : Nat} {q : vw_C} (h : vwCl[ci]? = some q) {ty : Nat → FieldType} (hty : ∀ k, k < q.2.2 → parseFieldDescriptor (q.2.1 k).2.2.1 = some (ty k)) {k : Nat} (hk : k < q.2.2) : defaultValue (ty k) = vp_V (xdef ci) k := by
  unfold xdef vp_V
  rw [h]
  dsimp only
  rw [List.getD_eq_getElem?_getD, List.getElem?_map, List.getElem?_range hk, Option.map_some, Option.getD_some, hty k hk]
theorem xpr_of {x : xX} {k : Nat} (h : xpr mm x k = true) : (x.1 = 1000 ∧ xwd x.2.2.1 (.methodLink (xnm mm).cls k yJ0_length_8abf5) = true ∧ 2 ≤ xrk mm ∧ 80 ≤ xlr mm) ∨ (x.1 = 1001 ∧ xwd x.2.2.1 (.methodLink (xnm mm).cls k yJ0_charAt_5068e) = true ∧ 5 ≤ xrk mm ∧ 141 ≤ xlr mm) := by
  simp only [xpr, Bool.or_eq_true, Bool.and_eq_true] at h
  rcases h with ⟨h1, h2, h3, h4⟩ | ⟨h1, h2, h3, h4⟩
  · exact Or.inl ⟨Nat.eq_of_beq_eq_true h1, h2, Nat.le_of_ble_eq_true h3, Nat.le_of_ble_eq_true h4⟩
  · exact Or.inr ⟨Nat.eq_of_beq_eq_true h1, h2, Nat.le_of_ble_eq_true h3, Nat.le_of_ble_eq_true h4⟩
theorem xsk0_of {x : xX} {k : Nat} (h : xsk0 mm x k = true) : ∃ t, xStr[x.1 - 1]? = some ((xnm mm).cls, k, t) ∧ 1 ≤ x.1 := by
  unfold xsk0 at h
  split at h
  · rename_i o i t ho
    simp only [Bool.and_eq_true, decide_eq_true_eq] at h
    obtain ⟨h1, h2, h3⟩ := h
    rw [h2, Nat.eq_of_beq_eq_true h3] at ho
    exact ⟨t, ho, Nat.le_of_ble_eq_true h1⟩
  · cases h
theorem xi_V1 {lv : xL} {st : List Value} {x : xX} {r : (Option Value × xS) ⊕ (Nat × xL × List Value × xS) ⊕ (Nat × List Value × xS × Nat × xL × List Value)} (h : xoV none xjN xcN x pc lv st S = some r) (hx : x.1 = 1000) : ∃ a q n f, st = .ref a :: q ∧ S.1 a = some (.inr (5, (n, .inl f))) ∧ xcs q ≤ 8 ∧ r = .inr (.inl (pc + 3, lv, .int (Int32.ofNat n) :: q, S)) := by
  unfold xoV at h
  rw [hx, show Nat.beq 1000 1000 = true from rfl, cond_true] at h
  split at h
  · rename_i a q
    unfold xob xlenC at h
    split at h
    · rename_i v hv
      split at hv
      · rename_i k n f ho
        split at hv
        · rename_i hk
          subst hk
          cases hv
          obtain ⟨hb, h⟩ := xi_bif h
          cases h
          exact ⟨a, q, n, f, rfl, ho, by simpa using hb, rfl⟩
        · cases hv
      · cases hv
    · cases h
  · cases h
theorem xi_V2 {lv : xL} {st : List Value} {x : xX} {r : (Option Value × xS) ⊕ (Nat × xL × List Value × xS) ⊕ (Nat × List Value × xS × Nat × xL × List Value)} (h : xoV none xjN xcN x pc lv st S = some r) (hx : x.1 = 1001) : ∃ a q i n f, st = .int i :: .ref a :: q ∧ S.1 a = some (.inr (5, (n, .inl f))) ∧ ¬ i < 0 ∧ i.toNatClampNeg < n ∧ xcs q ≤ 8 ∧ r = .inr (.inl (pc + 3, lv, .int (f i.toNatClampNeg) :: q, S)) := by
  unfold xoV at h
  rw [hx, show Nat.beq 1001 1000 = false from rfl, show Nat.beq 1001 1001 = true from rfl, cond_false, cond_true] at h
  split at h
  · rename_i i a q
    unfold xob xrdC at h
    split at h
    · rename_i v hv
      split at hv
      · rename_i k n f ho
        split at hv
        · rename_i hk
          obtain ⟨hk, hi⟩ := hk
          subst hk
          cases hv
          obtain ⟨hb, h⟩ := xi_bif h
          cases h
          exact ⟨a, q, i, n, f, rfl, ho, fun z => hi (Or.inl z), Nat.lt_of_not_le fun z => hi (Or.inr z), by simpa using hb, rfl⟩
        · cases hv
      · cases hv
    · cases h
  · cases h
theorem x_ldcW {cc : ByteArray} (hexec : p.tables.exec = Jvm.exec) (hb : c.code = cc) {own tx : String} {index q : Nat} (hown : s.vm.findClass own = some m.cls) (hZ : vk_R own index tx q s) (hdg : decode cc pc = .ok (.ldc_w index, 3))
    (k : W p l e R s m args below meth c H locs cells slots Q (F0 m (pc + 3) ls (.ref q :: rest))) : W p l e R s m args below meth c H locs cells slots Q (F0 m pc ls rest) := by
  intro T hT X
  obtain ⟨t, a1, b1⟩ := k T hT X
  refine ⟨t, ?_, b1⟩
  obtain ⟨kc, cf, i, a', hk, hcf, hcp, -, hr, hev'⟩ := Cond.stringRef_spec hown hZ.1
  cases hZ.2.symm.trans hev'
  obtain ⟨k', hk', he⟩ := X.warmed.alike.2.2 _ _ hk
  have hr' : k'.resolved[index]? = some (some (.string q)) := by
    rcases X.warmed.entry hk hk' index with h | ⟨h, -⟩
    · rw [h]; exact hr
    · rw [hr] at h; cases h
  subst hb
  jvm_step X.here [hexec, hdg, ldc_w.wp_string (e := e) (s := T) (f := F0 m pc ls rest) X.here.top hk' (by rw [he]; exact hcf) hcp hr']
  exact a1
theorem xt_step (F : xFx p s m args meth c R D CA z0 P mm) {i : Instr} {x : xX} {lv : xL} {st : List Value} (hin : xin mm pc = some (i, x)) {r : (Option Value × xS) ⊕ (Nat × xL × List Value × xS) ⊕ (Nat × List Value × xS × Nat × xL × List Value)} (h : xst none xrN xjN xcN P mm pc i x lv st S = some r) (hl : lv_has ls (xml mm) lv) (hW : xWd D CA z0 s0 s H locs cells slots S)
    (hk : xGo p l e R s m args below meth c Q D CA z0 s0 mm P (W p l e R s m args below meth c H locs cells slots Q (F0 m pc ls st)) r) : W p l e R s m args below meth c H locs cells slots Q (F0 m pc ls st) := by
  have F0' := F
  obtain ⟨hx, hb, hml, hown, hts, hnm, hE, hz0, hfr, hlr⟩ := F
  have hok := xiok_all mm pc
  simp only [xiok, hin, Bool.and_eq_true, decide_eq_true_eq] at hok
  obtain ⟨hd, hw⟩ := hok
  cases i with
  | aload k => obtain ⟨v, hv, rfl⟩ := xi_ldR h; exact lv_aload hx hb hd (xget_at hl hv) (hk.2.2 _ _ _ _ _ hl hW)
  | aload_n k => obtain ⟨v, hv, rfl⟩ := xi_ldR h; exact lv_aload_n hx hb hd rfl (xget_at hl hv) (hk.2.2 _ _ _ _ _ hl hW)
  | iload k => obtain ⟨v, hv, rfl⟩ := xi_ldI h; exact lv_iload hx hb hd (xget_at hl hv) (hk.2.2 _ _ _ _ _ hl hW)
  | iload_n k => obtain ⟨v, hv, rfl⟩ := xi_ldI h; exact lv_iload_n hx hb hd rfl (xget_at hl hv) (hk.2.2 _ _ _ _ _ hl hW)
  | lload k => obtain ⟨v, hv, rfl⟩ := xi_ldJ h; exact lv_lload hx hb hd (xget_at hl hv) (hk.2.2 _ _ _ _ _ hl hW)
  | lload_n k => obtain ⟨v, hv, rfl⟩ := xi_ldJ h; exact lv_lload_n hx hb hd rfl (xget_at hl hv) (hk.2.2 _ _ _ _ _ hl hW)
  | astore k => obtain ⟨v, q, rfl, hn, rfl⟩ := xi_sR h; exact lv_astore hx hb hd hl hn rfl (fun ls' hl' => hk.2.2 _ _ _ _ _ hl' hW)
  | astore_n k => obtain ⟨v, q, rfl, hn, rfl⟩ := xi_sR h; exact lv_astore_n hx hb hd rfl hl hn rfl (fun ls' hl' => hk.2.2 _ _ _ _ _ hl' hW)
  | istore k => obtain ⟨v, q, rfl, hn, rfl⟩ := xi_sI h; exact lv_istore hx hb hd hl hn rfl (fun ls' hl' => hk.2.2 _ _ _ _ _ hl' hW)
  | istore_n k => obtain ⟨v, q, rfl, hn, rfl⟩ := xi_sI h; exact lv_istore_n hx hb hd rfl hl hn rfl (fun ls' hl' => hk.2.2 _ _ _ _ _ hl' hW)
  | lstore k => obtain ⟨v, q, rfl, hn, rfl⟩ := xi_sJ h; exact lv_lstore hx hb hd hl hn rfl (fun ls' hl' => hk.2.2 _ _ _ _ _ hl' hW)
  | lstore_n k => obtain ⟨v, q, rfl, hn, rfl⟩ := xi_sJ h; exact lv_lstore_n hx hb hd rfl hl hn rfl (fun ls' hl' => hk.2.2 _ _ _ _ _ hl' hW)
  | iconst n => cases h; exact lv_iconst hx hb hd (of_decide_eq_true hw) (hk.2.2 _ _ _ _ _ hl hW)
  | bipush n => cases h; exact lv_bipush hx hb hd (of_decide_eq_true hw) (hk.2.2 _ _ _ _ _ hl hW)
  | sipush n => cases h; exact lv_sipush hx hb hd (of_decide_eq_true hw) (hk.2.2 _ _ _ _ _ hl hW)
  | lconst n => cases h; exact lv_lconst hx hb hd rfl (hk.2.2 _ _ _ _ _ hl hW)
  | ldc2_w n => cases h; exact lv_ldc2 hx hb hown (hts _ (xwd_in hw)) hd (hk.2.2 _ _ _ _ _ hl hW)
  | iadd => obtain ⟨v, w, q, rfl, rfl⟩ := xi_I2 h; exact lv_iadd hx hb hd (hk.2.2 _ _ _ _ _ hl hW)
  | isub => obtain ⟨v, w, q, rfl, rfl⟩ := xi_I2 h; exact lv_isub hx hb hd (hk.2.2 _ _ _ _ _ hl hW)
  | imul => obtain ⟨v, w, q, rfl, rfl⟩ := xi_I2 h; exact lv_imul hx hb hd (hk.2.2 _ _ _ _ _ hl hW)
  | iand => obtain ⟨v, w, q, rfl, rfl⟩ := xi_I2 h; exact lv_iand hx hb hd (hk.2.2 _ _ _ _ _ hl hW)
  | ior => obtain ⟨v, w, q, rfl, rfl⟩ := xi_I2 h; exact lv_ior hx hb hd (hk.2.2 _ _ _ _ _ hl hW)
  | ixor => obtain ⟨v, w, q, rfl, rfl⟩ := xi_I2 h; exact lv_ixor hx hb hd (hk.2.2 _ _ _ _ _ hl hW)
  | ishl => obtain ⟨v, w, q, rfl, rfl⟩ := xi_I2 h; exact lv_ishl hx hb hd (hk.2.2 _ _ _ _ _ hl hW)
  | ishr => obtain ⟨v, w, q, rfl, rfl⟩ := xi_I2 h; exact lv_ishr hx hb hd (hk.2.2 _ _ _ _ _ hl hW)
  | ineg => obtain ⟨v, q, rfl, rfl⟩ := xi_I1 h; exact lv_ineg hx hb hd (hk.2.2 _ _ _ _ _ hl hW)
  | i2l => obtain ⟨v, q, rfl, rfl⟩ := xi_I1 h; exact lv_i2l hx hb hd rfl (hk.2.2 _ _ _ _ _ hl hW)
  | l2i => obtain ⟨v, q, rfl, rfl⟩ := xi_J1 h; exact lv_l2i hx hb hd rfl (hk.2.2 _ _ _ _ _ hl hW)
  | lneg => obtain ⟨v, q, rfl, rfl⟩ := xi_J1 h; exact lv_lneg hx hb hd (hk.2.2 _ _ _ _ _ hl hW)
  | ladd => obtain ⟨v, w, q, rfl, rfl⟩ := xi_J2 h; exact lv_ladd hx hb hd (hk.2.2 _ _ _ _ _ hl hW)
  | lsub => obtain ⟨v, w, q, rfl, rfl⟩ := xi_J2 h; exact lv_lsub hx hb hd (hk.2.2 _ _ _ _ _ hl hW)
  | lmul => obtain ⟨v, w, q, rfl, rfl⟩ := xi_J2 h; exact lv_lmul hx hb hd (hk.2.2 _ _ _ _ _ hl hW)
  | land => obtain ⟨v, w, q, rfl, rfl⟩ := xi_J2 h; exact lv_land hx hb hd (hk.2.2 _ _ _ _ _ hl hW)
  | lor => obtain ⟨v, w, q, rfl, rfl⟩ := xi_J2 h; exact lv_lor hx hb hd (hk.2.2 _ _ _ _ _ hl hW)
  | lxor => obtain ⟨v, w, q, rfl, rfl⟩ := xi_J2 h; exact lv_lxor hx hb hd (hk.2.2 _ _ _ _ _ hl hW)
  | lcmp => obtain ⟨v, w, q, rfl, rfl⟩ := xi_J2 h; exact W.lcmp hx hb hd (hk.2.2 _ _ _ _ _ hl hW)
  | lshl => obtain ⟨v, w, q, rfl, rfl⟩ := xi_JI h; exact lv_lshl hx hb hd rfl (hk.2.2 _ _ _ _ _ hl hW)
  | lushr => obtain ⟨v, w, q, rfl, rfl⟩ := xi_JI h; exact lv_lushr hx hb hd rfl (hk.2.2 _ _ _ _ _ hl hW)
  | idiv => obtain ⟨v, w, q, rfl, h0, rfl⟩ := xi_div h; exact lv_idiv hx hb hd h0 (hk.2.2 _ _ _ _ _ hl hW)
  | irem => obtain ⟨v, w, q, rfl, h0, rfl⟩ := xi_div h; exact lv_irem hx hb hd h0 (hk.2.2 _ _ _ _ _ hl hW)
  | ldiv => obtain ⟨v, w, q, rfl, h0, rfl⟩ := xi_ldiv h; exact lv_ldiv hx hb hd h0 (hk.2.2 _ _ _ _ _ hl hW)
  | lrem => obtain ⟨v, w, q, rfl, h0, rfl⟩ := xi_ldiv h; exact lv_lrem hx hb hd h0 (hk.2.2 _ _ _ _ _ hl hW)
  | dup => obtain ⟨v, q, rfl, hc, rfl⟩ := xi_dup h; exact lv_dup hx hb hd hc (hk.2.2 _ _ _ _ _ hl hW)
  | dup2 => obtain ⟨v, w, q, rfl, hc, hc2, rfl⟩ := xi_dup2 h; exact lv_dup2_11 hx hb hd hc hc2 (hk.2.2 _ _ _ _ _ hl hW)
  | pop => obtain ⟨v, q, rfl, hc, rfl⟩ := xi_pop h; exact lv_pop hx hb hd hc (hk.2.2 _ _ _ _ _ hl hW)
  | iinc k n =>
    obtain ⟨v, hv, hn, rfl⟩ := xi_inc h
    have hm := xget_mem hv
    obtain ⟨j, hj⟩ := List.getElem?_of_mem hm
    exact lv_iinc hx hb hd hl hj rfl hn rfl (fun ls' hl' => hk.2.2 _ _ _ _ _ hl' hW)
  | ifCond cnd off =>
    have ht : (pc : Int) + off = (x.1 : Int) := of_decide_eq_true hw
    simp only [xst] at h
    split at h
    · rename_i v q
      cases cnd <;> simp only [xob1] at h <;> split at h <;> rename_i hv <;> cases h
      · exact lv_if_eq hx hb hd ht (fun _ => hk.2.2 _ _ _ _ _ hl hW) (fun z => absurd hv z)
      · exact lv_if_eq hx hb hd ht (fun z => absurd z hv) (fun _ => hk.2.2 _ _ _ _ _ hl hW)
      · exact lv_if_ne hx hb hd ht (fun _ => hk.2.2 _ _ _ _ _ hl hW) (fun z => absurd z hv)
      · exact lv_if_ne hx hb hd ht (fun z => absurd z hv) (fun _ => hk.2.2 _ _ _ _ _ hl hW)
      · exact lv_if_lt hx hb hd ht (fun _ => hk.2.2 _ _ _ _ _ hl hW) (fun z => absurd hv z)
      · exact lv_if_lt hx hb hd ht (fun z => absurd z hv) (fun _ => hk.2.2 _ _ _ _ _ hl hW)
      · exact lv_if_ge hx hb hd ht (fun _ => hk.2.2 _ _ _ _ _ hl hW) (fun z => absurd hv z)
      · exact lv_if_ge hx hb hd ht (fun z => absurd z hv) (fun _ => hk.2.2 _ _ _ _ _ hl hW)
      · exact lv_if_gt hx hb hd ht (fun _ => hk.2.2 _ _ _ _ _ hl hW) (fun z => absurd hv z)
      · exact lv_if_gt hx hb hd ht (fun z => absurd z hv) (fun _ => hk.2.2 _ _ _ _ _ hl hW)
      · exact lv_if_le hx hb hd ht (fun _ => hk.2.2 _ _ _ _ _ hl hW) (fun z => absurd hv z)
      · exact lv_if_le hx hb hd ht (fun z => absurd z hv) (fun _ => hk.2.2 _ _ _ _ _ hl hW)
    · cases h
  | if_icmp cnd off =>
    have ht : (pc : Int) + off = (x.1 : Int) := of_decide_eq_true hw
    simp only [xst] at h
    split at h
    · rename_i w v q
      cases cnd <;> simp only [xob2] at h <;> split at h <;> rename_i hv <;> cases h
      · exact lv_icmp_eq hx hb hd ht (fun _ => hk.2.2 _ _ _ _ _ hl hW) (fun z => absurd hv z)
      · exact lv_icmp_eq hx hb hd ht (fun z => absurd z hv) (fun _ => hk.2.2 _ _ _ _ _ hl hW)
      · exact lv_icmp_ne hx hb hd ht (fun _ => hk.2.2 _ _ _ _ _ hl hW) (fun z => absurd z hv)
      · exact lv_icmp_ne hx hb hd ht (fun z => absurd z hv) (fun _ => hk.2.2 _ _ _ _ _ hl hW)
      · exact lv_icmp_lt hx hb hd ht (fun _ => hk.2.2 _ _ _ _ _ hl hW) (fun z => absurd hv z)
      · exact lv_icmp_lt hx hb hd ht (fun z => absurd z hv) (fun _ => hk.2.2 _ _ _ _ _ hl hW)
      · exact lv_icmp_ge hx hb hd ht (fun _ => hk.2.2 _ _ _ _ _ hl hW) (fun z => absurd hv z)
      · exact lv_icmp_ge hx hb hd ht (fun z => absurd z hv) (fun _ => hk.2.2 _ _ _ _ _ hl hW)
      · exact lv_icmp_gt hx hb hd ht (fun _ => hk.2.2 _ _ _ _ _ hl hW) (fun z => absurd hv z)
      · exact lv_icmp_gt hx hb hd ht (fun z => absurd z hv) (fun _ => hk.2.2 _ _ _ _ _ hl hW)
      · exact lv_icmp_le hx hb hd ht (fun _ => hk.2.2 _ _ _ _ _ hl hW) (fun z => absurd hv z)
      · exact lv_icmp_le hx hb hd ht (fun z => absurd z hv) (fun _ => hk.2.2 _ _ _ _ _ hl hW)
    · cases h
  | goto off => cases h; exact lv_goto hx hb hd (of_decide_eq_true hw) (hk.2.2 _ _ _ _ _ hl hW)
  | getfield k => obtain ⟨a, q, v, rfl, hv, rfl⟩ := xi_gf h; exact xt_get F0' hW hd hw hv (hk.2.2 _ _ _ _ _ hl hW)
  | putfield k => obtain ⟨a, q, v, fs, rfl, hfs, hlen, hfit, rfl⟩ := xi_pf h; exact xt_put F0' hW hd hw hfs hlen hfit (fun H1 locs1 hW1 => hk.2.2 _ _ _ _ _ hl hW1)
  | arraylength =>
    obtain ⟨a, q, k, n, y, rfl, ha, h5, rfl⟩ := xi_al h
    rcases h5 with h5 | rfl
    · have h1 := (xt_arr hW ha h5).2
      have hy : (xtys CA)[k]? = some (CA k, xKi k) := by
        match k, h5 with
        | 0, _ => rfl
        | 1, _ => rfl
        | 2, _ => rfl
        | 3, _ => rfl
        | 4, _ => rfl
      exact va_alen (D := D) (cl := vwCl) hx hb hE.1 (xone (q := (a, .inl (CA k, (n, y)))) h1) 0 k rfl hy rfl hd (hk.2.2 _ _ _ _ _ hl hW)
    · obtain ⟨f, -, cell, g1, g2, g3, g4, g5, -⟩ := xt_arr6 hW ha
      exact W.alen hx hb g1 g2 g5 rfl rfl hd (hk.2.2 _ _ _ _ _ hl hW)
  | iaload =>
    obtain ⟨a, q, i, v, rfl, hv, rfl⟩ := xi_aI h
    obtain ⟨k, n, f, ha, hk06, hi, rfl⟩ := xi_rdI hv
    rcases hk06 with rfl | rfl
    · exact va_iald (D := D) (cl := vwCl) hx hb hE.1 (xone (q := (a, .inl (CA 0, (n, .inl f)))) (xt_arr hW ha (by decide)).2) 0 0 rfl rfl hi hd (hk.2.2 _ _ _ _ _ hl hW)
    · obtain ⟨f', hf', cell, g1, g2, g3, g4, g5, g6, -⟩ := xt_arr6 hW ha
      cases hf'
      have hlt : i.toNatClampNeg < n := Nat.not_le.mp fun z => hi (Or.inr z)
      exact W.iald hx hb g1 g2 g3 (fun z => z.elim (fun z => hi (Or.inl z)) (fun z => hi (Or.inr (Nat.le_trans g4 z)))) (g6 _ hlt) rfl rfl hd (hk.2.2 _ _ _ _ _ hl hW)
  | baload =>
    obtain ⟨a, q, i, v, rfl, hv, rfl⟩ := xi_aI h
    obtain ⟨k, n, f, ha, hk06, hi, rfl⟩ := xi_rdB hv
    rcases hk06 with rfl | rfl
    · exact va_zald (D := D) (cl := vwCl) hx hb hE.1 (xone (q := (a, .inl (CA 2, (n, .inl f)))) (xt_arr hW ha (by decide)).2) 0 2 rfl rfl hi hd (hk.2.2 _ _ _ _ _ hl hW)
    · exact va_bald (D := D) (cl := vwCl) hx hb hE.1 (xone (q := (a, .inl (CA 3, (n, .inl f)))) (xt_arr hW ha (by decide)).2) 0 3 rfl rfl hi hd (hk.2.2 _ _ _ _ _ hl hW)
  | laload =>
    obtain ⟨a, q, i, n, f, rfl, ha, hi, rfl⟩ := xi_aJ h
    exact va_lald (D := D) (cl := vwCl) hx hb hE.1 (xone (q := (a, .inl (CA 1, (n, .inr (.inl f))))) (xt_arr hW ha (by decide)).2) 0 1 rfl rfl hi hd (hk.2.2 _ _ _ _ _ hl hW)
  | aaload =>
    obtain ⟨a, q, i, n, f, b, rfl, ha, hi, hfb, rfl⟩ := xi_aR h
    refine va_aldq (D := D) (cl := vwCl) hx hb hE.1 (xone (q := (a, .inl (CA 4, (n, .inr (.inr (.inr (.inr f))))))) (xt_arr hW ha (by decide)).2) 0 4 rfl rfl hi hd ?_
    rw [hfb]
    exact hk.2.2 _ _ _ _ _ hl hW
  | iastore =>
    obtain ⟨a, q, i, v, S1, rfl, hv, rfl⟩ := xi_asI h
    obtain ⟨n, f, ha, hi, rfl⟩ := xi_wrI hv
    refine W.iast hx hb (xt_arr hW ha (by decide)).2 ((hE.1.2 0 _ rfl).1 n (fun j => .int (f j))) (fun q => by cases q) (by show ¬ (i < 0 ∨ (arrV _ _ _).slots.size ≤ _); rw [arrV_size]; exact hi) rfl rfl hd fun H1 e1 z oq => hk.2.2 _ _ _ _ _ hl (xt_store hW ha (by decide) ?_ z oq)
    rw [e1, vp_cell_i, vp_cell_i, arrV_store]
    congr 2
    funext q
    by_cases hq : q = i.toNatClampNeg
    · subst hq
      simp [updV, va_up]
    · simp [updV, va_up, hq]
  | bastore =>
    obtain ⟨a, q, i, v, S1, rfl, hv, rfl⟩ := xi_asI h
    obtain ⟨n, f, hc⟩ := xi_wrB hv
    rcases hc with ⟨ha, hi, rfl⟩ | ⟨ha, hi, rfl⟩
    · refine W.zast hx hb (xt_arr hW ha (by decide)).2 ((hE.1.2 2 _ rfl).1 n (fun j => .int (f j))) (fun q => by cases q) (by show ¬ (i < 0 ∨ (arrV _ _ _).slots.size ≤ _); rw [arrV_size]; exact hi) rfl rfl hd fun H1 e1 z oq => hk.2.2 _ _ _ _ _ hl (xt_store hW ha (by decide) ?_ z oq)
      rw [e1, vp_cell_i, vp_cell_i, arrV_store]
      congr 2
      funext q
      by_cases hq : q = i.toNatClampNeg
      · subst hq
        simp [updV, va_up, vp_nar, narrow]
      · simp [updV, va_up, hq]
    · refine W.bast hx hb (xt_arr hW ha (by decide)).2 ((hE.1.2 3 _ rfl).1 n (fun j => .int (f j))) (fun q => by cases q) (by show ¬ (i < 0 ∨ (arrV _ _ _).slots.size ≤ _); rw [arrV_size]; exact hi) rfl rfl hd fun H1 e1 z oq => hk.2.2 _ _ _ _ _ hl (xt_store hW ha (by decide) ?_ z oq)
      rw [e1, vp_cell_i, vp_cell_i, arrV_store]
      congr 2
      funext q
      by_cases hq : q = i.toNatClampNeg
      · subst hq
        simp [updV, va_up, vp_nar, narrow]
      · simp [updV, va_up, hq]
  | lastore =>
    obtain ⟨a, q, i, v, n, f, rfl, ha, hi, rfl⟩ := xi_asJ h
    refine W.last hx hb (xt_arr hW ha (by decide)).2 ((hE.1.2 1 _ rfl).1 n (fun j => .long (f j))) (fun q => by cases q) (by show ¬ (i < 0 ∨ (arrV _ _ _).slots.size ≤ _); rw [arrV_size]; exact hi) rfl rfl hd fun H1 e1 z oq => hk.2.2 _ _ _ _ _ hl (xt_store hW ha (by decide) ?_ z oq)
    rw [e1, vp_cell_l, vp_cell_l, arrV_store]
    congr 2
    funext q
    by_cases hq : q = i.toNatClampNeg
    · subst hq
      simp [updV, va_up]
    · simp [updV, va_up, hq]
  | aastore =>
    obtain ⟨a, q, i, v, n, f, fs, rfl, hv, ha, hi, rfl⟩ := xi_asR h
    have hlt : i.toNatClampNeg < n := Nat.not_le.mp fun z => hi (Or.inr z)
    have h0 : ¬ i < 0 := fun z => hi (Or.inl z)
    obtain ⟨-, r', hr', cellV, g1, g2, g3, -⟩ := hW.1 v _ hv
    have hcls := (hE.1.1 0 _ rfl).2
    obtain ⟨kA, comp, k1, k2, k3, -⟩ := (hE.1.2 4 _ rfl).2
    have hcomp : comp = D.1 0 := Option.some.inj (k3.symm.trans hcls.1)
    subst hcomp
    obtain ⟨kC, hkC, -⟩ := hcls.2
    refine W.aast hx hb (xt_arr hW ha (by decide)).2 (fun q h => by cases h) (fun h => by cases h) k1 k2 rfl hkC ⟨h0, by show _ < (arrV _ _ _).slots.size; rw [arrV_size]; exact hlt⟩ g1 (fun q h => by rw [g3] at h; cases h) (by rw [g2]; exact hkC) (by rw [g2]; exact va_assign hcls) rfl rfl hd fun H1 e1 z oq => hk.2.2 _ _ _ _ _ hl (xt_store hW ha (by decide) ?_ z oq)
    rw [e1, vp_cell_q, vp_cell_q, arrV_store]
    congr 2
    funext q
    by_cases hq : q = i.toNatClampNeg
    · subst hq
      simp [updV, va_up, va_rf]
    · simp [updV, va_up, hq]
  | new k =>
    cases h
    unfold xwok at hw
    dsimp only at hw
    split at hw
    · rename_i C T N hcl
      simp only [Bool.and_eq_true] at hw
      obtain ⟨⟨hw1, hw2⟩, hw3⟩ := hw
      obtain ⟨ty, hty, hnmd⟩ := xty_ok hcl
      have hKn := hE.1.1 x.1 _ hcl
      obtain ⟨hb1, hb2, hk3⟩ := hk
      have hdl : (xdef x.1).length = N := xdef_len hcl
      have hb1' : S.2.1 + 1 ≤ s.heap.size + R.cells := hb1
      have hb2' : S.2.2 + (xdef x.1).length ≤ s0 + R.slots := hb2
      have hWs := hW
      obtain ⟨w1, w2, w3, w4, w5⟩ := hWs
      refine W.newcK hx hb hown (hts _ (xwd_in hw1)) (hts _ (xwd_in hw2)) (hts _ (xwd_in hw3)) rfl hd (by omega) (by omega) hKn.2.1 rfl fun H1 kC hkC e1 z1 o1 => ?_
      have hz : z0 ≤ H.size := by have := w3.1; omega
      have hW2 := hW.push (n := N) (e := .inl (x.1, xdef x.1)) ⟨hz, _, hcl, (u_born ty hts (xu_in hcl) hKn hkC e1 hty).to (fun j hj => xdef_at hcl hty hj)⟩ z1 o1
      rw [← hdl] at hW2 ⊢
      have hg := hk3 _ _ _ _ _ hl hW2
      rw [← w2] at hg
      exact hg
    · cases hw
  | newarray k =>
    obtain ⟨n, q, rfl, hn, hlt, rfl⟩ := xi_nwa h
    simp only [xwok, Bool.and_eq_true, decide_eq_true_eq, Nat.blt_eq] at hw
    obtain ⟨⟨hw1, hty⟩, h4⟩ := hw
    obtain ⟨hb1, hb2, hk3⟩ := hk
    have hbb : componentBytes (newarray.typeOf k) ≤ 8 := by cases k <;> decide
    have hb1' : S.2.1 + 1 ≤ s.heap.size + R.cells := hb1
    have hb2' : S.2.2 + n.toNatClampNeg ≤ s0 + R.slots := hb2
    have hWs := hW
    obtain ⟨w1, w2, w3, w4, w5⟩ := hWs
    refine va_newaK hx hb (hts _ (xwd_in hw1)) rfl hd rfl hn rfl (Nat.le_trans (Nat.mul_le_mul (Nat.le_of_lt hlt) hbb) (by decide)) (by omega) (by omega) rfl fun H1 cA e1 z1 o1 hAr hNm => ?_
    have hz : z0 ≤ H.size := by have := w3.1; omega
    have fin : ∀ y : vp_A, xat D CA z0 s H1 H.size (.inr (x.1, y)) → xnwa S x.1 n.toNatClampNeg = (fun b => if b = S.2.1 then some (.inr (x.1, y)) else S.1 b, S.2.1 + 1, S.2.2 + n.toNatClampNeg) → W p l e R s m args below meth c H1 locs (cells + 1) (slots + n.toNatClampNeg) Q (F0 m (pc + 2) ls (.ref H.size :: q)) := by
      intro y hy he
      have hW2 := hW.push (n := n.toNatClampNeg) hy z1 o1
      rw [← he] at hW2
      have hg := hk3 _ _ _ _ _ hl hW2
      rw [← w2] at hg
      exact hg
    obtain ⟨x1, x2, x3, x4⟩ := x
    dsimp only at hty h4 fin ⊢
    rw [hty] at e1 hNm
    match x1, h4 with
    | 0, _ =>
      have : CA 0 = cA := Option.some.inj ((hE.1.2 0 _ rfl).2.symm.trans hNm)
      refine fin (n.toNatClampNeg, .inl (fun _ => 0)) ?_ rfl
      show xat D CA z0 s H1 H.size (.inr (0, (n.toNatClampNeg, .inl (fun _ => 0))))
      exact ⟨hz, by show H1[H.size]? = some (vp_cell (CA 0) _); rw [this]; exact e1⟩
    | 1, _ =>
      have : CA 1 = cA := Option.some.inj ((hE.1.2 1 _ rfl).2.symm.trans hNm)
      refine fin (n.toNatClampNeg, .inr (.inl (fun _ => 0))) ?_ rfl
      show xat D CA z0 s H1 H.size (.inr (1, (n.toNatClampNeg, .inr (.inl (fun _ => 0)))))
      exact ⟨hz, by show H1[H.size]? = some (vp_cell (CA 1) _); rw [this]; exact e1⟩
    | 2, _ =>
      have : CA 2 = cA := Option.some.inj ((hE.1.2 2 _ rfl).2.symm.trans hNm)
      refine fin (n.toNatClampNeg, .inl (fun _ => 0)) ?_ rfl
      show xat D CA z0 s H1 H.size (.inr (2, (n.toNatClampNeg, .inl (fun _ => 0))))
      exact ⟨hz, by show H1[H.size]? = some (vp_cell (CA 2) _); rw [this]; exact e1⟩
    | 3, _ =>
      have : CA 3 = cA := Option.some.inj ((hE.1.2 3 _ rfl).2.symm.trans hNm)
      refine fin (n.toNatClampNeg, .inl (fun _ => 0)) ?_ rfl
      show xat D CA z0 s H1 H.size (.inr (3, (n.toNatClampNeg, .inl (fun _ => 0))))
      exact ⟨hz, by show H1[H.size]? = some (vp_cell (CA 3) _); rw [this]; exact e1⟩
    | n' + 4, h4 => omega
  | anewarray k =>
    obtain ⟨n, q, rfl, hn, hlt, rfl⟩ := xi_nwa h
    obtain ⟨hb1, hb2, hk3⟩ := hk
    have hb1' : S.2.1 + 1 ≤ s.heap.size + R.cells := hb1
    have hb2' : S.2.2 + n.toNatClampNeg ≤ s0 + R.slots := hb2
    have hWs := hW
    obtain ⟨w1, w2, w3, w4, w5⟩ := hWs
    refine W.anew hx hb hown (hts _ (xwd_in hw)) (va_AO.use hE.2.2.1) rfl hd rfl hn (by omega) (by omega) (by omega) fun cA kA comp f1 f2 f3 f4 => ?_
    generalize hH1 : H.push ({ cls := cA, slots := Array.replicate n.toNatClampNeg .null, vm := .none } : Cell) = H1
    have z1 : H1.size = H.size + 1 := by rw [← hH1, Array.size_push]
    have e1 : H1[H.size]? = some (arrV cA n.toNatClampNeg (fun _ => .null)) := by rw [← hH1, Array.getElem?_push_size, ← arrV_new]
    have o1 : ∀ q : Nat, q < H.size → H1[q]? = H[q]? := fun q hq => by rw [← hH1, Array.getElem?_push, if_neg (Nat.ne_of_lt hq)]
    have hz : z0 ≤ H.size := by have := w3.1; omega
    obtain ⟨kA', comp', k1, k2, k3, k4⟩ := (hE.1.2 4 _ rfl).2
    have hca : CA 4 = cA := Option.some.inj (k4.symm.trans f1)
    have hW2 := hW.push (n := n.toNatClampNeg) (e := .inr (4, (n.toNatClampNeg, .inr (.inr (.inr (.inr (fun _ => none))))))) ⟨hz, by show H1[H.size]? = some (vp_cell (CA 4) _); rw [hca, vp_cell_q]; exact e1⟩ z1 o1
    have hg := hk3 _ _ _ _ _ hl hW2
    rw [← w2] at hg
    exact hg
  | invokevirtual k =>
    simp only [xwok, Bool.or_eq_true, Bool.and_eq_true, Nat.ble_eq] at hw
    rcases hw with hw | hw
    · have hbd := fun (S' : xS) (q : S'.2 = S.2) (k1 : S'.2.1 ≤ s.heap.size + R.cells) (k2 : S'.2.2 ≤ s0 + R.slots) => xbud hW (S1 := S') (by rw [q]; exact Nat.le_refl _) (by rw [q]; exact Nat.le_refl _) k1 k2
      rcases xpr_of hw with ⟨e0, e1, e2, e3⟩ | ⟨e0, e1, e2, e3⟩
      · obtain ⟨a, q, n, f, rfl, ha, hq8, rfl⟩ := xi_V1 h e0
        have hbd' := hbd S rfl hk.1 hk.2.1
        exact xT_V (as := []) (q := q) ⟨hx, hb, hml, hown, hts, hE, hz0⟩ hW hl.1 ha hd (xT_len ha) (xwd_in e1) xw_len_i xw_len_s xw_init0 xw_len_c (by decide) ⟨by omega, by omega⟩ hq8 ⟨by omega, by omega⟩ (fun H1 locs1 hW1 => hk.2.2 _ _ _ _ _ hl hW1)
      · obtain ⟨a, q, i, n, f, rfl, ha, h0, h1, hq8, rfl⟩ := xi_V2 h e0
        have hbd' := hbd S rfl hk.1 hk.2.1
        exact xT_V (as := [.int i]) (q := q) ⟨hx, hb, hml, hown, hts, hE, hz0⟩ hW hl.1 ha hd (xT_cha ha h0 h1) (xwd_in e1) xw_cha_i xw_cha_s xw_init0 xw_cha_c ⟨by decide, by decide, (by decide +kernel : (parseMethodDescriptor yJ0_charAt_5068e.desc).map (fun d => d.parameters.length) = some 1)⟩ ⟨by omega, by omega⟩ hq8 ⟨by omega, by omega⟩ (fun H1 locs1 hW1 => hk.2.2 _ _ _ _ _ hl hW1)
    · obtain ⟨h1, -⟩ := xcok_of hw.1.1
      obtain ⟨as, b, q, fs, hp, hfs, hq8, hmx, rfl⟩ := xi_V h (by omega)
      obtain ⟨hn, rfl⟩ := xpop_st hp
      exact xt_call hW hl h1 hmx hk (fun v S1 hM hbd => xt_invV F0' hW hl.1 hd hw.1.1 hw.1.2 hfs hn hq8 hM hbd)
  | invokestatic k =>
    simp only [xwok, Bool.or_eq_true, Bool.and_eq_true] at hw
    obtain ⟨as, q, hp, hq8, hmx, rfl⟩ := xi_S h
    obtain ⟨hn, rfl⟩ := xpop_st hp
    obtain ⟨h1, -⟩ := xcok_of hw.1
    exact xt_call hW hl h1 hmx hk (fun v S1 hM hbd => xt_invS F0' hW hl.1 hd hw.1 (hw.2.elim (fun z => Or.inl z.2) (fun z => Or.inr z.2)) hn hq8 hM hbd)
  | invokespecial k =>
    simp only [xwok, Bool.or_eq_true, Bool.and_eq_true, decide_eq_true_eq, Nat.ble_eq] at hw
    rcases xi_I h with ⟨h2, a, q, rfl, hq8, rfl⟩ | ⟨h2, as, b, q, hp, hq8, hmx, rfl⟩
    · rcases hw with hw | hw
      · have hq' : (q.map fun v => v.category).sum ≤ 8 := hq8
        exact W.objInit hx hb hown (hts _ (xwd_in hw.1.1.2)) (hts _ (xwd_in xob_ok.1)) (hts _ (xwd_in xob_ok.2)) rfl (hl.1.trans hml.symm) rfl hd (by omega) (by show 2 * 0 + _ + 12 ≤ R.locals; omega) (hk.2.2 _ _ _ _ _ hl hW)
      · rcases hw.2 with z | z <;> exact absurd (h2.symm.trans z.1) (by decide)
    · rcases hw with hw | hw
      · exact absurd hw.1.1.1 h2
      · obtain ⟨hn, rfl⟩ := xpop_st hp
        obtain ⟨h1, -⟩ := xcok_of hw.1
        exact xt_call hW hl h1 hmx hk (fun v S1 hM hbd => xt_invI F0' hW hl.1 hd hw.1 (hw.2.elim (fun z => Or.inl z.2) (fun z => Or.inr z.2)) hn hq8 hM hbd)
  | getstatic k =>
    cases h
    simp only [xwok, Bool.and_eq_true] at hw
    have h0 : x.1 = 0 := Nat.eq_of_beq_eq_true hw.1
    rw [h0] at hk
    exact va_gets hx hb hE.2.1 hW.2.2.1 hown (hts _ (xwd_in hw.2)) (fun _ h => h) hd (hk.2.2 _ _ _ _ _ hl hW)
  | ldc k =>
    cases h
    obtain ⟨t, k1, k2⟩ := xsk0_of hw
    have hZ := hE.2.2.2.2.2.2 _ _ _ _ k1
    rw [show x.1 - 1 + 1 = x.1 by omega] at hZ
    exact va_ldcS hx hb hown hZ hd (hk.2.2 _ _ _ _ _ hl hW)
  | ldc_w k =>
    cases h
    obtain ⟨t, k1, k2⟩ := xsk0_of hw
    have hZ := hE.2.2.2.2.2.2 _ _ _ _ k1
    rw [show x.1 - 1 + 1 = x.1 by omega] at hZ
    exact x_ldcW hx hb hown hZ hd (hk.2.2 _ _ _ _ _ hl hW)
  | tableswitch d lo hi offs =>
    obtain ⟨v, q, tgt, rfl, rfl, hc⟩ := xi_sw h
    rcases hc with ⟨h1, h2⟩ | ⟨h1, h2, off, h3, h4⟩
    · exact lv_tableOut hx hb hd h1 h2 (hk.2.2 _ _ _ _ _ hl hW)
    · exact lv_tableIn hx hb hd h1 h2 h3 h4 (hk.2.2 _ _ _ _ _ hl hW)
  | ireturn =>
    simp only [xst] at h; unfold xoret at h; split at h
    · split at h
      · cases h; exact hk
      · obtain ⟨-, h⟩ := xi_bif h; cases h; exact hk
      · cases h
    · cases h
  | lreturn =>
    simp only [xst] at h; unfold xolret at h; split at h
    · split at h
      · cases h; exact hk
      · cases h
    · cases h
  | areturn =>
    simp only [xst] at h; unfold xoaret at h; split at h
    · split at h
      · cases h; exact hk
      · cases h
    · cases h
  | return_ =>
    simp only [xst] at h; unfold xovret at h; split at h
    · split at h
      · cases h; exact hk
      · cases h
    · cases h
  | _ => exact absurd h (by simp [xst])
end XT
