-- deps: 84.env
/-! THE CLAIM OUT OF ONE WALK OF THE LAW'S BODY. Your part is whole_start (and what it stands on); all else here is the same for every law, but numbers. -/
def R_law : String := "RingRunnersLaw"
def lw_P (b : Addr) (xs : List Int32) (args : Array Value) (s : State) : Prop := args = #[.ref b] ∧ s.IntsAt b xs ∧ xs.length ≤ 3072 ∧ (Jvm.Cond.and given_1 narrow_1).before args s = true
def lw_Q (_ : Array Value) (s : State) (o : Outcome) (t : State) : Prop := o = .returned (some (.int 1)) ∧ Framed s o t [] 600000 7302249
def lw_Z (below : List Frame) (a : Array Value) (s : State) : State → Prop := fun t => ∃ o, t.status = .running ∧ Ended t below o ∧ lw_Q a s o t
/-- the law's own end, with 1 on the stack, nothing written that was there before, its room as the claim has it -/
theorem lw_ret {p : Program} {l : Launch} {e : Env} {s : State} {m : MethodId} {below : List Frame} {meth : Method} {c : Code} {b : Nat} (hx : p.tables.exec = Jvm.exec) (hb : c.code = code) (hr : meth.sig.returnType = ret) (hlocks : meth.locks = false) {pc : Nat} {H : Heap} {ls : Array Slot} (hdg : decode code pc = .ok (.ireturn, 1)) : W p l e room_1 s m #[Value.ref b] below meth c H [] 600000 7302249 (lw_Z below #[Value.ref b] s) (F0 m pc ls [.int 1]) := by
  intro T hT X
  obtain ⟨fs, hret, hrun, hended, hW, hframe⟩ := X.leave (v := some (.int 1)) (hlocks := hlocks) (fun h => by rw [hr] at h; cases h)
  have hmeth' : T.vm.method? m = some meth := X.method'
  refine ⟨T.setFrames fs, ?_, .returned (some (.int 1)), hrun, hended, rfl, ⟨_, rfl⟩, hW, hframe⟩
  jvm_step X.here [X.here.top, hx, hb, hdg, hmeth', hr, ret, narrow_b1]
  (try refine ⟨rfl, ?_⟩); (try refine ⟨rfl, ?_⟩)
  first | (intro acts; rw [hret _ acts rfl rfl rfl]) | rw [hret _ _ rfl rfl rfl]
  exact Steps.refl _
/-- what holds at the law's entry: the machine, the code, the tables' words (any of lw_tbl by 'hts w (by decide +kernel)'), the script of L ints xs at the cell b, what the Statement gives of the start (any of its parts by flat_of_before) -/
def lw_At (p : Program) (s : State) (m : MethodId) (meth : Method) (c : Code) (b L : Nat) (xs : Nat → Int32) : Prop :=
  p.tables.exec = Jvm.exec ∧ c.code = code ∧ meth.sig.returnType = ret ∧ c.maxLocals = 4 ∧ s.vm.findClass R_law = some m.cls ∧ (∀ w ∈ lw_tbl, w.before #[Value.ref b] s = true) ∧ va_X b L xs s s.heap ∧ b < s.heap.size ∧ meth.locks = false ∧ (Jvm.Cond.and given_1 narrow_1).before #[Value.ref b] s = true ∧ meth.name = x.name
/-- the heap at the law's entry: the script, the primes, the texts -/
noncomputable def w_S0 (b L : Nat) (xs : Nat → Int32) (t : Nat) (adK : Nat → Nat) (z : Nat) : xS :=
  (fun a => if a = b then some (.inr (6, (L, .inl xs))) else if a = t then some (.inr (6, (25, .inl (fun j => iI (xprl.getD j 0 : Nat))))) else @dite _ (∃ k, k < 9 ∧ adK k = a) (Classical.propDecidable _) (fun h => some (.inr (5, (wln.getD (Classical.choose h) 0, .inl (fun j => (wby2.getD (Classical.choose h) []).getD j 0))))) (fun _ => none), z, 0)
def w_P (t : Nat) (adK : Nat → Nat) (k : Nat) : Nat := match k with
  | 0 => t
  | k + 1 => adK k
theorem whole_start {p : Program} {e : Env} {s : State} {m : MethodId} {below : List Frame} {meth : Method} {c : Code} (l : Launch) (hflags : l.flags = flags0) {b L : Nat} {xs : Nat → Int32} (hL : L ≤ 3072) (C0 : lw_At p s m meth c b L xs) : W p l e room_1 s m #[Value.ref b] below meth c s.heap [] 0 0 (lw_Z below #[Value.ref b] s) (entryFrame m ([Value.ref b] : List Value).toArray 4) := by
  obtain ⟨hx, hc, hr, hml, hown, htl, hX, hbl, hlk, hgv, hnm⟩ := C0
  have hg : ∀ c ∈ wfl, c.before #[Value.ref b] s = true := flat_of_before _ hgv
  have hts : ∀ w ∈ xTW, w.before #[Value.ref b] s = true := fun w h => htl w (List.mem_filter.mp h).1
  have hA : ∀ a : Nat, a < s.heap.size → ¬ xA s.heap.size a := fun a h1 h2 => Nat.lt_irrefl _ (Nat.lt_of_lt_of_le h1 h2)
  obtain ⟨D, CA, hK⟩ := w_K htl hts
  obtain ⟨t, hZ, hT, cellP, hcP, hszP⟩ := w_primes hg htl hA
  obtain ⟨adK, adV, hS, hev⟩ := w_texts hg hA
  have hE : xEnv D CA s.heap.size (w_P t adK) s s.heap := by
    refine ⟨hK, hZ, va_AO.of (htl _ (lw_w (p := 1045) (by decide +kernel))), fun q hq => va_tabs rfl rfl (htl _ (w_nest q hq)), va_Zof (htl _ (lw_w (p := 2093) (by decide +kernel))) (htl _ (lw_w (p := 1014) (by decide +kernel))) (va_eqi (hg _ (by decide +kernel))) hA, va_Zqof (htl _ (lw_w (p := 2109) (by decide +kernel))) (htl _ (lw_w (p := 1016) (by decide +kernel))) (hg _ (by decide +kernel)) hA, fun k o i tx hk => vk_R.of (A := #[Value.ref b]) (htl _ (w_str k o i tx hk)) ?_⟩
    have h9 : k < 9 := (List.getElem?_eq_some_iff.mp hk).1
    have h := hev k h9
    unfold wtm at h
    rw [hk] at h
    exact h
  obtain ⟨scr, x1, x2, x3, x4, x5⟩ := hX
  have ltK : ∀ k, k < 9 → adK k < s.heap.size := fun k hk => by
    obtain ⟨⟨cell, g1, -⟩, -⟩ := hS.1 k hk
    exact (Array.getElem?_eq_some_iff.mp g1).1
  have ltT : t < s.heap.size := (Array.getElem?_eq_some_iff.mp hcP).1
  obtain ⟨cell2, t1, t2, t3, t4, t5, t6, t7⟩ := id hT
  have n1 : ∀ k, k < 9 → adK k ≠ b := fun k hk e => by
    obtain ⟨-, -, ⟨cf, kc, i, f, cell, g1, g2, g3, g4, g5, g6⟩, -⟩ := hS.1 k hk
    rw [e] at g3
    cases g3.symm.trans x1
    have lt : f.slot < scr.slots.size := (Array.getElem?_eq_some_iff.mp g5).1
    rw [x5 _ (by rw [← x4]; exact lt)] at g5
    cases g5
  have n2 : ∀ k, k < 9 → adK k ≠ t := fun k hk e => by
    obtain ⟨-, -, ⟨cf, kc, i, f, cell, g1, g2, g3, g4, g5, g6⟩, -⟩ := hS.1 k hk
    rw [e] at g3
    cases g3.symm.trans t1
    cases t1.symm.trans hcP
    have lt : f.slot < 25 := by rw [← hszP]; exact (Array.getElem?_eq_some_iff.mp g5).1
    rw [t6 _ lt] at g5
    cases g5
  have at_b : (w_S0 b L xs t adK s.heap.size).1 b = some (.inr (6, (L, .inl xs))) := if_pos rfl
  have at_k : ∀ k, k < 9 → (w_S0 b L xs t adK s.heap.size).1 (adK k) = some (.inr (5, (wln.getD k 0, .inl (fun j => (wby2.getD k []).getD j 0)))) := fun k hk => by
    have h : ∃ k', k' < 9 ∧ adK k' = adK k := ⟨k, hk, rfl⟩
    have ek : Classical.choose h = k := hS.2 _ _ (Classical.choose_spec h).1 hk (Classical.choose_spec h).2
    unfold w_S0
    dsimp only
    rw [if_neg (n1 k hk), if_neg (n2 k hk), dif_pos h]
    simp only [ek]
  have none_at : ∀ a, s.heap.size ≤ a → (w_S0 b L xs t adK s.heap.size).1 a = none := fun a ha => by
    unfold w_S0
    dsimp only
    rw [if_neg (by omega), if_neg (by omega), dif_neg]
    rintro ⟨k, hk, rfl⟩
    have := ltK k hk
    omega
  have hB : xLb (w_P t adK) b L xs s.heap.size (w_S0 b L xs t adK s.heap.size) := by
    refine ⟨hbl, fun k hk => ?_, at_b, ?_, ?_⟩
    · cases k with
      | zero => exact ltT
      | succ k => exact ltK k (by omega)
    · by_cases e : t = b
      · subst e
        cases x1.symm.trans hcP
        cases hcP.symm.trans t1
        refine ⟨xs, ?_, fun i hi => ?_⟩
        · show (w_S0 t L xs t adK s.heap.size).1 t = _
          rw [at_b, show L = 25 by omega]
        · have h1 := x5 i (by omega)
          rw [t6 i hi] at h1
          injection h1 with h1
          injection h1 with h1
          exact h1.symm
      · refine ⟨_, ?_, fun i hi => rfl⟩
        unfold w_S0 w_P
        dsimp only
        rw [if_neg e, if_pos rfl]
    · exact ⟨⟨_, at_k 0 (by decide), by decide +kernel⟩, ⟨_, at_k 1 (by decide), by decide +kernel⟩, ⟨_, at_k 2 (by decide), by decide +kernel⟩, ⟨_, at_k 3 (by decide), by decide +kernel⟩, ⟨_, at_k 4 (by decide), by decide +kernel⟩, ⟨_, at_k 5 (by decide), by decide +kernel⟩, ⟨_, at_k 6 (by decide), by decide +kernel⟩, ⟨_, at_k 7 (by decide), by decide +kernel⟩, ⟨_, at_k 8 (by decide), by decide +kernel⟩⟩
  have hP : xP D CA s.heap.size (w_S0 b L xs t adK s.heap.size).1 s s.heap := by
    intro a e he
    by_cases h1 : a = b
    · subst h1
      rw [at_b] at he
      cases he
      unfold xat
      dsimp only
      rw [if_neg (by decide), if_pos rfl]
      exact ⟨xs, rfl, scr, x1, x2, x3, by omega, by rw [x4], fun j hj => x5 j hj, hA _ hbl⟩
    · by_cases h2 : a = t
      · subst h2
        have e2 : (w_S0 b L xs a adK s.heap.size).1 a = some (.inr (6, (25, .inl (fun j => iI (xprl.getD j 0 : Nat))))) := by
          unfold w_S0
          dsimp only
          rw [if_neg h1, if_pos rfl]
        rw [e2] at he
        cases he
        unfold xat
        dsimp only
        rw [if_neg (by decide), if_pos rfl]
        exact ⟨_, rfl, hT⟩
      · by_cases h3 : ∃ k, k < 9 ∧ adK k = a
        · obtain ⟨k, hk, rfl⟩ := h3
          rw [at_k k hk] at he
          cases he
          unfold xat
          dsimp only
          rw [if_neg (by decide), if_neg (by decide), if_pos rfl]
          obtain ⟨g1, g2, g3, g4⟩ := hS.1 k hk
          have q1 : ∀ k : Nat, k < 9 → wln.getD k 0 < 128 := by decide +kernel
          have q2 : ∀ k : Nat, k < 9 → ∀ j : Nat, j < wln.getD k 0 → 0 ≤ ((wby2.getD k []).getD j 0).toInt ∧ ((wby2.getD k []).getD j 0).toInt < 128 := by decide +kernel
          exact ⟨_, rfl, q1 k hk, q2 k hk, adV k, g1, g2, g3, g4⟩
        · have e3 : (w_S0 b L xs t adK s.heap.size).1 a = none := by
            unfold w_S0
            dsimp only
            rw [if_neg h1, if_neg h2, dif_neg h3]
          rw [e3] at he
          cases he
  obtain ⟨T, ht, hT2⟩ := law_run (S := w_S0 b L xs t adK s.heap.size) hL hB none_at
  obtain ⟨n, hn⟩ := xrun_ex ht
  have F : xFx p s m #[Value.ref b] meth c room_1 D CA s.heap.size (w_P t adK) 332 := ⟨hx, hc, hml, hown, hts, hnm, hE, Nat.le_refl _, by decide +kernel, by decide +kernel⟩
  have hl := lv_entry [Value.ref b] (n := 4) (show 1 ≤ 4 by decide)
  have hz1 : T.2.1 = s.heap.size + 108 := congrArg Prod.fst hT2
  have hz2 : T.2.2 = 0 + 31081 := congrArg Prod.snd hT2
  rw [lg_entry_eq]
  refine (xall l D CA s.heap.size (w_P t adK) n).1 p e room_1 s m #[Value.ref b] below meth c (lw_Z below #[Value.ref b] s) 332 0 F (some (.int (iI 1))) T ?_ ?_ ?_ 0 (lv_args 0 [Value.ref b]) [] _ hn _ s.heap [] 0 0 hl ⟨hP, rfl, va_S.rf, rfl, rfl⟩
  · show T.2.1 ≤ s.heap.size + 600000
    omega
  · show T.2.2 ≤ 0 + 7302249
    omega
  · intro pc lv st S' ls H locs cells slots hn hl hW
    obtain ⟨i, x, h1, h2⟩ := xnx_of hn
    have e1 : T = S' := xge_step h2
    subst e1
    have hok := xiok_all 332 pc
    simp only [xiok, h1, Bool.and_eq_true, decide_eq_true_eq] at hok
    obtain ⟨hd, -⟩ := hok
    obtain ⟨w1, w2, w3, w4, w5⟩ := hW
    rcases xret_of h2 with ⟨rfl, w, rfl, hv, hrt⟩ | ⟨rfl, w, rfl, hv, hrt⟩ | ⟨rfl, w, C, rfl, hv, hrt⟩ | ⟨rfl, rfl, hv, hrt⟩
    · cases hv
      refine va_forget (fun q hq => w3.2.2 q hq) (W.widen (k := 600000) (n := 7302249) (by omega) (by omega) ?_)
      exact lw_ret hx hc hr hlk hd
    · cases hv
    · cases hv
    · cases hv
set_option maxHeartbeats 4000000 in
theorem lw_walk (l : Launch) (hflags : l.flags = flags0) (b : Addr) (xs : List Int32) : MetFree l x (headSpec (Jvm.Cond.code x code maxLocals ret :: tables_1) room_1) (lw_P b xs) (fun _ _ _ _ _ => True) lw_Q := by
  refine MetFree.of_bodyS (code := code) (maxLocals := maxLocals) (ret := ret) (by decide) ?_ ?_
  · intro args s m h hn
    obtain ⟨meth, c, h1, h2, h3, h4, h5, h6, -, -⟩ := Cond.code_spec hn (atoms_spec (ws := Jvm.Cond.code x code maxLocals ret :: tables_1) h _ List.mem_cons_self)
    exact ⟨meth, c, h1, h2, h3, h4, h5, h6⟩
  · intro p e s m args below meth c s₁ B hml0 hP _
    obtain ⟨rfl, hx, hbd, hgv⟩ := hP
    obtain ⟨scr, harrAt, hlist, hof, hsmall⟩ := hx
    obtain ⟨hcb, hkn, -, -⟩ := State.arrayAt?_spec harrAt
    have hown : s.vm.findClass R_law = some m.cls := findClass_of_methodNamed B.named
    have hts0 : ∀ c ∈ (Jvm.Cond.code x code maxLocals ret :: tables_1), c.before #[Value.ref b] s = true := atoms_spec (ws := Jvm.Cond.code x code maxLocals ret :: tables_1) B.pre
    have hts : ∀ w ∈ lw_tbl, w.before #[Value.ref b] s = true := k2_hts_sels lw_privs (fun w hw => hts0 w (List.mem_cons_of_mem _ hw)) lw_privs_ok
    have hml : c.maxLocals = 4 := B.maxLocals_eq (hts0 _ List.mem_cons_self)
    have X₀ : Stand p l e room_1 s m #[Value.ref b] below meth c s₁ [] 0 0 := Stand.of_body B
    have hh0 : s₁.heap = s.heap := by rw [B.state]; rfl
    have hsz : scr.slots.size = xs.length := by rw [← Array.length_toList, hlist, List.length_map]
    have hval : ∀ j : Nat, j < xs.length → scr.slots[j]? = some (.int (xs.getD j 0)) := fun j hj => by
      rw [← Array.getElem?_toList, hlist]
      simp [hj]
    have hbl : b < s.heap.size := (Array.getElem?_eq_some_iff.mp hcb).1
    have hX : va_X b xs.length (fun j => xs.getD j 0) s s.heap := ⟨scr, hcb, hof, hkn, hsz, hval⟩
    have K : W p l e room_1 s m #[Value.ref b] below meth c s₁.heap [] 0 0 (lw_Z below #[Value.ref b] s) (entryFrame m ([Value.ref b] : List Value).toArray 4) := by
      rw [hh0]
      exact whole_start l hflags hbd ⟨B.exec, B.bytes, B.returns, hml, hown, hts, hX, hbl, B.notSynchronized, hgv, (name_of_methodNamed B.named B.method).1⟩
    obtain ⟨t, a1, o, b1, b2, b3⟩ := K s₁ rfl X₀
    exact ⟨t, o, a1, b1, b2, b3⟩
theorem lw_pre_spec {args : Array Value} {s : State} (h : (Jvm.Cond.and given_1 narrow_1).before args s = true) (hr : rest_1_c.before args s = true) : ∃ (b : Addr) (xs : List Int32), lw_P b xs args s := by
  have hs := flat_of_before _ h
  have hq := flat_of_before _ hr
  have hc : (Cond.count 1).before args s = true := hs _ (by decide +kernel)
  have harr : (Cond.arrayOf (.arg 0) .int).before args s = true := hs _ (by decide +kernel)
  have hle : (Cond.le (.length (.arg 0)) (.int 3072)).before args s = true := hs _ (by decide +kernel)
  have hlen : (Cond.isInt (.length (.arg 0))).before args s = true := hq _ (by decide +kernel)
  have hall : (Cond.all (.arg 0) (.isInt (.elem (.arg 0) (.index 0)))).before args s = true := hq _ (by decide +kernel)
  obtain ⟨b, xs, hb, hx⟩ := State.ints_of_pre rfl harr hlen hall
  have hsm : xs.length < 2 ^ 31 := hx.choose_spec.2.2.2
  have hev : (Term.length (.arg 0)).eval args s none [] s = some (.int xs.length.toInt32) := hx.length_eval hb
  have hv := Cond.le_ints hev (show (Term.int 3072).eval args s none [] s = some (.int 3072) from rfl)
  have hd : xs.length.toInt32 ≤ 3072 := by
    simpa [Cond.before, Cond.holds, hv] using hle
  have hN : xs.length ≤ 3072 := (Int32.ofNat_le_ofNat hsm (by decide)).mp (show Int32.ofNat xs.length ≤ Int32.ofNat 3072 from hd)
  exact ⟨b, xs, Cond.one_arg hc (show args[0]? = some (.ref b) from hb), hx, hN, h⟩
theorem lw_comes (l : Launch) (hflags : l.flags = flags0) : Comes l x (Jvm.Cond.code x code maxLocals ret :: tables_1) room_1 (fun tb e args s => Calls_1 tb e args s ∧ rest_1 tb e args s ∧ Pre_1 tb e args s)
    (fun _ _ args s o t => lw_Q args s o t) := by
  intro p e ha hc hk s m args below hf hfit hheap happ hpre
  obtain ⟨b, xs, hP⟩ := lw_pre_spec hpre.2.2 hpre.2.1
  obtain ⟨k, o, h1, h2, h3, hQ⟩ := lw_walk l hflags b xs p e ha hc hk s m args below hf ((Spec.applies_iff_loose hf).mp happ).1 hP trivial
  exact ⟨k, o, h1, h2, h3, hQ⟩
theorem lw_frame {s t : State} {o : Outcome} {args : Array Value} (h : Framed s o t [] 600000 7302249) :
    Framed s o t (fieldLocs frame_1_writes args s ++ arrayLocs frame_1_arrays args s ++ staticLocs frame_1_statics s) 600000 7302249 := h
theorem lw_limb (L : Cond) (hL : ∀ (args : Array Value) (s t : State), L.after args s (.returned (some (.int 1))) t = true) :
    ArmFor flags0 classFile x code maxLocals ret World_1 tables_1 room_1 Calls_1 rest_1 Pre_1
      (fun tb e a s o t => postC L tb e a s o t ∧ Framed s o t (fieldLocs frame_1_writes a s ++ arrayLocs frame_1_arrays a s ++ staticLocs frame_1_statics s) 600000 7302249) := by
  intro l hflags _ _ p e ha hc hk s m args below hf hfit hheap happ hpre
  obtain ⟨k, o, h1, h2, h3, rfl, hF⟩ := lw_comes l hflags p e ha hc hk s m args below hf hfit hheap happ hpre
  exact ⟨k, _, h1, h2, h3, hL args s _, lw_frame hF⟩
theorem i_vc : Claimed_1_1 ∧ Claimed_1_2 := ⟨lw_limb limb_1_1 (fun args s t => by simp [limb_1_1, Cond.after, Cond.holds, Cond.value]), lw_limb limb_1_2 (fun args s t => Cond.after_iff.mpr (by
  first | (rw [show limb_1_2 = Cond.eq .result (.int 1) from rfl, Cond.eq_ints (x := 1) (y := 1) rfl rfl]; simp; done) | (simp [limb_1_2, Cond.value, Term.eval]; done)))⟩
