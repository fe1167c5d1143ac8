/-! a text's own calls: its length, a sign of it (the JDK's bytecode) -/
theorem dJ0_length_0 : decode cJ0_length_8abf5 0 = .ok (.aload_n 0, 1) := by decide +kernel
theorem dJ0_length_1 : decode cJ0_length_8abf5 1 = .ok (.getfield 9, 3) := by decide +kernel
theorem dJ0_length_4 : decode cJ0_length_8abf5 4 = .ok (.arraylength, 1) := by decide +kernel
theorem dJ0_length_5 : decode cJ0_length_8abf5 5 = .ok (.aload_n 0, 1) := by decide +kernel
theorem dJ0_length_6 : decode cJ0_length_8abf5 6 = .ok (.invokevirtual 335, 3) := by decide +kernel
theorem dJ0_length_9 : decode cJ0_length_8abf5 9 = .ok (.ishr, 1) := by decide +kernel
theorem dJ0_length_10 : decode cJ0_length_8abf5 10 = .ok (.ireturn, 1) := by decide +kernel
theorem dJ0_charAt_0 : decode cJ0_charAt_5068e 0 = .ok (.aload_n 0, 1) := by decide +kernel
theorem dJ0_charAt_1 : decode cJ0_charAt_5068e 1 = .ok (.invokevirtual 492, 3) := by decide +kernel
theorem dJ0_charAt_4 : decode cJ0_charAt_5068e 4 = .ok (.ifCond .eq 12, 3) := by decide +kernel
theorem dJ0_charAt_7 : decode cJ0_charAt_5068e 7 = .ok (.aload_n 0, 1) := by decide +kernel
theorem dJ0_charAt_8 : decode cJ0_charAt_5068e 8 = .ok (.getfield 9, 3) := by decide +kernel
theorem dJ0_charAt_11 : decode cJ0_charAt_5068e 11 = .ok (.iload_n 1, 1) := by decide +kernel
theorem dJ0_charAt_12 : decode cJ0_charAt_5068e 12 = .ok (.invokestatic 495, 3) := by decide +kernel
theorem dJ0_charAt_15 : decode cJ0_charAt_5068e 15 = .ok (.ireturn, 1) := by decide +kernel
theorem dJ0_coder_0 : decode cJ0_coder_7d493 0 = .ok (.getstatic 38, 3) := by decide +kernel
theorem dJ0_coder_3 : decode cJ0_coder_7d493 3 = .ok (.ifCond .eq 10, 3) := by decide +kernel
theorem dJ0_coder_6 : decode cJ0_coder_7d493 6 = .ok (.aload_n 0, 1) := by decide +kernel
theorem dJ0_coder_7 : decode cJ0_coder_7d493 7 = .ok (.getfield 15, 3) := by decide +kernel
theorem dJ0_coder_10 : decode cJ0_coder_7d493 10 = .ok (.goto 4, 3) := by decide +kernel
theorem dJ0_coder_14 : decode cJ0_coder_7d493 14 = .ok (.ireturn, 1) := by decide +kernel
theorem dJ0_isLatin1_0 : decode cJ0_isLatin1_aae02 0 = .ok (.getstatic 38, 3) := by decide +kernel
theorem dJ0_isLatin1_3 : decode cJ0_isLatin1_aae02 3 = .ok (.ifCond .eq 14, 3) := by decide +kernel
theorem dJ0_isLatin1_6 : decode cJ0_isLatin1_aae02 6 = .ok (.aload_n 0, 1) := by decide +kernel
theorem dJ0_isLatin1_7 : decode cJ0_isLatin1_aae02 7 = .ok (.getfield 15, 3) := by decide +kernel
theorem dJ0_isLatin1_10 : decode cJ0_isLatin1_aae02 10 = .ok (.ifCond .ne 7, 3) := by decide +kernel
theorem dJ0_isLatin1_13 : decode cJ0_isLatin1_aae02 13 = .ok (.iconst 1, 1) := by decide +kernel
theorem dJ0_isLatin1_14 : decode cJ0_isLatin1_aae02 14 = .ok (.goto 4, 3) := by decide +kernel
theorem dJ0_isLatin1_18 : decode cJ0_isLatin1_aae02 18 = .ok (.ireturn, 1) := by decide +kernel
theorem dJ0_checkIndex_0 : decode cJ0_checkIndex_df160 0 = .ok (.iload_n 0, 1) := by decide +kernel
theorem dJ0_checkIndex_1 : decode cJ0_checkIndex_df160 1 = .ok (.iload_n 1, 1) := by decide +kernel
theorem dJ0_checkIndex_2 : decode cJ0_checkIndex_df160 2 = .ok (.getstatic 1053, 3) := by decide +kernel
theorem dJ0_checkIndex_5 : decode cJ0_checkIndex_df160 5 = .ok (.invokestatic 1059, 3) := by decide +kernel
theorem dJ0_checkIndex_8 : decode cJ0_checkIndex_df160 8 = .ok (.pop, 1) := by decide +kernel
theorem dJ0_checkIndex_9 : decode cJ0_checkIndex_df160 9 = .ok (.return_, 1) := by decide +kernel
theorem dJ1_charAt_0 : decode cJ1_charAt_3b067 0 = .ok (.iload_n 1, 1) := by decide +kernel
theorem dJ1_charAt_1 : decode cJ1_charAt_3b067 1 = .ok (.aload_n 0, 1) := by decide +kernel
theorem dJ1_charAt_2 : decode cJ1_charAt_3b067 2 = .ok (.arraylength, 1) := by decide +kernel
theorem dJ1_charAt_3 : decode cJ1_charAt_3b067 3 = .ok (.invokestatic 9, 3) := by decide +kernel
theorem dJ1_charAt_6 : decode cJ1_charAt_3b067 6 = .ok (.aload_n 0, 1) := by decide +kernel
theorem dJ1_charAt_7 : decode cJ1_charAt_3b067 7 = .ok (.iload_n 1, 1) := by decide +kernel
theorem dJ1_charAt_8 : decode cJ1_charAt_3b067 8 = .ok (.baload, 1) := by decide +kernel
theorem dJ1_charAt_9 : decode cJ1_charAt_3b067 9 = .ok (.sipush 255, 3) := by decide +kernel
theorem dJ1_charAt_12 : decode cJ1_charAt_3b067 12 = .ok (.iand, 1) := by decide +kernel
theorem dJ1_charAt_13 : decode cJ1_charAt_3b067 13 = .ok (.i2c, 1) := by decide +kernel
theorem dJ1_charAt_14 : decode cJ1_charAt_3b067 14 = .ok (.ireturn, 1) := by decide +kernel
theorem dJ3_checkIndex_0 : decode cJ3_checkIndex_8e157 0 = .ok (.iload_n 0, 1) := by decide +kernel
theorem dJ3_checkIndex_1 : decode cJ3_checkIndex_8e157 1 = .ok (.ifCond .lt 8, 3) := by decide +kernel
theorem dJ3_checkIndex_4 : decode cJ3_checkIndex_8e157 4 = .ok (.iload_n 0, 1) := by decide +kernel
theorem dJ3_checkIndex_5 : decode cJ3_checkIndex_8e157 5 = .ok (.iload_n 1, 1) := by decide +kernel
theorem dJ3_checkIndex_6 : decode cJ3_checkIndex_8e157 6 = .ok (.if_icmp .lt 10, 3) := by decide +kernel
theorem dJ3_checkIndex_16 : decode cJ3_checkIndex_8e157 16 = .ok (.iload_n 0, 1) := by decide +kernel
theorem dJ3_checkIndex_17 : decode cJ3_checkIndex_8e157 17 = .ok (.ireturn, 1) := by decide +kernel
theorem xw_init0 : Jvm.Cond.initialized RJ0 ∈ xTW := xwd_in (p := 1014) (by decide +kernel)
theorem xw_init1 : Jvm.Cond.initialized RJ1 ∈ xTW := xwd_in (p := 1015) (by decide +kernel)
theorem xw_init3 : Jvm.Cond.initialized RJ3 ∈ xTW := xwd_in (p := 1016) (by decide +kernel)
theorem xw_len_i : Jvm.Cond.instanceMethod yJ0_length_8abf5 ∈ xTW := xwd_in (p := 2085) (by decide +kernel)
theorem xw_len_s : Jvm.Cond.selects RJ0 yJ0_length_8abf5 yJ0_length_8abf5 ∈ xTW := xwd_in (p := 2086) (by decide +kernel)
theorem xw_len_c : Jvm.Cond.code yJ0_length_8abf5 cJ0_length_8abf5 1 (some .int) ∈ xTW := xwd_in (p := 2087) (by decide +kernel)
theorem xw_cod_l : Jvm.Cond.methodLink RJ0 335 yJ0_coder_7d493 ∈ xTW := xwd_in (p := 2088) (by decide +kernel)
theorem xw_cod_i : Jvm.Cond.instanceMethod yJ0_coder_7d493 ∈ xTW := xwd_in (p := 2089) (by decide +kernel)
theorem xw_cod_s : Jvm.Cond.selects RJ0 yJ0_coder_7d493 yJ0_coder_7d493 ∈ xTW := xwd_in (p := 2090) (by decide +kernel)
theorem xw_cod_c : Jvm.Cond.code yJ0_coder_7d493 cJ0_coder_7d493 1 (some .byte) ∈ xTW := xwd_in (p := 2091) (by decide +kernel)
theorem xw_com_f : Jvm.Cond.fieldLink RJ0 38 "java/lang/String" "COMPACT_STRINGS" "Z" ∈ xTW := xwd_in (p := 2092) (by decide +kernel)
theorem xw_cha_i : Jvm.Cond.instanceMethod yJ0_charAt_5068e ∈ xTW := xwd_in (p := 2095) (by decide +kernel)
theorem xw_cha_s : Jvm.Cond.selects RJ0 yJ0_charAt_5068e yJ0_charAt_5068e ∈ xTW := xwd_in (p := 2096) (by decide +kernel)
theorem xw_cha_c : Jvm.Cond.code yJ0_charAt_5068e cJ0_charAt_5068e 2 (some .char) ∈ xTW := xwd_in (p := 2097) (by decide +kernel)
theorem xw_lat_l : Jvm.Cond.methodLink RJ0 492 yJ0_isLatin1_aae02 ∈ xTW := xwd_in (p := 2098) (by decide +kernel)
theorem xw_lat_i : Jvm.Cond.instanceMethod yJ0_isLatin1_aae02 ∈ xTW := xwd_in (p := 2099) (by decide +kernel)
theorem xw_lat_s : Jvm.Cond.selects RJ0 yJ0_isLatin1_aae02 yJ0_isLatin1_aae02 ∈ xTW := xwd_in (p := 2100) (by decide +kernel)
theorem xw_lat_c : Jvm.Cond.code yJ0_isLatin1_aae02 cJ0_isLatin1_aae02 1 (some .boolean) ∈ xTW := xwd_in (p := 2101) (by decide +kernel)
theorem xw_ch1_l : Jvm.Cond.methodLink RJ0 495 yJ1_charAt_3b067 ∈ xTW := xwd_in (p := 2102) (by decide +kernel)
theorem xw_ch1_s : Jvm.Cond.static yJ1_charAt_3b067 ∈ xTW := xwd_in (p := 2103) (by decide +kernel)
theorem xw_ch1_c : Jvm.Cond.code yJ1_charAt_3b067 cJ1_charAt_3b067 2 (some .char) ∈ xTW := xwd_in (p := 2104) (by decide +kernel)
theorem xw_chk_l : Jvm.Cond.methodLink RJ1 9 yJ0_checkIndex_df160 ∈ xTW := xwd_in (p := 2105) (by decide +kernel)
theorem xw_chk_s : Jvm.Cond.static yJ0_checkIndex_df160 ∈ xTW := xwd_in (p := 2106) (by decide +kernel)
theorem xw_chk_c : Jvm.Cond.code yJ0_checkIndex_df160 cJ0_checkIndex_df160 2 none ∈ xTW := xwd_in (p := 2107) (by decide +kernel)
theorem xw_sio_f : Jvm.Cond.fieldLink RJ0 1053 "jdk/internal/util/Preconditions" "SIOOBE_FORMATTER" "Ljava/util/function/BiFunction;" ∈ xTW := xwd_in (p := 2108) (by decide +kernel)
theorem xw_pre_l : Jvm.Cond.methodLink RJ0 1059 yJ3_checkIndex_8e157 ∈ xTW := xwd_in (p := 2110) (by decide +kernel)
theorem xw_pre_s : Jvm.Cond.static yJ3_checkIndex_8e157 ∈ xTW := xwd_in (p := 2111) (by decide +kernel)
theorem xw_pre_c : Jvm.Cond.code yJ3_checkIndex_8e157 cJ3_checkIndex_8e157 3 (some .int) ∈ xTW := xwd_in (p := 2112) (by decide +kernel)
theorem xw_val_f : Jvm.Cond.fieldLink RJ0 9 "java/lang/String" "value" "[B" ∈ xTW := xwd_in (p := 8094) (by decide +kernel)
theorem xw_cdr_f : Jvm.Cond.fieldLink RJ0 15 "java/lang/String" "coder" "B" ∈ xTW := xwd_in (p := 8095) (by decide +kernel)
/-- a method is met by a walk of its body; her name alone has no row of the machine's own -/
theorem x_ofW {l : Launch} {y : MethodName} {ws ws' : List Jvm.Cond} {rm : Room} {Pc : Array Value → State → Prop} {Qc : Array Value → State → Outcome → State → Prop} {mc ms : Nat} {free : Addr → Prop} {cc : ByteArray} {maxL : Nat} {ret : Option FieldType}
    (hy : plainFor y = true) (hw : ws = Jvm.Cond.code y cc maxL ret :: ws')
    (body : ∀ p e s m args below meth c s₁, BodyLoose p l y (headSpec ws rm) cc maxL ret e s m args below meth c s₁ → c.maxLocals = maxL → Pc args s →
      W p l e (headSpec ws rm).room s m args below meth c s.heap [] 0 0 (MQ below Qc args s mc ms free) (entryFrame m args maxL)) : Met l y ws rm Pc Qc mc ms free := by
  refine MetFree.of_bodySF (code := cc) (maxLocals := maxL) (ret := ret) hy (fun a st k h hn => ?_) (fun p e s m args below meth c s₁ B hml hP _ => ?_)
  · obtain ⟨meth, c, q⟩ := Cond.code_spec hn (atoms_spec (ws := ws) h _ (hw ▸ List.mem_cons_self))
    exact ⟨meth, c, q.1, q.2.1, q.2.2.1, q.2.2.2.1, q.2.2.2.2.1, q.2.2.2.2.2.1⟩
  · have e0 : s₁.heap = s.heap := (congrArg State.heap B.state).trans rfl
    obtain ⟨t, k1, o, k2, k3, k4⟩ := body p e s m args below meth c s₁ B hml hP s₁ e0 (Stand.of_body B)
    exact ⟨t, o, k1, k2, k3, k4.1, k4.2⟩
/-- rows of bytes that nobody writes -/
def xTE (z0 : Nat) (E : List (Nat × Nat × (Nat → Int32))) (U : State) (H : Heap) : Prop := ∀ q ∈ E, va_T .byte q.1 q.2.1 (fun j => .int (q.2.2 j)) (xA z0) U H
/-- the contract of such a call: nothing is written, nothing is made -/
def xMeT (l : Launch) (D : va_G) (CA : Nat → ClassId) (z0 : Nat) (P : Nat → Nat) (E : List (Nat × Nat × (Nat → Int32))) (y : MethodName) (cc : ByteArray) (nL : Nat) (ret : Option FieldType) (fr lr : Nat) (a : List Value) (S : xS) (v : Option Value) : Prop :=
  Met l y (Jvm.Cond.code y cc nL ret :: xTW) { frames := fr, cells := 0, slots := 0, locals := lr } (va_Pc a (fun U => U.heap.size = S.2.1 ∧ z0 ≤ S.2.1 ∧ xP D CA z0 S.1 U U.heap ∧ xEnv D CA z0 P U U.heap ∧ xTE z0 E U U.heap))
    (fun _ st oc t => oc = .returned v ∧ t.heap.size = S.2.1 ∧ xP D CA z0 S.1 t t.heap ∧ va_F (xA z0) st t) 0 0 (xA z0)
section XTX
variable {p : Program} {l : Launch} {e : Env} {R : Room} {s : State} {m : MethodId} {args : Array Value} {below : List Frame} {meth : Method} {c : Code} {Q : State → Prop} {D : va_G} {CA : Nat → ClassId} {z0 s0 pc : Nat} {P : Nat → Nat}
variable {H : Heap} {locs : List Loc} {cells slots : Nat} {ls : Array Slot} {S : xS}
/-- what holds throughout such a walk -/
def xTB (p : Program) (s : State) (m : MethodId) (args : Array Value) (c : Code) (D : va_G) (CA : Nat → ClassId) (z0 : Nat) (P : Nat → Nat) (S : xS) (own : String) (cc : ByteArray) (nL : Nat) : Prop :=
  p.tables.exec = Jvm.exec ∧ c.code = cc ∧ c.maxLocals = nL ∧ s.vm.findClass own = some m.cls ∧ (∀ w ∈ xTW, w.before args s = true) ∧ xEnv D CA z0 P s s.heap ∧ z0 ≤ s.heap.size
theorem xTx_at {b n : Nat} {f : Nat → Int32} (h : xat D CA z0 s H b (.inr (5, (n, .inl f)))) : xTx z0 s H b n f := by
  unfold xat at h
  dsimp only at h
  rw [if_neg (by decide), if_neg (by decide), if_pos rfl] at h
  obtain ⟨f', h1, h2⟩ := h
  cases h1
  exact h2
theorem xblindT {a : List Value} {E : List (Nat × Nat × (Nat → Int32))} : FrameBlind (va_Pc a (fun U => U.heap.size = S.2.1 ∧ z0 ≤ S.2.1 ∧ xP D CA z0 S.1 U U.heap ∧ xEnv D CA z0 P U U.heap ∧ xTE z0 E U U.heap)) := by
  intro a' U g mk q
  obtain ⟨q0, q1, q2, q3, q4, q5⟩ := q
  obtain ⟨r0, r1, r2, r3, r4⟩ := xblind (S := S) (D := D) (CA := CA) (z0 := z0) (P := P) a' U g mk ⟨q0, q1, q2, q3, q4⟩
  exact ⟨r0, r1, r2, r3, r4, fun x hx => (q5 x hx).moved (u := U) (U := U.calling g mk a') (Vm.Alike.refl U.vm)⟩
theorem xpreT {E : List (Nat × Nat × (Nat → Int32))} (hT : xTE z0 E s s.heap) (hE : xEnv D CA z0 P s s.heap) (hz0 : z0 ≤ s.heap.size) (hW : xWd D CA z0 s0 s H locs cells slots S) {a : List Value} : ∀ U : State, U.heap = H → s.WarmedH U.vm → va_Pc a (fun U => U.heap.size = S.2.1 ∧ z0 ≤ S.2.1 ∧ xP D CA z0 S.1 U U.heap ∧ xEnv D CA z0 P U U.heap ∧ xTE z0 E U U.heap) a.toArray U := by
  intro U hU hWm
  obtain ⟨h1, h2, h3, h4, h5⟩ := hW
  refine ⟨rfl, by rw [hU]; exact h2, by omega, by rw [hU]; exact h1.moved hWm.alike, ?_⟩
  rw [hU]
  exact ⟨xEnv.moved hWm (fun b hb hn => h3.2.1 b hb hn) hE, fun x hx => ((hT x hx).moved hWm.alike).kept (fun b hb hn => h3.2.1 b hb hn)⟩
theorem xGoodT {w0 : Jvm.Cond} (h : w0 ∈ xTW) : GoodIn xTW (w0 :: xTW) := by
  intro w hw
  rcases List.mem_cons.mp hw with rfl | hw
  · exact ⟨h, xTW_good _ h⟩
  · exact ⟨hw, xTW_good _ hw⟩
theorem xkT {v : Option Value} {st0 rest : List Value} (hW : xWd D CA z0 s0 s H locs cells slots S) (hr : va_Run p l e R s m args below meth c H locs cells slots 0 0 (F0 m pc ls st0) rest (fun st oc t => oc = .returned v ∧ t.heap.size = S.2.1 ∧ xP D CA z0 S.1 t t.heap ∧ va_F (xA z0) st t) (xA z0))
    (kk : ∀ (H1 : Heap) (locs1 : List Loc), xWd D CA z0 s0 s H1 locs1 cells slots S → W p l e R s m args below meth c H1 locs1 cells slots Q (F0 m (pc + 3) ls (v.toList ++ rest))) : W p l e R s m args below meth c H locs cells slots Q (F0 m pc ls st0) :=
  x_call hr hW.2.2.1 (fun H1 locs1 hz hp hS => kk H1 locs1 ⟨hp, hz, hS, hW.2.2.2.1, hW.2.2.2.2⟩)
/-- a static one -/
theorem xT_S {own : String} {cc : ByteArray} {nL : Nat} (B : xTB p s m args c D CA z0 P S own cc nL) (hW : xWd D CA z0 s0 s H locs cells slots S) (hl : ls.size = nL) {k : Nat} (hd : decode cc pc = .ok (.invokestatic k, 3)) {y : MethodName} {cc' : ByteArray} {nL' fr lr : Nat} {ret : Option FieldType} {as q : List Value} {v : Option Value} {E : List (Nat × Nat × (Nat → Int32))} (hM : xMeT l D CA z0 P E y cc' nL' ret fr lr as S v) (hT : xTE z0 E s s.heap) (hlink : Jvm.Cond.methodLink own k y ∈ xTW) (hst : Jvm.Cond.static y ∈ xTW) (hini : Jvm.Cond.initialized y.cls ∈ xTW) (hcode : Jvm.Cond.code y cc' nL' ret ∈ xTW)
    (hy : y.cls ≠ "java/lang/invoke/MethodHandle" ∧ y.cls ≠ "java/lang/invoke/VarHandle" ∧ (parseMethodDescriptor y.desc).map (fun d => d.parameters.length) = some as.length) (hR : fr + 1 ≤ R.frames ∧ 8 + (nL' + 11) + lr ≤ R.locals) (hq : xcs q ≤ 8) (hbd : cells ≤ R.cells ∧ slots ≤ R.slots)
    (kk : ∀ (H1 : Heap) (locs1 : List Loc), xWd D CA z0 s0 s H1 locs1 cells slots S → W p l e R s m args below meth c H1 locs1 cells slots Q (F0 m (pc + 3) ls (v.toList ++ q))) : W p l e R s m args below meth c H locs cells slots Q (F0 m pc ls (as.reverse ++ q)) := by
  obtain ⟨hx, hb, hml, hown, hts, hE, hz0⟩ := B
  exact xkT hW (va_runS (As := as) (rest := q) (Ts := xTW) ⟨hx, hb, hml, hown, hts⟩ hM ⟨callB_of as.length hts (xGoodT hcode) rfl rfl rfl (hts _ hini) (hts _ hlink) hy hR, hts _ hst⟩ ⟨xblindT, xpreT hT hE hz0 hW⟩ rfl rfl hl rfl (lv_room hq) hd hbd) kk
/-- one of a text -/
theorem xT_V {own : String} {cc : ByteArray} {nL : Nat} (B : xTB p s m args c D CA z0 P S own cc nL) (hW : xWd D CA z0 s0 s H locs cells slots S) (hl : ls.size = nL) {k b n : Nat} {f : Nat → Int32} (hb0 : S.1 b = some (.inr (5, (n, .inl f)))) (hd : decode cc pc = .ok (.invokevirtual k, 3)) {y : MethodName} {cc' : ByteArray} {nL' fr lr : Nat} {ret : Option FieldType} {as q : List Value} {v : Option Value} (hM : xMeT l D CA z0 P [] y cc' nL' ret fr lr (.ref b :: as) S v) (hlink : Jvm.Cond.methodLink own k y ∈ xTW) (hin : Jvm.Cond.instanceMethod y ∈ xTW) (hse : Jvm.Cond.selects "java/lang/String" y y ∈ xTW) (hini : Jvm.Cond.initialized y.cls ∈ xTW) (hcode : Jvm.Cond.code y cc' nL' ret ∈ xTW)
    (hy : y.cls ≠ "java/lang/invoke/MethodHandle" ∧ y.cls ≠ "java/lang/invoke/VarHandle" ∧ (parseMethodDescriptor y.desc).map (fun d => d.parameters.length) = some as.length) (hR : fr + 1 ≤ R.frames ∧ 8 + (nL' + 11) + lr ≤ R.locals) (hq : xcs q ≤ 8) (hbd : cells ≤ R.cells ∧ slots ≤ R.slots)
    (kk : ∀ (H1 : Heap) (locs1 : List Loc), xWd D CA z0 s0 s H1 locs1 cells slots S → W p l e R s m args below meth c H1 locs1 cells slots Q (F0 m (pc + 3) ls (v.toList ++ q))) : W p l e R s m args below meth c H locs cells slots Q (F0 m pc ls (as.reverse ++ .ref b :: q)) := by
  obtain ⟨hx, hb, hml, hown, hts, hE, hz0⟩ := B
  have hT : xat D CA z0 s H b (.inr (5, (n, .inl f))) := hW.1 b _ hb0
  obtain ⟨-, -, v', ⟨cell, k1, k2, k3, -⟩, -⟩ := xTx_at hT
  exact xkT hW (va_runV (C := "java/lang/String") (As := as) (rest := q) (Ts := xTW) ⟨hx, hb, hml, hown, hts⟩ hM ⟨callB_of as.length hts (xGoodT hcode) rfl rfl rfl (hts _ hini) (hts _ hlink) hy hR, hts _ hin, hts _ hse⟩ ⟨xblindT, ⟨cell, k1, k2, k3⟩, xpreT (fun _ z => by cases z) hE hz0 hW⟩ rfl rfl hl rfl (lv_room hq) hd hbd) kk
/-- such a method's walk from its entry to its end -/
theorem xT_of {y : MethodName} {cc : ByteArray} {nL fr lr : Nat} {ret : Option FieldType} {a : List Value} {v : Option Value} {E : List (Nat × Nat × (Nat → Int32))} (hy : plainFor y = true) (hcs : xcs a ≤ nL)
    (body : ∀ (p : Program) (e : Env) (s : State) (m : MethodId) (below : List Frame) (meth : Method) (c : Code) (R : Room), R = { frames := fr, cells := 0, slots := 0, locals := lr } → xTB p s m a.toArray c D CA z0 P S y.cls cc nL → xP D CA z0 S.1 s s.heap → xTE z0 E s s.heap → ∀ Q : State → Prop,
      (∀ (ty : FieldType) (w : Int32), ret = some ty → narrow ty (.int w) = .int w → v = some (.int w) → ∀ (pc : Nat) (ls : Array Slot) (H : Heap) (locs : List Loc), xWd D CA z0 S.2.2 s H locs 0 0 S → decode cc pc = .ok (.ireturn, 1) → W p l e R s m a.toArray below meth c H locs 0 0 Q (F0 m pc ls [.int w])) →
      (ret = none → v = none → ∀ (pc : Nat) (ls : Array Slot) (H : Heap) (locs : List Loc), xWd D CA z0 S.2.2 s H locs 0 0 S → decode cc pc = .ok (.return_, 1) → W p l e R s m a.toArray below meth c H locs 0 0 Q (F0 m pc ls [])) →
      ∀ ls : Array Slot, lv_has ls nL (lv_args 0 a) → xWd D CA z0 S.2.2 s s.heap [] 0 0 S → W p l e R s m a.toArray below meth c s.heap [] 0 0 Q (F0 m 0 ls [])) : xMeT l D CA z0 P E y cc nL ret fr lr a S v := by
  refine x_ofW (cc := cc) (maxL := nL) (ret := ret) hy rfl ?_
  intro p e s m args below meth c s₁ B hml hv
  obtain ⟨rfl, hsz, hz0, hP, hE, hT⟩ := hv
  have hts := atoms_spec (ws := Jvm.Cond.code y cc nL ret :: xTW) B.pre
  have hown : s.vm.findClass y.cls = some m.cls := findClass_of_methodNamed B.named
  have hlocks := B.notSynchronized
  have hr := B.returns
  have hl := lv_entry a (n := nL) (by rw [xcs_len]; exact hcs)
  rw [lg_entry_eq]
  have hb := B.bytes
  have hx := B.exec
  have hq : ∀ (H : Heap) (locs : List Loc), xWd D CA z0 S.2.2 s H locs 0 0 S → ∀ t : State, t.heap = H → s.WarmedH t.vm → (fun (_ : Array Value) st oc t => oc = Outcome.returned v ∧ t.heap.size = S.2.1 ∧ xP D CA z0 S.1 t t.heap ∧ va_F (xA z0) st t) a.toArray s (.returned v) t := by
    intro H locs hW t ht hWt
    exact ⟨rfl, by rw [ht]; exact hW.2.1, by rw [ht]; exact hW.1.moved hWt.alike, hW.2.2.1.F ht⟩
  refine body p e s m below meth c _ rfl ⟨hx, hb, hml, hown, fun w h => hts w (List.mem_cons_of_mem _ h), hE, by omega⟩ hP hT _ ?_ ?_ _ hl ⟨hP, hsz, va_S.rf, by omega, rfl⟩
  · intro ty w h1 h2 h3 pc ls H locs hW hd
    subst h3
    exact W.zret hx hb (hr.trans h1) h2 (hq H locs hW) hW.2.2.1.2.2 hd
  · intro h1 h3 pc ls H locs hW hd
    subst h3
    exact W.vret hx hb (hr.trans h1) (hq H locs hW) hW.2.2.1.2.2 hd
/-- Preconditions.checkIndex -/
theorem xT_pre {i n : Int32} {w : Value} (hw : w.category = 1) (h0 : ¬ i < 0) (h1 : i < n) : xMeT l D CA z0 P [] yJ3_checkIndex_8e157 cJ3_checkIndex_8e157 3 (some .int) 0 0 [.int i, .int n, w] S (some (.int i)) := by
  refine xT_of (by decide) (by show (Value.int i).category + ((Value.int n).category + (w.category + 0)) ≤ 3; rw [hw]; exact Nat.le_refl _) ?_
  intro p e s m below meth c R hR B hP hTE Q kr kv ls hl hW
  obtain ⟨hx, hb, hml, hown, hts, hE, hz0⟩ := B
  have l0 : ls[0]? = some (.val (.int i)) := lv_at hl 0 rfl
  have l1 : ls[1]? = some (.val (.int n)) := lv_at hl 1 rfl
  refine lv_iload_n hx hb dJ3_checkIndex_0 rfl l0 ?_
  refine lv_if_lt hx hb dJ3_checkIndex_1 (tgt := 9) rfl (fun z => absurd z h0) (fun _ => ?_)
  refine lv_iload_n hx hb dJ3_checkIndex_4 rfl l0 ?_
  refine lv_iload_n hx hb dJ3_checkIndex_5 rfl l1 ?_
  refine lv_icmp_lt hx hb dJ3_checkIndex_6 (tgt := 16) rfl (fun _ => ?_) (fun z => absurd h1 z)
  refine lv_iload_n hx hb dJ3_checkIndex_16 rfl l0 ?_
  exact kr .int i rfl rfl rfl 17 ls _ _ hW dJ3_checkIndex_17
/-- String.checkIndex -/
theorem xT_chk {i n : Int32} (h0 : ¬ i < 0) (h1 : i < n) : xMeT l D CA z0 P [] yJ0_checkIndex_df160 cJ0_checkIndex_df160 2 none 1 22 [.int i, .int n] S none := by
  refine xT_of (by decide) (Nat.le_of_eq rfl) ?_
  intro p e s m below meth c R hR B hP hTE Q kr kv ls hl hW
  have B' := B
  obtain ⟨hx, hb, hml, hown, hts, hE, hz0⟩ := B
  have l0 : ls[0]? = some (.val (.int i)) := lv_at hl 0 rfl
  have l1 : ls[1]? = some (.val (.int n)) := lv_at hl 1 rfl
  have go : ∀ w : Value, w.category = 1 → va_Z "jdk/internal/util/Preconditions" "SIOOBE_FORMATTER" "Ljava/util/function/BiFunction;" w (xA z0) s s.heap → W p l e R s m ([.int i, .int n] : List Value).toArray below meth c s.heap [] 0 0 Q (F0 m 0 ls []) := by
    intro w hw hZ
    refine lv_iload_n hx hb dJ0_checkIndex_0 rfl l0 ?_
    refine lv_iload_n hx hb dJ0_checkIndex_1 rfl l1 ?_
    refine va_gets hx hb hZ hW.2.2.1 hown (hts _ xw_sio_f) (fun _ h => h) dJ0_checkIndex_2 ?_
    refine xT_S (as := [.int i, .int n, w]) (q := []) B' hW hl.1 dJ0_checkIndex_5 (xT_pre hw h0 h1) (fun _ z => by cases z) xw_pre_l xw_pre_s xw_init3 xw_pre_c ⟨by decide, by decide, (by decide +kernel : (parseMethodDescriptor yJ3_checkIndex_8e157.desc).map (fun d => d.parameters.length) = some 3)⟩ (by subst hR; decide) (by decide) (by subst hR; decide) (fun H1 locs1 hW1 => ?_)
    refine lv_pop hx hb dJ0_checkIndex_8 rfl ?_
    exact kv rfl rfl 9 ls _ _ hW1 dJ0_checkIndex_9
  rcases hE.2.2.2.2.2.1 with hZ | ⟨t, hZ⟩
  · exact go .null rfl hZ
  · exact go (.ref t) rfl hZ
/-- StringLatin1.charAt -/
theorem xT_ch1 {v n : Nat} {f : Nat → Int32} {i : Int32} (hn : n < 128) (hf : ∀ j, j < n → 0 ≤ (f j).toInt ∧ (f j).toInt < 128) (h0 : ¬ i < 0) (h1 : i.toNatClampNeg < n) : xMeT l D CA z0 P [(v, n, f)] yJ1_charAt_3b067 cJ1_charAt_3b067 2 (some .char) 2 43 [.ref v, .int i] S (some (.int (f i.toNatClampNeg))) := by
  have hb0 := hf _ h1
  have hin : i < Int32.ofNat n := by
    rw [Int32.lt_iff_toInt_lt, Int32.toInt_ofNat_of_lt (by omega)]
    have : i.toInt.toNat < n := h1
    have : ¬ i.toInt < 0 := fun z => h0 (Int32.lt_iff_toInt_lt.mpr (by simpa using z))
    omega
  have e1 : f i.toNatClampNeg &&& Int32.ofInt 255 = f i.toNatClampNeg := by
    have key : ∀ k : Fin 128, (Int32.ofInt (k.val : Int)) &&& Int32.ofInt 255 = Int32.ofInt (k.val : Int) := by decide +kernel
    have := key ⟨(f i.toNatClampNeg).toInt.toNat, by omega⟩
    dsimp only at this
    rw [Int.toNat_of_nonneg hb0.1, Int32.ofInt_toInt] at this
    exact this
  have e2 : ((f i.toNatClampNeg).toUInt32 % 65536).toInt32 = f i.toNatClampNeg := by
    have key : ∀ k : Fin 128, ((Int32.ofInt (k.val : Int)).toUInt32 % 65536).toInt32 = Int32.ofInt (k.val : Int) := by decide +kernel
    have := key ⟨(f i.toNatClampNeg).toInt.toNat, by omega⟩
    dsimp only at this
    rw [Int.toNat_of_nonneg hb0.1, Int32.ofInt_toInt] at this
    exact this
  have e3 : narrow .char (.int (f i.toNatClampNeg)) = .int (f i.toNatClampNeg) := by
    have key : ∀ k : Fin 128, narrow .char (.int (Int32.ofInt (k.val : Int))) = .int (Int32.ofInt (k.val : Int)) := by decide +kernel
    have := key ⟨(f i.toNatClampNeg).toInt.toNat, by omega⟩
    dsimp only at this
    rw [Int.toNat_of_nonneg hb0.1, Int32.ofInt_toInt] at this
    exact this
  refine xT_of (by decide) (Nat.le_of_eq rfl) ?_
  intro p e s m below meth c R hR B hP hTE Q kr kv ls hl hW
  have B' := B
  obtain ⟨hx, hb, hml, hown, hts, hE, hz0⟩ := B
  have l0 : ls[0]? = some (.val (.ref v)) := lv_at hl 0 rfl
  have l1 : ls[1]? = some (.val (.int i)) := lv_at hl 1 rfl
  refine lv_iload_n hx hb dJ1_charAt_0 rfl l1 ?_
  refine lv_aload_n hx hb dJ1_charAt_1 rfl l0 ?_
  refine va_tlen hx hb (hTE (v, n, f) List.mem_cons_self) hW.2.2.1 rfl dJ1_charAt_2 ?_
  refine xT_S (as := [.int i, .int (Int32.ofNat n)]) (q := []) B' hW hl.1 dJ1_charAt_3 (xT_chk h0 hin) (fun _ z => by cases z) xw_chk_l xw_chk_s xw_init0 xw_chk_c ⟨by decide, by decide, (by decide +kernel : (parseMethodDescriptor yJ0_checkIndex_df160.desc).map (fun d => d.parameters.length) = some 2)⟩ (by subst hR; decide) (by decide) (by subst hR; decide) (fun H1 locs1 hW1 => ?_)
  refine lv_aload_n hx hb dJ1_charAt_6 rfl l0 ?_
  refine lv_iload_n hx hb dJ1_charAt_7 rfl l1 ?_
  refine va_tb hx hb (hTE (v, n, f) List.mem_cons_self) hW1.2.2.1 (i := i) (fun z => z.elim h0 (fun q => Nat.not_lt.mpr q h1)) (v := .int (f i.toNatClampNeg)) rfl dJ1_charAt_8 ?_
  refine lv_sipush hx hb (v := Int32.ofInt 255) dJ1_charAt_9 (by decide) ?_
  refine lv_iand hx hb dJ1_charAt_12 ?_
  rw [e1]
  refine lv_i2c hx hb dJ1_charAt_13 e2 ?_
  exact kr .char _ rfl e3 rfl 14 ls _ _ hW1 dJ1_charAt_14
/-- String.coder -/
theorem xT_cod {b n : Nat} {f : Nat → Int32} (hb0 : S.1 b = some (.inr (5, (n, .inl f)))) : xMeT l D CA z0 P [] yJ0_coder_7d493 cJ0_coder_7d493 1 (some .byte) 0 0 [.ref b] S (some (.int 0)) := by
  refine xT_of (by decide) (Nat.le_of_eq rfl) ?_
  intro p e s m below meth c R hR B hP hTE Q kr kv ls hl hW
  obtain ⟨hx, hb, hml, hown, hts, hE, hz0⟩ := B
  have l0 : ls[0]? = some (.val (.ref b)) := lv_at hl 0 rfl
  obtain ⟨-, -, v, t1, t2, t3, t4⟩ := xTx_at (hP b _ hb0)
  refine va_gets hx hb hE.2.2.2.2.1 hW.2.2.1 hown (hts _ xw_com_f) (fun _ h => h) dJ0_coder_0 ?_
  refine lv_if_eq hx hb dJ0_coder_3 (tgt := 13) rfl (fun z => absurd z (by decide)) (fun _ => ?_)
  refine lv_aload_n hx hb dJ0_coder_6 rfl l0 ?_
  refine vk_getf hx hb t2 hW.2.2.1 hown (hts _ xw_cdr_f) (fun _ h => h) dJ0_coder_7 ?_
  refine lv_goto hx hb dJ0_coder_10 (tgt := 14) rfl ?_
  exact kr .byte 0 rfl rfl rfl 14 ls _ _ hW dJ0_coder_14
/-- String.isLatin1 -/
theorem xT_lat {b n : Nat} {f : Nat → Int32} (hb0 : S.1 b = some (.inr (5, (n, .inl f)))) : xMeT l D CA z0 P [] yJ0_isLatin1_aae02 cJ0_isLatin1_aae02 1 (some .boolean) 0 0 [.ref b] S (some (.int 1)) := by
  refine xT_of (by decide) (Nat.le_of_eq rfl) ?_
  intro p e s m below meth c R hR B hP hTE Q kr kv ls hl hW
  obtain ⟨hx, hb, hml, hown, hts, hE, hz0⟩ := B
  have l0 : ls[0]? = some (.val (.ref b)) := lv_at hl 0 rfl
  obtain ⟨-, -, v, t1, t2, t3, t4⟩ := xTx_at (hP b _ hb0)
  refine va_gets hx hb hE.2.2.2.2.1 hW.2.2.1 hown (hts _ xw_com_f) (fun _ h => h) dJ0_isLatin1_0 ?_
  refine lv_if_eq hx hb dJ0_isLatin1_3 (tgt := 17) rfl (fun z => absurd z (by decide)) (fun _ => ?_)
  refine lv_aload_n hx hb dJ0_isLatin1_6 rfl l0 ?_
  refine vk_getf hx hb t2 hW.2.2.1 hown (hts _ xw_cdr_f) (fun _ h => h) dJ0_isLatin1_7 ?_
  refine lv_if_ne hx hb dJ0_isLatin1_10 (tgt := 17) rfl (fun z => absurd rfl z) (fun _ => ?_)
  refine lv_iconst hx hb (v := 1) dJ0_isLatin1_13 (by decide) ?_
  refine lv_goto hx hb dJ0_isLatin1_14 (tgt := 18) rfl ?_
  exact kr .boolean 1 rfl (by decide) rfl 18 ls _ _ hW dJ0_isLatin1_18
/-- String.length -/
theorem xT_len {b n : Nat} {f : Nat → Int32} (hb0 : S.1 b = some (.inr (5, (n, .inl f)))) : xMeT l D CA z0 P [] yJ0_length_8abf5 cJ0_length_8abf5 1 (some .int) 1 20 [.ref b] S (some (.int (Int32.ofNat n))) := by
  refine xT_of (by decide) (Nat.le_of_eq rfl) ?_
  intro p e s m below meth c R hR B hP hTE Q kr kv ls hl hW
  have B' := B
  obtain ⟨hx, hb, hml, hown, hts, hE, hz0⟩ := B
  have l0 : ls[0]? = some (.val (.ref b)) := lv_at hl 0 rfl
  obtain ⟨hn, -, v, t1, t2, t3, t4⟩ := xTx_at (hP b _ hb0)
  refine lv_aload_n hx hb dJ0_length_0 rfl l0 ?_
  refine vk_getf hx hb t3 hW.2.2.1 hown (hts _ xw_val_f) (fun _ h => h) dJ0_length_1 ?_
  refine va_tlen hx hb t4 hW.2.2.1 rfl dJ0_length_4 ?_
  refine lv_aload_n hx hb dJ0_length_5 rfl l0 ?_
  refine xT_V (as := []) (q := [.int (Int32.ofNat n)]) B' hW hl.1 hb0 dJ0_length_6 (xT_cod hb0) xw_cod_l xw_cod_i xw_cod_s xw_init0 xw_cod_c (by decide) (by subst hR; decide) (show 1 ≤ 8 by decide) (by subst hR; decide) (fun H1 locs1 hW1 => ?_)
  refine lv_ishr hx hb dJ0_length_9 ?_
  have e : Int32.ofNat n >>> ((0 : Int32) &&& 31) = Int32.ofNat n := by
    have key : ∀ k : Fin 128, Int32.ofNat k.val >>> ((0 : Int32) &&& 31) = Int32.ofNat k.val := by decide +kernel
    exact key ⟨n, hn⟩
  rw [e]
  exact kr .int _ rfl rfl rfl 10 ls _ _ hW1 dJ0_length_10
/-- String.charAt -/
theorem xT_cha {b n : Nat} {f : Nat → Int32} {i : Int32} (hb0' : S.1 b = some (.inr (5, (n, .inl f)))) (h0 : ¬ i < 0) (h1 : i.toNatClampNeg < n) : xMeT l D CA z0 P [] yJ0_charAt_5068e cJ0_charAt_5068e 2 (some .char) 3 64 [.ref b, .int i] S (some (.int (f i.toNatClampNeg))) := by
  refine xT_of (by decide) (Nat.le_of_eq rfl) ?_
  intro p e s m below meth c R hR B hP hTE Q kr kv ls hl hW
  have B' := B
  obtain ⟨hx, hb, hml, hown, hts, hE, hz0⟩ := B
  have l0 : ls[0]? = some (.val (.ref b)) := lv_at hl 0 rfl
  have l1 : ls[1]? = some (.val (.int i)) := lv_at hl 1 rfl
  obtain ⟨hn, hf, v, t1, t2, t3, t4⟩ := xTx_at (hP b _ hb0')
  have hb0 := hf _ h1
  have e3 : narrow .char (.int (f i.toNatClampNeg)) = .int (f i.toNatClampNeg) := by
    have key : ∀ k : Fin 128, narrow .char (.int (Int32.ofInt (k.val : Int))) = .int (Int32.ofInt (k.val : Int)) := by decide +kernel
    have := key ⟨(f i.toNatClampNeg).toInt.toNat, by omega⟩
    dsimp only at this
    rw [Int.toNat_of_nonneg hb0.1, Int32.ofInt_toInt] at this
    exact this
  refine lv_aload_n hx hb dJ0_charAt_0 rfl l0 ?_
  refine xT_V (as := []) (q := []) B' hW hl.1 hb0' dJ0_charAt_1 (xT_lat hb0') xw_lat_l xw_lat_i xw_lat_s xw_init0 xw_lat_c (by decide) (by subst hR; decide) (by decide) (by subst hR; decide) (fun H1 locs1 hW1 => ?_)
  refine lv_if_eq hx hb dJ0_charAt_4 (tgt := 16) rfl (fun z => absurd z (by decide)) (fun _ => ?_)
  refine lv_aload_n hx hb dJ0_charAt_7 rfl l0 ?_
  refine vk_getf hx hb t3 hW1.2.2.1 hown (hts _ xw_val_f) (fun _ h => h) dJ0_charAt_8 ?_
  refine lv_iload_n hx hb dJ0_charAt_11 rfl l1 ?_
  refine xT_S (as := [.ref v, .int i]) (q := []) B' hW1 hl.1 dJ0_charAt_12 (xT_ch1 hn hf h0 h1) (fun x hx => by cases hx with | head => exact t4 | tail _ z => cases z) xw_ch1_l xw_ch1_s xw_init1 xw_ch1_c ⟨by decide, by decide, (by decide +kernel : (parseMethodDescriptor yJ1_charAt_3b067.desc).map (fun d => d.parameters.length) = some 2)⟩ (by subst hR; decide) (by decide) (by subst hR; decide) (fun H2 locs2 hW2 => ?_)
  exact kr .char _ rfl e3 rfl 15 ls _ _ hW2 dJ0_charAt_15
end XTX
