/-! one step of the abstract machine is one row of the kit's -/
theorem xty_ok {ci : Nat} {q : vw_C} (h : vwCl[ci]? = some q) : ∃ ty : Nat → FieldType, (∀ k, k < q.2.2 → parseFieldDescriptor (q.2.1 k).2.2.1 = some (ty k)) ∧ ∀ a, a < q.2.2 → ∀ b, b < q.2.2 → a ≠ b → (q.2.1 a).2.1 ≠ (q.2.1 b).2.1 := by
  match ci, h with
  | 0, h => cases h; exact ⟨tyX0, tyX0_ok, nmX0⟩
  | 1, h => cases h; exact ⟨tyX1, tyX1_ok, nmX1⟩
  | 2, h => cases h; exact ⟨tyX2, tyX2_ok, nmX2⟩
  | 3, h => cases h; exact ⟨tyX3, tyX3_ok, nmX3⟩
  | 4, h => cases h; exact ⟨tyX4, tyX4_ok, nmX4⟩
  | 5, h => cases h; exact ⟨tyX5, tyX5_ok, nmX5⟩
  | 6, h => cases h; exact ⟨tyX6, tyX6_ok, nmX6⟩
  | 7, h => cases h; exact ⟨tyX7, tyX7_ok, nmX7⟩
  | 8, h => cases h; exact ⟨tyX8, tyX8_ok, nmX8⟩
  | 9, h => cases h; exact ⟨tyX9, tyX9_ok, nmX9⟩
  | 10, h => cases h; exact ⟨tyX10, tyX10_ok, nmX10⟩
  | 11, h => cases h; exact ⟨tyX11, tyX11_ok, nmX11⟩
  | n + 12, h => simp [vwCl] at h
theorem xfit_ok {ty : FieldType} {v : Value} (h : xfit (xtag ty) v = true) : narrow ty v = v ∧ fits ty v = true := by
  cases ty <;> cases v <;> simp [xfit, xtag] at h <;> first
    | exact ⟨rfl, rfl⟩
    | (rcases h with rfl | rfl <;> exact ⟨by decide, by decide⟩)
theorem xWd.put {D : va_G} {CA : Nat → ClassId} {z0 s0 : Nat} {s : State} {H H1 : Heap} {locs : List Loc} {cells slots a k : Nat} {S : xS} {e : xC} (hW : xWd D CA z0 s0 s H locs cells slots S) (ha : z0 ≤ a) (he : xat D CA z0 s H1 a e) (z : H1.size = H.size) (o : ∀ q : Nat, q ≠ a → H1[q]? = H[q]?) : xWd D CA z0 s0 s H1 (locs ++ [⟨a, k⟩]) cells slots (xpt S a e) := by
  obtain ⟨h1, h2, h3, h4, h5⟩ := hW
  exact ⟨h1.set ha he o, z.trans h2, h3.put z o ha, h4, h5⟩
theorem xWd.push {D : va_G} {CA : Nat → ClassId} {z0 s0 : Nat} {s : State} {H H1 : Heap} {locs : List Loc} {cells slots n : Nat} {S : xS} {e : xC} (hW : xWd D CA z0 s0 s H locs cells slots S) (he : xat D CA z0 s H1 H.size e) (z : H1.size = H.size + 1) (o : ∀ q : Nat, q < H.size → H1[q]? = H[q]?) : xWd D CA z0 s0 s H1 locs (cells + 1) (slots + n) (fun b => if b = S.2.1 then some e else S.1 b, S.2.1 + 1, S.2.2 + n) := by
  obtain ⟨h1, h2, h3, h4, h5⟩ := hW
  refine ⟨?_, by rw [z, h2], ⟨by rw [z]; exact Nat.le_trans h3.1 (Nat.le_succ _), fun q g1 g2 => (o q (Nat.lt_of_lt_of_le g1 h3.1)).trans (h3.2.1 q g1 g2), h3.2.2⟩, by show s.heap.size + (cells + 1) = S.2.1 + 1; omega, by show s0 + (slots + n) = S.2.2 + n; omega⟩
  show xP D CA z0 (fun b => if b = S.2.1 then some e else S.1 b) s H1
  rw [← h2]
  exact h1.push he o
theorem xEnv.moved {D : va_G} {CA : Nat → ClassId} {z0 : Nat} {P : Nat → Nat} {u U : State} {H H1 : Heap} (hW : u.WarmedH U.vm) (hq : ∀ a : Nat, a < H.size → ¬ xA z0 a → H1[a]? = H[a]?) (h : xEnv D CA z0 P u H) : xEnv D CA z0 P U H1 :=
  ⟨va_K.moved hW.alike h.1, (h.2.1.moved hW.alike).kept hq, h.2.2.1.moved hW.alike, fun q hx => va_Nw.warmM hW (h.2.2.2.1 q hx), (h.2.2.2.2.1.moved hW.alike).kept hq, (h.2.2.2.2.2.1.moved hW.alike).kept hq, fun k o i t hk => (h.2.2.2.2.2.2 k o i t hk).warm hW⟩
/-- what holds throughout a walk of method mm -/
def xFx (p : Program) (s : State) (m : MethodId) (args : Array Value) (meth : Method) (c : Code) (R : Room) (D : va_G) (CA : Nat → ClassId) (z0 : Nat) (P : Nat → Nat) (mm : Nat) : Prop :=
  p.tables.exec = Jvm.exec ∧ c.code = xcd mm ∧ c.maxLocals = xml mm ∧ s.vm.findClass (xnm mm).cls = some m.cls ∧ (∀ w ∈ xTW, w.before args s = true) ∧ meth.name = (xnm mm).name ∧ xEnv D CA z0 P s s.heap ∧ z0 ≤ s.heap.size ∧ xrk mm ≤ R.frames ∧ xlr mm ≤ R.locals
def xws (m : Nat) : List Jvm.Cond := .code (xnm m) (xcd m) (xml m) (xrt m) :: xTW
/-- the contract of a run of a method -/
def xMet (l : Launch) (D : va_G) (CA : Nat → ClassId) (z0 : Nat) (P : Nat → Nat) (m : Nat) (a : List Value) (S : xS) (v : Option Value) (S1 : xS) : Prop :=
  Met l (xnm m) (xws m) { frames := xrk m, cells := S1.2.1 - S.2.1, slots := S1.2.2 - S.2.2, locals := xlr m } (va_Pc a (fun U => U.heap.size = S.2.1 ∧ z0 ≤ S.2.1 ∧ xP D CA z0 S.1 U U.heap ∧ xEnv D CA z0 P U U.heap))
    (fun _ st oc t => oc = .returned v ∧ t.heap.size = S1.2.1 ∧ xP D CA z0 S1.1 t t.heap ∧ va_F (xA z0) st t) (S1.2.1 - S.2.1) (S1.2.2 - S.2.2) (xA z0)
section XJ
variable {p : Program} {l : Launch} {e : Env} {R : Room} {s : State} {m : MethodId} {args : Array Value} {below : List Frame} {meth : Method} {c : Code} {Q : State → Prop} {D : va_G} {CA : Nat → ClassId} {z0 s0 mm : Nat} {P : Nat → Nat}
/-- what is to be shown behind a step -/
def xGo (p : Program) (l : Launch) (e : Env) (R : Room) (s : State) (m : MethodId) (args : Array Value) (below : List Frame) (meth : Method) (c : Code) (Q : State → Prop) (D : va_G) (CA : Nat → ClassId) (z0 s0 mm : Nat) (P : Nat → Nat) (G : Prop) (r : (Option Value × xS) ⊕ (Nat × xL × List Value × xS) ⊕ (Nat × List Value × xS × Nat × xL × List Value)) : Prop := match r with
  | .inl _ => G
  | .inr (.inl (pc, lv, st, S)) => S.2.1 ≤ s.heap.size + R.cells ∧ S.2.2 ≤ s0 + R.slots ∧ ∀ (ls : Array Slot) (H : Heap) (locs : List Loc) (cells slots : Nat), lv_has ls (xml mm) lv → xWd D CA z0 s0 s H locs cells slots S → W p l e R s m args below meth c H locs cells slots Q (F0 m pc ls st)
  | .inr (.inr (m', a, S, pc, lv, st)) => ∃ (v : Option Value) (S1 : xS), (m' < 332 → xcs a ≤ xml m' → xMet l D CA z0 P m' a S v S1) ∧ S.2.1 ≤ S1.2.1 ∧ S.2.2 ≤ S1.2.2 ∧ S1.2.1 ≤ s.heap.size + R.cells ∧ S1.2.2 ≤ s0 + R.slots ∧ ∀ (ls : Array Slot) (H : Heap) (locs : List Loc) (cells slots : Nat), lv_has ls (xml mm) lv → xWd D CA z0 s0 s H locs cells slots S1 → W p l e R s m args below meth c H locs cells slots Q (F0 m pc ls (v.toList ++ st))
theorem x_call {H : Heap} {locs : List Loc} {cells slots mc ms nx pc : Nat} {ls : Array Slot} {st0 rest : List Value} {v : Option Value} {G : xH} (hr : va_Run p l e R s m args below meth c H locs cells slots mc ms (F0 m pc ls st0) rest (fun st oc t => oc = .returned v ∧ t.heap.size = nx ∧ xP D CA z0 G t t.heap ∧ va_F (xA z0) st t) (xA z0)) (hS : va_S (xA z0) s.heap H locs)
    (kk : ∀ (H1 : Heap) (locs1 : List Loc), H1.size = nx → xP D CA z0 G s H1 → va_S (xA z0) s.heap H1 locs1 → W p l e R s m args below meth c H1 locs1 (cells + mc) (slots + ms) Q (F0 m (pc + 3) ls (v.toList ++ rest))) : W p l e R s m args below meth c H locs cells slots Q (F0 m pc ls st0) := by
  intro T hT X
  obtain ⟨v', st₀, t, T', L, h0, X', hL, e1, e2, ⟨hv, hz, hp, hz2, hk⟩, st⟩ := hr T hT X
  cases hv
  rw [h0] at hz2 hk
  have hal : s.vm.Alike t.vm := by rw [← e2]; exact X'.warmed.alike
  obtain ⟨t2, a1, b1⟩ := kk T'.heap (locs ++ L) (by rw [e1]; exact hz) (by rw [e1]; exact hp.moved hal.symm)
    ⟨Nat.le_trans hS.1 (by rw [e1]; exact hz2), fun q h1 h2 => by rw [e1, hk q (Nat.lt_of_lt_of_le h1 hS.1) h2]; exact hS.2.1 q h1 h2, fun q hq => by
      rcases List.mem_append.mp hq with h | h
      · exact hS.2.2 q h
      · exact hL q h⟩ T' rfl X'
  exact ⟨t2, st t2 a1, b1⟩
theorem xblind {S : xS} {a : List Value} : FrameBlind (va_Pc a (fun U => U.heap.size = S.2.1 ∧ z0 ≤ S.2.1 ∧ xP D CA z0 S.1 U U.heap ∧ xEnv D CA z0 P U U.heap)) := by
  intro a' U g mk q
  obtain ⟨q0, q1, q2, q3, q4⟩ := q
  exact ⟨q0, q1, q2, q3.moved (u := U) (U := U.calling g mk a') (Vm.Alike.refl U.vm), va_K.moved (u := U) (U := U.calling g mk a') (Vm.Alike.refl U.vm) q4.1, q4.2.1.moved (u := U) (U := U.calling g mk a') (Vm.Alike.refl U.vm), q4.2.2.1.moved (u := U) (U := U.calling g mk a') (Vm.Alike.refl U.vm), fun q hx => va_Nw.same rfl rfl (q4.2.2.2.1 q hx), q4.2.2.2.2.1.moved (u := U) (U := U.calling g mk a') (Vm.Alike.refl U.vm), q4.2.2.2.2.2.1.moved (u := U) (U := U.calling g mk a') (Vm.Alike.refl U.vm), fun k o i t hk => (q4.2.2.2.2.2.2 k o i t hk).same rfl⟩
end XJ
