-- deps: 83.start
/-! what is known at the law's entry -/
theorem lw_w {p : Nat} {w : Jvm.Cond} (h : (xwl (p / 1000))[p % 1000]? = some w) : w ∈ lw_tbl := xwl_in _ _ (List.mem_of_getElem? h)
section WS
variable {s : State} {A : Array Value}
theorem w_cls (hts : ∀ w ∈ xTW, w.before A s = true) : ∀ c : Nat, ∃ r : ClassId × (Nat → Nat), ∀ q, vwCl[c]? = some q → u_Kn s q.1 q.2.1 q.2.2 r.1 r.2 := by
  intro c
  have ins : ∀ q, vwCl[c]? = some q → (Cond.instantiable q.1 q.2.2) ∈ xTW := by
    intro q hq
    have hc : c < 12 := (List.getElem?_eq_some_iff.mp hq).1
    match c, hc, hq with
    | 0, _, hq => cases hq; exact xwd_in (p := 1029) (by decide +kernel)
    | 1, _, hq => cases hq; exact xwd_in (p := 1047) (by decide +kernel)
    | 2, _, hq => cases hq; exact xwd_in (p := 1099) (by decide +kernel)
    | 3, _, hq => cases hq; exact xwd_in (p := 1115) (by decide +kernel)
    | 4, _, hq => cases hq; exact xwd_in (p := 1131) (by decide +kernel)
    | 5, _, hq => cases hq; exact xwd_in (p := 1066) (by decide +kernel)
    | 6, _, hq => cases hq; exact xwd_in (p := 1169) (by decide +kernel)
    | 7, _, hq => cases hq; exact xwd_in (p := 1072) (by decide +kernel)
    | 8, _, hq => cases hq; exact xwd_in (p := 1161) (by decide +kernel)
    | 9, _, hq => cases hq; exact xwd_in (p := 1217) (by decide +kernel)
    | 10, _, hq => cases hq; exact xwd_in (p := 1021) (by decide +kernel)
    | 11, _, hq => cases hq; exact xwd_in (p := 5178) (by decide +kernel)
    | c + 12, h, _ => omega
  by_cases h : ∃ q, vwCl[c]? = some q
  · obtain ⟨q, hq⟩ := h
    obtain ⟨cC, iS, hk⟩ := u_known (ws := xTW) hts (xu_in hq) (hts _ (ins q hq))
    refine ⟨(cC, iS), fun q' hq' => ?_⟩
    cases hq.symm.trans hq'
    exact hk
  · exact ⟨(0, fun _ => 0), fun q hq => absurd ⟨q, hq⟩ h⟩
theorem w_arr {ty : FieldType} (h : (Cond.arrayClass ty).before A s = true) : ∃ cA, ArrOfT s cA ty ∧ s.vm.findClass ("[" ++ ty.toString) = some cA := by
  obtain ⟨c, k, comp, h1, h2, h3⟩ := Cond.arrayClass_spec h
  exact ⟨c, fun n z => ⟨fun k h => (by cases h), k, h2, comp, h3⟩, h1⟩
theorem w_K (htl : ∀ w ∈ lw_tbl, w.before A s = true) (hts : ∀ w ∈ xTW, w.before A s = true) : ∃ (D : va_G) (CA : Nat → ClassId), va_K D vwCl (xtys CA) s := by
  have hc := w_cls hts
  obtain ⟨c0, a0, b0⟩ := w_arr (ty := .int) (hts _ (xwd_in (p := 1044) (by decide +kernel)))
  obtain ⟨c1, a1, b1⟩ := w_arr (ty := .long) (hts _ (xwd_in (p := 1187) (by decide +kernel)))
  obtain ⟨c2, a2, b2⟩ := w_arr (ty := .boolean) (hts _ (xwd_in (p := 1064) (by decide +kernel)))
  obtain ⟨c3, a3, b3⟩ := w_arr (ty := .byte) (hts _ (xwd_in (p := 2192) (by decide +kernel)))
  obtain ⟨comp, c4, kA, f1, f2, f3, f4, f5⟩ := Cond.arrayOver_spec (n := RX0) (htl _ (lw_w (p := 1045) (by decide +kernel)))
  refine ⟨(fun c => (Classical.choose (hc c)).1, fun c => (Classical.choose (hc c)).2), (fun k => match k with | 0 => c0 | 1 => c1 | 2 => c2 | 3 => c3 | _ => c4), fun c q hq => Classical.choose_spec (hc c) q hq, fun k q hq => ?_⟩
  have hk : k < 5 := (List.getElem?_eq_some_iff.mp hq).1
  match k, hk, hq with
  | 0, _, hq => cases hq; exact ⟨a0, b0⟩
  | 1, _, hq => cases hq; exact ⟨a1, b1⟩
  | 2, _, hq => cases hq; exact ⟨a2, b2⟩
  | 3, _, hq => cases hq; exact ⟨a3, b3⟩
  | 4, _, hq => cases hq; exact ⟨fun N z => ⟨fun k h => (by cases h), kA, f3, comp, f4⟩, kA, comp, f3, f4, f1, f5⟩
  | k + 5, h, _ => omega
theorem w_nest : ∀ q ∈ xNe, Cond.methodLinkNest q.1 q.2.1 q.2.2.1 q.2.2.2 ∈ lw_tbl := by
  intro q hq
  simp only [xNe, List.mem_cons, List.not_mem_nil, or_false] at hq
  rcases hq with rfl | rfl | rfl | rfl | rfl | rfl | rfl | rfl | rfl | rfl | rfl | rfl | rfl | rfl | rfl
  · exact lw_w (p := 1030) (by decide +kernel)
  · exact lw_w (p := 1048) (by decide +kernel)
  · exact lw_w (p := 1053) (by decide +kernel)
  · exact lw_w (p := 1067) (by decide +kernel)
  · exact lw_w (p := 1073) (by decide +kernel)
  · exact lw_w (p := 1100) (by decide +kernel)
  · exact lw_w (p := 1116) (by decide +kernel)
  · exact lw_w (p := 1132) (by decide +kernel)
  · exact lw_w (p := 1137) (by decide +kernel)
  · exact lw_w (p := 1162) (by decide +kernel)
  · exact lw_w (p := 1167) (by decide +kernel)
  · exact lw_w (p := 1218) (by decide +kernel)
  · exact lw_w (p := 4017) (by decide +kernel)
  · exact lw_w (p := 4053) (by decide +kernel)
  · exact lw_w (p := 5136) (by decide +kernel)
theorem w_str : ∀ (k : Nat) (ow : String) (i : Nat) (t : String), xStr[k]? = some (ow, i, t) → Cond.stringRef ow i t ∈ lw_tbl := by
  intro k ow i t h
  have hk : k < 9 := (List.getElem?_eq_some_iff.mp h).1
  match k, hk, h with
  | 0, _, h => cases h; exact lw_w (p := 2079) (by decide +kernel)
  | 1, _, h => cases h; exact lw_w (p := 2154) (by decide +kernel)
  | 2, _, h => cases h; exact lw_w (p := 5105) (by decide +kernel)
  | 3, _, h => cases h; exact lw_w (p := 5122) (by decide +kernel)
  | 4, _, h => cases h; exact lw_w (p := 5123) (by decide +kernel)
  | 5, _, h => cases h; exact lw_w (p := 5138) (by decide +kernel)
  | 6, _, h => cases h; exact lw_w (p := 5140) (by decide +kernel)
  | 7, _, h => cases h; exact lw_w (p := 5141) (by decide +kernel)
  | 8, _, h => cases h; exact lw_w (p := 5146) (by decide +kernel)
  | k + 9, h, _ => omega
/-- the texts: where their constants stand, how long, their bytes -/
def wtm (i : Nat) : Term := match xStr[i]? with
  | some q => .string q.1 q.2.1
  | none => .int 0
def wln : List Nat := [3, 4, 4, 6, 1, 4, 4, 6, 4]
def wby : List (List Int) := [[114, 117, 110], [102, 114, 111, 109], [114, 117, 110, 32], [32, 102, 114, 111, 109, 32], [59], [32, 98, 121, 32], [32, 116, 111, 32], [104, 111, 117, 114, 115, 32], [32, 97, 116, 32]]
def wby2 : List (List Int32) := wby.map (fun l => l.map iI)
theorem w_eq {t : Term} {z : Int32} (h : (Cond.eq t (.int z)).before A s = true) : t.eval A s none [] s = some (.int z) := by
  cases hv : t.eval A s none [] s with
  | none => simp [Cond.before, Cond.holds, Cond.value, hv] at h
  | some w =>
    have hz : (Term.int z).eval A s none [] s = some (.int z) := rfl
    simp only [Cond.before, Cond.holds, Cond.value, hv, hz] at h
    cases w <;> simp_all
/-- what narrow_1 says, in a list -/
def wfl : List Cond := flatC (Jvm.Cond.and given_1 narrow_1)
/-- the primes, as they lie there -/
theorem w_primes (hg : ∀ c ∈ wfl, c.before A s = true) (htl : ∀ w ∈ lw_tbl, w.before A s = true) {Z : Nat → Prop} (hA : ∀ a : Nat, a < s.heap.size → ¬ Z a) : ∃ t : Nat, va_Z RX10 "PRIMES" "[I" (.ref t) Z s s.heap ∧ va_T .int t 25 (fun j => .int (iI (xprl.getD j 0 : Nat))) Z s s.heap ∧ ∃ cell, s.heap[t]? = some cell ∧ cell.slots.size = 25 := by
  have h1 : (Cond.arrayOf (.static "RingRunners" "PRIMES" "[I") .int) ∈ wfl := by decide +kernel
  have h2 : (Cond.eq (.length (.static "RingRunners" "PRIMES" "[I")) (.int 25)) ∈ wfl := by decide +kernel
  have h3 : ∀ j : Nat, j < 25 → (Cond.eq (.elem (.static "RingRunners" "PRIMES" "[I") (.int (Int32.ofNat j))) (.int (iI (xprl.getD j 0 : Nat)))) ∈ wfl := by decide +kernel
  have hlen : (Term.length (.static "RingRunners" "PRIMES" "[I")).eval A s none [] s = some (.int (Int32.ofNat 25)) := w_eq (z := 25) (hg _ h2)
  obtain ⟨t, ht, hT⟩ := va_Tof (N := 25) (f := fun j => .int (iI (xprl.getD j 0 : Nat))) (A := Z) (by decide) (hg _ h1) hlen (fun j hj => w_eq (hg _ (h3 j hj))) hA
  refine ⟨t, va_Zof (htl _ (lw_w (p := 5044) (by decide +kernel))) (htl _ (lw_w (p := 1001) (by decide +kernel))) ht hA, hT, ?_⟩
  obtain ⟨t', cell, ht', hat, hv⟩ := Term.length_spec hlen
  cases ht.symm.trans ht'
  refine ⟨cell, (State.arrayAt?_spec hat).1, ?_⟩
  have hsz : cell.slots.size < 2147483648 := by
    have hv2 := hlen
    simp only [Term.eval, Option.bind_eq_bind] at hv2
    simp only [Term.eval, Option.bind_eq_bind] at ht
    rw [ht] at hv2
    simp only [Option.bind_some, hat] at hv2
    by_cases hlt : cell.slots.size < 2147483648
    · exact hlt
    · simp [hlt] at hv2
  have e : (Int32.ofNat 25) = cell.slots.size.toInt32 := Value.int.inj hv
  have e2 : (25 : Nat).toInt32.toInt = cell.slots.size.toInt32.toInt := congrArg Int32.toInt e
  have e3 : (iI (cell.slots.size : Int)).toInt = cell.slots.size := iI_toInt (by omega) (by omega)
  have e4 : cell.slots.size.toInt32 = iI (cell.slots.size : Int) := rfl
  rw [e4, e3] at e2
  have e5 : (25 : Nat).toInt32.toInt = 25 := by decide
  omega
/-- the texts, as they lie there -/
theorem w_texts (hg : ∀ c ∈ wfl, c.before A s = true) {Z : Nat → Prop} (hA : ∀ a : Nat, a < s.heap.size → ¬ Z a) : ∃ adK adV : Nat → Nat, vk_S 9 wln wby2 adK adV Z s s.heap ∧ ∀ i : Nat, i < 9 → (wtm i).eval A s none [] s = some (.ref (adK i)) := by
  refine vk_Sof (N := 9) (tm := wtm) (len := wln) (byt := wby2) (by decide) (fun i hi => ?_) (fun i hi => ?_) (fun i hi => ?_) (fun i hi => ?_) (fun i hi => ?_) (fun i j hi hj hij => ?_) hA
  · have h : ∀ i : Nat, i < 9 → (Cond.exactly (wtm i) "java/lang/String") ∈ wfl := by decide +kernel
    exact hg _ (h i hi)
  · have h : ∀ i : Nat, i < 9 → (Cond.eq (.field (wtm i) "java/lang/String" "coder" "B") (.int 0)) ∈ wfl := by decide +kernel
    exact hg _ (h i hi)
  · have h : ∀ i : Nat, i < 9 → (Cond.arrayOf (.field (wtm i) "java/lang/String" "value" "[B") .byte) ∈ wfl := by decide +kernel
    exact hg _ (h i hi)
  · have h : ∀ i : Nat, i < 9 → (Cond.eq (.length (.field (wtm i) "java/lang/String" "value" "[B")) (.int (Int32.ofNat (wln.getD i 0)))) ∈ wfl := by decide +kernel
    exact hg _ (h i hi)
  · have h : ∀ i : Nat, i < 9 → ∀ j : Nat, j < wln.getD i 0 → (Cond.eq (.elem (.field (wtm i) "java/lang/String" "value" "[B") (.int (Int32.ofNat j))) (.int ((wby2.getD i []).getD j 0))) ∈ wfl := by decide +kernel
    exact fun j hj => hg _ (h i hi j hj)
  · have h : ∀ i : Nat, i < 9 → ∀ j : Nat, j < 9 → i ≠ j → ((Cond.not (Cond.eq (wtm i) (wtm j))) ∈ wfl ∨ (Cond.not (Cond.eq (wtm j) (wtm i))) ∈ wfl) := by decide +kernel
    exact (h i hi j hj hij).imp (hg _) (hg _)

end WS
