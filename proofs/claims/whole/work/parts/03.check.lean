/-! the table is right: each row decodes, and what it links stands among the words -/
def xil (i : Instr) (x1 : Nat) : Nat := match i with
  | .aload _ => 2 | .iload _ => 2 | .lload _ => 2 | .astore _ => 2 | .istore _ => 2 | .lstore _ => 2 | .bipush _ => 2 | .ldc _ => 2 | .newarray _ => 2
  | .getfield _ => 3 | .putfield _ => 3 | .getstatic _ => 3 | .goto _ => 3 | .ifCond _ _ => 3 | .if_icmp _ _ => 3 | .iinc _ _ => 3 | .sipush _ => 3
  | .invokevirtual _ => 3 | .invokespecial _ => 3 | .invokestatic _ => 3 | .new _ => 3 | .anewarray _ => 3 | .ldc_w _ => 3 | .ldc2_w _ => 3
  | .tableswitch _ _ _ _ => x1
  | _ => 1
def xwd (p : Nat) (w : Jvm.Cond) : Bool := decide ((xwl (p / 1000))[p % 1000]? = some w) && goodWord w
def xtag : FieldType → Int
  | .int => 0 | .long => 1 | .boolean => 3 | .object _ => 2 | .array _ => 2 | _ => 9
/-- a callee's place, arguments and room -/
def xcok (m : Nat) (x : xX) (k : Nat) : Bool := Nat.blt x.1 (xM - 1) && Nat.beq x.2.1 (xna x.1) && Nat.beq (xstt x.1) k && Nat.ble (xrk x.1 + 1) (xrk m) && Nat.ble (8 + (xml x.1 + 11) + xlr x.1) (xlr m)
def xnok (m : Nat) (x : xX) (k : Nat) : Bool := match xNe[x.2.2.1]? with
  | some (o, i, y, _) => decide (o = (xnm m).cls) && decide (i = k) && decide (y = xnm x.1)
  | none => false
/-- the two calls of a text's own: its length, a sign of it -/
def xpr (m : Nat) (x : xX) (k : Nat) : Bool := (Nat.beq x.1 1000 && (xwd x.2.2.1 (.methodLink (xnm m).cls k yJ0_length_8abf5) && (Nat.ble 2 (xrk m) && Nat.ble 80 (xlr m)))) || (Nat.beq x.1 1001 && (xwd x.2.2.1 (.methodLink (xnm m).cls k yJ0_charAt_5068e) && (Nat.ble 5 (xrk m) && Nat.ble 141 (xlr m))))
/-- a text's constant -/
def xsk0 (m : Nat) (x : xX) (k : Nat) : Bool := match xStr[x.1 - 1]? with
  | some (o, i, _) => Nat.ble 1 x.1 && (decide (o = (xnm m).cls) && Nat.beq i k)
  | none => false
def xwok (m pc : Nat) (i : Instr) (x : xX) : Bool := match i with
  | .getfield k => (match vwCl[x.1]? with
    | some (_, T, N) => Nat.blt x.2.1 N && xwd x.2.2.1 (.fieldLink (xnm m).cls k (T x.2.1).1 (T x.2.1).2.1 (T x.2.1).2.2.1)
    | none => false)
  | .putfield k => (match vwCl[x.1]? with
    | some (_, T, N) => Nat.blt x.2.1 N && xwd x.2.2.1 (.fieldLink (xnm m).cls k (T x.2.1).1 (T x.2.1).2.1 (T x.2.1).2.2.1) && decide ((parseFieldDescriptor (T x.2.1).2.2.1).map xtag = some x.2.2.2) && (!(T x.2.1).2.2.2 || (decide ((xnm m).name = "<init>") && decide ((T x.2.1).1 = (xnm m).cls)))
    | none => false)
  | .invokevirtual k => xpr m x k || (xcok m x 0 && xwd x.2.2.1 (.methodLink (xnm m).cls k (xnm x.1)) && decide (x.2.2.2 = 0))
  | .invokestatic k => xcok m x 1 && ((decide (x.2.2.2 = 1) && xwd x.2.2.1 (.methodLink (xnm m).cls k (xnm x.1))) || (decide (x.2.2.2 = 4) && xnok m x k))
  | .invokespecial k => (decide (x.2.2.2 = 2) && xwd x.2.2.1 (.methodLink (xnm m).cls k Lib.objectInit) && Nat.ble 1 (xrk m) && Nat.ble 20 (xlr m)) || (xcok m x 3 && ((decide (x.2.2.2 = 3) && xwd x.2.2.1 (.methodLink (xnm m).cls k (xnm x.1))) || (decide (x.2.2.2 = 5) && xnok m x k)))
  | .ldc2_w k => xwd x.2.2.1 (.constantLong (xnm m).cls k (Int64.ofInt x.2.2.2))
  | .ifCond _ off => decide ((pc : Int) + off = (x.1 : Int))
  | .if_icmp _ off => decide ((pc : Int) + off = (x.1 : Int))
  | .goto off => decide ((pc : Int) + off = (x.1 : Int))
  | .iconst n => decide (Int32.ofInt n = Int32.ofInt x.2.2.2)
  | .bipush n => decide ((Int8.ofInt n).toInt32 = Int32.ofInt x.2.2.2)
  | .sipush n => decide ((Int16.ofInt n).toInt32 = Int32.ofInt x.2.2.2)
  | .new k => (match vwCl[x.1]? with
    | some (C, _, N) => xwd x.2.2.1 (.classLink (xnm m).cls k C) && xwd x.2.1 (.instantiable C N) && xwd x.2.2.2.toNat (.initialized C)
    | none => false)
  | .newarray a => xwd x.2.2.1 (.arrayClass (newarray.typeOf a)) && decide (newarray.typeOf a = (match x.1 with | 0 => FieldType.int | 1 => .long | 2 => .boolean | _ => .byte)) && Nat.blt x.1 4
  | .getstatic k => Nat.beq x.1 0 && xwd x.2.2.1 (.fieldLink (xnm m).cls k RX10 "PRIMES" "[I")
  | .anewarray k => xwd x.2.2.1 (.classLink (xnm m).cls k RX0)
  | .ldc k => xsk0 m x k
  | .ldc_w k => xsk0 m x k
  | _ => true
def xiok (m pc : Nat) : Bool := match xin m pc with
  | none => true
  | some (i, x) => decide (decode (xcd m) pc = .ok (i, xil i x.1)) && xwok m pc i x
def xmok (m : Nat) : Bool := xwd (xps m).2.2.1 (.code (xnm m) (xcd m) (xml m) (xrt m)) && xwd (xps m).2.2.2 (.initialized (xnm m).cls) && plainFor (xnm m) && decide ((xnm m).cls ≠ "java/lang/invoke/MethodHandle" ∧ (xnm m).cls ≠ "java/lang/invoke/VarHandle") && decide ((parseMethodDescriptor (xnm m).desc).map (fun d => d.parameters.length) = some (xna m)) &&
  (match xstt m with
   | 1 => xwd (xps m).1 (.static (xnm m))
   | 0 => xwd (xps m).1 (.instanceMethod (xnm m)) && xwd (xps m).2.1 (.selects (xnm m).cls (xnm m) (xnm m)) && (match vwCl[xow m]? with | some q => decide ((xnm m).cls = q.1) | none => false)
   | _ => xwd (xps m).1 (.instanceMethod (xnm m)) && decide ((xnm m).name = "<init>") && decide (xrt m = none))
/-- the words that go on to callees -/
def xTW : List Jvm.Cond := lw_tbl.filter goodWord
theorem xwl_in (j : Nat) : ∀ w ∈ xwl j, w ∈ lw_tbl := by
  intro w h
  have key : ∀ w, w ∈ xwl 0 ++ (xwl 1 ++ (xwl 2 ++ (xwl 3 ++ (xwl 4 ++ (xwl 5 ++ (xwl 6 ++ (xwl 7 ++ xwl 8))))))) → w ∈ lw_tbl := fun w h => h
  apply key
  simp only [List.mem_append]
  match j, h with
  | 0, h => exact Or.inl h
  | 1, h => exact Or.inr (Or.inl h)
  | 2, h => exact Or.inr (Or.inr (Or.inl h))
  | 3, h => exact Or.inr (Or.inr (Or.inr (Or.inl h)))
  | 4, h => exact Or.inr (Or.inr (Or.inr (Or.inr (Or.inl h))))
  | 5, h => exact Or.inr (Or.inr (Or.inr (Or.inr (Or.inr (Or.inl h)))))
  | 6, h => exact Or.inr (Or.inr (Or.inr (Or.inr (Or.inr (Or.inr (Or.inl h))))))
  | 7, h => exact Or.inr (Or.inr (Or.inr (Or.inr (Or.inr (Or.inr (Or.inr (Or.inl h)))))))
  | 8, h => exact Or.inr (Or.inr (Or.inr (Or.inr (Or.inr (Or.inr (Or.inr (Or.inr h)))))))
  | _ + 9, h => cases h
theorem xwd_in {p : Nat} {w : Jvm.Cond} (h : xwd p w = true) : w ∈ xTW := by
  simp only [xwd, Bool.and_eq_true, decide_eq_true_eq] at h
  exact List.mem_filter.mpr ⟨xwl_in _ _ (List.mem_of_getElem? h.1), h.2⟩
theorem xTW_good : ∀ w ∈ xTW, (w.onTables && w.keeps) = true ∨ ∃ ty, w = .arrayClass ty := fun _ h => good_of_word (List.mem_filter.mp h).2
/-- the classes' own words -/
theorem xly_ok : (List.range 12).all (fun c => match vwCl[c]? with | some q => (List.range q.2.2).all (fun k => xwd ((xly.getD c []).getD k 0) (u_lay q.1 q.2.1 k)) | none => false) = true := by decide +kernel
theorem xu_in {c : Nat} {q : vw_C} (h : vwCl[c]? = some q) : ∀ w ∈ u_ws q.1 q.2.1 q.2.2, w ∈ xTW := by
  intro w hw
  have hc : c < 12 := (List.getElem?_eq_some_iff.mp h).1
  have h1 := List.all_eq_true.mp xly_ok c (List.mem_range.mpr hc)
  rw [h] at h1
  obtain ⟨k, hk, rfl⟩ := List.mem_map.mp hw
  exact xwd_in (List.all_eq_true.mp h1 k hk)
theorem xob_ok : xwd xpob.1 (.instanceMethod Lib.objectInit) = true ∧ xwd xpob.2 (.code Lib.objectInit ⟨#[0xb1]⟩ 1 none) = true := by decide +kernel
