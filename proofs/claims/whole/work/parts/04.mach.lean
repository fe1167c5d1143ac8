/-! what the methods do, as a function on an abstract heap: one step of an instruction, its result handed to one of four continuations -/
/-- the int, the long of a whole number -/
def iI (z : Int) : Int32 := Int32.ofInt z
def jI (z : Int) : Int64 := Int64.ofInt z
abbrev xC : Type := (Nat × List Value) ⊕ (Nat × vp_A)
abbrev xH : Type := Nat → Option xC
abbrev xS : Type := xH × Nat × Nat
abbrev xL : Type := List (Nat × Value)
abbrev xR : Type := Option (Option Value × xS)
def xget : xL → Nat → Option Value
  | [], _ => none
  | q :: l, i => bif Nat.beq q.1 i then some q.2 else xget l i
def xpu1 (l : xL) (i : Nat) (v : Value) : xL := (i, v) :: l.filter (fun q => !(q.1 == i) && !(q.1 + 1 == i && q.2.category == 2))
def xpu2 (l : xL) (i : Nat) (v : Value) : xL := (i, v) :: l.filter (fun q => !(q.1 == i) && (!(q.1 == i + 1) && !(q.1 + 1 == i && q.2.category == 2)))
def xcs (st : List Value) : Nat := (st.map fun v => v.category).sum
def xpt (S : xS) (a : Nat) (e : xC) : xS := (fun b => if b = a then some e else S.1 b, S.2)
/-- a field of an object of class ci -/
def xfd (S : xS) (a ci k : Nat) : Option Value := match S.1 a with
  | some (.inl o) => bif Nat.beq o.1 ci then o.2[k]? else none
  | _ => none
def xfI (S : xS) (a ci k : Nat) : Option Int32 := match xfd S a ci k with | some (.int v) => some v | _ => none
def xfJ (S : xS) (a ci k : Nat) : Option Int64 := match xfd S a ci k with | some (.long v) => some v | _ => none
def xfR (S : xS) (a ci k : Nat) : Option Nat := match xfd S a ci k with | some (.ref v) => some v | _ => none
/-- a value fits a field's kind -/
def xfit (tag : Int) (v : Value) : Bool := match v with
  | .int z => decide (tag = 0) || (decide (tag = 3) && (z == 0 || z == 1))
  | .long _ => decide (tag = 1)
  | .ref _ => decide (tag = 2)
  | _ => false
def xpf (S : xS) (a ci k : Nat) (tag : Int) (v : Value) : Option xS := match S.1 a with
  | some (.inl o) => bif Nat.beq o.1 ci && (Nat.blt k o.2.length && xfit tag v) then some (xpt S a (.inl (o.1, o.2.set k v))) else none
  | _ => none
def xisO (S : xS) (a ci : Nat) : Bool := match S.1 a with
  | some (.inl o) => Nat.beq o.1 ci
  | _ => false
/-- arrays: kinds 0 int, 1 long, 2 boolean, 3 byte, 4 references; 5 a text, 6 ints that nobody writes -/
def xrdI (S : xS) (a : Nat) (i : Int32) : Option Int32 := match S.1 a with
  | some (.inr (k, (n, .inl f))) => if (k = 0 ∨ k = 6) ∧ ¬ (i < 0 ∨ n ≤ i.toNatClampNeg) then some (f i.toNatClampNeg) else none
  | _ => none
def xrdB (S : xS) (a : Nat) (i : Int32) : Option Int32 := match S.1 a with
  | some (.inr (k, (n, .inl f))) => if (k = 2 ∨ k = 3) ∧ ¬ (i < 0 ∨ n ≤ i.toNatClampNeg) then some (f i.toNatClampNeg) else none
  | _ => none
def xrdJ (S : xS) (a : Nat) (i : Int32) : Option Int64 := match S.1 a with
  | some (.inr (k, (n, .inr (.inl f)))) => if k = 1 ∧ ¬ (i < 0 ∨ n ≤ i.toNatClampNeg) then some (f i.toNatClampNeg) else none
  | _ => none
def xrdR (S : xS) (a : Nat) (i : Int32) : Option Nat := match S.1 a with
  | some (.inr (k, (n, .inr (.inr (.inr (.inr f)))))) => if k = 4 ∧ ¬ (i < 0 ∨ n ≤ i.toNatClampNeg) then f i.toNatClampNeg else none
  | _ => none
def xrdC (S : xS) (a : Nat) (i : Int32) : Option Int32 := match S.1 a with
  | some (.inr (k, (n, .inl f))) => if k = 5 ∧ ¬ (i < 0 ∨ n ≤ i.toNatClampNeg) then some (f i.toNatClampNeg) else none
  | _ => none
def xlenC (S : xS) (a : Nat) : Option Int32 := match S.1 a with
  | some (.inr (k, (n, .inl _))) => if k = 5 then some (Int32.ofNat n) else none
  | _ => none
def xlen (S : xS) (a : Nat) : Option Int32 := match S.1 a with
  | some (.inr (k, (n, _))) => if k < 5 ∨ k = 6 then some (Int32.ofNat n) else none
  | _ => none
def xwrI (S : xS) (a : Nat) (i v : Int32) : Option xS := match S.1 a with
  | some (.inr (k, (n, .inl f))) => if k = 0 ∧ ¬ (i < 0 ∨ n ≤ i.toNatClampNeg) then some (xpt S a (.inr (0, (n, .inl (va_up f i.toNatClampNeg v))))) else none
  | _ => none
def xwrB (S : xS) (a : Nat) (i v : Int32) : Option xS := match S.1 a with
  | some (.inr (k, (n, .inl f))) => if k = 2 ∧ ¬ (i < 0 ∨ n ≤ i.toNatClampNeg) then some (xpt S a (.inr (2, (n, .inl (va_up f i.toNatClampNeg (vp_nar .boolean v)))))) else if k = 3 ∧ ¬ (i < 0 ∨ n ≤ i.toNatClampNeg) then some (xpt S a (.inr (3, (n, .inl (va_up f i.toNatClampNeg (vp_nar .byte v)))))) else none
  | _ => none
def xwrJ (S : xS) (a : Nat) (i : Int32) (v : Int64) : Option xS := match S.1 a with
  | some (.inr (k, (n, .inr (.inl f)))) => if k = 1 ∧ ¬ (i < 0 ∨ n ≤ i.toNatClampNeg) then some (xpt S a (.inr (1, (n, .inr (.inl (va_up f i.toNatClampNeg v)))))) else none
  | _ => none
def xwrR (S : xS) (a : Nat) (i : Int32) (v : Nat) : Option xS := match S.1 a with
  | some (.inr (k, (n, .inr (.inr (.inr (.inr f)))))) => if k = 4 ∧ ¬ (i < 0 ∨ n ≤ i.toNatClampNeg) then some (xpt S a (.inr (4, (n, .inr (.inr (.inr (.inr (va_up f i.toNatClampNeg (some v)))))))) ) else none
  | _ => none
/-- the fields of a new object -/
def xdef (ci : Nat) : List Value := match vwCl[ci]? with
  | some q => (List.range q.2.2).map (fun k => match parseFieldDescriptor (q.2.1 k).2.2.1 with | some ty => defaultValue ty | none => .null)
  | none => []
def xnew (S : xS) (ci : Nat) : xS := (fun b => if b = S.2.1 then some (.inl (ci, xdef ci)) else S.1 b, S.2.1 + 1, S.2.2 + (xdef ci).length)
def xz : Nat → vp_A → Prop := fun _ _ => True
def xnwa (S : xS) (k n : Nat) : xS := (fun b => if b = S.2.1 then some (.inr (k, (n, (match k with | 1 => .inr (.inl (fun _ => 0)) | 4 => .inr (.inr (.inr (.inr (fun _ => none)))) | _ => .inl (fun _ => 0))))) else S.1 b, S.2.1 + 1, S.2.2 + n)
/-- so many values off the stack: as they were put, and the rest -/
def xpop : Nat → List Value → List Value → Option (List Value × List Value)
  | 0, st, acc => some (acc, st)
  | n + 1, v :: st, acc => xpop n st (v :: acc)
  | _ + 1, [], _ => none
/-- a value that may lack -/
def xob {α ρ : Type} (o : Option α) (bad : ρ) (f : α → ρ) : ρ := match o with
  | some v => f v
  | none => bad
section XST
variable {ρ : Type} (bad : ρ) (ret : Option Value → xS → ρ) (jmp : Nat → xL → List Value → xS → ρ) (cal : Nat → List Value → xS → Nat → xL → List Value → ρ)
def xo_b (c : Jvm.ClassFile.Cond) (p : Jvm.ClassFile.Cond → Bool) : Bool := p c
def xob1 (c : Jvm.ClassFile.Cond) (v : Int32) (tgt nxt : Nat) (l : xL) (st : List Value) (S : xS) : ρ := match c with
  | .eq => if v = 0 then jmp tgt l st S else jmp nxt l st S
  | .ne => if v ≠ 0 then jmp tgt l st S else jmp nxt l st S
  | .lt => if v < 0 then jmp tgt l st S else jmp nxt l st S
  | .ge => if 0 ≤ v then jmp tgt l st S else jmp nxt l st S
  | .gt => if 0 < v then jmp tgt l st S else jmp nxt l st S
  | .le => if v ≤ 0 then jmp tgt l st S else jmp nxt l st S
def xob2 (c : Jvm.ClassFile.Cond) (v w : Int32) (tgt nxt : Nat) (l : xL) (st : List Value) (S : xS) : ρ := match c with
  | .eq => if v = w then jmp tgt l st S else jmp nxt l st S
  | .ne => if v ≠ w then jmp tgt l st S else jmp nxt l st S
  | .lt => if v < w then jmp tgt l st S else jmp nxt l st S
  | .ge => if w ≤ v then jmp tgt l st S else jmp nxt l st S
  | .gt => if w < v then jmp tgt l st S else jmp nxt l st S
  | .le => if v ≤ w then jmp tgt l st S else jmp nxt l st S
def xoI1 (f : Int32 → Value) (pc : Nat) (l : xL) (st : List Value) (S : xS) : ρ := match st with | .int v :: r => jmp (pc + 1) l (f v :: r) S | _ => bad
def xoJ1 (f : Int64 → Value) (pc : Nat) (l : xL) (st : List Value) (S : xS) : ρ := match st with | .long v :: r => jmp (pc + 1) l (f v :: r) S | _ => bad
def xoI2 (f : Int32 → Int32 → Value) (pc : Nat) (l : xL) (st : List Value) (S : xS) : ρ := match st with | .int w :: .int v :: r => jmp (pc + 1) l (f v w :: r) S | _ => bad
def xoJ2 (f : Int64 → Int64 → Value) (pc : Nat) (l : xL) (st : List Value) (S : xS) : ρ := match st with | .long w :: .long v :: r => jmp (pc + 1) l (f v w :: r) S | _ => bad
def xoJI (f : Int64 → Int32 → Value) (pc : Nat) (l : xL) (st : List Value) (S : xS) : ρ := match st with | .int w :: .long v :: r => jmp (pc + 1) l (f v w :: r) S | _ => bad
def xldI (k nxt : Nat) (l : xL) (st : List Value) (S : xS) : ρ := match xget l k with | some (.int v) => jmp nxt l (.int v :: st) S | _ => bad
def xldJ (k nxt : Nat) (l : xL) (st : List Value) (S : xS) : ρ := match xget l k with | some (.long v) => jmp nxt l (.long v :: st) S | _ => bad
def xldR (k nxt : Nat) (l : xL) (st : List Value) (S : xS) : ρ := match xget l k with | some (.ref v) => jmp nxt l (.ref v :: st) S | _ => bad
def xsI (ml k nxt : Nat) (l : xL) (st : List Value) (S : xS) : ρ := match st with | .int v :: r => (bif Nat.blt k ml then jmp nxt (xpu1 l k (.int v)) r S else bad) | _ => bad
def xsJ (ml k nxt : Nat) (l : xL) (st : List Value) (S : xS) : ρ := match st with | .long v :: r => (bif Nat.blt (k + 1) ml then jmp nxt (xpu2 l k (.long v)) r S else bad) | _ => bad
def xsR (ml k nxt : Nat) (l : xL) (st : List Value) (S : xS) : ρ := match st with | .ref v :: r => (bif Nat.blt k ml then jmp nxt (xpu1 l k (.ref v)) r S else bad) | _ => bad
def xogf (x : xX) (pc : Nat) (l : xL) (st : List Value) (S : xS) : ρ := match st with
  | .ref a :: r => (match x.2.2.2 with
    | 1 => (xob (xfJ S a x.1 x.2.1) bad fun v => jmp (pc + 3) l (.long v :: r) S)
    | 2 => (xob (xfR S a x.1 x.2.1) bad fun v => jmp (pc + 3) l (.ref v :: r) S)
    | _ => (xob (xfI S a x.1 x.2.1) bad fun v => jmp (pc + 3) l (.int v :: r) S))
  | _ => bad
def xopf (x : xX) (pc : Nat) (l : xL) (st : List Value) (S : xS) : ρ := match st with
  | v :: .ref a :: r => (xob (xpf S a x.1 x.2.1 x.2.2.2 v) bad fun S1 => jmp (pc + 3) l r S1)
  | _ => bad
def xoal (pc : Nat) (l : xL) (st : List Value) (S : xS) : ρ := match st with | .ref a :: r => (xob (xlen S a) bad fun v => jmp (pc + 1) l (.int v :: r) S) | _ => bad
def xoaI (rd : xS → Nat → Int32 → Option Int32) (pc : Nat) (l : xL) (st : List Value) (S : xS) : ρ := match st with | .int i :: .ref a :: r => (xob (rd S a i) bad fun v => jmp (pc + 1) l (.int v :: r) S) | _ => bad
def xoaJ (pc : Nat) (l : xL) (st : List Value) (S : xS) : ρ := match st with | .int i :: .ref a :: r => (xob (xrdJ S a i) bad fun v => jmp (pc + 1) l (.long v :: r) S) | _ => bad
def xoaR (pc : Nat) (l : xL) (st : List Value) (S : xS) : ρ := match st with | .int i :: .ref a :: r => (xob (xrdR S a i) bad fun v => jmp (pc + 1) l (.ref v :: r) S) | _ => bad
def xoasI (wr : xS → Nat → Int32 → Int32 → Option xS) (pc : Nat) (l : xL) (st : List Value) (S : xS) : ρ := match st with | .int v :: .int i :: .ref a :: r => (xob (wr S a i v) bad fun S1 => jmp (pc + 1) l r S1) | _ => bad
def xoasJ (pc : Nat) (l : xL) (st : List Value) (S : xS) : ρ := match st with | .long v :: .int i :: .ref a :: r => (xob (xwrJ S a i v) bad fun S1 => jmp (pc + 1) l r S1) | _ => bad
def xoasR (pc : Nat) (l : xL) (st : List Value) (S : xS) : ρ := match st with | .ref v :: .int i :: .ref a :: r => (bif xisO S v 0 then (xob (xwrR S a i v) bad fun S1 => jmp (pc + 1) l r S1) else bad) | _ => bad
def xoret (rt : Option FieldType) (st : List Value) (S : xS) : ρ := match st with
  | [.int v] => (match rt with | some .int => ret (some (.int v)) S | some .boolean => (bif v == 0 || v == 1 then ret (some (.int v)) S else bad) | _ => bad)
  | _ => bad
def xolret (rt : Option FieldType) (st : List Value) (S : xS) : ρ := match st with
  | [.long v] => (match rt with | some .long => ret (some (.long v)) S | _ => bad)
  | _ => bad
def xoaret (rt : Option FieldType) (st : List Value) (S : xS) : ρ := match st with
  | [.ref v] => (match rt with | some (.object _) => ret (some (.ref v)) S | _ => bad)
  | _ => bad
def xovret (rt : Option FieldType) (st : List Value) (S : xS) : ρ := match st with
  | [] => (match rt with | none => ret none S | _ => bad)
  | _ => bad
def xoV (x : xX) (pc : Nat) (l : xL) (st : List Value) (S : xS) : ρ := bif Nat.beq x.1 1000 then (match st with | .ref a :: r => (xob (xlenC S a) bad fun v => (bif Nat.ble (xcs r) 8 then jmp (pc + 3) l (.int v :: r) S else bad)) | _ => bad)
  else bif Nat.beq x.1 1001 then (match st with | .int i :: .ref a :: r => (xob (xrdC S a i) bad fun v => (bif Nat.ble (xcs r) 8 then jmp (pc + 3) l (.int v :: r) S else bad)) | _ => bad)
  else (match xpop x.2.1 st [] with
  | some (as, .ref b :: rest) => (bif xisO S b (xow x.1) then (bif Nat.ble (xcs rest) 8 && Nat.ble (xcs (.ref b :: as)) (xml x.1) then cal x.1 (.ref b :: as) S (pc + 3) l rest else bad) else bad)
  | _ => bad)
def xoS (x : xX) (pc : Nat) (l : xL) (st : List Value) (S : xS) : ρ := match xpop x.2.1 st [] with
  | some (as, rest) => (bif Nat.ble (xcs rest) 8 && Nat.ble (xcs as) (xml x.1) then cal x.1 as S (pc + 3) l rest else bad)
  | _ => bad
def xoI (x : xX) (pc : Nat) (l : xL) (st : List Value) (S : xS) : ρ := match x.2.2.2 with
  | 2 => (match st with | .ref _ :: r => (bif Nat.ble (xcs r) 8 then jmp (pc + 3) l r S else bad) | _ => bad)
  | _ => (match xpop x.2.1 st [] with
    | some (as, .ref b :: rest) => (bif Nat.ble (xcs rest) 8 && Nat.ble (xcs (.ref b :: as)) (xml x.1) then cal x.1 (.ref b :: as) S (pc + 3) l rest else bad)
    | _ => bad)
def xonwa (k : Nat) (nxt : Nat) (l : xL) (st : List Value) (S : xS) : ρ := match st with
  | .int n :: r => (if n < 0 ∨ 1000000 ≤ n.toNatClampNeg then bad else jmp nxt l (.ref S.2.1 :: r) (xnwa S k n.toNatClampNeg))
  | _ => bad
def xosw (d lo hi : Int) (offs : Array Int) (pc : Nat) (l : xL) (st : List Value) (S : xS) : ρ := match st with
  | .int v :: r => (if v.toInt < lo ∨ hi < v.toInt then (if 0 ≤ (pc : Int) + d then jmp ((pc : Int) + d).toNat l r S else bad) else (match offs[(v.toInt - lo).toNat]? with
    | some off => (if 0 ≤ (pc : Int) + off then jmp ((pc : Int) + off).toNat l r S else bad)
    | none => bad))
  | _ => bad
def xodup (pc : Nat) (l : xL) (st : List Value) (S : xS) : ρ := match st with | v :: r => (bif Nat.beq v.category 1 then jmp (pc + 1) l (v :: v :: r) S else bad) | _ => bad
def xopop (pc : Nat) (l : xL) (st : List Value) (S : xS) : ρ := match st with | v :: r => (bif Nat.beq v.category 1 then jmp (pc + 1) l r S else bad) | _ => bad
def xodup2 (pc : Nat) (l : xL) (st : List Value) (S : xS) : ρ := match st with | v :: w :: r => (bif Nat.beq v.category 1 && Nat.beq w.category 1 then jmp (pc + 1) l (v :: w :: v :: w :: r) S else bad) | _ => bad
def xodiv (f : Int32 → Int32 → Int32) (pc : Nat) (l : xL) (st : List Value) (S : xS) : ρ := match st with | .int w :: .int v :: r => (if w = 0 then bad else jmp (pc + 1) l (.int (f v w) :: r) S) | _ => bad
def xoldiv (f : Int64 → Int64 → Int64) (pc : Nat) (l : xL) (st : List Value) (S : xS) : ρ := match st with | .long w :: .long v :: r => (if w = 0 then bad else jmp (pc + 1) l (.long (f v w) :: r) S) | _ => bad
def xoinc (k : Nat) (n : Int) (ml pc : Nat) (l : xL) (st : List Value) (S : xS) : ρ := match xget l k with | some (.int v) => (bif Nat.blt k ml then jmp (pc + 3) (xpu1 l k (.int (v + Int32.ofInt n))) st S else bad) | _ => bad
def xst (P : Nat → Nat) (m pc : Nat) (i : Instr) (x : xX) (l : xL) (st : List Value) (S : xS) : ρ := match i with
  | .aload k => xldR bad jmp k (pc + 2) l st S
  | .aload_n k => xldR bad jmp k.val (pc + 1) l st S
  | .iload k => xldI bad jmp k (pc + 2) l st S
  | .iload_n k => xldI bad jmp k.val (pc + 1) l st S
  | .lload k => xldJ bad jmp k (pc + 2) l st S
  | .lload_n k => xldJ bad jmp k.val (pc + 1) l st S
  | .astore k => xsR bad jmp (xml m) k (pc + 2) l st S
  | .astore_n k => xsR bad jmp (xml m) k.val (pc + 1) l st S
  | .istore k => xsI bad jmp (xml m) k (pc + 2) l st S
  | .istore_n k => xsI bad jmp (xml m) k.val (pc + 1) l st S
  | .lstore k => xsJ bad jmp (xml m) k (pc + 2) l st S
  | .lstore_n k => xsJ bad jmp (xml m) k.val (pc + 1) l st S
  | .iconst _ => jmp (pc + 1) l (.int (Int32.ofInt x.2.2.2) :: st) S
  | .bipush _ => jmp (pc + 2) l (.int (Int32.ofInt x.2.2.2) :: st) S
  | .sipush _ => jmp (pc + 3) l (.int (Int32.ofInt x.2.2.2) :: st) S
  | .lconst n => jmp (pc + 1) l (.long (Int64.ofNat n.val) :: st) S
  | .ldc2_w _ => jmp (pc + 3) l (.long (Int64.ofInt x.2.2.2) :: st) S
  | .iadd => xoI2 bad jmp (fun v w => .int (v + w)) pc l st S
  | .isub => xoI2 bad jmp (fun v w => .int (v - w)) pc l st S
  | .imul => xoI2 bad jmp (fun v w => .int (v * w)) pc l st S
  | .iand => xoI2 bad jmp (fun v w => .int (v &&& w)) pc l st S
  | .ior => xoI2 bad jmp (fun v w => .int (v ||| w)) pc l st S
  | .ixor => xoI2 bad jmp (fun v w => .int (v ^^^ w)) pc l st S
  | .ishl => xoI2 bad jmp (fun v w => .int (v <<< (w &&& 31))) pc l st S
  | .ishr => xoI2 bad jmp (fun v w => .int (v >>> (w &&& 31))) pc l st S
  | .ineg => xoI1 bad jmp (fun v => .int (-v)) pc l st S
  | .i2l => xoI1 bad jmp (fun v => .long v.toInt64) pc l st S
  | .l2i => xoJ1 bad jmp (fun v => .int v.toInt32) pc l st S
  | .lneg => xoJ1 bad jmp (fun v => .long (-v)) pc l st S
  | .ladd => xoJ2 bad jmp (fun v w => .long (v + w)) pc l st S
  | .lsub => xoJ2 bad jmp (fun v w => .long (v - w)) pc l st S
  | .lmul => xoJ2 bad jmp (fun v w => .long (v * w)) pc l st S
  | .land => xoJ2 bad jmp (fun v w => .long (v &&& w)) pc l st S
  | .lor => xoJ2 bad jmp (fun v w => .long (v ||| w)) pc l st S
  | .lxor => xoJ2 bad jmp (fun v w => .long (v ^^^ w)) pc l st S
  | .lcmp => xoJ2 bad jmp (fun v w => .int (lg_cmp v w)) pc l st S
  | .lshl => xoJI bad jmp (fun v w => .long (v <<< (w.toInt64 &&& 63))) pc l st S
  | .lushr => xoJI bad jmp (fun v w => .long (v.toUInt64 >>> (w.toInt64.toUInt64 &&& Int64.toUInt64 63)).toInt64) pc l st S
  | .idiv => xodiv bad jmp (fun v w => v / w) pc l st S
  | .irem => xodiv bad jmp (fun v w => v - v / w * w) pc l st S
  | .ldiv => xoldiv bad jmp (fun v w => v / w) pc l st S
  | .lrem => xoldiv bad jmp (fun v w => v - v / w * w) pc l st S
  | .dup => xodup bad jmp pc l st S
  | .dup2 => xodup2 bad jmp pc l st S
  | .pop => xopop bad jmp pc l st S
  | .iinc k n => xoinc bad jmp k n (xml m) pc l st S
  | .ifCond c _ => (match st with | .int v :: r => xob1 jmp c v x.1 (pc + 3) l r S | _ => bad)
  | .if_icmp c _ => (match st with | .int w :: .int v :: r => xob2 jmp c v w x.1 (pc + 3) l r S | _ => bad)
  | .goto _ => jmp x.1 l st S
  | .getfield _ => xogf bad jmp x pc l st S
  | .putfield _ => xopf bad jmp x pc l st S
  | .getstatic _ => jmp (pc + 3) l (.ref (P x.1) :: st) S
  | .ldc _ => jmp (pc + 2) l (.ref (P x.1) :: st) S
  | .ldc_w _ => jmp (pc + 3) l (.ref (P x.1) :: st) S
  | .arraylength => xoal bad jmp pc l st S
  | .iaload => xoaI bad jmp xrdI pc l st S
  | .baload => xoaI bad jmp xrdB pc l st S
  | .laload => xoaJ bad jmp pc l st S
  | .aaload => xoaR bad jmp pc l st S
  | .iastore => xoasI bad jmp xwrI pc l st S
  | .bastore => xoasI bad jmp xwrB pc l st S
  | .lastore => xoasJ bad jmp pc l st S
  | .aastore => xoasR bad jmp pc l st S
  | .new _ => jmp (pc + 3) l (.ref S.2.1 :: st) (xnew S x.1)
  | .newarray _ => xonwa bad jmp x.1 (pc + 2) l st S
  | .anewarray _ => xonwa bad jmp 4 (pc + 3) l st S
  | .invokevirtual _ => xoV bad jmp cal x pc l st S
  | .invokestatic _ => xoS bad cal x pc l st S
  | .invokespecial _ => xoI bad jmp cal x pc l st S
  | .ireturn => xoret bad ret (xrt m) st S
  | .lreturn => xolret bad ret (xrt m) st S
  | .areturn => xoaret bad ret (xrt m) st S
  | .return_ => xovret bad ret (xrt m) st S
  | .tableswitch d lo hi offs => xosw bad jmp d lo hi offs pc l st S
  | _ => bad
end XST
/-- a step, as a value -/
abbrev xN : Type := Option ((Option Value × xS) ⊕ (Nat × xL × List Value × xS) ⊕ (Nat × List Value × xS × Nat × xL × List Value))
abbrev xrN : Option Value → xS → xN := fun v S => some (.inl (v, S))
abbrev xjN : Nat → xL → List Value → xS → xN := fun pc l st S => some (.inr (.inl (pc, l, st, S)))
abbrev xcN : Nat → List Value → xS → Nat → xL → List Value → xN := fun m a S pc l st => some (.inr (.inr (m, a, S, pc, l, st)))
def xnx (P : Nat → Nat) (m pc : Nat) (l : xL) (st : List Value) (S : xS) : xN := match xin m pc with
  | some (i, x) => xst none xrN xjN xcN P m pc i x l st S
  | none => none
/-- at a label the locals that live there, in order -/
def xnorm (m pc : Nat) (l : xL) : xL := match xlv m pc with
  | some ks => ks.filterMap (fun k => (xget l k).map (fun v => (k, v)))
  | none => l
/-- so many steps -/
def xev (P : Nat → Nat) : Nat → Nat → Nat → xL → List Value → xS → xR
  | 0, _, _, _, _, _ => none
  | n + 1, m, pc, l, st, S => match xnx P m pc l st S with
    | none => none
    | some (.inl r) => some r
    | some (.inr (.inl (pc, l, st, S))) => xev P n m pc (xnorm m pc l) st S
    | some (.inr (.inr (m', a, S, pc, l, st))) => match xev P n m' 0 (lv_args 0 a) [] S with
      | some (v, S1) => xev P n m pc (xnorm m pc l) (v.toList ++ st) S1
      | none => none
