/-! the abstract heap held against the machine's -/
abbrev xA (z0 : Nat) : Nat → Prop := fun q => z0 ≤ q
def xKi (k : Nat) : FieldType := match k with | 0 => .int | 1 => .long | 2 => .boolean | 3 => .byte | _ => .object RX0
def xtys (CA : Nat → ClassId) : List (ClassId × FieldType) := [(CA 0, .int), (CA 1, .long), (CA 2, .boolean), (CA 3, .byte), (CA 4, .object RX0)]
/-- a text that nobody writes: n signs of Latin-1 -/
def xTx (z0 : Nat) (U : State) (H : Heap) (a n : Nat) (f : Nat → Int32) : Prop := n < 128 ∧ (∀ j, j < n → 0 ≤ (f j).toInt ∧ (f j).toInt < 128) ∧ ∃ v, va_O "java/lang/String" a (xA z0) U H ∧ va_OF "java/lang/String" "coder" "B" (.int 0) a (xA z0) U H ∧ va_OF "java/lang/String" "value" "[B" (.ref v) a (xA z0) U H ∧ va_T .byte v n (fun j => .int (f j)) (xA z0) U H
theorem xTx.lt {z0 : Nat} {U : State} {H : Heap} {a n : Nat} {f : Nat → Int32} (h : xTx z0 U H a n f) : a < H.size := by
  obtain ⟨-, -, v, ⟨cell, h1, -⟩, -⟩ := h
  exact (Array.getElem?_eq_some_iff.mp h1).1
theorem xTx.kept {z0 : Nat} {U : State} {H H1 : Heap} {a n : Nat} {f : Nat → Int32} (h : xTx z0 U H a n f) (h0 : ∀ b : Nat, b < H.size → ¬ xA z0 b → H1[b]? = H[b]?) : xTx z0 U H1 a n f := by
  obtain ⟨h1, h2, v, h3, h4, h5, h6⟩ := h
  exact ⟨h1, h2, v, h3.kept h0, h4.kept h0, h5.kept h0, h6.kept h0⟩
theorem xTx.moved {z0 : Nat} {u U : State} {H : Heap} {a n : Nat} {f : Nat → Int32} (hvm : u.vm.Alike U.vm) (h : xTx z0 u H a n f) : xTx z0 U H a n f := by
  obtain ⟨h1, h2, v, h3, h4, h5, h6⟩ := h
  exact ⟨h1, h2, v, va_O.moved hvm h3, va_OF.moved hvm h4, va_OF.moved hvm h5, va_T.moved hvm h6⟩
def xat (D : va_G) (CA : Nat → ClassId) (z0 : Nat) (U : State) (H : Heap) (a : Nat) (e : xC) : Prop := match e with
  | .inl o => z0 ≤ a ∧ va_at D vwCl (a, .inr o) H
  | .inr q => if q.1 < 5 then z0 ≤ a ∧ H[a]? = some (vp_cell (CA q.1) q.2) else if q.1 = 6 then ∃ f, q.2.2 = .inl f ∧ va_T .int a q.2.1 (fun j => .int (f j)) (xA z0) U H else if q.1 = 5 then ∃ f, q.2.2 = .inl f ∧ xTx z0 U H a q.2.1 f else False
theorem xat.lt {D : va_G} {CA : Nat → ClassId} {z0 : Nat} {U : State} {H : Heap} {a : Nat} {e : xC} (h : xat D CA z0 U H a e) : a < H.size := by
  cases e with
  | inl o => exact h.2.lt
  | inr q =>
    unfold xat at h
    dsimp only at h
    split at h
    · exact (Array.getElem?_eq_some_iff.mp h.2).1
    · split at h
      · obtain ⟨f, -, cell, h1, -⟩ := h
        exact (Array.getElem?_eq_some_iff.mp h1).1
      · split at h
        · obtain ⟨f, -, h1⟩ := h
          exact h1.lt
        · exact h.elim
theorem xat.kept {D : va_G} {CA : Nat → ClassId} {z0 : Nat} {U : State} {H H1 : Heap} {a : Nat} {e : xC} (h : xat D CA z0 U H a e) (hq : H1[a]? = H[a]?) (h0 : ∀ b : Nat, b < H.size → ¬ xA z0 b → H1[b]? = H[b]?) : xat D CA z0 U H1 a e := by
  cases e with
  | inl o => exact ⟨h.1, h.2.kept hq⟩
  | inr q =>
    unfold xat at h ⊢
    dsimp only at h ⊢
    split at h
    · rename_i h5
      rw [if_pos h5]
      exact ⟨h.1, hq.trans h.2⟩
    · rename_i h5
      rw [if_neg h5]
      split at h
      · rename_i h6
        rw [if_pos h6]
        obtain ⟨f, h1, h2⟩ := h
        exact ⟨f, h1, h2.kept h0⟩
      · rename_i h6
        rw [if_neg h6]
        split at h
        · rename_i h7
          rw [if_pos h7]
          obtain ⟨f, h1, h2⟩ := h
          exact ⟨f, h1, h2.kept h0⟩
        · exact h.elim
theorem xat.moved {D : va_G} {CA : Nat → ClassId} {z0 : Nat} {u U : State} {H : Heap} {a : Nat} {e : xC} (hvm : u.vm.Alike U.vm) (h : xat D CA z0 u H a e) : xat D CA z0 U H a e := by
  cases e with
  | inl o => exact h
  | inr q =>
    unfold xat at h ⊢
    dsimp only at h ⊢
    split at h
    · rename_i h5
      rw [if_pos h5]
      exact h
    · rename_i h5
      rw [if_neg h5]
      split at h
      · rename_i h6
        rw [if_pos h6]
        obtain ⟨f, h1, h2⟩ := h
        exact ⟨f, h1, h2.moved hvm⟩
      · rename_i h6
        rw [if_neg h6]
        split at h
        · rename_i h7
          rw [if_pos h7]
          obtain ⟨f, h1, h2⟩ := h
          exact ⟨f, h1, h2.moved hvm⟩
        · exact h.elim
def xP (D : va_G) (CA : Nat → ClassId) (z0 : Nat) (G : xH) (U : State) (H : Heap) : Prop := ∀ (a : Nat) (e : xC), G a = some e → xat D CA z0 U H a e
theorem xP.set {D : va_G} {CA : Nat → ClassId} {z0 : Nat} {G : xH} {U : State} {H H1 : Heap} {a : Nat} {e : xC} (h : xP D CA z0 G U H) (ha : z0 ≤ a) (he : xat D CA z0 U H1 a e) (o : ∀ q : Nat, q ≠ a → H1[q]? = H[q]?) : xP D CA z0 (fun b => if b = a then some e else G b) U H1 := by
  intro b f hb
  dsimp only at hb
  by_cases hba : b = a
  · subst hba
    rw [if_pos rfl] at hb
    cases hb
    exact he
  · rw [if_neg hba] at hb
    exact (h b f hb).kept (o b hba) (fun q _ hq => o q (fun e => hq (by rw [e]; exact ha)))
theorem xP.push {D : va_G} {CA : Nat → ClassId} {z0 : Nat} {G : xH} {U : State} {H H1 : Heap} {e : xC} (h : xP D CA z0 G U H) (he : xat D CA z0 U H1 H.size e) (o : ∀ q : Nat, q < H.size → H1[q]? = H[q]?) : xP D CA z0 (fun b => if b = H.size then some e else G b) U H1 := by
  intro b f hb
  dsimp only at hb
  by_cases hba : b = H.size
  · rw [if_pos hba] at hb
    cases hb
    rw [hba]
    exact he
  · rw [if_neg hba] at hb
    exact (h b f hb).kept (o b (h b f hb).lt) (fun q hq _ => o q hq)
theorem xP.moved {D : va_G} {CA : Nat → ClassId} {z0 : Nat} {G : xH} {u U : State} {H : Heap} (hvm : u.vm.Alike U.vm) (h : xP D CA z0 G u H) : xP D CA z0 G U H := fun a e he => (h a e he).moved hvm
/-- what is known of the tables and of what nobody writes -/
def xEnv (D : va_G) (CA : Nat → ClassId) (z0 : Nat) (P : Nat → Nat) (U : State) (H : Heap) : Prop := va_K D vwCl (xtys CA) U ∧ va_Z RX10 "PRIMES" "[I" (.ref (P 0)) (xA z0) U H ∧ va_AO RX0 U ∧ (∀ q ∈ xNe, va_Nw (.methodLinkNest q.1 q.2.1 q.2.2.1 q.2.2.2) U) ∧ va_Z "java/lang/String" "COMPACT_STRINGS" "Z" (.int 1) (xA z0) U H ∧ va_Zq "jdk/internal/util/Preconditions" "SIOOBE_FORMATTER" "Ljava/util/function/BiFunction;" (xA z0) U H ∧ ∀ (k : Nat) (o : String) (i : Nat) (t : String), xStr[k]? = some (o, i, t) → vk_R o i t (P (k + 1)) U
/-- a world: the abstract heap, its size, what was written so far -/
def xWd (D : va_G) (CA : Nat → ClassId) (z0 s0 : Nat) (s : State) (H : Heap) (locs : List Loc) (cells slots : Nat) (S : xS) : Prop := xP D CA z0 S.1 s H ∧ H.size = S.2.1 ∧ va_S (xA z0) s.heap H locs ∧ s.heap.size + cells = S.2.1 ∧ s0 + slots = S.2.2
theorem xget_mem {l : xL} {i : Nat} {v : Value} : xget l i = some v → (i, v) ∈ l := by
  induction l with
  | nil => intro h; cases h
  | cons q l ih =>
    intro h
    rw [xget] at h
    cases hb : Nat.beq q.1 i with
    | true =>
      rw [hb] at h
      have e : q.1 = i := Nat.eq_of_beq_eq_true hb
      cases h
      rw [← e]
      exact List.mem_cons_self
    | false =>
      rw [hb] at h
      exact List.mem_cons_of_mem _ (ih h)
theorem xget_at {ls : Array Slot} {nL : Nat} {l : xL} (h : lv_has ls nL l) {i : Nat} {v : Value} (hv : xget l i = some v) : ls[i]? = some (.val v) := by
  exact h.2.2 (i, v) (xget_mem hv)
theorem xpop_eq : ∀ (n : Nat) (st acc as rest : List Value), xpop n st acc = some (as, rest) → ∃ pre : List Value, pre.length = n ∧ st = pre ++ rest ∧ as = pre.reverse ++ acc := by
  intro n
  induction n with
  | zero =>
    intro st acc as rest h
    cases h
    exact ⟨[], rfl, rfl, rfl⟩
  | succ n ih =>
    intro st acc as rest h
    cases st with
    | nil => cases h
    | cons v st =>
      obtain ⟨pre, h1, h2, h3⟩ := ih st (v :: acc) as rest h
      refine ⟨v :: pre, by rw [List.length_cons, h1], by rw [h2]; rfl, ?_⟩
      rw [h3, List.reverse_cons, List.append_assoc]
      rfl
theorem xpop_st {n : Nat} {st as rest : List Value} (h : xpop n st [] = some (as, rest)) : as.length = n ∧ st = as.reverse ++ rest := by
  obtain ⟨pre, h1, h2, h3⟩ := xpop_eq n st [] as rest h
  rw [List.append_nil] at h3
  subst h3
  exact ⟨by rw [List.length_reverse, h1], by rw [List.reverse_reverse]; exact h2⟩
theorem xcs_len (as : List Value) : (lg_sl as).length = xcs as := by
  induction as with
  | nil => rfl
  | cons v as ih =>
    have e1 : lg_sl (v :: as) = (if v.category = 2 then [.val v, .second] else [.val v]) ++ lg_sl as := by simp [lg_sl]
    have e2 : xcs (v :: as) = v.category + xcs as := by simp [xcs]
    rw [e1, e2, List.length_append, ih]
    rcases lv_cat v with h | h <;> simp [h]
theorem xput_upd (f : Nat → Int32) (k : Nat) (v : Int32) : upd f k v = va_up f k v := rfl
theorem xput_updL (f : Nat → Int64) (k : Nat) (v : Int64) : vp_updL f k v = va_up f k v := rfl
/-- of a field: its class, its place, its kind -/
theorem xfd_at {S : xS} {a ci k : Nat} {v : Value} (h : xfd S a ci k = some v) : ∃ fs : List Value, S.1 a = some (.inl (ci, fs)) ∧ fs[k]? = some v := by
  unfold xfd at h
  split at h
  · rename_i o ho
    cases hb : Nat.beq o.1 ci with
    | true =>
      rw [hb] at h
      have e := Nat.eq_of_beq_eq_true hb
      exact ⟨o.2, by rw [ho, ← e], h⟩
    | false =>
      rw [hb] at h
      cases h
  · cases h
