-- deps: 13.field
/-! History: how things were before each of the latest acts -/
/-- the cells from a on, n of them -/
def xrg (a n : Nat) : Nat → Prop := fun b => a ≤ b ∧ b < a + n
def xhA (h j : Nat) : Nat := h + 2 + 3 * j
def xHi (S : xS) (h : Nat) (hs : List xF) : Prop := hs.length ≤ 12 ∧ ∃ (t : Nat) (f : Nat → Option Nat), t < 12 ∧ S.1 h = some (.inl (1, [.ref (h + 1), .int (iI hs.length), .int (iI t)])) ∧ S.1 (h + 1) = some (.inr (4, (12, .inr (.inr (.inr (.inr f)))))) ∧ (∀ j, j < 12 → f j = some (xhA h j)) ∧ (∀ j, j < 12 → ∃ k f g, xFs S (xhA h j) k f g) ∧ ∀ i (hi : i < hs.length), xFd S (xhA h ((t + 11 - i) % 12)) hs[i]
theorem xHi.fr {S S1 : xS} {h : Nat} {hs : List xF} {A : Nat → Prop} (H : xHi S h hs) (hf : xfr S S1 A) (h0 : ∀ b, xrg h 38 b → ¬ A b) : xHi S1 h hs := by
  obtain ⟨hl, t, f, ht, e1, e2, e3, e4, e5⟩ := H
  refine ⟨hl, t, f, ht, (hf.2 _ (h0 _ ⟨by omega, by omega⟩)).trans e1, (hf.2 _ (h0 _ ⟨by omega, by omega⟩)).trans e2, e3, fun j hj => ?_, fun i hi => ?_⟩
  · obtain ⟨k, f', g', q⟩ := e4 j hj
    exact ⟨k, f', g', q.fr hf (fun b hb => h0 b (by unfold x3 xhA at hb; unfold xrg; omega))⟩
  · exact (e5 i hi).fr hf (fun b hb => h0 b (by unfold x3 xhA at hb; unfold xrg; omega))
section HI
variable {P : Nat → Nat} {S : xS} {h b : Nat} {hs : List xF} {F : xF}
theorem xHi.o (H : xHi S h hs) : xisO S h 1 = true := by
  obtain ⟨hl, t, f, ht, e1, -⟩ := H
  exact xisO_at e1
theorem d_hsize (H : xHi S h hs) : xcI P m_X1_size [.ref h] S = some (iI hs.length, S) := by
  obtain ⟨hl, t, f, ht, e1, -⟩ := H
  refine xcI_of ((e_X1_size_0 P h S).trans ?_)
  rw [xfI_at e1 rfl, xob_some]
theorem d_hclear (H : xHi S h hs) : ∃ S1, xcV P m_X1_clear [.ref h] S = some S1 ∧ xHi S1 h [] ∧ xfr S S1 (xrg h 38) := by
  obtain ⟨hl, t, f, ht, e1, e2, e3, e4, e5⟩ := H
  refine ⟨xpt S h (.inl (1, [.ref (h + 1), .int (iI 0), .int (iI t)])), xcV_of ((e_X1_clear_0 P h S).trans ?_), ⟨by simp, t, f, ht, by rw [xpt_1, if_pos rfl]; rfl, by rw [xpt_1, if_neg (by omega)]; exact e2, e3, fun j hj => ?_, fun i hi => absurd hi (by simp)⟩, xfr.pt ⟨by omega, by omega⟩⟩
  · rw [xpf_at e1 (show 1 < 3 by decide) rfl, xob_some]
    rfl
  · obtain ⟨k, f', g', q⟩ := e4 j hj
    exact ⟨k, f', g', q.fr (A := fun b => b = h) (xfr.pt rfl) (fun b hb hx => by unfold x3 xhA at hb; omega)⟩
theorem d_push (H : xHi S h hs) (hF : xFd S b F) (hb : b + 2 < h ∨ h + 38 ≤ b) : ∃ S1, xcV P m_X1_push [.ref h, .ref b] S = some S1 ∧ xHi S1 h ((F :: hs).take 12) ∧ xfr S S1 (xrg h 38) := by
  obtain ⟨hl, t, f, ht, e1, e2, e3, e4, e5⟩ := H
  obtain ⟨k0, f0, g0, q0⟩ := e4 t ht
  obtain ⟨S1, c1, c2, c3⟩ := d_become (P := P) (a := xhA h t) (b := b) (by unfold xhA; omega) q0 hF
  have n1 : ∀ x, (x = h ∨ x = h + 1) → S1.1 x = S.1 x := fun x hx => c3.2 x (by unfold x3 xhA; omega)
  have e1' : S1.1 h = some (.inl (1, [.ref (h + 1), .int (iI hs.length), .int (iI t)])) := (n1 h (Or.inl rfl)).trans e1
  have e2' := (n1 (h + 1) (Or.inr rfl)).trans e2
  have len : ((F :: hs).take 12).length = min (hs.length + 1) 12 := by rw [List.length_take, List.length_cons, Nat.min_comm]
  have r3 : xfr S S1 (xrg h 38) := c3.mono (fun x hx => by unfold x3 xhA at hx; unfold xrg; omega)
  let S2 : xS := xpt S1 h (.inl (1, [.ref (h + 1), .int (iI hs.length), .int (iI ((t + 1) % 12 : Nat))]))
  have e3' : S2.1 h = some (.inl (1, [.ref (h + 1), .int (iI hs.length), .int (iI ((t + 1) % 12 : Nat))])) := by rw [xpt_1, if_pos rfl]
  let S3 : xS := xpt S2 h (.inl (1, [.ref (h + 1), .int (iI ((min (hs.length + 1) 12 : Nat) : Int)), .int (iI ((t + 1) % 12 : Nat))]))
  have f2 : xfr S1 S2 (fun x => x = h) := xfr.pt rfl
  have f3 : xfr S2 S3 (fun x => x = h) := xfr.pt rfl
  have fr23 : xfr S1 S3 (fun x => x = h) := f2.tr f3
  refine ⟨S3, xcV_of ((e_X1_push_0 P h b S).trans ?_), ?_, r3.tr (fr23.mono (fun x hx => by unfold xrg; omega))⟩
  · have e4 : min ((hs.length + 1 : Nat) : Int) 12 = ((min (hs.length + 1) 12 : Nat) : Int) := by omega
    have p1 : xpf S1 h 1 2 0 (.int (iI (((t + 1 : Nat) : Int) % 12))) = some S2 := (xpf_at e1' (show 2 < 3 by decide) rfl).trans rfl
    have p2 : xpf S2 h 1 1 0 (.int (iI (min ((hs.length + 1 : Nat) : Int) 12))) = some S3 := by
      rw [e4]
      exact (xpf_at e3' (show 1 < 3 by decide) rfl).trans rfl
    simp (disch := omega) only [xfI_at (k := 2) e1 rfl, xfR_at (k := 0) e1 rfl, xob_some, iI_0, iI_lt, iI_le]
    rw [if_neg (by omega), if_neg (by omega), xrdR_at e2 (by omega) (by omega) (by decide), Int.toNat_natCast, e3 t ht, xob_some, q0.o, cond_true, c1, xob_some, xfI_at (k := 2) e1' rfl, xob_some, iI_suc, iI_rem (by omega) (by omega) (by omega) (by omega), p1, xob_some, xfI_at (k := 1) e3' rfl, xob_some, iI_suc, c_min (by omega) (by omega) (by omega) (by omega), xob_some]
    dsimp only
    rw [p2, xob_some]
  · refine ⟨by rw [len]; omega, (t + 1) % 12, f, by omega, by rw [xpt_1, if_pos rfl, len], by rw [fr23.2 _ (by omega)]; exact e2', e3, fun j hj => ?_, fun i hi => ?_⟩
    · by_cases c : j = t
      · subst c
        obtain ⟨-, f', g', q, -⟩ := c2
        exact ⟨_, f', g', q.fr fr23 (fun x hx => by unfold x3 xhA at hx; omega)⟩
      · obtain ⟨k, f', g', q⟩ := e4 j hj
        exact ⟨k, f', g', (q.fr c3 (fun x hx hy => by unfold x3 xhA at hx hy; omega)).fr fr23 (fun x hx => by unfold x3 xhA at hx; omega)⟩
    · rw [len] at hi
      rw [List.getElem_take]
      cases i with
      | zero =>
        rw [List.getElem_cons_zero, show ((t + 1) % 12 + 11 - 0) % 12 = t by omega]
        exact c2.fr fr23 (fun x hx => by unfold x3 xhA at hx; omega)
      | succ i =>
        rw [List.getElem_cons_succ, show ((t + 1) % 12 + 11 - (i + 1)) % 12 = (t + 11 - i) % 12 by omega]
        exact ((e5 i (by omega)).fr c3 (fun x hx hy => by unfold x3 xhA at hx hy; omega)).fr fr23 (fun x hx => by unfold x3 xhA at hx; omega)
theorem d_pop0 (H : xHi S h hs) (hn : hs = []) : xcV P m_X1_pop [.ref h, .ref b] S = some S := by
  obtain ⟨hl, t, f, ht, e1, e2, e3, e4, e5⟩ := H
  subst hn
  refine xcV_of ((e_X1_pop_0 P h b S).trans ?_)
  rw [xfI_at (k := 1) e1 rfl, xob_some]
  rw [if_pos (by decide)]
theorem d_pop (H : xHi S h (F :: hs)) {k0 : Nat} {f0 g0 : Nat → Int32} (hF : xFs S b k0 f0 g0) (hb : b + 2 < h ∨ h + 38 ≤ b) : ∃ S1, xcV P m_X1_pop [.ref h, .ref b] S = some S1 ∧ xHi S1 h hs ∧ xFd S1 b F ∧ xfr S S1 (fun x => xrg h 38 x ∨ x3 b x) := by
  obtain ⟨hl, t, f, ht, e1, e2, e3, e4, e5⟩ := H
  rw [List.length_cons] at hl e1
  let t1 : Nat := (t + 11) % 12
  let S1 : xS := xpt S h (.inl (1, [.ref (h + 1), .int (iI hs.length), .int (iI t)]))
  have e1' : S1.1 h = some (.inl (1, [.ref (h + 1), .int (iI hs.length), .int (iI t)])) := by rw [xpt_1, if_pos rfl]
  let S2 : xS := xpt S1 h (.inl (1, [.ref (h + 1), .int (iI hs.length), .int (iI t1)]))
  have e2' : S2.1 h = some (.inl (1, [.ref (h + 1), .int (iI hs.length), .int (iI t1)])) := by rw [xpt_1, if_pos rfl]
  have fr1 : xfr S S1 (fun x => x = h) := xfr.pt rfl
  have fr12 : xfr S1 S2 (fun x => x = h) := xfr.pt rfl
  have fr2 : xfr S S2 (fun x => x = h) := fr1.tr fr12
  have ea : S2.1 (h + 1) = _ := (fr2.2 (h + 1) (by omega)).trans e2
  have h0 := e5 0 (by rw [List.length_cons]; omega)
  rw [List.getElem_cons_zero, Nat.sub_zero] at h0
  have h0' : xFd S2 (xhA h t1) F := h0.fr fr2 (fun x hx => by unfold x3 xhA at hx; omega)
  have hF' := hF.fr fr2 (fun x hx => by unfold x3 at hx; omega)
  obtain ⟨S3, c1, c2, c3⟩ := d_become (P := P) (a := b) (b := xhA h t1) (by unfold xhA; omega) hF' h0'
  have n3 : ∀ x, xrg h 38 x → S3.1 x = S2.1 x := fun x hx => c3.2 x (by unfold xrg at hx; unfold x3; omega)
  refine ⟨S3, xcV_of ((e_X1_pop_0 P h b S).trans ?_), ?_, c2, (fr2.mono (fun x hx => Or.inl (by unfold xrg; omega))).tr (c3.mono (fun x hx => Or.inr hx))⟩
  · rw [xfI_at (k := 1) e1 rfl, xob_some]
    simp (disch := omega) only [iI_0, iI_le]
    have p1 : xpf S h 1 1 0 (.int (iI hs.length)) = some S1 := (xpf_at e1 (show 1 < 3 by decide) rfl).trans rfl
    have p2 : xpf S1 h 1 2 0 (.int (iI (((t + 11 : Nat) : Int) % 12))) = some S2 := (xpf_at e1' (show 2 < 3 by decide) rfl).trans rfl
    rw [if_neg (by omega), xob_some, iI_pre, p1, xob_some, xfI_at (k := 2) e1' rfl, xob_some, iI_add, iI_sub, show ((t : Int) + 12 - 1) = ((t + 11 : Nat) : Int) by omega, iI_rem (by omega) (by omega) (by omega) (by omega), p2, xob_some]
    have ht1 : t1 < 12 := Nat.mod_lt _ (by decide)
    simp (disch := omega) only [xfI_at (k := 2) e2' rfl, xfR_at (k := 0) e2' rfl, xob_some, iI_lt, iI_le]
    rw [if_neg (by omega), if_neg (by omega), xrdR_at ea (by omega) (by omega) (by decide), Int.toNat_natCast, e3 t1 ht1, xob_some, hF'.o, cond_true, c1, xob_some]
  · refine ⟨by omega, t1, f, Nat.mod_lt _ (by decide), (n3 h ⟨by omega, by omega⟩).trans e2', (n3 (h + 1) ⟨by omega, by omega⟩).trans ea, e3, fun j hj => ?_, fun i hi => ?_⟩
    · obtain ⟨k, f', g', q⟩ := e4 j hj
      exact ⟨k, f', g', (q.fr fr2 (fun x hx => by unfold x3 xhA at hx; omega)).fr c3 (fun x hx hy => by unfold x3 xhA at hx; unfold x3 at hy; omega)⟩
    · have g := e5 (i + 1) (by rw [List.length_cons]; omega)
      rw [List.getElem_cons_succ] at g
      have et : (t1 + 11 - i) % 12 = (t + 11 - (i + 1)) % 12 := by
        show ((t + 11) % 12 + 11 - i) % 12 = _
        omega
      rw [et]
      exact (g.fr fr2 (fun x hx => by unfold x3 xhA at hx; omega)).fr c3 (fun x hx hy => by unfold x3 xhA at hx; unfold x3 at hy; omega)
end HI
