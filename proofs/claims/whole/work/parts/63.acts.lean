-- deps: 62.without
/-! acts: what both sides keep, lay, settle -/
/-- behind an act -/
def xac (A : xAb) (F : xF) : xAb := (F, (A.1 :: A.2.1).take 12, A.2.2)
section AC
variable {P : Nat → Nat} {S T : xS} {x m : Nat} {A : xAb} {ob ob0 : Nat → Value} {F : xF}
theorem xCl.hist {hs : List xF} (H : xCl S x A) (hf : xfr S T (xrg (x + 18) 38)) (h : xHi T (x + 18) hs) : xCl T x (A.1, hs, A.2.2) ∧ xfr S T (xrg x 89) := by
  obtain ⟨e0, e1, e2, e3, e4, e5, ⟨p, q, e6⟩, e7, e8, e9, e10, ⟨p', q', r', e11⟩⟩ := H
  have n : ∀ b, ¬ xrg (x + 18) 38 b ↔ ¬ (x + 18 ≤ b ∧ b < x + 18 + 38) := fun b => Iff.rfl
  exact ⟨⟨(hf.2 _ ((n _).mpr (by omega))).trans e0, e1.fr hf (fun b hb => (n b).mpr (by unfold x3 at hb; omega)), e2.fr hf (fun b hb => (n b).mpr (by unfold x3 at hb; omega)), e3.fr hf (fun b hb => (n b).mpr (by unfold xrg at hb; omega)), h, e5.fr hf (fun b hb => (n b).mpr (by unfold xrg at hb; omega)), ⟨p, q, (hf.2 _ ((n _).mpr (by omega))).trans e6⟩, e7.fr hf (fun b hb => (n b).mpr (by unfold xrg at hb; omega)), e8.fr hf (fun b hb => (n b).mpr (by unfold x3 at hb; omega)), e9.fr hf (fun b hb => (n b).mpr (by unfold xrg at hb; omega)), e10.fr hf (fun b hb => (n b).mpr (by unfold xrg at hb; omega)), ⟨p', q', r', (hf.2 _ ((n _).mpr (by omega))).trans e11⟩⟩, hf.mono (fun b hb => ⟨by unfold xrg at hb; omega, by unfold xrg at hb; omega⟩)⟩
theorem xCl.now (H : xCl S x A) (hf : xfr S T (x3 (x + 1))) (h : xFd T (x + 1) F) : xCl T x (F, A.2) ∧ xfr S T (xrg x 89) := by
  obtain ⟨e0, e1, e2, e3, e4, e5, ⟨p, q, e6⟩, e7, e8, e9, e10, ⟨p', q', r', e11⟩⟩ := H
  have n : ∀ b, ¬ x3 (x + 1) b ↔ ¬ (x + 1 ≤ b ∧ b ≤ x + 1 + 2) := fun b => Iff.rfl
  exact ⟨⟨(hf.2 _ ((n _).mpr (by omega))).trans e0, h, e2.fr hf (fun b hb => (n b).mpr (by unfold x3 at hb; omega)), e3.fr hf (fun b hb => (n b).mpr (by unfold xrg at hb; omega)), e4.fr hf (fun b hb => (n b).mpr (by unfold xrg at hb; omega)), e5.fr hf (fun b hb => (n b).mpr (by unfold xrg at hb; omega)), ⟨p, q, (hf.2 _ ((n _).mpr (by omega))).trans e6⟩, e7.fr hf (fun b hb => (n b).mpr (by unfold xrg at hb; omega)), e8.fr hf (fun b hb => (n b).mpr (by unfold x3 at hb; omega)), e9.fr hf (fun b hb => (n b).mpr (by unfold xrg at hb; omega)), e10.fr hf (fun b hb => (n b).mpr (by unfold xrg at hb; omega)), ⟨p', q', r', (hf.2 _ ((n _).mpr (by omega))).trans e11⟩⟩, hf.mono (fun b hb => ⟨by unfold x3 at hb; omega, by unfold x3 at hb; omega⟩)⟩
theorem xCl.tape {k : Nat} {b' : Nat → Int32} (H : xCl S x A) (hf : xfr S T (xrg (x + 57) 2)) (h : xTp T (x + 57) k (xbm b')) : xCl T x (A.1, A.2.1, A.2.2.1, k, b') ∧ xfr S T (xrg x 89) := by
  obtain ⟨e0, e1, e2, e3, e4, e5, ⟨p, q, e6⟩, e7, e8, e9, e10, ⟨p', q', r', e11⟩⟩ := H
  have n : ∀ b, ¬ xrg (x + 57) 2 b ↔ ¬ (x + 57 ≤ b ∧ b < x + 57 + 2) := fun b => Iff.rfl
  exact ⟨⟨(hf.2 _ ((n _).mpr (by omega))).trans e0, e1.fr hf (fun b hb => (n b).mpr (by unfold x3 at hb; omega)), e2.fr hf (fun b hb => (n b).mpr (by unfold x3 at hb; omega)), e3.fr hf (fun b hb => (n b).mpr (by unfold xrg at hb; omega)), e4.fr hf (fun b hb => (n b).mpr (by unfold xrg at hb; omega)), h, ⟨p, q, (hf.2 _ ((n _).mpr (by omega))).trans e6⟩, e7.fr hf (fun b hb => (n b).mpr (by unfold xrg at hb; omega)), e8.fr hf (fun b hb => (n b).mpr (by unfold x3 at hb; omega)), e9.fr hf (fun b hb => (n b).mpr (by unfold xrg at hb; omega)), e10.fr hf (fun b hb => (n b).mpr (by unfold xrg at hb; omega)), ⟨p', q', r', (hf.2 _ ((n _).mpr (by omega))).trans e11⟩⟩, hf.mono (fun b hb => ⟨by unfold xrg at hb; omega, by unfold xrg at hb; omega⟩)⟩
theorem xCl.mk {mk : Nat → Option xF} (H : xCl S x A) (hf : xfr S T (xrg (x + 7) 11)) (h : xMk T x mk) : xCl T x (A.1, A.2.1, mk, A.2.2.2) ∧ xfr S T (xrg x 89) := by
  obtain ⟨e0, e1, e2, e3, e4, e5, ⟨p, q, e6⟩, e7, e8, e9, e10, ⟨p', q', r', e11⟩⟩ := H
  have n : ∀ b, ¬ xrg (x + 7) 11 b ↔ ¬ (x + 7 ≤ b ∧ b < x + 7 + 11) := fun b => Iff.rfl
  exact ⟨⟨(hf.2 _ ((n _).mpr (by omega))).trans e0, e1.fr hf (fun b hb => (n b).mpr (by unfold x3 at hb; omega)), e2.fr hf (fun b hb => (n b).mpr (by unfold x3 at hb; omega)), h, e4.fr hf (fun b hb => (n b).mpr (by unfold xrg at hb; omega)), e5.fr hf (fun b hb => (n b).mpr (by unfold xrg at hb; omega)), ⟨p, q, (hf.2 _ ((n _).mpr (by omega))).trans e6⟩, e7.fr hf (fun b hb => (n b).mpr (by unfold xrg at hb; omega)), e8.fr hf (fun b hb => (n b).mpr (by unfold x3 at hb; omega)), e9.fr hf (fun b hb => (n b).mpr (by unfold xrg at hb; omega)), e10.fr hf (fun b hb => (n b).mpr (by unfold xrg at hb; omega)), ⟨p', q', r', (hf.2 _ ((n _).mpr (by omega))).trans e11⟩⟩, hf.mono (fun b hb => ⟨by unfold xrg at hb; omega, by unfold xrg at hb; omega⟩)⟩
theorem xCl.tri (H : xCl S x A) (hf : xfr S T (x3 (x + 4))) (h : xFa T (x + 4)) : xCl T x A ∧ xfr S T (xrg x 89) :=
  H.tp (hf.mono (fun b hb => Or.inl hb)) h (H.2.2.2.2.2.2.2.2.2.1.fr hf (fun b hb => by unfold xrg at hb; unfold x3; omega))
theorem xCl.hi (H : xCl S x A) : xHi S (x + 18) A.2.1 := H.2.2.2.2.1
theorem xCl.ho (H : xCl S x A) : xisO S (x + 18) 1 = true := H.hi.o
theorem xCl.to (H : xCl S x A) : xisO S (x + 4) 0 = true := by
  obtain ⟨k0, f, g, z⟩ := H.2.2.1
  exact xisO_at z.2.1
theorem xCl.push (H : xCl S x A) : ∃ T, xcV P m_X1_push [.ref (x + 18), .ref (x + 1)] S = some T ∧ xCl T x (xac A A.1) ∧ xfr S T (xrg (x + 18) 38) ∧ xfr S T (xrg x 89) := by
  obtain ⟨T, k1, k2, k3⟩ := d_push (P := P) H.hi H.2.1 (by omega)
  obtain ⟨c1, c2⟩ := H.hist k3 k2
  exact ⟨T, k1, c1, k3, c2⟩
theorem xFd.eqv {a : Nat} {G : xF} (h : xFd S a F) (hk : G.1 = F.1) (he : ∀ i, i < F.1 → G.2.1 i = F.2.1 i ∧ G.2.2 i = F.2.2 i) : xFd S a G := by
  obtain ⟨⟨h1, h2⟩, f, g, e1, e2⟩ := h
  refine ⟨⟨by omega, fun i hi => ?_⟩, f, g, hk ▸ e1, fun i hi => ?_⟩
  · rw [(he i (by omega)).1, (he i (by omega)).2]
    exact h2 i (by omega)
  · rw [(he i (by omega)).1, (he i (by omega)).2]
    exact e2 i (by omega)
theorem xRo.eqv {a : Nat} {G : xF} (h : xRo S a F) (hk : G.1 = F.1) (he : ∀ i, i < F.1 → G.2.1 i = F.2.1 i ∧ G.2.2 i = F.2.2 i) : xRo S a G := by
  obtain ⟨⟨h1, h2⟩, f, e1, e2⟩ := h
  refine ⟨⟨by omega, fun i hi => ?_⟩, f, e1, fun k hk2 => ?_⟩
  · rw [(he i (by omega)).1, (he i (by omega)).2]
    exact h2 i (by omega)
  · rw [e2 k hk2]
    unfold xrw
    rw [hk]
    by_cases c : k = 0
    · rw [if_pos c, if_pos c]
    · rw [if_neg c, if_neg c]
      by_cases d : k < 7
      · rw [if_pos d, if_pos d]
        by_cases e : k - 1 < F.1
        · rw [if_pos e, if_pos e, (he _ e).1]
        · rw [if_neg e, if_neg e]
      · rw [if_neg d, if_neg d]
        by_cases e : k - 7 < F.1
        · rw [if_pos e, if_pos e, (he _ e).2]
        · rw [if_neg e, if_neg e]
/-- a try is settled -/
theorem xCl.settle (H : xCl S x A) (hF : xFd S (x + 4) F) : ∃ T, xcV P m_X10_settleTrial [.ref x] S = some T ∧ xCl T x (xac A F) ∧ xfr S T (xrg x 89) := by
  obtain ⟨T1, a1, H1, f1, g1⟩ := H.push (P := P)
  have hF1 := hF.fr f1 (fun b hb => by unfold x3 at hb; unfold xrg; omega)
  obtain ⟨-, f, g, z, -⟩ := id H1.2.1
  obtain ⟨T2, b1, b2, b3⟩ := d_become (P := P) (a := x + 1) (b := x + 4) (by omega) z hF1
  obtain ⟨H2, g2⟩ := H1.now b3 b2
  refine ⟨T2, xcV_of ((e_X10_settleTrial_0 P x S).trans ?_), H2, g1.tr g2⟩
  simp only [H.r0, H.r4, H.ho, a1, H1.r0, H1.r1, H1.2.1.o, b1, xob_some, cond_true, t_10, t_00, ne_eq, not_true_eq_false, not_false_eq_true, if_true, if_false]
theorem xCl.settleC (H : xCl S x A) (hF : xFd S (x + 4) F) (hk : A.1.1 = F.1) : ∃ T, xcI P m_X10_settleChanges [.ref x] S = some (iI (if xun A.1 F A.1.1 = 0 then -1 else (xun A.1 F A.1.1 : Nat)), T) ∧ xCl T x (if xun A.1 F A.1.1 = 0 then A else xac A F) ∧ xfr S T (xrg x 89) := by
  have hk6 := H.2.1.1.1
  have hu := xun_le A.1 F A.1.1
  have e := d_unlike (P := P) H.2.1 hF hk
  by_cases c : xun A.1 F A.1.1 = 0
  · refine ⟨S, xcI_of ((e_X10_settleChanges_0 P x S).trans ?_), by rw [if_pos c]; exact H, xfr.rf⟩
    simp only [H.r0, H.r1, H.2.1.o, e, xob_some, cond_true, t_10, t_00, ne_eq, not_true_eq_false, not_false_eq_true, if_true, if_false]
    rw [if_neg (fun z => z (show iI ((xun A.1 F A.1.1 : Nat) : Int) = 0 by rw [c]; decide +kernel)), if_pos c]
  · obtain ⟨T, a1, H1, f1⟩ := H.settle (P := P) hF
    refine ⟨T, xcI_of ((e_X10_settleChanges_0 P x S).trans ?_), by rw [if_neg c]; exact H1, f1⟩
    simp only [H.r0, H.r1, H.2.1.o, e, H.o, a1, xob_some, cond_true, t_10, t_00, ne_eq, not_true_eq_false, not_false_eq_true, if_true, if_false]
    rw [if_pos (show ¬ iI ((xun A.1 F A.1.1 : Nat) : Int) = 0 by rw [iI_0, iI_eq (by omega) (by omega) (by omega) (by omega)]; omega), if_neg c]
/-! the reference's -/
theorem xMl.row (M : xMl S m A) (hf : xfr S T (fun b => b = m + 1)) (hR : xRo T (m + 1) F) : xMl T m (F, A.2) ∧ xfr S T (xrg m 19) := by
  obtain ⟨ob, e0, e1, e2, e3, e4, e5, e6, e7, e8⟩ := M
  exact ⟨⟨ob, e0.fr hf (by omega), e1, e2, hR, e4.fr hf (by omega), e5.fr hf (by omega) (by omega), e6.fr hf (by omega), e7.fr hf (by omega), e8.fr hf (fun d hd => by omega)⟩, hf.mono (fun b hb => ⟨by omega, by omega⟩)⟩
theorem xMl.laid (M : xMl S m A) (hf : xfr S T (fun b => b = m + 3)) (hR : xIr T (m + 3) 13) : xMl T m A ∧ xfr S T (xrg m 19) := by
  obtain ⟨ob, e0, e1, e2, e3, e4, e5, e6, e7, g1, g2, g3, g4, g5, g6, g7, g8, g9, g10, g11, g12⟩ := M
  exact ⟨⟨ob, e0.fr hf (by omega), e1, e2, e3.fr hf (by omega), e4.fr hf (by omega), e5.fr hf (by omega) (by omega), e6.fr hf (by omega), e7.fr hf (by omega), g1.fr hf (by omega), hR, g3.fr hf (by omega), g4.fr hf (by omega), g5.fr hf (by omega), g6.fr hf (by omega), g7.fr hf (by omega), g8.fr hf (by omega), g9.fr hf (by omega), g10.fr hf (by omega), g11.fr hf (by omega), g12.fr hf (by omega)⟩, hf.mono (fun b hb => ⟨by omega, by omega⟩)⟩
theorem xMl.bef {hs : List xF} (M : xMl S m A) (e0 : xMo S m ob) (hf : xfr S T (fun b => b = m ∨ b = m + 4)) (hn : xMo T m ob0) (hk : ∀ k, k ≠ 5 → ob0 k = ob k) (h5 : ob0 5 = .int (iI hs.length)) (hB : xBf T (m + 4) hs) : xMl T m (A.1, hs, A.2.2) ∧ xfr S T (xrg m 19) := by
  obtain ⟨ob', e0', e1, e2, e3, e4, e5, e6, e7, e8⟩ := M
  have eo : ∀ k, k < 35 → ob k = ob' k := fun k hk => by
    have h1 := e0.1.symm.trans e0'.1
    have h2 : (List.range 35).map ob = (List.range 35).map ob' := by
      injection h1 with h1; injection h1 with h1; injection h1
    have h3 := congrArg (fun l => l[k]?) h2
    rw [xob_k hk, xob_k hk] at h3
    injection h3
  exact ⟨⟨ob0, hn, h5, ((hk 28 (by decide)).trans (eo 28 (by decide))).trans e2, e3.fr hf (by omega), hB, e5.fr hf (by omega) (by omega), e6.fr hf (by omega), e7.fr hf (by omega), e8.fr hf (fun d hd => by omega)⟩, hf.mono (fun b hb => ⟨by omega, by omega⟩)⟩
end AC
