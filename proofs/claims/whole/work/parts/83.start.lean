-- deps: 82.init2
/-! the two worlds as the constructors lay them; the law from its entry -/
def xF00 : xF := (0, (fun _ => 0), (fun _ => 0))
def xA00 : xAb := (xF00, [], (fun _ => none), 0, (fun _ => 0))
section SA
variable {P : Nat → Nat} {S T : xS} {z m : Nat}
theorem x_fs (hg : ∀ j, j < 89 → T.1 (z + j) = (xB10 z)[j]?) {j : Nat} (hj : j + 2 < 89) (h0 : (xB10 z)[j]? = some (.inl (0, [.ref (z + j + 1), .ref (z + j + 2), .int (iI 0)]))) (h1 : (xB10 z)[j + 1]? = some (xar 0 6)) (h2 : (xB10 z)[j + 2]? = some (xar 0 6)) : xFs T (z + j) 0 (fun _ => 0) (fun _ => 0) :=
  ⟨by decide, (hg j (by omega)).trans h0, (hg (j + 1) (by omega)).trans h1, (hg (j + 2) hj).trans h2⟩
theorem xF00_ok : xFok xF00 := ⟨by decide, fun i hi => absurd hi (Nat.not_lt_zero i)⟩
theorem x_start_cl (hg : ∀ j, j < 89 → T.1 (z + j) = (xB10 z)[j]?) : xCl T z xA00 := by
  have f1 : xFs T (z + 1) 0 (fun _ => 0) (fun _ => 0) := x_fs hg (j := 1) (by decide) rfl rfl rfl
  have f4 : xFs T (z + 4) 0 (fun _ => 0) (fun _ => 0) := x_fs hg (j := 4) (by decide) rfl rfl rfl
  have f8 : xFs T (z + 8) 0 (fun _ => 0) (fun _ => 0) := x_fs hg (j := 8) (by decide) rfl rfl rfl
  have f11 : xFs T (z + 11) 0 (fun _ => 0) (fun _ => 0) := x_fs hg (j := 11) (by decide) rfl rfl rfl
  have f14 : xFs T (z + 14) 0 (fun _ => 0) (fun _ => 0) := x_fs hg (j := 14) (by decide) rfl rfl rfl
  have f20 : xFs T (z + 20) 0 (fun _ => 0) (fun _ => 0) := x_fs hg (j := 20) (by decide) rfl rfl rfl
  have f23 : xFs T (z + 23) 0 (fun _ => 0) (fun _ => 0) := x_fs hg (j := 23) (by decide) rfl rfl rfl
  have f26 : xFs T (z + 26) 0 (fun _ => 0) (fun _ => 0) := x_fs hg (j := 26) (by decide) rfl rfl rfl
  have f29 : xFs T (z + 29) 0 (fun _ => 0) (fun _ => 0) := x_fs hg (j := 29) (by decide) rfl rfl rfl
  have f32 : xFs T (z + 32) 0 (fun _ => 0) (fun _ => 0) := x_fs hg (j := 32) (by decide) rfl rfl rfl
  have f35 : xFs T (z + 35) 0 (fun _ => 0) (fun _ => 0) := x_fs hg (j := 35) (by decide) rfl rfl rfl
  have f38 : xFs T (z + 38) 0 (fun _ => 0) (fun _ => 0) := x_fs hg (j := 38) (by decide) rfl rfl rfl
  have f41 : xFs T (z + 41) 0 (fun _ => 0) (fun _ => 0) := x_fs hg (j := 41) (by decide) rfl rfl rfl
  have f44 : xFs T (z + 44) 0 (fun _ => 0) (fun _ => 0) := x_fs hg (j := 44) (by decide) rfl rfl rfl
  have f47 : xFs T (z + 47) 0 (fun _ => 0) (fun _ => 0) := x_fs hg (j := 47) (by decide) rfl rfl rfl
  have f50 : xFs T (z + 50) 0 (fun _ => 0) (fun _ => 0) := x_fs hg (j := 50) (by decide) rfl rfl rfl
  have f53 : xFs T (z + 53) 0 (fun _ => 0) (fun _ => 0) := x_fs hg (j := 53) (by decide) rfl rfl rfl
  have i0 : (0 : Int32) = iI 0 := iI_0
  have c0 : xC0 T z := (hg 0 (by decide)).trans rfl
  have c3 : xMk T z (fun _ => none) := by
    refine ⟨⟨xF2 (z + 7), (hg 7 (by decide)).trans rfl, fun j hj => ?_⟩, ⟨(fun _ => 0), (hg 17 (by decide)).trans rfl, fun j hj => i0⟩, fun j hj => ⟨?_, fun G hG => by cases hG⟩⟩
    · match j, hj with
      | 0, _ => rfl
      | 1, _ => rfl
      | 2, _ => rfl
      | j + 3, h => omega
    · match j, hj with
      | 0, _ => exact ⟨_, _, _, f8⟩
      | 1, _ => exact ⟨_, _, _, f11⟩
      | 2, _ => exact ⟨_, _, _, f14⟩
      | j + 3, h => omega
  have c4 : xHi T (z + 18) [] := by
    refine ⟨by decide, 0, xF1 (z + 18), by decide, (hg 18 (by decide)).trans rfl, (hg 19 (by decide)).trans rfl, fun j hj => ?_, fun j hj => ?_, fun i hi => absurd hi (Nat.not_lt_zero i)⟩
    · match j, hj with
      | 0, _ => rfl
      | 1, _ => rfl
      | 2, _ => rfl
      | 3, _ => rfl
      | 4, _ => rfl
      | 5, _ => rfl
      | 6, _ => rfl
      | 7, _ => rfl
      | 8, _ => rfl
      | 9, _ => rfl
      | 10, _ => rfl
      | 11, _ => rfl
      | j + 12, h => omega
    · match j, hj with
      | 0, _ => exact ⟨_, _, _, f20⟩
      | 1, _ => exact ⟨_, _, _, f23⟩
      | 2, _ => exact ⟨_, _, _, f26⟩
      | 3, _ => exact ⟨_, _, _, f29⟩
      | 4, _ => exact ⟨_, _, _, f32⟩
      | 5, _ => exact ⟨_, _, _, f35⟩
      | 6, _ => exact ⟨_, _, _, f38⟩
      | 7, _ => exact ⟨_, _, _, f41⟩
      | 8, _ => exact ⟨_, _, _, f44⟩
      | 9, _ => exact ⟨_, _, _, f47⟩
      | 10, _ => exact ⟨_, _, _, f50⟩
      | 11, _ => exact ⟨_, _, _, f53⟩
      | j + 12, h => omega
  have c5 : xTp T (z + 57) 0 (xbm (fun _ => 0)) := ⟨by decide, (fun _ => 0), (hg 57 (by decide)).trans rfl, (hg 58 (by decide)).trans rfl, fun i hi => absurd hi (Nat.not_lt_zero i)⟩
  have c6 : xRe T z := ⟨iI 0, iI (-1), (hg 56 (by decide)).trans rfl⟩
  have c7 : xIa T (z + 59) := ⟨0, 12, (fun _ => 0), (hg 59 (by decide)).trans rfl, (hg 60 (by decide)).trans rfl⟩
  have c8 : xOa T (z + 61) := ⟨0, (fun _ => 0), (fun _ => 0), (hg 61 (by decide)).trans rfl, (hg 62 (by decide)).trans rfl, (hg 63 (by decide)).trans rfl⟩
  have c9 : xPa T (z + 64) := ⟨0, 1, ⟨0, 1, 0, 1, (hg 64 (by decide)).trans rfl⟩, 0, (fun _ => 0), (fun _ => 0), (hg 65 (by decide)).trans rfl, (hg 66 (by decide)).trans rfl, (hg 67 (by decide)).trans rfl⟩
  have q : ∀ d : Nat, d + 2 < 89 → ∀ M, M ≤ 1300 → (xB10 z)[d]? = some (.inl (6, [.ref (z + d + 1), .ref (z + d + 2), .int (iI 0)])) → (xB10 z)[d + 1]? = some (xar 1 M) → (xB10 z)[d + 2]? = some (xar 1 M) → xQa T (z + d) M := fun d hd M hM h0 h1 h2 => ⟨0, (fun _ => 0), (fun _ => 0), Nat.zero_le _, hM, (hg d (by omega)).trans h0, (hg (d + 1) (by omega)).trans h1, (hg (d + 2) (by omega)).trans h2⟩
  have c10 : xVa T (z + 68) := by
    refine ⟨⟨z + 68 + 7, z + 68 + 10, z + 68 + 13, z + 68 + 16, 1, 1, (hg 68 (by decide)).trans rfl, Or.inl ⟨rfl, rfl⟩, Or.inl ⟨rfl, rfl⟩⟩, ⟨0, (fun _ => 0), (fun _ => 0), (hg 69 (by decide)).trans rfl, (hg 70 (by decide)).trans rfl, (hg 71 (by decide)).trans rfl⟩, q 72 (by decide) 210 (by decide) rfl rfl rfl, q 75 (by decide) 210 (by decide) rfl rfl rfl, q 78 (by decide) 210 (by decide) rfl rfl rfl, q 81 (by decide) 1230 (by decide) rfl rfl rfl, q 84 (by decide) 1230 (by decide) rfl rfl rfl, (fun _ => 0), (hg 87 (by decide)).trans rfl⟩
  have c11 : xWr T z := ⟨iI (-1), iI (-2), iI 0, (hg 88 (by decide)).trans rfl⟩
  exact ⟨c0, ⟨xF00_ok, _, _, f1, fun i hi => absurd hi (Nat.not_lt_zero i)⟩, ⟨_, _, _, f4⟩, c3, c4, c5, c6, c7, c8, c9, c10, c11⟩
def xO11 (a : Nat) (k : Nat) : Value := (match xB11 a with
  | (Sum.inl q) :: _ => q.2
  | _ => []).getD k .null
theorem x_start_ml (hg : ∀ j, j < 19 → T.1 (m + j) = (xB11 m)[j]?) : xMl T m xA00 := by
  have i0 : (0 : Int32) = iI 0 := iI_0
  have e0 : xMo T m (xO11 m) := by
    refine ⟨(hg 0 (by decide)).trans rfl, fun k hk => ?_⟩
    unfold xRf at hk ⊢
    split at hk <;> first | rfl | exact absurd rfl hk
  have r0 : ∀ k, xrw xF00 k = 0 := fun k => by
    unfold xrw
    split
    · rfl
    · split
      · exact if_neg (Nat.not_lt_zero _)
      · exact if_neg (Nat.not_lt_zero _)
  refine ⟨xO11 m, e0, ?_, ?_, ⟨xF00_ok, (fun _ => 0), (hg 1 (by decide)).trans rfl, fun k hk => by
    show (0 : Int32) = iI (xrw xF00 k)
    rw [r0]; exact i0⟩, ⟨by decide, (fun _ => 0), (hg 4 (by decide)).trans rfl, fun i hi => absurd hi (Nat.not_lt_zero i)⟩, ⟨⟨(fun _ => 0), (hg 5 (by decide)).trans rfl, fun j hj G hG => by cases hG⟩, (fun _ => 0), (hg 6 (by decide)).trans rfl, fun j hj => i0⟩, ⟨by decide, (fun _ => 0), (hg 17 (by decide)).trans rfl, fun i hi => absurd hi (Nat.not_lt_zero i)⟩, ⟨xFw, (hg 18 (by decide)).trans rfl, xFw_at⟩, ?_⟩
  · show Value.int 0 = _
    rw [i0]; rfl
  · show Value.int 0 = _
    rw [i0]; rfl
  · exact ⟨⟨_, (hg 2 (by decide)).trans rfl⟩, ⟨_, (hg 3 (by decide)).trans rfl⟩, ⟨_, (hg 7 (by decide)).trans rfl⟩, ⟨_, (hg 8 (by decide)).trans rfl⟩, ⟨_, (hg 9 (by decide)).trans rfl⟩, ⟨_, (hg 10 (by decide)).trans rfl⟩, ⟨_, (hg 11 (by decide)).trans rfl⟩, ⟨_, (hg 12 (by decide)).trans rfl⟩, ⟨_, (hg 13 (by decide)).trans rfl⟩, ⟨_, (hg 14 (by decide)).trans rfl⟩, ⟨_, (hg 15 (by decide)).trans rfl⟩, ⟨_, (hg 16 (by decide)).trans rfl⟩⟩
theorem up_0 (h : ∀ b, S.2.1 ≤ b → S.1 b = none) : xup S [] 0 = S := by
  unfold xup
  refine Prod.ext (funext fun b => ?_) rfl
  dsimp only
  by_cases c : b < S.2.1
  · rw [if_pos c]
  · rw [if_neg c, h b (by omega)]
    rfl
/-- THE LAW ANSWERS 1 -/
theorem law_run {b L : Nat} {xs : Nat → Int32} (hL : L ≤ 3072) (hb : xLb P b L xs S.2.1 S) (h0 : ∀ b, S.2.1 ≤ b → S.1 b = none) : ∃ T, xrun P m_L_law 0 [(0, .ref b)] [] S = some (some (.int (iI 1)), T) ∧ T.2 = (S.2.1 + 108, S.2.2 + 31081) := by
  have hn : xnew S 10 = xup S [.inl (10, xdef 10)] 12 := by
    have h := up_new (S := S) (L := []) (k := 0) 10
    rw [up_0 h0, xdl_10] at h
    exact h
  obtain ⟨k1, hk1, s1⟩ : ∃ k1, k1 = 6767 ∧ xcV P m_X10_init [.ref S.2.1] (xup S [.inl (10, xdef 10)] 12) = some (xup S (xB10 S.2.1) k1) := ⟨_, by rfl, i_X10⟩
  obtain ⟨k2, hk2, s2⟩ : ∃ k2, k2 = k1 + 35 + 24279 ∧ xcV P m_X11_init [.ref (S.2.1 + (xB10 S.2.1).length)] (xup S (xB10 S.2.1 ++ [.inl (11, xdef 11)]) (k1 + 35)) = some (xup S (xB10 S.2.1 ++ xB11 (S.2.1 + (xB10 S.2.1).length)) k2) := ⟨_, by omega, i_X11⟩
  have e1 : ∀ k, xnew (xup S (xB10 S.2.1) k) 11 = xup S (xB10 S.2.1 ++ [.inl (11, xdef 11)]) (k + 35) := fun k => by
    rw [up_new, xdl_11]
  have l89 : (xB10 S.2.1).length = 89 := rfl
  have l19 : (xB11 (S.2.1 + 89)).length = 19 := rfl
  have cl : ∀ k, xCl (xup S (xB10 S.2.1 ++ xB11 (S.2.1 + 89)) k) S.2.1 xA00 := fun k => x_start_cl (fun j hj => by
    rw [up_get, List.getElem?_append_left (by rw [l89]; exact hj)])
  have ml : ∀ k, xMl (xup S (xB10 S.2.1 ++ xB11 (S.2.1 + 89)) k) (S.2.1 + 89) xA00 := fun k => x_start_ml (fun j hj => by
    rw [Nat.add_assoc, up_get, List.getElem?_append_right (by rw [l89]; omega), l89, Nat.add_sub_cancel_left])
  have lb : ∀ k, xLb P b L xs S.2.1 (xup S (xB10 S.2.1 ++ xB11 (S.2.1 + 89)) k) := fun k => by
    obtain ⟨g1, g2, g3, ⟨f, g4, g5⟩, g6⟩ := hb
    have lo : ∀ c, c < S.2.1 → (xup S (xB10 S.2.1 ++ xB11 (S.2.1 + 89)) k).1 c = S.1 c := fun c hc => if_pos hc
    have lt : ∀ {i : Nat} {l : List Int}, i ≤ 9 → xTt P S i l → xTt P (xup S (xB10 S.2.1 ++ xB11 (S.2.1 + 89)) k) i l := fun hi ⟨f, h1, h2⟩ => ⟨f, (lo _ (g2 _ hi)).trans h1, h2⟩
    obtain ⟨t1, t2, t3, t4, t5, t6, t7, t8, t9⟩ := g6
    exact ⟨g1, g2, (lo _ g1).trans g3, ⟨f, (lo _ (g2 0 (by decide))).trans g4, g5⟩, lt (by decide) t1, lt (by decide) t2, lt (by decide) t3, lt (by decide) t4, lt (by decide) t5, lt (by decide) t6, lt (by decide) t7, lt (by decide) t8, lt (by decide) t9⟩
  have key : ∃ k, k = 31081 ∧ xrun P m_L_law 0 [(0, .ref b)] [] S = xrun P m_L_law 18 [(0, .ref b), (1, .ref S.2.1), (2, .ref (S.2.1 + 89)), (3, .int (iI (0 : Nat)))] [] (xup S (xB10 S.2.1 ++ xB11 (S.2.1 + 89)) k) := by
    refine ⟨k2, by omega, ?_⟩
    rw [e_L_law_0, hn, s1, xob_some, e1, up_2, s2, xob_some, l89]
    rfl
  obtain ⟨k, hk, e⟩ := key
  obtain ⟨T, t1, t2⟩ := lw_runs (P := P) hL L 0 _ xA00 (by omega) (Nat.zero_le _) ⟨cl k, ml k, lb k⟩
  refine ⟨T, e.trans t1, ?_⟩
  rw [t2]
  show (S.2.1 + (xB10 S.2.1 ++ xB11 (S.2.1 + 89)).length, S.2.2 + k) = _
  rw [List.length_append, l89, l19, hk]
end SA
