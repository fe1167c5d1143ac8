-- deps: 17.others
/-! Instant.see, Others.see and what is told by them -/
/-- where r is at the time p by q, the ring being 12 q long -/
def xplc (F : xF) (p q : Int) (r : Nat) : Int := (F.2.2 r * q + 12 * F.2.1 r * p) % (12 * q)
section SE
variable {P : Nat → Nat} {S : xS} {a n b : Nat} {gp ld : Nat → Int} {F : xF}
theorem d_isee {k0 : Nat} {W0 : Int} {f0 : Nat → Int32} (h : xIs S a k0 W0 f0) (hF : xFd S b F) (hab : a + 1 < b ∨ b + 2 < a) {p q : Int} (p0 : 0 ≤ p) (p1 : p ≤ 9999) (q0 : 1 ≤ q) (q1 : q ≤ 999) : ∃ S1, xcV P m_X2_see [.ref a, .ref b, .int (iI p), .int (iI q)] S = some S1 ∧ xIn S1 a F.1 (12 * q) (xplc F p q) ∧ xfr S S1 (xrg a 2) := by
  have hk := hF.1.1
  let S0 : xS := xpt S a (.inl (2, [.ref (a + 1), .int (iI ((0 : Nat) : Int)), .int (iI W0)]))
  have e0 : S0.1 a = some (.inl (2, [.ref (a + 1), .int (iI ((0 : Nat) : Int)), .int (iI W0)])) := by rw [xpt_1, if_pos rfl]
  have p0' : xpf S a 2 1 0 (.int (iI 0)) = some S0 := (xpf_at h.1 (show 1 < 3 by decide) rfl).trans rfl
  let S2 : xS := xpt S0 a (.inl (2, [.ref (a + 1), .int (iI ((0 : Nat) : Int)), .int (iI (12 * q))]))
  have p2 : xpf S0 a 2 2 0 (.int (iI (12 * q))) = some S2 := (xpf_at e0 (show 2 < 3 by decide) rfl).trans rfl
  have f1 : xfr S S0 (xrg a 2) := xfr.pt ⟨by omega, by omega⟩
  have f2 : xfr S0 S2 (xrg a 2) := xfr.pt ⟨by omega, by omega⟩
  have h2 : xIs S2 a 0 (12 * q) f0 := ⟨by rw [xpt_1, if_pos rfl], by rw [xpt_1, if_neg (by omega), xpt_1, if_neg (by omega)]; exact h.2⟩
  have key := xloopQ (run := fun r (T : xS) => xrun P m_X2_see 20 [(0, .ref a), (1, .ref b), (2, .int (iI p)), (3, .int (iI q)), (4, .int (iI r))] [] T)
    (Inv := fun r T => ∃ f, xIs T a r (12 * q) f ∧ (∀ t, t < r → f t = iI (xplc F p q t)) ∧ xfr S T (xrg a 2))
    (fun res => ∃ S1, res = some (none, S1) ∧ xIn S1 a F.1 (12 * q) (xplc F p q) ∧ xfr S S1 (xrg a 2)) 0 F.1 (by omega) (fun r T _ hr hT => by
      obtain ⟨f, h3, h4, h5⟩ := hT
      have hF' := hF.fr h5 (fun c hc hd => by unfold x3 at hc; unfold xrg at hd; omega)
      have v := hF.1.2 r hr
      have m1 := x_mul_bd v.2.2.1 (show F.2.2 r ≤ 12 by omega) (show 0 ≤ q by omega) q1
      have m2 := x_mul_bd (show 0 ≤ 12 * F.2.1 r by omega) (show 12 * F.2.1 r ≤ 480 by omega) p0 p1
      refine Or.inr ?_
      let T1 : xS := xpt T (a + 1) (.inr (0, (6, .inl (va_up f r (iI (xplc F p q r))))))
      have pw : xwrI T (a + 1) (iI r) (iI (xplc F p q r)) = some T1 := by
        rw [xwrI_at h3.2 (by omega) (by omega) (by decide), Int.toNat_natCast]
      have e1 : T1.1 a = _ := (show T1.1 a = T.1 a by rw [xpt_1, if_neg (by omega)]).trans h3.1
      let T2 : xS := xpt T1 a (.inl (2, [.ref (a + 1), .int (iI ((r + 1 : Nat) : Int)), .int (iI (12 * q))]))
      have pp : xpf T1 a 2 1 0 (.int (iI ((r + 1 : Nat) : Int))) = some T2 := (xpf_at e1 (show 1 < 3 by decide) rfl).trans rfl
      have g1 : xfr T T1 (xrg a 2) := xfr.pt ⟨by omega, by omega⟩
      have g2 : xfr T1 T2 (xrg a 2) := xfr.pt ⟨by omega, by omega⟩
      refine ⟨T2, ?_, va_up f r (iI (xplc F p q r)), ⟨by rw [xpt_1, if_pos rfl], by rw [xpt_1, if_neg (by omega), xpt_1, if_pos rfl]⟩, fun t ht => ?_, h5.tr (g1.tr g2)⟩
      · rw [e_X2_see_20]
        simp (disch := omega) only [hF'.o, cond_true, d_size (P := P) hF', xob_some, iI_le]
        rw [if_neg (by omega), if_neg (by omega)]
        simp (disch := omega) only [hF'.o, cond_true, xfR_at (k := 0) h3.1 rfl, d_speedAt (P := P) hF', d_startAt (P := P) hF', xob_some, xfI_at (k := 2) h3.1 rfl, iI_mul, iI_add, c_floorMod]
        rw [show (F.2.2 r * q + 12 * F.2.1 r * p) % (12 * q) = xplc F p q r from rfl, pw, xob_some, show iI ((r : Int) + 1) = iI ((r + 1 : Nat) : Int) from rfl, pp, xob_some]
      · rw [va_up_at]
        by_cases c : t = r
        · rw [if_pos c, c]
        · rw [if_neg c]; exact h4 t (by omega)) (fun T hT => by
      obtain ⟨f, h3, h4, h5⟩ := hT
      have hF' := hF.fr h5 (fun c hc hd => by unfold x3 at hc; unfold xrg at hd; omega)
      refine ⟨T, ?_, ⟨hk, by omega, by omega, fun r hr => ⟨Int.emod_nonneg _ (by omega), Int.emod_lt_of_pos _ (by omega)⟩, f, h3, h4⟩, h5⟩
      rw [e_X2_see_20]
      simp (disch := omega) only [hF'.o, cond_true, d_size (P := P) hF', xob_some, iI_le]
      rw [if_pos (by omega)]) (s := S2) ⟨f0, h2, fun t ht => by omega, f1.tr f2⟩
  obtain ⟨S1, k1, k2, k3⟩ := key
  refine ⟨S1, xcV_of ((e_X2_see_0 P a b (iI p) (iI q) S).trans ?_), k2, k3⟩
  rw [p0', xob_some, iI_mul, c_max (by omega) (by omega) (by omega) (by omega), xob_some]
  dsimp only
  rw [show max 1 (12 * q) = 12 * q by omega, p2, xob_some]
  exact k1
/-- so many of the first r are others of i -/
def xoc (i r : Nat) : Nat := if r ≤ i then r else r - 1
theorem xog_bd {F : xF} (h : xFok F) {i r : Nat} (hi : i < F.1) (hr : r < F.1) : 0 ≤ xog F i r ∧ xog F i r ≤ 40 := by
  have v1 := h.2 i hi
  have v2 := h.2 r hr
  unfold xog
  omega
theorem d_osee {n0 : Nat} {f0 g0 : Nat → Int32} (h : xOs S a n0 f0 g0) (hF : xFd S b F) (hab : a + 2 < b ∨ b + 2 < a) {i : Nat} (hi : i < F.1) : ∃ S1, xcV P m_X3_see [.ref a, .ref b, .int (iI i)] S = some S1 ∧ xOt S1 a (F.1 - 1) (fun t => xog F i (xsk i t)) (fun t => xol F i (xsk i t)) ∧ xfr S S1 (x3 a) := by
  have hk := hF.1.1
  let S0 : xS := xpt S a (.inl (3, [.ref (a + 1), .ref (a + 2), .int (iI ((0 : Nat) : Int))]))
  have p0 : xpf S a 3 2 0 (.int (iI 0)) = some S0 := (xpf_at h.1 (show 2 < 3 by decide) rfl).trans rfl
  have f1 : xfr S S0 (x3 a) := xfr.pt ⟨by omega, by omega⟩
  have h2 : xOs S0 a 0 f0 g0 := ⟨by rw [xpt_1, if_pos rfl], by rw [xpt_1, if_neg (by omega)]; exact h.2.1, by rw [xpt_1, if_neg (by omega)]; exact h.2.2⟩
  have key := xloopQ (run := fun r (T : xS) => xrun P m_X3_see 7 [(0, .ref a), (1, .ref b), (2, .int (iI i)), (3, .int (iI r))] [] T)
    (Inv := fun r T => ∃ f g, xOs T a (xoc i r) f g ∧ (∀ t, t < xoc i r → f t = iI (xog F i (xsk i t)) ∧ g t = iI (xol F i (xsk i t))) ∧ xfr S T (x3 a))
    (fun res => ∃ S1, res = some (none, S1) ∧ xOt S1 a (F.1 - 1) (fun t => xog F i (xsk i t)) (fun t => xol F i (xsk i t)) ∧ xfr S S1 (x3 a)) 0 F.1 (by omega) (fun r T _ hr hT => by
      obtain ⟨f, g, h3, h4, h5⟩ := hT
      have hF' := hF.fr h5 (fun c hc hd => by unfold x3 at hc hd; omega)
      refine Or.inr ?_
      by_cases c : r = i
      · refine ⟨T, ?_, f, g, ?_, ?_, h5⟩
        · rw [e_X3_see_7]
          simp (disch := omega) only [hF'.o, cond_true, d_size (P := P) hF', xob_some, iI_le, iI_eq, iI_suc]
          rw [if_neg (by omega), if_pos (by omega)]
        · rw [show xoc i (r + 1) = xoc i r by unfold xoc; rw [if_neg (by omega), if_pos (by omega)]; omega]; exact h3
        · rw [show xoc i (r + 1) = xoc i r by unfold xoc; rw [if_neg (by omega), if_pos (by omega)]; omega]; exact h4
      · have e1 : xoc i (r + 1) = xoc i r + 1 := by unfold xoc; split <;> split <;> omega
        have e2 : xsk i (xoc i r) = r := by unfold xsk xoc; split <;> split <;> omega
        obtain ⟨T1, k1, k2, k3⟩ := d_oadd (P := P) h3 (by unfold xoc; split <;> omega) hF' hi hr hab
        refine ⟨T1, ?_, _, _, by rw [e1]; exact k2, fun t ht => ?_, h5.tr k3⟩
        · rw [e_X3_see_7]
          simp (disch := omega) only [hF'.o, cond_true, d_size (P := P) hF', xob_some, iI_le, iI_eq, iI_suc]
          rw [if_neg (by omega), if_neg (by omega), h3.o, cond_true, k1, xob_some]
        · rw [e1] at ht
          rw [va_up_at, va_up_at]
          by_cases c2 : t = xoc i r
          · rw [if_pos c2, if_pos c2, c2, e2]; exact ⟨rfl, rfl⟩
          · rw [if_neg c2, if_neg c2]; exact h4 t (by omega)) (fun T hT => by
      obtain ⟨f, g, h3, h4, h5⟩ := hT
      have hF' := hF.fr h5 (fun c hc hd => by unfold x3 at hc hd; omega)
      have e1 : xoc i F.1 = F.1 - 1 := by unfold xoc; rw [if_neg (by omega)]
      rw [e1] at h3 h4
      refine ⟨T, ?_, ⟨by omega, fun r hr => ?_, f, g, h3, h4⟩, h5⟩
      · rw [e_X3_see_7]
        simp (disch := omega) only [hF'.o, cond_true, d_size (P := P) hF', xob_some, iI_le]
        rw [if_pos (by omega)]
      · have hs : xsk i r < F.1 := by unfold xsk; split <;> omega
        have b1 := xog_bd hF.1 hi hs
        have b2 := xol_bd F i (xsk i r)
        exact ⟨b1.1, b1.2, b2.1, b2.2⟩) (s := S0) ⟨f0, g0, h2, fun t ht => by unfold xoc at ht; rw [if_pos (by omega)] at ht; omega, f1⟩
  obtain ⟨S1, k1, k2, k3⟩ := key
  refine ⟨S1, xcV_of ((e_X3_see_0 P a b (iI i) S).trans ?_), k2, k3⟩
  rw [p0, xob_some]
  exact k1
theorem d_seeOne {n0 : Nat} {f0 g0 : Nat → Int32} (h : xOs S a n0 f0 g0) (hF : xFd S b F) (hab : a + 2 < b ∨ b + 2 < a) {i j : Nat} (hi : i < F.1) (hj : j < F.1) : ∃ S1, xcV P m_X3_seeOne [.ref a, .ref b, .int (iI i), .int (iI j)] S = some S1 ∧ xOt S1 a 1 (fun _ => xog F i j) (fun _ => xol F i j) ∧ xfr S S1 (x3 a) := by
  let S0 : xS := xpt S a (.inl (3, [.ref (a + 1), .ref (a + 2), .int (iI ((0 : Nat) : Int))]))
  have p0 : xpf S a 3 2 0 (.int (iI 0)) = some S0 := (xpf_at h.1 (show 2 < 3 by decide) rfl).trans rfl
  have f1 : xfr S S0 (x3 a) := xfr.pt ⟨by omega, by omega⟩
  have h2 : xOs S0 a 0 f0 g0 := ⟨by rw [xpt_1, if_pos rfl], by rw [xpt_1, if_neg (by omega)]; exact h.2.1, by rw [xpt_1, if_neg (by omega)]; exact h.2.2⟩
  have hF' := hF.fr f1 (fun c hc hd => by unfold x3 at hc hd; omega)
  obtain ⟨S1, k1, k2, k3⟩ := d_oadd (P := P) h2 (by omega) hF' hi hj hab
  refine ⟨S1, xcV_of ((e_X3_seeOne_0 P a b (iI i) (iI j) S).trans ?_), ⟨by omega, fun r hr => ?_, _, _, k2, fun r hr => ?_⟩, f1.tr k3⟩
  · rw [p0, xob_some, h2.o, cond_true, k1, xob_some]
  · have b1 := xog_bd hF.1 hi hj
    have b2 := xol_bd F i j
    exact ⟨b1.1, b1.2, b2.1, b2.2⟩
  · rw [show r = 0 by omega, va_up_at, va_up_at, if_pos rfl, if_pos rfl]; exact ⟨rfl, rfl⟩
/-- all n are here at the time x by 12 e -/
def xah (gp ld : Nat → Int) (n : Nat) (x e : Int) : Bool := decide (∀ r, r < n → xa2 gp ld x e r = 0)
theorem d_allHere (h : xOt S a n gp ld) {x e : Int} (x0 : 0 ≤ x) (x1 : x ≤ 12000) (e0 : 1 ≤ e) (e1 : e ≤ 999) : xcI P m_X3_allHere [.ref a, .int (iI x), .int (iI e)] S = some (iI (if xah gp ld n x e then 1 else 0), S) := by
  have hn := h.1
  refine xcI_of ((e_X3_allHere_0 P a (iI x) (iI e) S).trans ?_)
  refine xloopQ (run := fun r (_ : Unit) => xrun P m_X3_allHere 2 [(0, .ref a), (1, .int (iI x)), (2, .int (iI e)), (3, .int (iI r))] [] S) (Inv := fun r _ => ∀ t, t < r → xa2 gp ld x e t = 0) (fun res => res = some (some (.int (iI (if xah gp ld n x e then 1 else 0))), S)) 0 n (by omega) (fun r _ _ hr hi => ?_) (fun _ hi => ?_) (s := ()) (fun t ht => by omega)
  · have b2 := xa2_bd (gp := gp) (ld := ld) (x := x) (e := e) (by omega) r
    rw [e_X3_allHere_2]
    simp (disch := omega) only [h.z, h.o, cond_true, xob_some, iI_le, d_apartBy (P := P) h, iI_0, iI_eq]
    rw [if_neg (by omega)]
    by_cases c : xa2 gp ld x e r = 0
    · refine Or.inr ⟨(), ?_, fun t ht => ?_⟩
      · rw [if_pos c, iI_suc]
      · by_cases c2 : t = r
        · rw [c2]; exact c
        · exact hi t (by omega)
    · refine Or.inl ?_
      rw [if_neg c, if_neg]
      unfold xah
      rw [decide_eq_true_eq]
      intro hx
      exact c (hx r hr)
  · rw [e_X3_allHere_2]
    simp (disch := omega) only [h.z, xob_some, iI_le]
    rw [if_pos (by omega), if_pos]
    unfold xah
    rw [decide_eq_true_eq]
    exact hi
def xmv (gp : Nat → Int) : Nat → Int
  | 0 => -1
  | n + 1 => if gp n = 0 then xmv gp n else n
def xtg (gp ld : Nat → Int) : Nat → Int
  | 0 => 1
  | n + 1 => if gp n = 0 then (if ld n = 0 then xtg gp ld n else 0) else xtg gp ld n
theorem xmv_bd (gp : Nat → Int) : ∀ n, -1 ≤ xmv gp n ∧ xmv gp n < n := by
  intro n
  induction n with
  | zero => simp only [xmv]; omega
  | succ n ih => simp only [xmv]; split <;> omega
theorem xmv_gp (gp : Nat → Int) : ∀ n, 0 ≤ xmv gp n → gp (xmv gp n).toNat ≠ 0 := by
  intro n
  induction n with
  | zero => intro h; simp only [xmv] at h; omega
  | succ n ih =>
    simp only [xmv]
    split
    · exact ih
    · rename_i c
      intro _
      rw [Int.toNat_natCast]
      exact c
theorem xtg_bd (gp ld : Nat → Int) : ∀ n, xtg gp ld n = 0 ∨ xtg gp ld n = 1 := by
  intro n
  induction n with
  | zero => exact Or.inr rfl
  | succ n ih => simp only [xtg]; split; split; exact ih; exact Or.inl rfl; exact ih
/-- at how many of the meetings with m all are here -/
def xga (gp ld : Nat → Int) (n m : Nat) : Nat → Nat := xct (fun t => xah gp ld n ((-ld m) % 12 + 12 * t) (gp m))
theorem d_gam (h : xOt S a n gp ld) {m : Nat} (hm : m < n) : xcI P m_X3_gatheringsAmongMeetingsOf [.ref a, .int (iI m)] S = some (iI (xga gp ld n m (gp m).toNat), S) := by
  have hn := h.1
  have bm := h.2.1 m hm
  refine xcI_of ((e_X3_gatheringsAmongMeetingsOf_0 P a (iI m) S).trans ?_)
  rw [h.o, cond_true, d_gapAt h hm, xob_some]
  refine (xsteps (fun r => xrun P m_X3_gatheringsAmongMeetingsOf 11 [(0, .ref a), (1, .int (iI m)), (2, .int (iI (gp m))), (3, .int (iI (xga gp ld n m r))), (4, .int (iI r))] [] S) (gp m).toNat ?_).trans ?_
  · intro r hr
    try dsimp only
    have b3 := xct_le (fun t => xah gp ld n ((-ld m) % 12 + 12 * t) (gp m)) r
    rw [e_X3_gatheringsAmongMeetingsOf_11]
    simp (disch := omega) only [h.o, cond_true, xob_some, iI_le, d_firstMeeting (P := P) h, iI_mul, iI_add]
    rw [if_neg (by omega), d_allHere h (by omega) (by omega) (by omega) (by omega), xob_some, iI_0]
    simp only [xga, xct]
    by_cases c : xah gp ld n ((-ld m) % 12 + 12 * r) (gp m) = true
    · simp only [c, if_true]
      rw [if_neg (by decide +kernel)]
      rfl
    · simp only [c, if_false]
      rw [if_pos (by decide +kernel)]
      rfl
  · try dsimp only
    rw [e_X3_gatheringsAmongMeetingsOf_11]
    simp (disch := omega) only [iI_le]
    rw [if_pos (by omega)]
def xgt (gp ld : Nat → Int) (n : Nat) : Int := if xtg gp ld n = 0 then 0 else if xmv gp n = -1 then -2 else (xga gp ld n (xmv gp n).toNat (gp (xmv gp n).toNat).toNat : Nat)
theorem d_gatherings (h : xOt S a n gp ld) : xcI P m_X3_gatherings [.ref a] S = some (iI (xgt gp ld n), S) := by
  have hn := h.1
  refine xcI_of ((e_X3_gatherings_0 P a S).trans ?_)
  refine (xsteps (fun r => xrun P m_X3_gatherings 6 [(0, .ref a), (1, .int (iI (xmv gp r))), (2, .int (iI (xtg gp ld r))), (3, .int (iI r))] [] S) n ?_).trans ?_
  · intro r hr
    try dsimp only
    have b1 := h.2.1 r hr
    rw [e_X3_gatherings_6]
    simp (disch := omega) only [h.z, h.o, cond_true, xob_some, iI_le, d_gapAt (P := P) h, d_leadAt (P := P) h, iI_0, iI_eq, iI_suc]
    rw [if_neg (by omega)]
    simp only [xmv, xtg]
    repeat' split
    all_goals first | rfl | (exfalso; omega)
  · try dsimp only
    have b1 := xmv_bd gp n
    have b2 := xtg_bd gp ld n
    rw [e_X3_gatherings_6]
    simp (disch := omega) only [h.z, xob_some, iI_le, iI_0, iI_eq, ne_eq]
    rw [if_pos (by omega)]
    unfold xgt
    by_cases c : xtg gp ld n = 0
    · rw [if_neg (by omega), if_pos c]
    · rw [if_pos c, if_neg c]
      by_cases c2 : xmv gp n = -1
      · rw [if_neg (by omega), if_pos c2]
      · rw [if_pos c2, if_neg c2, h.o, cond_true]
        have e3 : iI (xmv gp n) = iI ((xmv gp n).toNat : Nat) := by rw [Int.toNat_of_nonneg (by omega)]
        rw [e3, d_gam h (by omega), xob_some]
end SE
