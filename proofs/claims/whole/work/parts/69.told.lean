-- deps: 68.acts4
/-! feed, back, of -/
section TL
variable {P : Nat → Nat} {S T : xS} {x m : Nat} {A : xAb} {ob ob0 : Nat → Value} {F : xF}
theorem xMl.tp {ob1 : Nat → Value} {k : Nat} {b' : Nat → Int32} (M : xMl S m A) (e0 : xMo S m ob) (hf : xfr S T (fun b => b = m ∨ b = m + 17)) (hn : xMo T m ob1) (hk : ∀ k, k ≠ 28 → ob1 k = ob k) (h28 : ob1 28 = .int (iI k)) (hB : xMt T (m + 17) k (xbm b')) : xMl T m (A.1, A.2.1, A.2.2.1, k, b') ∧ xfr S T (xrg m 19) := by
  obtain ⟨ob', e0', e1, e2, e3, e4, e5, e6, e7, e8⟩ := M
  have eo : ∀ k, k < 35 → ob k = ob' k := fun k hk => by
    have h1 := e0.1.symm.trans e0'.1
    have h2 : (List.range 35).map ob = (List.range 35).map ob' := by
      injection h1 with h1; injection h1 with h1; injection h1
    have h3 := congrArg (fun l => l[k]?) h2
    rw [xob_k hk, xob_k hk] at h3
    injection h3
  exact ⟨⟨ob1, hn, ((hk 5 (by decide)).trans (eo 5 (by decide))).trans e1, h28, e3.fr hf (by omega), e4.fr hf (by omega), e5.fr hf (by omega) (by omega), hB, e7.fr hf (by omega), e8.fr hf (fun d hd => by omega)⟩, hf.mono (fun b hb => ⟨by omega, by omega⟩)⟩
theorem xTp.eqv {a n : Nat} {b b' : Nat → Int32} (h : xTp S a n b) (he : ∀ i, i < n → b i = b' i) : xTp S a n b' := by
  obtain ⟨h1, f, e1, e2, e3⟩ := h
  exact ⟨h1, f, e1, e2, fun i hi => (e3 i hi).trans (he i hi)⟩
theorem xby_255 (w : Int32) (k : Nat) : xby w k &&& iI 255 = xby w k := by
  unfold xby
  rw [Int32.and_assoc, Int32.and_self]
/-- twenty bytes come -/
def xfw (a b c d e : Int32) (k : Nat) : Int32 := if k < 4 then a else if k < 8 then b else if k < 12 then c else if k < 16 then d else e
def xfb (f : Nat → Int32) (n : Nat) (a b c d e : Int32) : Nat → Int32 := fun i => if i < n then f i else xby (xfw a b c d e (i - n)) ((i - n) % 4)
theorem z_feed (H : xCl S x A) {i j k l o : Int} (i1 : -2147483648 ≤ i) (i2 : i < 2147483648) (j1 : -2147483648 ≤ j) (j2 : j < 2147483648) (k1 : -2147483648 ≤ k) (k2 : k < 2147483648) (l1 : -2147483648 ≤ l) (l2 : l < 2147483648) (o1 : -2147483648 ≤ o) (o2 : o < 2147483648) : ∃ z A', xKI P S x m_X10_feed [.int (iI i), .int (iI j), .int (iI k), .int (iI l), .int (iI o)] z A' ∧ ∀ S', xMl S' m A → xGI P S' m m_X11_feed [.int (iI i), .int (iI j), .int (iI k), .int (iI l), .int (iI o)] z A' := by
  have hT := H.2.2.2.2.2.1
  have hn := hT.1
  have room := d_room (P := P) hT
  by_cases c : A.2.2.2.1 + 20 ≤ 200
  · rw [if_pos c] at room
    refine ⟨iI (A.2.2.2.1 + 20 : Nat), (A.1, A.2.1, A.2.2.1, A.2.2.2.1 + 20, xfb A.2.2.2.2 A.2.2.2.1 (iI i) (iI j) (iI k) (iI l) (iI o)), ?_, fun S' M => ?_⟩
    · obtain ⟨T1, b1, r1, h1, p1, q1, f1⟩ := d_addWord (P := P) hT (by omega) (iI i)
      obtain ⟨T2, b2, r2, h2, p2, q2, f2⟩ := d_addWord (P := P) h1 (by omega) (iI j)
      obtain ⟨T3, b3, r3, h3, p3, q3, f3⟩ := d_addWord (P := P) h2 (by omega) (iI k)
      obtain ⟨T4, b4, r4, h4, p4, q4, f4⟩ := d_addWord (P := P) h3 (by omega) (iI l)
      obtain ⟨T5, b5, r5, h5, p5, q5, f5⟩ := d_addWord (P := P) h4 (by omega) (iI o)
      have F1 : xC0 T1 x := (f1.2 _ (by unfold xrg; omega)).trans H.1
      have F2 : xC0 T2 x := (f2.2 _ (by unfold xrg; omega)).trans F1
      have F3 : xC0 T3 x := (f3.2 _ (by unfold xrg; omega)).trans F2
      have F4 : xC0 T4 x := (f4.2 _ (by unfold xrg; omega)).trans F3
      have F5 : xC0 T5 x := (f5.2 _ (by unfold xrg; omega)).trans F4
      have g : ∀ {T : xS}, xC0 T x → xfR T x 10 6 = some (x + 57) := fun h => xfR_at h rfl
      have fa := (((f1.tr f2).tr f3).tr f4).tr f5
      obtain ⟨H5, fr⟩ := H.tape fa (b' := xfb A.2.2.2.2 A.2.2.2.1 (iI i) (iI j) (iI k) (iI l) (iI o)) (k := A.2.2.2.1 + 20) (h5.eqv (fun t ht => by
        show b5 t = xfb A.2.2.2.2 A.2.2.2.1 (iI i) (iI j) (iI k) (iI l) (iI o) t &&& iI 255
        unfold xfb
        by_cases d : t < A.2.2.2.1
        · rw [if_pos d, p5 t (by omega), p4 t (by omega), p3 t (by omega), p2 t (by omega), p1 t (by omega)]
          rfl
        · rw [if_neg d, xby_255]
          unfold xfw
          by_cases d1 : t - A.2.2.2.1 < 4
          · rw [if_pos d1, p5 t (by omega), p4 t (by omega), p3 t (by omega), p2 t (by omega)]
            have := q1 (t - A.2.2.2.1) d1
            rw [show A.2.2.2.1 + (t - A.2.2.2.1) = t by omega] at this
            rw [this]
            congr 1
            omega
          · rw [if_neg d1]
            by_cases d2 : t - A.2.2.2.1 < 8
            · rw [if_pos d2, p5 t (by omega), p4 t (by omega), p3 t (by omega)]
              have := q2 (t - A.2.2.2.1 - 4) (by omega)
              rw [show A.2.2.2.1 + 4 + (t - A.2.2.2.1 - 4) = t by omega] at this
              rw [this]
              congr 1
              omega
            · rw [if_neg d2]
              by_cases d3 : t - A.2.2.2.1 < 12
              · rw [if_pos d3, p5 t (by omega), p4 t (by omega)]
                have := q3 (t - A.2.2.2.1 - 8) (by omega)
                rw [show A.2.2.2.1 + 4 + 4 + (t - A.2.2.2.1 - 8) = t by omega] at this
                rw [this]
                congr 1
                omega
              · rw [if_neg d3]
                by_cases d4 : t - A.2.2.2.1 < 16
                · rw [if_pos d4, p5 t (by omega)]
                  have := q4 (t - A.2.2.2.1 - 12) (by omega)
                  rw [show A.2.2.2.1 + 4 + 4 + 4 + (t - A.2.2.2.1 - 12) = t by omega] at this
                  rw [this]
                  congr 1
                  omega
                · rw [if_neg d4]
                  have := q5 (t - A.2.2.2.1 - 16) (by omega)
                  rw [show A.2.2.2.1 + 4 + 4 + 4 + 4 + (t - A.2.2.2.1 - 16) = t by omega] at this
                  rw [this]
                  congr 1
                  omega))
      refine ⟨T5, xcI_of ((e_X10_feed_0 P x (iI i) (iI j) (iI k) (iI l) (iI o) S).trans ?_), H5, fr⟩
      simp only [H.r5, hT.o, room, r1, g F1, h1.o, r2, g F2, h2.o, r3, g F3, h3.o, r4, g F4, h4.o, r5, g F5, h5.o, d_tsize h5, xob_some, cond_true, t_10, t_00, ne_eq, not_true_eq_false, not_false_eq_true, if_true, if_false]
    · obtain ⟨ob, e0, h5, h28, hR, -⟩ := id M
      obtain ⟨ob', -, -, -, -, -, -, ⟨-, f, hf, hf2⟩, -⟩ := id M
      have w4 : ∀ t : Nat, t < 20 → iI (t : Int) - iI (t : Int) / iI 4 * iI 4 = iI ((t % 4 : Nat) : Int) := fun t ht => by
        rw [iI_rem (by omega) (by omega) (by omega) (by omega)]
        rfl
      have key := xloopQ (run := fun v (Z : xS) => xrun P m_X11_feed 18 [(0, .ref m), (1, .int (iI i)), (2, .int (iI j)), (3, .int (iI k)), (4, .int (iI l)), (5, .int (iI o)), (6, .int (iI v))] [] Z)
        (Inv := fun v Z => xfr S' Z (fun b => b = m ∨ b = m + 17) ∧ ∃ ob1 g, xMo Z m ob1 ∧ (∀ k, k ≠ 28 → ob1 k = ob k) ∧ ob1 28 = .int (iI (A.2.2.2.1 + v : Nat)) ∧ Z.1 (m + 17) = some (.inr (0, (200, .inl g))) ∧ (∀ t, t < A.2.2.2.1 → g t = xbm A.2.2.2.2 t) ∧ ∀ t, t < v → g (A.2.2.2.1 + t) = xby (xfw (iI i) (iI j) (iI k) (iI l) (iI o) t) (t % 4))
        (fun res => ∃ T, res = some (some (.int (iI (A.2.2.2.1 + 20 : Nat))), T) ∧ xMl T m (A.1, A.2.1, A.2.2.1, A.2.2.2.1 + 20, xfb A.2.2.2.2 A.2.2.2.1 (iI i) (iI j) (iI k) (iI l) (iI o)) ∧ xfr S' T (xrg m 19)) 0 20 (by decide) (by
          rintro v Z - hv ⟨fZ, ob1, g, e1, k1, k28, hg, g1, g2⟩
          right
          obtain ⟨Z1, w1, w2, w3⟩ := xwrI_fr (v := xby (xfw (iI i) (iI j) (iI k) (iI l) (iI o) v) (v % 4)) hg (i := ((A.2.2.2.1 + v : Nat) : Int)) (by omega) (by omega) (by omega)
          rw [Int.toNat_natCast] at w2
          have E1 := e1.fr w3 (by omega)
          obtain ⟨Z2, y1, y2, y3⟩ := E1.put (k := 28) (by decide) (by decide) (tag := 0) (v := .int (iI (A.2.2.2.1 + v : Nat) + iI 1)) rfl
          refine ⟨Z2, ?_, (fZ.tr (w3.mono (fun b hb => Or.inr hb))).tr (y3.mono (fun b hb => Or.inl hb)), _, _, y2, fun k hk => ?_, ?_, (y3.2 _ (by omega)).trans w2, fun t ht => ?_, fun t ht => ?_⟩
          · have e71 : xrun P m_X11_feed 71 [(0, .ref m), (1, .int (iI i)), (2, .int (iI j)), (3, .int (iI k)), (4, .int (iI l)), (5, .int (iI o)), (6, .int (iI v))] [.int (xfw (iI i) (iI j) (iI k) (iI l) (iI o) v)] Z = xrun P m_X11_feed 18 [(0, .ref m), (1, .int (iI i)), (2, .int (iI j)), (3, .int (iI k)), (4, .int (iI l)), (5, .int (iI o)), (6, .int (iI (v + 1 : Nat)))] [] Z2 := by
              have sh : (xfw (iI i) (iI j) (iI k) (iI l) (iI o) v >>> ((iI 24 - iI 8 * iI ((v % 4 : Nat) : Int)) &&& 31)) &&& iI 255 = xby (xfw (iI i) (iI j) (iI k) (iI l) (iI o) v) (v % 4) := by
                rw [iI_mul, iI_sub]; rfl
              have y1' := y1
              rw [iI_suc] at y1'
              rw [e_X11_feed_71]
              simp only [e1.r27, e1.i (show 28 < 35 by decide) k28, w4 v hv, sh, w1, E1.i (show 28 < 35 by decide) k28, iI_suc, y1', xob_some]
            have le : ∀ c : Nat, c < 100 → ((iI (c : Int) ≤ iI (v : Int)) ↔ c ≤ v) := fun c hc => by rw [iI_le (by omega) (by omega) (by omega) (by omega)]; omega
            have l20 : (iI 20 ≤ iI (v : Int)) ↔ 20 ≤ v := le 20 (by decide)
            have l4 : (iI 4 ≤ iI (v : Int)) ↔ 4 ≤ v := le 4 (by decide)
            have l8 : (iI 8 ≤ iI (v : Int)) ↔ 8 ≤ v := le 8 (by decide)
            have l12 : (iI 12 ≤ iI (v : Int)) ↔ 12 ≤ v := le 12 (by decide)
            have l16 : (iI 16 ≤ iI (v : Int)) ↔ 16 ≤ v := le 16 (by decide)
            rw [e_X11_feed_18, if_neg (fun z => by have := l20.mp z; omega)]
            refine Eq.trans ?_ e71
            unfold xfw
            by_cases d1 : v < 4
            · rw [if_neg (fun z => by have := l4.mp z; omega), if_pos d1]
            · rw [if_pos (l4.mpr (by omega)), if_neg d1]
              by_cases d2 : v < 8
              · rw [if_neg (fun z => by have := l8.mp z; omega), if_pos d2]
              · rw [if_pos (l8.mpr (by omega)), if_neg d2]
                by_cases d3 : v < 12
                · rw [if_neg (fun z => by have := l12.mp z; omega), if_pos d3]
                · rw [if_pos (l12.mpr (by omega)), if_neg d3]
                  by_cases d4 : v < 16
                  · rw [if_neg (fun z => by have := l16.mp z; omega), if_pos d4]
                  · rw [if_pos (l16.mpr (by omega)), if_neg d4]
          · rw [va_up_at, if_neg hk]; exact k1 k hk
          · rw [va_up_at, if_pos rfl, iI_suc]; rfl
          · rw [va_up_at, if_neg (by omega)]; exact g1 t ht
          · rw [va_up_at]
            by_cases d : t = v
            · rw [if_pos (by omega), d]
            · rw [if_neg (by omega)]; exact g2 t (by omega)) (by
          rintro Z ⟨fZ, ob1, g, e1, k1, k28, hg, g1, g2⟩
          obtain ⟨MM, ff⟩ := M.tp e0 fZ e1 k1 k28 (b' := xfb A.2.2.2.2 A.2.2.2.1 (iI i) (iI j) (iI k) (iI l) (iI o)) ⟨by omega, g, hg, fun t ht => by
            show g t = xfb A.2.2.2.2 A.2.2.2.1 (iI i) (iI j) (iI k) (iI l) (iI o) t &&& iI 255
            unfold xfb
            by_cases d : t < A.2.2.2.1
            · rw [if_pos d]; exact g1 t d
            · rw [if_neg d, xby_255]
              have := g2 (t - A.2.2.2.1) (by omega)
              rw [show A.2.2.2.1 + (t - A.2.2.2.1) = t by omega] at this
              exact this⟩
          refine ⟨Z, ?_, MM, ff⟩
          rw [e_X11_feed_18, if_pos (by decide +kernel), e1.i (show 28 < 35 by decide) k28, xob_some]) (s := S') ⟨xfr.rf, ob, f, e0, fun _ _ => rfl, h28, hf, hf2, fun t ht => absurd ht (by omega)⟩
      obtain ⟨T, t1, t2, t3⟩ := key
      refine ⟨T, xcI_of ((e_X11_feed_0 P m (iI i) (iI j) (iI k) (iI l) (iI o) S').trans ?_), t2, t3⟩
      rw [e0.i (show 28 < 35 by decide) h28, xob_some, iI_add, if_pos (by rw [iI_le (by omega) (by omega) (by omega) (by omega)]; omega)]
      exact t1
  · rw [if_neg c] at room
    refine ⟨iI (-1), A, ⟨S, xcI_of ((e_X10_feed_0 P x (iI i) (iI j) (iI k) (iI l) (iI o) S).trans ?_), H, xfr.rf⟩, fun S' M => ?_⟩
    · simp only [H.r5, hT.o, room, xob_some, cond_true, t_10, t_00, ne_eq, not_true_eq_false, not_false_eq_true, if_true, if_false]
    · obtain ⟨ob, e0, h5, h28, hR, -⟩ := id M
      refine ⟨S', xcI_of ((e_X11_feed_0 P m (iI i) (iI j) (iI k) (iI l) (iI o) S').trans ?_), M, xfr.rf⟩
      rw [e0.i (show 28 < 35 by decide) h28, xob_some, iI_add, if_neg (by rw [iI_le (by omega) (by omega) (by omega) (by omega)]; omega)]
theorem z_back (H : xCl S x A) {i : Int} (i1 : -2147483648 ≤ i) (i2 : i < 2147483648) : ∃ z A', xKI P S x m_X10_back [.int (iI i)] z A' ∧ ∀ S', xMl S' m A → xGI P S' m m_X11_back [.int (iI i)] z A' := by
  have hT := H.2.2.2.2.2.1
  have hn := hT.1
  by_cases c : 0 ≤ i ∧ i ≤ (A.2.2.2.1 : Int)
  · refine ⟨iI (A.2.2.2.1 - i.toNat : Nat), (A.1, A.2.1, A.2.2.1, A.2.2.2.1 - i.toNat, A.2.2.2.2), ?_, fun S' M => ?_⟩
    · obtain ⟨T1, a1, a2, a3⟩ := d_shorten (P := P) hT c.1 c.2
      obtain ⟨H1, f1⟩ := H.tape a3 a2
      refine ⟨T1, xcI_of ((e_X10_back_0 P x (iI i) S).trans ?_), H1, f1⟩
      rw [if_neg (by rw [iI_0, iI_lt i1 i2 (by omega) (by omega)]; omega)]
      simp only [H.r5, hT.o, d_tsize hT, xob_some, cond_true]
      rw [if_pos (by rw [iI_le i1 i2 (by omega) (by omega)]; omega)]
      simp only [a1, H1.r5, a2.o, d_tsize a2, xob_some, cond_true]
    · obtain ⟨ob, e0, h5, h28, hR, -⟩ := id M
      obtain ⟨ob', -, -, -, -, -, -, ⟨-, f, hf, hf2⟩, -⟩ := id M
      obtain ⟨T1, p1, p2, p3⟩ := e0.put (k := 28) (by decide) (by decide) (tag := 0) (v := .int (iI (A.2.2.2.1 : Int) - iI i)) rfl
      have q : iI (A.2.2.2.1 : Int) - iI i = iI (A.2.2.2.1 - i.toNat : Nat) := by rw [iI_sub]; congr 1; omega
      have q28 : va_up ob 28 (.int (iI (A.2.2.2.1 : Int) - iI i)) 28 = .int (iI (A.2.2.2.1 - i.toNat : Nat)) := by rw [va_up_at, if_pos rfl, q]
      obtain ⟨MM, ff⟩ := M.tp e0 (p3.mono (fun b hb => Or.inl hb)) p2 (fun k hk => by rw [va_up_at, if_neg hk]) q28 (b' := A.2.2.2.2) ⟨by omega, f, (p3.2 _ (by omega)).trans hf, fun t ht => hf2 t (by omega)⟩
      refine ⟨T1, xcI_of ((e_X11_back_0 P m (iI i) S').trans ?_), MM, ff⟩
      have inn : xcI P m_X11_in [.long (iI i).toInt64, .long (jI 0), .long (iI (A.2.2.2.1 : Int)).toInt64] S' = some (iI (if 0 ≤ i ∧ i ≤ (A.2.2.2.1 : Int) then 1 else 0), S') := by
        rw [iI_ji (z := (A.2.2.2.1 : Int)) (by omega) (by omega)]
        exact g_inM i1 i2 (by omega) (by omega) (by omega) (by omega)
      simp only [e0.i (show 28 < 35 by decide) h28, inn, if_pos c, p1, p2.i (show 28 < 35 by decide) q28, xob_some, cond_true, t_10, t_00, ne_eq, not_true_eq_false, not_false_eq_true, if_true, if_false]
  · refine ⟨iI (-1), A, ⟨S, xcI_of ((e_X10_back_0 P x (iI i) S).trans ?_), H, xfr.rf⟩, fun S' M => ?_⟩
    · by_cases d : i < 0
      · rw [if_pos (by rw [iI_0, iI_lt i1 i2 (by omega) (by omega)]; omega)]
      · rw [if_neg (by rw [iI_0, iI_lt i1 i2 (by omega) (by omega)]; omega)]
        simp only [H.r5, hT.o, d_tsize hT, xob_some, cond_true]
        rw [if_neg (by rw [iI_le i1 i2 (by omega) (by omega)]; omega)]
    · obtain ⟨ob, e0, h5, h28, hR, -⟩ := id M
      refine ⟨S', xcI_of ((e_X11_back_0 P m (iI i) S').trans ?_), M, xfr.rf⟩
      have inn : xcI P m_X11_in [.long (iI i).toInt64, .long (jI 0), .long (iI (A.2.2.2.1 : Int)).toInt64] S' = some (iI (if 0 ≤ i ∧ i ≤ (A.2.2.2.1 : Int) then 1 else 0), S') := by
        rw [iI_ji (z := (A.2.2.2.1 : Int)) (by omega) (by omega)]
        exact g_inM i1 i2 (by omega) (by omega) (by omega) (by omega)
      simp only [e0.i (show 28 < 35 by decide) h28, inn, if_neg c, xob_some, cond_true, t_10, t_00, ne_eq, not_true_eq_false, not_false_eq_true, if_true, if_false]
theorem z_of (H : xCl S x A) {i j : Int} (i1 : -2147483648 ≤ i) (i2 : i < 2147483648) (j1 : -2147483648 ≤ j) (j2 : j < 2147483648) : ∃ z A', xKI P S x m_X10_of [.int (iI i), .int (iI j)] z A' ∧ ∀ S', xMl S' m A → xGI P S' m m_X11_of [.int (iI i), .int (iI j)] z A' := by
  have hF := H.2.1
  have hk := hF.1.1
  by_cases ci : 0 ≤ i ∧ i < A.1.1
  · obtain ⟨r, rfl⟩ : ∃ r : Nat, i = r := ⟨i.toNat, by omega⟩
    have hr : r < A.1.1 := by omega
    by_cases c0 : j = 0
    · subst c0
      refine ⟨iI (A.1.2.1 r), A, ⟨S, xcI_of ((e_X10_of_0 P x (iI r) (iI 0) S).trans ?_), H, xfr.rf⟩, fun S' M => ?_⟩
      · simp only [H.r0, hF.o, d_has hF i1 i2, if_pos ci, d_speedAt hF hr, xob_some, cond_true, t_10, t_00, ne_eq, not_true_eq_false, not_false_eq_true, if_true, if_false]
        rw [if_neg (by decide +kernel), if_pos (by decide +kernel)]
      · obtain ⟨ob, e0, h5, h28, hR, -⟩ := id M
        refine ⟨S', xcI_of ((e_X11_of_0 P m (iI r) (iI 0) S').trans ?_), M, xfr.rf⟩
        simp only [e0.o, g_isRunner e0 hR i1 i2, if_pos ci, g_speedOf e0 hR hr, xob_some, cond_true, t_10, t_00, ne_eq, not_true_eq_false, not_false_eq_true, if_true, if_false]
    · by_cases c1 : j = 1
      · subst c1
        refine ⟨iI (A.1.2.2 r), A, ⟨S, xcI_of ((e_X10_of_0 P x (iI r) (iI 1) S).trans ?_), H, xfr.rf⟩, fun S' M => ?_⟩
        · simp only [H.r0, hF.o, d_has hF i1 i2, if_pos ci, d_startAt hF hr, xob_some, cond_true, t_10, t_00, ne_eq, not_true_eq_false, not_false_eq_true, if_true, if_false]
          rw [if_neg (by decide +kernel), if_pos (by decide +kernel)]
        · obtain ⟨ob, e0, h5, h28, hR, -⟩ := id M
          refine ⟨S', xcI_of ((e_X11_of_0 P m (iI r) (iI 1) S').trans ?_), M, xfr.rf⟩
          simp only [e0.o, g_isRunner e0 hR i1 i2, if_pos ci, g_startOf e0 hR hr, xob_some, cond_true, t_10, t_00, ne_eq, not_true_eq_false, not_false_eq_true, if_true, if_false]
      · refine ⟨iI (-1), A, ⟨S, xcI_of ((e_X10_of_0 P x (iI r) (iI j) S).trans ?_), H, xfr.rf⟩, fun S' M => ?_⟩
        · simp only [H.r0, hF.o, d_has hF i1 i2, if_pos ci, xob_some, cond_true, t_10, t_00, ne_eq, not_true_eq_false, not_false_eq_true, if_true, if_false]
          by_cases d : j < 0
          · rw [if_pos (by rw [iI_0, iI_lt j1 j2 (by omega) (by omega)]; omega)]
          · rw [if_neg (by rw [iI_0, iI_lt j1 j2 (by omega) (by omega)]; omega), if_neg (by rw [iI_le j1 j2 (by omega) (by omega)]; omega)]
        · obtain ⟨ob, e0, h5, h28, hR, -⟩ := id M
          refine ⟨S', xcI_of ((e_X11_of_0 P m (iI r) (iI j) S').trans ?_), M, xfr.rf⟩
          have n0 : (iI j = 0) = False := t_nz j1 j2 c0
          have n1 : (iI j = iI 1) = False := t_e j1 j2 (by omega) (by omega) c1
          simp only [e0.o, g_isRunner e0 hR i1 i2, if_pos ci, n0, n1, xob_some, cond_true, t_10, t_00, ne_eq, not_true_eq_false, not_false_eq_true, if_true, if_false]
  · refine ⟨iI (-1), A, ⟨S, xcI_of ((e_X10_of_0 P x (iI i) (iI j) S).trans ?_), H, xfr.rf⟩, fun S' M => ?_⟩
    · simp only [H.r0, hF.o, d_has hF i1 i2, if_neg ci, xob_some, cond_true, t_10, t_00, ne_eq, not_true_eq_false, not_false_eq_true, if_true, if_false]
    · obtain ⟨ob, e0, h5, h28, hR, -⟩ := id M
      refine ⟨S', xcI_of ((e_X11_of_0 P m (iI i) (iI j) S').trans ?_), M, xfr.rf⟩
      simp only [e0.o, g_isRunner e0 hR i1 i2, if_neg ci, xob_some, cond_true, t_10, t_00, ne_eq, not_true_eq_false, not_false_eq_true, if_true, if_false]
end TL
