/-! what a step's result says of where it came from -/
section XI
variable {r : (Option Value × xS) ⊕ (Nat × xL × List Value × xS) ⊕ (Nat × List Value × xS × Nat × xL × List Value)} {k nxt pc ml : Nat} {lv : xL} {st : List Value} {S : xS} {x : xX}
theorem xi_ldI (h : xldI none xjN k nxt lv st S = some r) : ∃ v, xget lv k = some (.int v) ∧ r = .inr (.inl (nxt, lv, .int v :: st, S)) := by
  unfold xldI at h; split at h
  · rename_i v hv; cases h; exact ⟨v, hv, rfl⟩
  · cases h
theorem xi_ldJ (h : xldJ none xjN k nxt lv st S = some r) : ∃ v, xget lv k = some (.long v) ∧ r = .inr (.inl (nxt, lv, .long v :: st, S)) := by
  unfold xldJ at h; split at h
  · rename_i v hv; cases h; exact ⟨v, hv, rfl⟩
  · cases h
theorem xi_ldR (h : xldR none xjN k nxt lv st S = some r) : ∃ v, xget lv k = some (.ref v) ∧ r = .inr (.inl (nxt, lv, .ref v :: st, S)) := by
  unfold xldR at h; split at h
  · rename_i v hv; cases h; exact ⟨v, hv, rfl⟩
  · cases h
theorem xi_bif {α : Type} {b : Bool} {a : Option α} {r : α} (h : (bif b then a else none) = some r) : b = true ∧ a = some r := by
  cases b
  · cases h
  · exact ⟨rfl, h⟩
theorem xi_sI (h : xsI none xjN ml k nxt lv st S = some r) : ∃ v q, st = .int v :: q ∧ k < ml ∧ r = .inr (.inl (nxt, xpu1 lv k (.int v), q, S)) := by
  unfold xsI at h; split at h
  · rename_i v q; obtain ⟨hb, h⟩ := xi_bif h; cases h; exact ⟨v, q, rfl, by simpa using hb, rfl⟩
  · cases h
theorem xi_sR (h : xsR none xjN ml k nxt lv st S = some r) : ∃ v q, st = .ref v :: q ∧ k < ml ∧ r = .inr (.inl (nxt, xpu1 lv k (.ref v), q, S)) := by
  unfold xsR at h; split at h
  · rename_i v q; obtain ⟨hb, h⟩ := xi_bif h; cases h; exact ⟨v, q, rfl, by simpa using hb, rfl⟩
  · cases h
theorem xi_sJ (h : xsJ none xjN ml k nxt lv st S = some r) : ∃ v q, st = .long v :: q ∧ k + 1 < ml ∧ r = .inr (.inl (nxt, xpu2 lv k (.long v), q, S)) := by
  unfold xsJ at h; split at h
  · rename_i v q; obtain ⟨hb, h⟩ := xi_bif h; cases h; exact ⟨v, q, rfl, by simpa using hb, rfl⟩
  · cases h
theorem xi_I1 {f : Int32 → Value} (h : xoI1 none xjN f pc lv st S = some r) : ∃ v q, st = .int v :: q ∧ r = .inr (.inl (pc + 1, lv, f v :: q, S)) := by
  unfold xoI1 at h; split at h
  · rename_i v q; cases h; exact ⟨v, q, rfl, rfl⟩
  · cases h
theorem xi_J1 {f : Int64 → Value} (h : xoJ1 none xjN f pc lv st S = some r) : ∃ v q, st = .long v :: q ∧ r = .inr (.inl (pc + 1, lv, f v :: q, S)) := by
  unfold xoJ1 at h; split at h
  · rename_i v q; cases h; exact ⟨v, q, rfl, rfl⟩
  · cases h
theorem xi_I2 {f : Int32 → Int32 → Value} (h : xoI2 none xjN f pc lv st S = some r) : ∃ v w q, st = .int w :: .int v :: q ∧ r = .inr (.inl (pc + 1, lv, f v w :: q, S)) := by
  unfold xoI2 at h; split at h
  · rename_i w v q; cases h; exact ⟨v, w, q, rfl, rfl⟩
  · cases h
theorem xi_J2 {f : Int64 → Int64 → Value} (h : xoJ2 none xjN f pc lv st S = some r) : ∃ v w q, st = .long w :: .long v :: q ∧ r = .inr (.inl (pc + 1, lv, f v w :: q, S)) := by
  unfold xoJ2 at h; split at h
  · rename_i w v q; cases h; exact ⟨v, w, q, rfl, rfl⟩
  · cases h
theorem xi_JI {f : Int64 → Int32 → Value} (h : xoJI none xjN f pc lv st S = some r) : ∃ v w q, st = .int w :: .long v :: q ∧ r = .inr (.inl (pc + 1, lv, f v w :: q, S)) := by
  unfold xoJI at h; split at h
  · rename_i w v q; cases h; exact ⟨v, w, q, rfl, rfl⟩
  · cases h
theorem xi_div {f : Int32 → Int32 → Int32} (h : xodiv none xjN f pc lv st S = some r) : ∃ v w q, st = .int w :: .int v :: q ∧ ¬ w = 0 ∧ r = .inr (.inl (pc + 1, lv, .int (f v w) :: q, S)) := by
  unfold xodiv at h; split at h
  · rename_i w v q; split at h
    · cases h
    · rename_i hw; cases h; exact ⟨v, w, q, rfl, hw, rfl⟩
  · cases h
theorem xi_ldiv {f : Int64 → Int64 → Int64} (h : xoldiv none xjN f pc lv st S = some r) : ∃ v w q, st = .long w :: .long v :: q ∧ ¬ w = 0 ∧ r = .inr (.inl (pc + 1, lv, .long (f v w) :: q, S)) := by
  unfold xoldiv at h; split at h
  · rename_i w v q; split at h
    · cases h
    · rename_i hw; cases h; exact ⟨v, w, q, rfl, hw, rfl⟩
  · cases h
theorem xi_dup (h : xodup none xjN pc lv st S = some r) : ∃ v q, st = v :: q ∧ v.category = 1 ∧ r = .inr (.inl (pc + 1, lv, v :: v :: q, S)) := by
  unfold xodup at h; split at h
  · rename_i v q; obtain ⟨hb, h⟩ := xi_bif h; cases h; exact ⟨v, q, rfl, Nat.eq_of_beq_eq_true hb, rfl⟩
  · cases h
theorem xi_pop (h : xopop none xjN pc lv st S = some r) : ∃ v q, st = v :: q ∧ v.category = 1 ∧ r = .inr (.inl (pc + 1, lv, q, S)) := by
  unfold xopop at h; split at h
  · rename_i v q; obtain ⟨hb, h⟩ := xi_bif h; cases h; exact ⟨v, q, rfl, Nat.eq_of_beq_eq_true hb, rfl⟩
  · cases h
theorem xi_dup2 (h : xodup2 none xjN pc lv st S = some r) : ∃ v w q, st = v :: w :: q ∧ v.category = 1 ∧ w.category = 1 ∧ r = .inr (.inl (pc + 1, lv, v :: w :: v :: w :: q, S)) := by
  unfold xodup2 at h; split at h
  · rename_i v w q; obtain ⟨hb, h⟩ := xi_bif h; cases h
    rw [Bool.and_eq_true] at hb
    exact ⟨v, w, q, rfl, Nat.eq_of_beq_eq_true hb.1, Nat.eq_of_beq_eq_true hb.2, rfl⟩
  · cases h
theorem xi_inc {n : Int} (h : xoinc none xjN k n ml pc lv st S = some r) : ∃ v, xget lv k = some (.int v) ∧ k < ml ∧ r = .inr (.inl (pc + 3, xpu1 lv k (.int (v + Int32.ofInt n)), st, S)) := by
  unfold xoinc at h; split at h
  · rename_i v hv; obtain ⟨hb, h⟩ := xi_bif h; cases h; exact ⟨v, hv, by simpa using hb, rfl⟩
  · cases h
theorem xi_gf (h : xogf none xjN x pc lv st S = some r) : ∃ a q v, st = .ref a :: q ∧ xfd S a x.1 x.2.1 = some v ∧ r = .inr (.inl (pc + 3, lv, v :: q, S)) := by
  unfold xogf xob at h; split at h
  · rename_i a q; split at h
    · split at h
      · rename_i v hv; cases h; unfold xfJ at hv; split at hv
        · rename_i w hw; cases hv; exact ⟨a, q, _, rfl, hw, rfl⟩
        · cases hv
      · cases h
    · split at h
      · rename_i v hv; cases h; unfold xfR at hv; split at hv
        · rename_i w hw; cases hv; exact ⟨a, q, _, rfl, hw, rfl⟩
        · cases hv
      · cases h
    · split at h
      · rename_i v hv; cases h; unfold xfI at hv; split at hv
        · rename_i w hw; cases hv; exact ⟨a, q, _, rfl, hw, rfl⟩
        · cases hv
      · cases h
  · cases h
theorem xi_pf (h : xopf none xjN x pc lv st S = some r) : ∃ a q v fs, st = v :: .ref a :: q ∧ S.1 a = some (.inl (x.1, fs)) ∧ x.2.1 < fs.length ∧ xfit x.2.2.2 v = true ∧ r = .inr (.inl (pc + 3, lv, q, xpt S a (.inl (x.1, fs.set x.2.1 v)))) := by
  unfold xopf xob at h; split at h
  · rename_i v a q; split at h
    · rename_i S1 hS; cases h; unfold xpf at hS; split at hS
      · rename_i o ho; obtain ⟨hb, hS⟩ := xi_bif hS; cases hS
        simp only [Bool.and_eq_true, Nat.blt_eq] at hb
        have e := Nat.eq_of_beq_eq_true hb.1
        exact ⟨a, q, v, o.2, rfl, by rw [ho, ← e], hb.2.1, hb.2.2, by rw [← e]⟩
      · cases hS
    · cases h
  · cases h
theorem xi_al (h : xoal none xjN pc lv st S = some r) : ∃ a q k n y, st = .ref a :: q ∧ S.1 a = some (.inr (k, (n, y))) ∧ (k < 5 ∨ k = 6) ∧ r = .inr (.inl (pc + 1, lv, .int (Int32.ofNat n) :: q, S)) := by
  unfold xoal xob at h; split at h
  · rename_i a q; split at h
    · rename_i v hv; cases h; unfold xlen at hv; split at hv
      · rename_i k n y ho; split at hv
        · rename_i hk; cases hv; exact ⟨a, q, k, n, y, rfl, ho, hk, rfl⟩
        · cases hv
      · cases hv
    · cases h
  · cases h
theorem xi_rdI {a : Nat} {i v : Int32} (h : xrdI S a i = some v) : ∃ k n f, S.1 a = some (.inr (k, (n, .inl f))) ∧ (k = 0 ∨ k = 6) ∧ vp_in i n ∧ v = f i.toNatClampNeg := by
  unfold xrdI at h; split at h
  · rename_i k n f ho; split at h
    · rename_i hk; cases h; exact ⟨k, n, f, ho, hk.1, hk.2, rfl⟩
    · cases h
  · cases h
theorem xi_rdB {a : Nat} {i v : Int32} (h : xrdB S a i = some v) : ∃ k n f, S.1 a = some (.inr (k, (n, .inl f))) ∧ (k = 2 ∨ k = 3) ∧ vp_in i n ∧ v = f i.toNatClampNeg := by
  unfold xrdB at h; split at h
  · rename_i k n f ho; split at h
    · rename_i hk; cases h; exact ⟨k, n, f, ho, hk.1, hk.2, rfl⟩
    · cases h
  · cases h
theorem xi_aI {rd : xS → Nat → Int32 → Option Int32} (h : xoaI none xjN rd pc lv st S = some r) : ∃ a q i v, st = .int i :: .ref a :: q ∧ rd S a i = some v ∧ r = .inr (.inl (pc + 1, lv, .int v :: q, S)) := by
  unfold xoaI xob at h; split at h
  · rename_i i a q; split at h
    · rename_i v hv; cases h; exact ⟨a, q, i, v, rfl, hv, rfl⟩
    · cases h
  · cases h
theorem xi_aJ (h : xoaJ none xjN pc lv st S = some r) : ∃ a q i n f, st = .int i :: .ref a :: q ∧ S.1 a = some (.inr (1, (n, .inr (.inl f)))) ∧ vp_in i n ∧ r = .inr (.inl (pc + 1, lv, .long (f i.toNatClampNeg) :: q, S)) := by
  unfold xoaJ xob at h; split at h
  · rename_i i a q; split at h
    · rename_i v hv; cases h; unfold xrdJ at hv; split at hv
      · rename_i k n f ho; split at hv
        · rename_i hk; cases hv; obtain ⟨rfl, hk⟩ := hk; exact ⟨a, q, i, n, f, rfl, ho, hk, rfl⟩
        · cases hv
      · cases hv
    · cases h
  · cases h
theorem xi_aR (h : xoaR none xjN pc lv st S = some r) : ∃ a q i n f b, st = .int i :: .ref a :: q ∧ S.1 a = some (.inr (4, (n, .inr (.inr (.inr (.inr f)))))) ∧ vp_in i n ∧ f i.toNatClampNeg = some b ∧ r = .inr (.inl (pc + 1, lv, .ref b :: q, S)) := by
  unfold xoaR xob at h; split at h
  · rename_i i a q; split at h
    · rename_i v hv; cases h; unfold xrdR at hv; split at hv
      · rename_i k n f ho; split at hv
        · rename_i hk; obtain ⟨rfl, hk⟩ := hk; exact ⟨a, q, i, n, f, v, rfl, ho, hk, hv, rfl⟩
        · cases hv
      · cases hv
    · cases h
  · cases h
theorem xi_asI {wr : xS → Nat → Int32 → Int32 → Option xS} (h : xoasI none xjN wr pc lv st S = some r) : ∃ a q i v S1, st = .int v :: .int i :: .ref a :: q ∧ wr S a i v = some S1 ∧ r = .inr (.inl (pc + 1, lv, q, S1)) := by
  unfold xoasI xob at h; split at h
  · rename_i v i a q; split at h
    · rename_i S1 hv; cases h; exact ⟨a, q, i, v, S1, rfl, hv, rfl⟩
    · cases h
  · cases h
theorem xi_wrI {a : Nat} {i v : Int32} {S1 : xS} (h : xwrI S a i v = some S1) : ∃ n f, S.1 a = some (.inr (0, (n, .inl f))) ∧ vp_in i n ∧ S1 = xpt S a (.inr (0, (n, .inl (va_up f i.toNatClampNeg v)))) := by
  unfold xwrI at h; split at h
  · rename_i k n f ho; split at h
    · rename_i hk; cases h; obtain ⟨rfl, hk⟩ := hk; exact ⟨n, f, ho, hk, rfl⟩
    · cases h
  · cases h
theorem xi_wrB {a : Nat} {i v : Int32} {S1 : xS} (h : xwrB S a i v = some S1) : ∃ n f, (S.1 a = some (.inr (2, (n, .inl f))) ∧ vp_in i n ∧ S1 = xpt S a (.inr (2, (n, .inl (va_up f i.toNatClampNeg (vp_nar .boolean v)))))) ∨ (S.1 a = some (.inr (3, (n, .inl f))) ∧ vp_in i n ∧ S1 = xpt S a (.inr (3, (n, .inl (va_up f i.toNatClampNeg (vp_nar .byte v)))))) := by
  unfold xwrB at h; split at h
  · rename_i k n f ho; split at h
    · rename_i hk; cases h; obtain ⟨rfl, hk⟩ := hk; exact ⟨n, f, Or.inl ⟨ho, hk, rfl⟩⟩
    · split at h
      · rename_i hk; cases h; obtain ⟨rfl, hk⟩ := hk; exact ⟨n, f, Or.inr ⟨ho, hk, rfl⟩⟩
      · cases h
  · cases h
theorem xi_asJ (h : xoasJ none xjN pc lv st S = some r) : ∃ a q i v n f, st = .long v :: .int i :: .ref a :: q ∧ S.1 a = some (.inr (1, (n, .inr (.inl f)))) ∧ vp_in i n ∧ r = .inr (.inl (pc + 1, lv, q, xpt S a (.inr (1, (n, .inr (.inl (va_up f i.toNatClampNeg v))))))) := by
  unfold xoasJ xob at h; split at h
  · rename_i v i a q; split at h
    · rename_i S1 hv; cases h; unfold xwrJ at hv; split at hv
      · rename_i k n f ho; split at hv
        · rename_i hk; cases hv; obtain ⟨rfl, hk⟩ := hk; exact ⟨a, q, i, v, n, f, rfl, ho, hk, rfl⟩
        · cases hv
      · cases hv
    · cases h
  · cases h
theorem xi_isO {a ci : Nat} (h : xisO S a ci = true) : ∃ fs, S.1 a = some (.inl (ci, fs)) := by
  unfold xisO at h; split at h
  · rename_i o ho; exact ⟨o.2, by rw [ho, ← Nat.eq_of_beq_eq_true h]⟩
  · cases h
theorem xi_asR (h : xoasR none xjN pc lv st S = some r) : ∃ a q i v n f fs, st = .ref v :: .int i :: .ref a :: q ∧ S.1 v = some (.inl (0, fs)) ∧ S.1 a = some (.inr (4, (n, .inr (.inr (.inr (.inr f)))))) ∧ vp_in i n ∧ r = .inr (.inl (pc + 1, lv, q, xpt S a (.inr (4, (n, .inr (.inr (.inr (.inr (va_up f i.toNatClampNeg (some v)))))))))) := by
  unfold xoasR xob at h; split at h
  · rename_i v i a q; obtain ⟨hb, h⟩ := xi_bif h
    obtain ⟨fs, hfs⟩ := xi_isO hb
    split at h
    · rename_i S1 hv; cases h; unfold xwrR at hv; split at hv
      · rename_i k n f ho; split at hv
        · rename_i hk; cases hv; obtain ⟨rfl, hk⟩ := hk; exact ⟨a, q, i, v, n, f, fs, rfl, hfs, ho, hk, rfl⟩
        · cases hv
      · cases hv
    · cases h
  · cases h
theorem xi_nwa (h : xonwa none xjN k nxt lv st S = some r) : ∃ n q, st = .int n :: q ∧ ¬ n < 0 ∧ n.toNatClampNeg < 1000000 ∧ r = .inr (.inl (nxt, lv, .ref S.2.1 :: q, xnwa S k n.toNatClampNeg)) := by
  unfold xonwa at h; split at h
  · rename_i n q; split at h
    · cases h
    · rename_i hn; cases h; exact ⟨n, q, rfl, fun z => hn (Or.inl z), Nat.lt_of_not_le fun z => hn (Or.inr z), rfl⟩
  · cases h
theorem xi_V (h : xoV none xjN xcN x pc lv st S = some r) (hx : x.1 < 1000) : ∃ as b q fs, xpop x.2.1 st [] = some (as, .ref b :: q) ∧ S.1 b = some (.inl (xow x.1, fs)) ∧ xcs q ≤ 8 ∧ xcs (.ref b :: as) ≤ xml x.1 ∧ r = .inr (.inr (x.1, .ref b :: as, S, pc + 3, lv, q)) := by
  unfold xoV at h
  have e1 : Nat.beq x.1 1000 = false := by
    rw [← Bool.not_eq_true, Nat.beq_eq]; omega
  have e2 : Nat.beq x.1 1001 = false := by
    rw [← Bool.not_eq_true, Nat.beq_eq]; omega
  rw [e1, e2] at h
  dsimp only [cond_false] at h
  split at h
  · rename_i as b q hp; obtain ⟨hb0, h⟩ := xi_bif h; obtain ⟨hb, h⟩ := xi_bif h; cases h
    simp only [Bool.and_eq_true, Nat.ble_eq] at hb
    obtain ⟨fs, hfs⟩ := xi_isO hb0
    exact ⟨as, b, q, fs, hp, hfs, hb.1, hb.2, rfl⟩
  · cases h
theorem xi_S (h : xoS none xcN x pc lv st S = some r) : ∃ as q, xpop x.2.1 st [] = some (as, q) ∧ xcs q ≤ 8 ∧ xcs as ≤ xml x.1 ∧ r = .inr (.inr (x.1, as, S, pc + 3, lv, q)) := by
  unfold xoS at h; split at h
  · rename_i as q hp; obtain ⟨hb, h⟩ := xi_bif h; cases h
    simp only [Bool.and_eq_true, Nat.ble_eq] at hb
    exact ⟨as, q, hp, hb.1, hb.2, rfl⟩
  · cases h
theorem xi_I (h : xoI none xjN xcN x pc lv st S = some r) : (x.2.2.2 = 2 ∧ ∃ a q, st = .ref a :: q ∧ xcs q ≤ 8 ∧ r = .inr (.inl (pc + 3, lv, q, S))) ∨ (x.2.2.2 ≠ 2 ∧ ∃ as b q, xpop x.2.1 st [] = some (as, .ref b :: q) ∧ xcs q ≤ 8 ∧ xcs (.ref b :: as) ≤ xml x.1 ∧ r = .inr (.inr (x.1, .ref b :: as, S, pc + 3, lv, q))) := by
  unfold xoI at h; split at h
  · rename_i h2; split at h
    · rename_i a q; obtain ⟨hb, h⟩ := xi_bif h; cases h
      exact Or.inl ⟨h2, a, q, rfl, by simpa using hb, rfl⟩
    · cases h
  · rename_i h2; split at h
    · rename_i as b q hp; obtain ⟨hb, h⟩ := xi_bif h; cases h
      simp only [Bool.and_eq_true, Nat.ble_eq] at hb
      exact Or.inr ⟨h2, as, b, q, hp, hb.1, hb.2, rfl⟩
    · cases h
theorem xi_sw {d lo hi : Int} {offs : Array Int} (h : xosw none xjN d lo hi offs pc lv st S = some r) : ∃ v q tgt, st = .int v :: q ∧ r = .inr (.inl (tgt, lv, q, S)) ∧ (((v.toInt < lo ∨ hi < v.toInt) ∧ (pc : Int) + d = (tgt : Int)) ∨ (¬ v.toInt < lo ∧ ¬ hi < v.toInt ∧ ∃ off, offs[(v.toInt - lo).toNat]? = some off ∧ (pc : Int) + off = (tgt : Int))) := by
  unfold xosw at h; split at h
  · rename_i v q; split at h
    · rename_i hv; split at h
      · rename_i hp; cases h; exact ⟨v, q, _, rfl, rfl, Or.inl ⟨hv, (Int.toNat_of_nonneg hp).symm⟩⟩
      · cases h
    · rename_i hv; split at h
      · rename_i off ho; split at h
        · rename_i hp; cases h; exact ⟨v, q, _, rfl, rfl, Or.inr ⟨fun z => hv (Or.inl z), fun z => hv (Or.inr z), off, ho, (Int.toNat_of_nonneg hp).symm⟩⟩
        · cases h
      · cases h
  · cases h
end XI
