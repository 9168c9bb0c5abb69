/-! FLOATING POINT: how big, how small, how fine the numbers of formulas are; their signs -/
def fmg (x : UInt64) : Nat := x.toNat % 2 ^ 63
/-- a number that code of the weight n makes -/
def FI (n : Nat) (x : UInt64) : Prop := fmg x < (1014 + 15 * n) * 2 ^ 52 ∧ (fmg x = 0 ∨ (1033 - 15 * n) * 2 ^ 52 ≤ fmg x) ∧ 2 ^ (1054 - 15 * n) ∣ FP.Core.zmag FP.Core.b64 (FP.Core.val64 x)
theorem FI_fin {n : Nat} {x : UInt64} (hn : n ≤ 60) (h : FI n x) : FP.Core.DFin x := FP.Core.fin_of_lt (K := 1014 + 15 * n) h.1 (by omega)
theorem FI_nn {n : Nat} {x : UInt64} (hn : n ≤ 60) (h : FI n x) : FP.dIsNaN x = false := (FI_fin hn h).notNaN
theorem FI_mono {n m : Nat} {x : UInt64} (h : FI n x) (hnm : n ≤ m) (hm : m ≤ 60) : FI m x := by
  obtain ⟨h1, h2, h3⟩ := h
  refine ⟨Nat.lt_of_lt_of_le h1 (Nat.mul_le_mul_right _ (by omega)), ?_, Nat.dvd_trans (Nat.pow_dvd_pow 2 (by omega)) h3⟩
  rcases h2 with h2 | h2
  · exact Or.inl h2
  · exact Or.inr (Nat.le_trans (Nat.mul_le_mul_right _ (by omega)) h2)
theorem dvd_units {m K : Nat} (hK : 1 ≤ K) (h : K * 2 ^ 52 ≤ m) : 2 ^ (K - 1) ∣ FP.Core.unitsOf FP.Core.b64 m := by
  unfold FP.Core.unitsOf
  rw [FP.Core.tails_b64]
  rw [if_neg (by omega)]
  refine Nat.dvd_trans (Nat.pow_dvd_pow 2 ?_) (Nat.dvd_mul_left _ _)
  have : K ≤ m / 2 ^ 52 := (Nat.le_div_iff_mul_le (by decide)).mpr h
  omega
theorem units_dvd {m G : Nat} (hG : 52 ≤ G) (hm : m ≠ 0) (h : 2 ^ G ∣ FP.Core.unitsOf FP.Core.b64 m) : (G - 51) * 2 ^ 52 ≤ m := by
  have h0 : FP.Core.unitsOf FP.Core.b64 m ≠ 0 := fun q => hm (FP.Core.unitsOf_eq_zero.mp q)
  have h1 := Nat.le_of_dvd (Nat.pos_of_ne_zero h0) h
  have h2 := FP.Core.unitsOf_start (f := FP.Core.b64) (K := G - 51) (by omega)
  rw [FP.Core.tails_b64, ← Nat.pow_add, show 52 + (G - 51 - 1) = G by omega] at h2
  rw [← h2] at h1
  exact FP.Core.unitsOf_le_iff.mp h1
theorem zm_bits {x : UInt64} (h : FP.Core.DFin x) : FP.Core.zmag FP.Core.b64 (FP.Core.val64 x) = FP.Core.unitsOf FP.Core.b64 (fmg x) := FP.Core.zmag_bits h.ne_nan
/-- what is fine enough in magnitude is so at all -/
theorem FI_of {n : Nat} {x : UInt64} (hn : n ≤ 60) (h1 : fmg x < (1014 + 15 * n) * 2 ^ 52) (h2 : fmg x = 0 ∨ (1055 - 15 * n) * 2 ^ 52 ≤ fmg x) : FI n x := by
  have hf : FP.Core.DFin x := FP.Core.fin_of_lt (K := 1014 + 15 * n) h1 (by omega)
  refine ⟨h1, ?_, ?_⟩
  · rcases h2 with h2 | h2
    · exact Or.inl h2
    · exact Or.inr (Nat.le_trans (Nat.mul_le_mul_right _ (by omega)) h2)
  · rw [zm_bits hf]
    rcases h2 with h2 | h2
    · rw [h2, FP.Core.unitsOf_zero]
      exact Nat.dvd_zero _
    · have := dvd_units (by omega) h2
      rw [show 1055 - 15 * n - 1 = 1054 - 15 * n by omega] at this
      exact this
theorem FI_l2d (v : Int64) : FI 8 (FP.l2d v) := by
  have h : (FP.l2d v).toNat % 2 ^ 63 < 1088 * 2 ^ 52 := FP.Core.l2d_mag v
  refine FI_of (by omega) (by unfold fmg; omega) ?_
  by_cases z : v = 0
  · subst z
    exact Or.inl (by decide +kernel)
  · have : 1023 * 2 ^ 52 ≤ (FP.l2d v).toNat % 2 ^ 63 := (FP.Core.l2d_big (FP.Core.int64_ne z)).1
    exact Or.inr (by unfold fmg; omega)
theorem FI_num {v : Int} (hv : 0 ≤ v ∧ v ≤ 999999) : FI (if v ≤ 9 then 1 else 2) (FP.i2d (iz v)) := by
  have ht : (iz v).toInt = v := iz_toInt (by omega) (by omega)
  by_cases z : v = 0
  · subst z
    rw [if_pos (by decide)]
    exact FI_of (by omega) (by decide +kernel) (Or.inl (by decide +kernel))
  · have hb : 1023 * 2 ^ 52 ≤ (FP.i2d (iz v)).toNat % 2 ^ 63 := (FP.Core.i2d_big (v := iz v) (by rw [ht]; exact z)).1
    by_cases y : v ≤ 9
    · rw [if_pos y]
      have : (FP.i2d (iz v)).toNat % 2 ^ 63 ≤ 1027 * 2 ^ 52 := FP.Core.fromInt_mag (i := (iz v).toInt) (FP.Core.toNat_i2d (iz v)) (j := 4) (K := 1027) (by rw [ht]; omega) (by omega) (by omega)
      have hw := FP.Core.i2d_int (iz v)
      refine ⟨by unfold fmg; omega, Or.inr (by unfold fmg; omega), ?_⟩
      have := FP.Core.DInt_zval hw
      rw [ht] at this
      have e := congrArg Int.natAbs this
      unfold FP.Core.zval at e
      rw [FP.Core.natAbs_signed] at e
      rw [e, Int.natAbs_mul, Int.natAbs_natCast]
      refine Nat.dvd_trans ?_ (Nat.dvd_mul_left _ _)
      unfold FP.Core.one64
      exact Nat.pow_dvd_pow 2 (by omega)
    · rw [if_neg y]
      have : (FP.i2d (iz v)).toNat % 2 ^ 63 ≤ 1043 * 2 ^ 52 := FP.Core.fromInt_mag (i := (iz v).toInt) (FP.Core.toNat_i2d (iz v)) (j := 20) (K := 1043) (by rw [ht]; omega) (by omega) (by omega)
      have hw := FP.Core.i2d_int (iz v)
      refine ⟨by unfold fmg; omega, Or.inr (by unfold fmg; omega), ?_⟩
      have := FP.Core.DInt_zval hw
      rw [ht] at this
      have e := congrArg Int.natAbs this
      unfold FP.Core.zval at e
      rw [FP.Core.natAbs_signed] at e
      rw [e, Int.natAbs_mul, Int.natAbs_natCast]
      refine Nat.dvd_trans ?_ (Nat.dvd_mul_left _ _)
      unfold FP.Core.one64
      exact Nat.pow_dvd_pow 2 (by omega)
theorem neg_mag {x : UInt64} (h : FP.Core.DFin x) : FP.Core.DFin (FP.dneg x) ∧ fmg (FP.dneg x) = fmg x ∧ FP.Core.zmag FP.Core.b64 (FP.Core.val64 (FP.dneg x)) = FP.Core.zmag FP.Core.b64 (FP.Core.val64 x) := by
  have hv := FP.val64_dneg x
  obtain ⟨s, c, q, e⟩ := h
  have hf : FP.Core.DFin (FP.dneg x) := ⟨!s, c, q, by rw [hv, e]; rfl⟩
  have hz : FP.Core.zmag FP.Core.b64 (FP.Core.val64 (FP.dneg x)) = FP.Core.zmag FP.Core.b64 (FP.Core.val64 x) := by
    rw [hv, e]
    rfl
  refine ⟨hf, ?_, hz⟩
  rw [zm_bits hf, zm_bits ⟨s, c, q, e⟩] at hz
  exact Nat.le_antisymm (FP.Core.unitsOf_le_iff.mp (Nat.le_of_eq hz)) (FP.Core.unitsOf_le_iff.mp (Nat.le_of_eq hz.symm))
theorem FI_neg {n : Nat} {x : UInt64} (hn : n ≤ 60) (h : FI n x) : FI n (FP.dneg x) := by
  obtain ⟨h1, h2, h3⟩ := neg_mag (FI_fin hn h)
  unfold FI
  rw [h2, h3]
  exact h
/-- rounding stays on a grid -/
theorem round_grid {s : Bool} {A G : Nat} {e : Int} (hA : A ≠ 0) (he : -1074 ≤ e) (hG : G ≤ 2000) (h : 2 ^ G ∣ FP.Core.inUnits A e (-1074)) : 2 ^ G ∣ FP.Core.zmag FP.Core.b64 (FP.Core.roundRatio FP.Core.b64 s A 1 e) := by
  unfold FP.Core.roundRatio
  rw [if_neg hA]
  have hQ := FP.Core.quantum_ge FP.Core.b64 A 1 e
  have hle := FP.Core.nearest_units_le (f := FP.Core.b64) (A := A) (B := 1) (by omega) (by decide) e
  rw [FP.Core.qmin_b64] at hQ
  obtain ⟨Q, hQe⟩ : ∃ Q, FP.Core.quantum FP.Core.b64 A 1 e = Q := ⟨_, rfl⟩
  rw [hQe] at hQ hle ⊢
  unfold FP.Core.roundAt
  have key : ∀ (c : Nat) (q : Int), -1074 ≤ q → 2 ^ G ∣ c * 2 ^ (q - -1074).toNat → 2 ^ G ∣ FP.Core.zmag FP.Core.b64 (FP.Core.bound FP.Core.b64 s c q) := by
    intro c q hq hd
    unfold FP.Core.bound
    split
    · show 2 ^ G ∣ FP.Core.inUnits c q FP.Core.b64.qmin
      rw [FP.Core.qmin_b64]
      exact hd
    · show 2 ^ G ∣ FP.Core.b64.tails * 2 ^ (FP.Core.b64.exps - 2)
      refine Nat.dvd_trans (Nat.pow_dvd_pow 2 ?_) (Nat.dvd_mul_left _ _)
      rw [show FP.Core.b64.exps = 2048 by decide]
      omega
  rcases Nat.lt_or_ge (Q - -1074).toNat G with hlt | hge
  · obtain ⟨M, hM⟩ : 2 ^ (Q - -1074).toNat ∣ FP.Core.inUnits A e (-1074) := Nat.dvd_trans (Nat.pow_dvd_pow 2 (Nat.le_of_lt hlt)) h
    have hex : FP.Core.unitsNum A e Q = M * FP.Core.unitsDen 1 e Q := by
      unfold FP.Core.inUnits at hM
      unfold FP.Core.unitsNum FP.Core.unitsDen
      rw [Nat.one_mul]
      rcases Int.lt_or_le e Q with z | z
      · rw [show (e - Q).toNat = 0 by omega, Nat.pow_zero, Nat.mul_one]
        refine Nat.eq_of_mul_eq_mul_right (Nat.two_pow_pos (e - -1074).toNat) ?_
        rw [hM, Nat.mul_assoc, ← Nat.pow_add, show (Q - e).toNat + (e - -1074).toNat = (Q - -1074).toNat by omega, Nat.mul_comm]
      · rw [show (Q - e).toNat = 0 by omega, Nat.pow_zero, Nat.mul_one]
        refine Nat.eq_of_mul_eq_mul_right (Nat.two_pow_pos (Q - -1074).toNat) ?_
        rw [Nat.mul_assoc, ← Nat.pow_add, show (e - Q).toNat + (Q - -1074).toNat = (e - -1074).toNat by omega, hM, Nat.mul_comm]
    have hnr : FP.Core.nearest (FP.Core.unitsNum A e Q) (FP.Core.unitsDen 1 e Q) = M := by
      rw [hex]
      exact FP.Core.nearest_exact M (FP.Core.unitsDen_pos (by decide) e Q)
    rw [hnr] at hle ⊢
    rw [hM, Nat.mul_comm] at h
    unfold FP.Core.settle
    split
    · exact key M Q hQ h
    · rename_i z
      have hp : FP.Core.b64.p = 53 := rfl
      have hM2 : M = 2 ^ 53 := by
        rw [hp] at z hle
        omega
      refine key _ _ (by omega) ?_
      rw [FP.Core.tails_b64, show (Q + 1 - -1074).toNat = (Q - -1074).toNat + 1 by omega]
      rw [hM2] at h
      have : 2 ^ 52 * 2 ^ ((Q - -1074).toNat + 1) = 2 ^ 53 * 2 ^ (Q - -1074).toNat := by
        rw [← Nat.pow_add, ← Nat.pow_add]
        congr 1
        omega
      rw [this]
      exact h
  · unfold FP.Core.settle
    split
    · exact key _ _ hQ (Nat.dvd_trans (Nat.pow_dvd_pow 2 hge) (Nat.dvd_mul_left _ _))
    · exact key _ _ (by omega) (Nat.dvd_trans (Nat.pow_dvd_pow 2 (by omega)) (Nat.dvd_mul_left _ _))
/-- a sum of two finite numbers, its parts -/
theorem sum_FI {n nx ny : Nat} {x y : FP.Core.Datum} {z : UInt64} (hn : n ≤ 60) (h1 : nx + 2 ≤ n) (h2 : ny + 2 ≤ n) (hx : ∃ s c q, x = .fin s c q) (hy : ∃ s c q, y = .fin s c q) (fx : FP.Core.fits FP.Core.b64 x) (fy : FP.Core.fits FP.Core.b64 y) (gx : 2 ^ (1054 - 15 * nx) ∣ FP.Core.zmag FP.Core.b64 x) (gy : 2 ^ (1054 - 15 * ny) ∣ FP.Core.zmag FP.Core.b64 y) (hz : FP.Core.val64 z = FP.Core.round FP.Core.b64 (FP.Core.exactSum x y)) (hu : fmg z < (1014 + 15 * n) * 2 ^ 52) : FI n z := by
  obtain ⟨s, c, q, rfl⟩ := hx
  obtain ⟨t, d, r, rfl⟩ := hy
  obtain ⟨sg, v, e, p1, p2, p3⟩ := FP.Core.sum_units fx fy
  rw [p1] at hz
  rw [FP.Core.qmin_b64] at p2 p3
  have hf : FP.Core.DFin z := FP.Core.fin_of_lt (K := 1014 + 15 * n) hu (by omega)
  have hg : 2 ^ (1084 - 15 * n) ∣ FP.Core.zmag FP.Core.b64 (FP.Core.val64 z) := by
    rw [hz]
    show 2 ^ (1084 - 15 * n) ∣ FP.Core.zmag FP.Core.b64 (FP.Core.roundRatio FP.Core.b64 sg v 1 e)
    by_cases hv : v = 0
    · subst hv
      show 2 ^ (1084 - 15 * n) ∣ 0 * _
      rw [Nat.zero_mul]
      exact Nat.dvd_zero _
    · refine round_grid hv p2 (by omega) ?_
      have e1 := congrArg Int.natAbs p3
      rw [FP.Core.natAbs_signed] at e1
      rw [e1]
      have d1 : ((2 ^ (1084 - 15 * n) : Nat) : Int) ∣ FP.Core.zval FP.Core.b64 (.fin s c q) := by
        rw [Int.ofNat_dvd_left]
        unfold FP.Core.zval
        rw [FP.Core.natAbs_signed]
        exact Nat.dvd_trans (Nat.pow_dvd_pow 2 (by omega)) gx
      have d2 : ((2 ^ (1084 - 15 * n) : Nat) : Int) ∣ FP.Core.zval FP.Core.b64 (.fin t d r) := by
        rw [Int.ofNat_dvd_left]
        unfold FP.Core.zval
        rw [FP.Core.natAbs_signed]
        exact Nat.dvd_trans (Nat.pow_dvd_pow 2 (by omega)) gy
      exact Int.ofNat_dvd_left.mp (Int.dvd_add d1 d2)
  refine ⟨hu, ?_, Nat.dvd_trans (Nat.pow_dvd_pow 2 (by omega)) hg⟩
  by_cases h0 : fmg z = 0
  · exact Or.inl h0
  · right
    rw [zm_bits hf] at hg
    have := units_dvd (by omega) h0 hg
    rw [show 1084 - 15 * n - 51 = 1033 - 15 * n by omega] at this
    exact this
theorem FI_add {n nx ny : Nat} {x y : UInt64} (hn : n ≤ 60) (h1 : nx + 2 ≤ n) (h2 : ny + 2 ≤ n) (hx : FI nx x) (hy : FI ny y) : FI n (FP.dadd x y) := by
  have fx := FI_fin (by omega) hx
  have fy := FI_fin (by omega) hy
  have hm := FP.Core.dadd_mag (a := x) (b := y) (K := 1012 + 15 * n) (Nat.lt_of_lt_of_le hx.1 (Nat.mul_le_mul_right _ (by omega))) (Nat.lt_of_lt_of_le hy.1 (Nat.mul_le_mul_right _ (by omega))) (by omega)
  exact sum_FI hn h1 h2 fx fy (FP.Core.val64_fits x) (FP.Core.val64_fits y) hx.2.2 hy.2.2 (FP.Core.val64_dadd x y) (Nat.lt_of_lt_of_le hm (Nat.mul_le_mul_right _ (by omega)))
theorem FI_sub {n nx ny : Nat} {x y : UInt64} (hn : n ≤ 60) (h1 : nx + 2 ≤ n) (h2 : ny + 2 ≤ n) (hx : FI nx x) (hy : FI ny y) : FI n (FP.dsub x y) := by
  have fx := FI_fin (by omega) hx
  have fy := FI_fin (by omega) hy
  have hm := FP.Core.dsub_mag (a := x) (b := y) (K := 1012 + 15 * n) (Nat.lt_of_lt_of_le hx.1 (Nat.mul_le_mul_right _ (by omega))) (Nat.lt_of_lt_of_le hy.1 (Nat.mul_le_mul_right _ (by omega))) (by omega)
  have hz : FP.Core.zmag FP.Core.b64 (FP.Core.negate (FP.Core.val64 y)) = FP.Core.zmag FP.Core.b64 (FP.Core.val64 y) := by cases FP.Core.val64 y <;> rfl
  exact sum_FI hn h1 h2 fx (by obtain ⟨s, c, q, e⟩ := fy; exact ⟨!s, c, q, by rw [e]; rfl⟩) (FP.Core.val64_fits x) (FP.Core.negate_fits (FP.Core.val64_fits y)) hx.2.2 (by rw [hz]; exact hy.2.2) (FP.Core.val64_dsub x y) (Nat.lt_of_lt_of_le hm (Nat.mul_le_mul_right _ (by omega)))
theorem fmg_zero {x : UInt64} : FP.Core.DZero x ↔ fmg x = 0 := FP.Core.zero_bits2 x
/-- a product's least magnitude -/
theorem mul_low {x y : UInt64} {La Lb : Nat} (fx : FP.Core.DFin x) (fy : FP.Core.DFin y) (ha : La * 2 ^ 52 ≤ fmg x) (hb : Lb * 2 ^ 52 ≤ fmg y) (hL : 1 ≤ La) (hL2 : 1 ≤ Lb) (hK : 1024 ≤ La + Lb) (hK2 : La + Lb ≤ 3070) : (La + Lb - 1023) * 2 ^ 52 ≤ fmg (FP.dmul x y) := by
  have zx := zm_bits fx
  have zy := zm_bits fy
  obtain ⟨s, c, q, e1⟩ := fx
  obtain ⟨t, d, r, e2⟩ := fy
  have f1 := FP.Core.val64_fits x
  have f2 := FP.Core.val64_fits y
  rw [e1] at zx f1
  rw [e2] at zy f2
  obtain ⟨p1, p2, p3⟩ := FP.Core.product_units f1 f2
  have hd : FP.Core.decode FP.Core.b64 (FP.dmul x y).toNat = FP.Core.roundRatio FP.Core.b64 (s != t) (c * d) 1 (q + r) := by
    show FP.Core.val64 (FP.Core.dmul x y) = _
    rw [FP.Core.val64_dmul, e1, e2, p1]
    rfl
  have l1 : 2 ^ 52 * 2 ^ (La - 1) ≤ FP.Core.unitsOf FP.Core.b64 (fmg x) := by
    have := FP.Core.unitsOf_start (f := FP.Core.b64) hL
    rw [FP.Core.tails_b64] at this
    rw [← this]
    exact FP.Core.unitsOf_le_iff.mpr ha
  have l2 : 2 ^ 52 * 2 ^ (Lb - 1) ≤ FP.Core.unitsOf FP.Core.b64 (fmg y) := by
    have := FP.Core.unitsOf_start (f := FP.Core.b64) hL2
    rw [FP.Core.tails_b64] at this
    rw [← this]
    exact FP.Core.unitsOf_le_iff.mpr hb
  have := FP.Core.mag_ge FP.Core.good_b64 hd (by decide) (e0 := 2 * FP.Core.b64.qmin) (by decide) p2 (m := (La + Lb - 1023) * 2 ^ 52) (by rw [FP.Core.infBits_b64]; exact Nat.le_trans (Nat.mul_le_mul_right _ (show La + Lb - 1023 ≤ 2047 by omega)) (by decide)) (by
    have hs := FP.Core.unitsOf_start (f := FP.Core.b64) (K := La + Lb - 1023) (by omega)
    rw [FP.Core.tails_b64] at hs
    rw [p3, zx, zy, hs, Nat.mul_one]
    refine Nat.le_trans (Nat.le_of_eq ?_) (Nat.mul_le_mul l1 l2)
    rw [show (FP.Core.b64.qmin - 2 * FP.Core.b64.qmin).toNat = 1074 by decide, ← Nat.pow_add, ← Nat.pow_add, ← Nat.pow_add, ← Nat.pow_add, ← Nat.pow_add]
    refine congrArg (fun k => 2 ^ k) ?_
    omega)
  rw [FP.Core.mag_toNat64] at this
  exact this
theorem FI_mul {n nx ny : Nat} {x y : UInt64} (hn : n ≤ 60) (h : nx + ny + 1 ≤ n) (h1 : 1 ≤ nx) (h2 : 1 ≤ ny) (hx : FI nx x) (hy : FI ny y) : FI n (FP.dmul x y) := by
  have fx := FI_fin (by omega) hx
  have fy := FI_fin (by omega) hy
  have hm := FP.Core.dmul_mag (a := x) (b := y) hx.1 hy.1 (by omega) (by omega)
  refine FI_of hn (Nat.lt_of_lt_of_le hm (Nat.mul_le_mul_right _ (by omega))) ?_
  rcases hx.2.1 with zx | zx
  · exact Or.inl (fmg_zero.mp (FP.Core.dzero_mul fy (fmg_zero.mpr zx)))
  · rcases hy.2.1 with zy | zy
    · exact Or.inl (fmg_zero.mp (FP.Core.dmul_zero fx (fmg_zero.mpr zy)))
    · have := mul_low fx fy zx zy (by omega) (by omega) (by omega) (by omega)
      exact Or.inr (Nat.le_trans (Nat.mul_le_mul_right _ (by omega)) this)
/-- a quotient's least magnitude -/
theorem div_low {x y : UInt64} {La Ub : Nat} (fx : FP.Core.DFin x) (fy : FP.Core.DFin y) (ha : La * 2 ^ 52 ≤ fmg x) (hb : fmg y < Ub * 2 ^ 52) (hb0 : fmg y ≠ 0) (hL : 1 ≤ La) (hK : Ub ≤ La + 1022) (hK2 : La ≤ 2046) (hU : Ub ≤ 2047) (hU2 : 1023 ≤ Ub) : (La + 1023 - Ub) * 2 ^ 52 ≤ fmg (FP.ddiv x y) := by
  have zx := zm_bits fx
  have zy := zm_bits fy
  have hz0 : FP.Core.unitsOf FP.Core.b64 (fmg y) ≠ 0 := fun q => hb0 (FP.Core.unitsOf_eq_zero.mp q)
  obtain ⟨s, c, q, e1⟩ := fx
  obtain ⟨t, d, r, e2⟩ := fy
  have f1 := FP.Core.val64_fits x
  have f2 := FP.Core.val64_fits y
  rw [e1] at zx f1
  rw [e2] at zy f2
  have hx1 := f1.2.1
  have hy1 := f2.2.1
  have hqm := FP.Core.qmin_b64
  have hd0 : d ≠ 0 := by
    rintro rfl
    apply hz0
    rw [← zy]
    exact Nat.zero_mul _
  have hd : FP.Core.decode FP.Core.b64 (FP.ddiv x y).toNat = FP.Core.roundRatio FP.Core.b64 (s != t) c d (q - r) := by
    show FP.Core.val64 (FP.Core.ddiv x y) = _
    rw [FP.Core.val64_ddiv, e1, e2]
    simp only [FP.Core.quotient]
    rw [if_neg hd0]
  have l1 : 2 ^ 52 * 2 ^ (La - 1) ≤ FP.Core.unitsOf FP.Core.b64 (fmg x) := by
    have := FP.Core.unitsOf_start (f := FP.Core.b64) hL
    rw [FP.Core.tails_b64] at this
    rw [← this]
    exact FP.Core.unitsOf_le_iff.mpr ha
  have l2 : FP.Core.unitsOf FP.Core.b64 (fmg y) ≤ 2 ^ 52 * 2 ^ (Ub - 1) := by
    have := (FP.Core.units_lt_start (f := FP.Core.b64) (by rw [FP.Core.tails_b64]; exact hb)).2
    rw [FP.Core.tails_b64] at this
    exact Nat.le_of_lt this
  have := FP.Core.mag_ge FP.Core.good_b64 hd (by omega) (e0 := 2 * FP.Core.b64.qmin - r) (by omega) (by omega) (m := (La + 1023 - Ub) * 2 ^ 52) (by rw [FP.Core.infBits_b64]; exact Nat.le_trans (Nat.mul_le_mul_right _ (show La + 1023 - Ub ≤ 2047 by omega)) (by decide)) (by
    have hs := FP.Core.unitsOf_start (f := FP.Core.b64) (K := La + 1023 - Ub) (by omega)
    rw [FP.Core.tails_b64] at hs
    have g1 : FP.Core.inUnits c (q - r) (2 * FP.Core.b64.qmin - r) = FP.Core.zmag FP.Core.b64 (.fin s c q) * 2 ^ 1074 := by
      rw [FP.Core.qmin_b64] at *
      show c * 2 ^ (q - r - (2 * -1074 - r)).toNat = c * 2 ^ (q - FP.Core.b64.qmin).toNat * 2 ^ 1074
      rw [FP.Core.qmin_b64, Nat.mul_assoc, ← Nat.pow_add]
      congr 2
      omega
    have g2 : 2 ^ (FP.Core.b64.qmin - (2 * FP.Core.b64.qmin - r)).toNat * d = FP.Core.zmag FP.Core.b64 (.fin t d r) := by
      show _ = d * 2 ^ (r - FP.Core.b64.qmin).toNat
      rw [Nat.mul_comm]
      congr 2
      omega
    rw [g1, hs, Nat.mul_assoc, g2, zx, zy]
    refine Nat.le_trans (Nat.mul_le_mul_left _ l2) (Nat.le_trans (Nat.le_of_eq ?_) (Nat.mul_le_mul_right _ l1))
    rw [← Nat.pow_add, ← Nat.pow_add, ← Nat.pow_add, ← Nat.pow_add, ← Nat.pow_add]
    refine congrArg (fun k => 2 ^ k) ?_
    omega)
  rw [FP.Core.mag_toNat64] at this
  exact this
theorem div_zero {x y : UInt64} (fy : FP.Core.DFin y) (h0 : fmg x = 0) (hb0 : fmg y ≠ 0) : fmg (FP.ddiv x y) = 0 := by
  obtain ⟨s, q, e1⟩ := fmg_zero.mpr h0
  have zy := zm_bits fy
  have hz0 : FP.Core.unitsOf FP.Core.b64 (fmg y) ≠ 0 := fun q => hb0 (FP.Core.unitsOf_eq_zero.mp q)
  obtain ⟨t, d, r, e2⟩ := fy
  rw [e2] at zy
  have hd0 : d ≠ 0 := by
    rintro rfl
    apply hz0
    rw [← zy]
    exact Nat.zero_mul _
  refine fmg_zero.mp ⟨s != t, FP.Core.b64.qmin, ?_⟩
  show FP.Core.val64 (FP.Core.ddiv x y) = _
  rw [FP.Core.val64_ddiv, e1, e2]
  simp only [FP.Core.quotient]
  rw [if_neg hd0]
  rfl
theorem FI_div' {n : Nat} {x y : UInt64} {Ux Lx Uy Ly : Nat} (hn : n ≤ 60) (hx1 : fmg x < Ux * 2 ^ 52) (hx2 : fmg x = 0 ∨ Lx * 2 ^ 52 ≤ fmg x) (hy1 : fmg y < Uy * 2 ^ 52) (hy2 : Ly * 2 ^ 52 ≤ fmg y) (h0 : Ux ≤ 2047 ∧ Uy ≤ 2047 ∧ 1 ≤ Lx ∧ 1 ≤ Ly ∧ Lx ≤ 2046 ∧ 1023 ≤ Uy) (hu : Ux + 1024 ≤ 1014 + 15 * n + Ly) (hl : 1055 + Uy ≤ Lx + 1023 + 15 * n) (hl2 : Uy ≤ Lx + 1022) (hLy : Ly ≤ Ux + 1021) : FI n (FP.ddiv x y) := by
  have fx : FP.Core.DFin x := FP.Core.fin_of_lt hx1 h0.1
  have fy : FP.Core.DFin y := FP.Core.fin_of_lt hy1 h0.2.1
  have hm := FP.Core.ddiv_mag (a := x) (b := y) hx1 hy2 (Nat.lt_of_lt_of_le hy1 (Nat.mul_le_mul_right _ h0.2.1)) h0.1 (by omega)
  have hy0 : fmg y ≠ 0 := by
    have := Nat.mul_le_mul_right (2 ^ 52) h0.2.2.2.1
    omega
  refine FI_of hn (Nat.lt_of_lt_of_le hm (Nat.mul_le_mul_right _ (by omega))) ?_
  rcases hx2 with zx | zx
  · exact Or.inl (div_zero fy zx hy0)
  · have := div_low fx fy zx hy1 hy0 (by omega) (by omega) (by omega) (by omega) (by omega)
    exact Or.inr (Nat.le_trans (Nat.mul_le_mul_right _ (by omega)) this)
theorem FI_div {n nx ny : Nat} {x y : UInt64} (hn : n ≤ 60) (h : nx + ny + 1 ≤ n) (h1 : 1 ≤ nx) (h2 : 1 ≤ ny) (hx : FI nx x) (hy : FI ny y) (hy0 : fmg y ≠ 0) : FI n (FP.ddiv x y) :=
  FI_div' hn hx.1 hx.2.1 hy.1 (hy.2.1.resolve_left hy0) (by omega) (by omega) (by omega) (by omega) (by omega)
/-- a quotient of two longs -/
theorem FI_ll {a b : Int64} (hb : b ≠ 0) : FI 8 (FP.ddiv (FP.l2d a) (FP.l2d b)) := by
  have h1 := FP.Core.l2d_mag a
  have h2 := FP.Core.l2d_mag b
  have h3 := FP.Core.l2d_big (FP.Core.int64_ne hb)
  refine FI_div' (Ux := 1088) (Lx := 1023) (Uy := 1088) (Ly := 1023) (by omega) h1 ?_ h2 h3.1 (by omega) (by omega) (by omega) (by omega) (by omega)
  by_cases z : a = 0
  · subst z
    exact Or.inl (by decide +kernel)
  · exact Or.inr (FP.Core.l2d_big (FP.Core.int64_ne z)).1
/-! signs -/
def fsg (x : UInt64) : Bool := decide (2 ^ 63 ≤ x.toNat)
theorem fsg_fin {x : UInt64} {s : Bool} {c : Nat} {q : Int} (h : FP.Core.val64 x = .fin s c q) : fsg x = s := by
  have := FP.Core.sgn_bits (a := x) (by rw [h]; exact FP.Core.Datum.noConfusion)
  rw [h] at this
  exact this.symm
/-- how a number stands against 0 -/
def c0 (x : UInt64) : Int := if fmg x = 0 then 0 else if fsg x = true then -1 else 1
theorem cmp0 {x : UInt64} (h : FP.dIsNaN x = false) (op : ClassFile.CmpOp) : Op.cmpValue (FP.dcmp x 0) op = iz (c0 x) := by
  have hn := (FP.Core.notNaN_iff x).mp h
  have hn0 : FP.Core.val64 0 ≠ .nan := by rw [FP.Core.val64_zero]; exact FP.Core.Datum.noConfusion
  have hk0 : FP.Core.dkey 0 = 0 := by decide
  have hk : FP.Core.dkey x = if 2 ^ 63 ≤ x.toNat then ((2 ^ 63 : Nat) : Int) - (x.toNat : Int) else (x.toNat : Int) := rfl
  have hlt := x.toNat_lt
  unfold c0 fsg fmg
  by_cases z : x.toNat % 2 ^ 63 = 0
  · rw [if_pos z]
    rw [show FP.dcmp x 0 = some .eq from (FP.Core.dcmp_eq_key hn hn0).mpr (by rw [hk0, hk]; split <;> omega)]
    cases op <;> decide
  · rw [if_neg z]
    by_cases y : 2 ^ 63 ≤ x.toNat
    · rw [if_pos (decide_eq_true y)]
      rw [show FP.dcmp x 0 = some .lt from (FP.Core.dcmp_lt_key hn hn0).mpr (by rw [hk0, hk, if_pos y]; omega)]
      cases op <;> decide
    · rw [if_neg (by rw [decide_eq_true_eq]; exact y)]
      rw [show FP.dcmp x 0 = some .gt from (FP.Core.dcmp_gt_key hn hn0).mpr (by rw [hk0, hk, if_neg y]; omega)]
      cases op <;> decide
theorem fsg_neg {x : UInt64} (h : FP.Core.DFin x) : fsg (FP.dneg x) = !fsg x := by
  obtain ⟨s, c, q, e⟩ := h
  rw [fsg_fin e]
  exact fsg_fin (by rw [FP.val64_dneg, e]; rfl)
theorem fsg_round {x : UInt64} {s : Bool} {A B : Nat} {e : Int} (h : FP.Core.val64 x = FP.Core.roundRatio FP.Core.b64 s A B e) : fsg x = s := by
  have h1 := FP.Core.sgn_bits (a := x) (by rw [h]; exact FP.Core.roundRatio_ne_nan _ _ _ _ _)
  rw [h, FP.Core.sgn_roundRatio] at h1
  exact h1.symm
theorem fsg_mul {x y : UInt64} (hx : FP.Core.DFin x) (hy : FP.Core.DFin y) : fsg (FP.dmul x y) = (fsg x != fsg y) := by
  obtain ⟨s, c, q, e1⟩ := hx
  obtain ⟨t, d, r, e2⟩ := hy
  rw [fsg_fin e1, fsg_fin e2]
  refine fsg_round (A := c * d) (B := 1) (e := q + r) ?_
  show FP.Core.val64 (FP.Core.dmul x y) = _
  rw [FP.Core.val64_dmul, e1, e2]
  rfl
theorem fsg_div {x y : UInt64} (hx : FP.Core.DFin x) (hy : FP.Core.DFin y) (hy0 : fmg y ≠ 0) : fsg (FP.ddiv x y) = (fsg x != fsg y) := by
  have zy := zm_bits hy
  have hz0 : FP.Core.unitsOf FP.Core.b64 (fmg y) ≠ 0 := fun q => hy0 (FP.Core.unitsOf_eq_zero.mp q)
  obtain ⟨s, c, q, e1⟩ := hx
  obtain ⟨t, d, r, e2⟩ := hy
  rw [fsg_fin e1, fsg_fin e2]
  rw [e2] at zy
  have hd0 : d ≠ 0 := by
    rintro rfl
    apply hz0
    rw [← zy]
    exact Nat.zero_mul _
  refine fsg_round (A := c) (B := d) (e := q - r) ?_
  show FP.Core.val64 (FP.Core.ddiv x y) = _
  rw [FP.Core.val64_ddiv, e1, e2]
  simp only [FP.Core.quotient]
  rw [if_neg hd0]
theorem fsg_sum {x y : FP.Core.Datum} {z : UInt64} {s t : Bool} {c d : Nat} {q r : Int} (fx : FP.Core.fits FP.Core.b64 x) (fy : FP.Core.fits FP.Core.b64 y) (hx : x = .fin s c q) (hy : y = .fin t d r) (hz : FP.Core.val64 z = FP.Core.round FP.Core.b64 (FP.Core.exactSum x y)) (h0 : fmg z = 0) : fsg z = (s && t) := by
  subst hx
  subst hy
  obtain ⟨sg, v, e, p1, p2, p3⟩ := FP.Core.sum_units fx fy
  rw [p1] at hz
  have hz' : FP.Core.val64 z = FP.Core.roundRatio FP.Core.b64 sg v 1 e := hz
  have hv : v = 0 := by
    by_cases y : v = 0
    · exact y
    · have := FP.Core.mag_ge FP.Core.good_b64 (n := z.toNat) hz' (by decide) (e0 := FP.Core.b64.qmin) (by omega) p2 (m := 1) (by decide) (by
        rw [show FP.Core.unitsOf FP.Core.b64 1 = 1 by decide, Int.sub_self, Int.toNat_zero, Nat.pow_zero]
        show 1 * 1 * 1 ≤ v * 2 ^ (e - FP.Core.b64.qmin).toNat
        have := Nat.mul_le_mul (show 1 ≤ v by omega) (Nat.two_pow_pos (e - FP.Core.b64.qmin).toNat)
        omega)
      rw [FP.Core.mag_toNat64] at this
      unfold fmg at h0
      omega
  rw [fsg_round hz']
  have p1' : FP.Core.Datum.fin (FP.Core.sumSign s t (FP.Core.sumUnits s c q t d r (min q r))) (FP.Core.sumUnits s c q t d r (min q r)).natAbs (min q r) = .fin sg v e := p1
  injection p1' with i1 i2 i3
  rw [← i1]
  unfold FP.Core.sumSign
  rw [if_pos (by omega)]
theorem fsg_add {x y : UInt64} (hx : FP.Core.DFin x) (hy : FP.Core.DFin y) (h0 : fmg (FP.dadd x y) = 0) : fsg (FP.dadd x y) = (fsg x && fsg y) := by
  have f1 := FP.Core.val64_fits x
  have f2 := FP.Core.val64_fits y
  obtain ⟨s, c, q, e1⟩ := hx
  obtain ⟨t, d, r, e2⟩ := hy
  rw [fsg_fin e1, fsg_fin e2]
  exact fsg_sum f1 f2 e1 e2 (FP.Core.val64_dadd x y) h0
theorem fsg_sub {x y : UInt64} (hx : FP.Core.DFin x) (hy : FP.Core.DFin y) (h0 : fmg (FP.dsub x y) = 0) : fsg (FP.dsub x y) = (fsg x && !fsg y) := by
  have f1 := FP.Core.val64_fits x
  have f2 := FP.Core.val64_fits y
  obtain ⟨s, c, q, e1⟩ := hx
  obtain ⟨t, d, r, e2⟩ := hy
  rw [fsg_fin e1, fsg_fin e2]
  exact fsg_sum f1 (FP.Core.negate_fits f2) e1 (by rw [e2]; rfl) (FP.Core.val64_dsub x y) h0
/-- what comes of longs is no -0 -/
theorem fsg_l2d (a : Int64) : (fmg (FP.l2d a) = 0 → fsg (FP.l2d a) = false) ∧ fsg (FP.l2d a) = decide (a.toInt < 0) := by
  obtain ⟨c, q, e⟩ := FP.Core.l2d_shape a
  have hs := fsg_fin e
  refine ⟨fun h => ?_, hs⟩
  by_cases z : a = 0
  · subst z
    decide +kernel
  · exact absurd h (FP.Core.l2d_ne_zero z)
