/-! lemmas for runs as equations -/
def bz (p : Prop) [Decidable p] : Int := if p then 1 else 0
theorem bz_t {p : Prop} [Decidable p] (h : p) : bz p = 1 := if_pos h
theorem bz_f {p : Prop} [Decidable p] (h : ¬ p) : bz p = 0 := if_neg h
theorem bz_or {p : Prop} [Decidable p] : bz p = 0 ∨ bz p = 1 := by
  unfold bz
  by_cases h : p <;> simp [h]
theorem iz_10 : (iz 1 = iz 0) = False := by
  rw [iz_eq (by omega) (by omega) (by omega) (by omega)]
  decide
theorem iz_01 : (iz 0 = iz 1) = False := by
  rw [iz_eq (by omega) (by omega) (by omega) (by omega)]
  decide
theorem iz_bz0 {p : Prop} [Decidable p] : (iz (bz p) = iz 0) = ¬ p := by
  by_cases h : p
  · rw [bz_t h, iz_10]
    simp [h]
  · rw [bz_f h]
    simp [h]
theorem iz_bz0n {p : Prop} [Decidable p] : (¬ iz (bz p) = iz 0) = p := by
  rw [iz_bz0]
  exact propext Decidable.not_not
theorem iz_bz1 {p : Prop} [Decidable p] : (iz (bz p) = iz 1) = p := by
  by_cases h : p
  · rw [bz_t h]
    simp [h]
  · rw [bz_f h, iz_01]
    simp [h]
theorem rt2_bz {p : Prop} [Decidable p] : am_rt 2 (iz (bz p)) = True := by
  rw [am_rt_2, iz_lit, iz_lit, iz_bz0, iz_bz1]
  by_cases h : p <;> simp [h]
theorem ok1_bz {p : Prop} [Decidable p] : am_okv 1 (.int (iz (bz p))) = True := by
  rw [am_ok_1, iz_lit, iz_lit, iz_bz0, iz_bz1]
  by_cases h : p <;> simp [h]
theorem bz_o : bz True = 1 := Eq.trans rfl rfl
theorem bz_n : bz False = 0 := Eq.trans rfl rfl
theorem zup3 {F : Nat → Int} {j k : Nat} {a b c : Int} (h : j ≠ k) : zup (zup (zup F k a) j b) k c = zup (zup F k c) j b := by
  funext i
  unfold zup
  by_cases q : i = k
  · subst q
    simp [Ne.symm h]
  · simp [q]
theorem am_kq {CT : am_CT} {dfs : Nat → List Value} {BT : Nat → am_N} {B : am_C} {rt : Nat} {K : am_K} {is : List am_AI} {ls r : List Value} {h : am_H} {n : Nat} {c : am_C} {v : Option Value} : am_kont CT dfs BT B rt K is ls r c v h n = am_ex CT dfs BT B rt K is ls (am_psh v r) h n c := propext Iff.rfl
theorem iz_or {a b : Int} (ha : 0 ≤ a ∧ a ≤ 1) (hb : 0 ≤ b ∧ b ≤ 1) : iz a ||| iz b = iz (if a = 1 then 1 else b) := by
  rcases (show a = 0 ∨ a = 1 by omega) with rfl | rfl <;> rcases (show b = 0 ∨ b = 1 by omega) with rfl | rfl <;> decide
/-- n entries from a on -/
def rfil (R : Nat → Int) (a n : Nat) (f : Nat → Int) : Nat → Int := fun j => if a ≤ j ∧ j < a + n then f (j - a) else R j
theorem rfil_0 (R : Nat → Int) (a : Nat) (f : Nat → Int) : rfil R a 0 f = R := by
  funext j
  exact if_neg (by omega)
theorem rfil_s (R : Nat → Int) (a n : Nat) (f : Nat → Int) : zup (rfil R a n f) (a + n) (f n) = rfil R a (n + 1) f := by
  funext j
  unfold zup rfil
  by_cases q : j = a + n
  · subst q
    rw [if_pos rfl, if_pos (by omega), Nat.add_sub_cancel_left]
  · rw [if_neg q]
    by_cases z : a ≤ j ∧ j < a + n
    · rw [if_pos z, if_pos (by omega)]
    · rw [if_neg z, if_neg (by omega)]
theorem rfil_in {R : Nat → Int} {a n j : Nat} {f : Nat → Int} (h : a ≤ j) (h2 : j < a + n) : rfil R a n f j = f (j - a) := if_pos ⟨h, h2⟩
theorem rfil_out {R : Nat → Int} {a n j : Nat} {f : Nat → Int} (h : j < a ∨ a + n ≤ j) : rfil R a n f j = R j := if_neg (by omega)
theorem im_t {p q : Prop} (h : p) : (p → q) = q := propext ⟨fun z => z h, fun z _ => z⟩
theorem im_f {p q : Prop} (h : ¬ p) : (p → q) = True := propext ⟨fun _ => trivial, fun _ z => absurd z h⟩
theorem le64_1 (s : Nat) : (64 ≤ 5016 + s) = True := eq_true (by omega)
theorem le64_2 (s : Nat) : (64 ≤ 5025 + s) = True := eq_true (by omega)
theorem le64_3 (s : Nat) : (64 ≤ 5049 + s) = True := eq_true (by omega)
theorem le64_4 (s : Nat) : (64 ≤ 5006 + s) = True := eq_true (by omega)
theorem le64_5 (s : Nat) : (64 ≤ 5006 + s + 1) = True := eq_true (by omega)
theorem le64_6 (s : Nat) : (64 ≤ 82 + s) = True := eq_true (by omega)
/-- the measures put together, as the reference does it -/
def jn (F : Nat → Int) (c rs g ch cv le gr su fi la : Int) : Nat → Int :=
  zup (zup (zup (zup (zup (zup (zup (zup (zup (zup F 5 (if lz (F 0) = lz 0 ∨ lz le < lz (F 5) then le else F 5)) 6 (if lz (F 0) = lz 0 ∨ lz (F 6) < lz gr then gr else F 6)) 8 (if lz (F 0) = lz 0 then fi else F 8)) 9 la) 0 (F 0 + c)) 1 (F 1 + rs)) 2 (F 2 + g)) 3 (F 3 + ch)) 4 (F 4 + cv)) 7 (F 7 + su)
/-- the sample i of a row put behind -/
def jnS (F R : Nat → Int) (i : Nat) : Nat → Int := jn F 1 (bz (R (19 + i * 19 + 2) = 2)) (bz (R (19 + i * 19 + 2) = 3)) (R (19 + i * 19 + 3)) (R (19 + i * 19 + 4)) (R (19 + i * 19 + 1)) (R (19 + i * 19 + 1)) (R (19 + i * 19 + 1)) (R (19 + i * 19 + 1)) (R (19 + i * 19 + 1))
/-- the rollup at p of a row put behind -/
def jnR (F R : Nat → Int) (p : Nat) : Nat → Int := jn F (R p) (R (p + 1)) (R (p + 2)) (R (p + 3)) (R (p + 4)) (R (p + 5)) (R (p + 6)) (R (p + 7)) (R (p + 8)) (R (p + 9))
/-- the samples of a row in a window put together, the first n of them looked at -/
def mwin (R : Nat → Int) (a b : Int) (F : Nat → Int) : Nat → Nat → Int
  | 0 => F
  | i + 1 => if a < R (19 + i * 19) ∧ R (19 + i * 19) ≤ b then jnS (mwin R a b F i) R i else mwin R a b F i
def mrol (R : Nat → Int) (r : Nat) (w a b : Int) (F : Nat → Int) : Nat → Nat → Int
  | 0 => F
  | i + 1 => if a ≤ R (1235 + (r * 40 + i) * 11 + 10) * w ∧ R (1235 + (r * 40 + i) * 11 + 10) * w + w ≤ b then jnR (mrol R r w a b F i) R (1235 + (r * 40 + i) * 11) else mrol R r w a b F i
/-- a measure, as far as it exists -/
def msr (F : Nat → Int) (what : Nat) : Int := if (what = 5 ∨ what = 6 ∨ what = 8 ∨ what = 9) ∧ lz (F 0) = lz 0 then -9223372036854775808 else F what
theorem rt2_r {b : Int} (h : 0 ≤ b ∧ b ≤ 1) : am_rt 2 (iz b) = True := by
  rw [am_rt_2]
  rcases (show b = 0 ∨ b = 1 by omega) with rfl | rfl
  · exact eq_true (Or.inl rfl)
  · exact eq_true (Or.inr rfl)
theorem ok1_r {b : Int} (h : 0 ≤ b ∧ b ≤ 1) : am_okv 1 (.int (iz b)) = True := by
  rw [am_ok_1]
  rcases (show b = 0 ∨ b = 1 by omega) with rfl | rfl
  · exact eq_true (Or.inl rfl)
  · exact eq_true (Or.inr rfl)
theorem em_n {p : Prop} : (¬ p ∨ p) = True := eq_true ((Classical.em p).symm)
theorem zs_b {b : Int} (h : 0 ≤ b ∧ b ≤ 1) : (iz b = iz 0 ∨ iz b = iz 1) = True := by
  rcases (show b = 0 ∨ b = 1 by omega) with rfl | rfl
  · exact eq_true (Or.inl rfl)
  · exact eq_true (Or.inr rfl)
theorem sl_toL {α : Type} (xs : List α) : xs.toArray.toList = xs := Eq.trans rfl rfl
theorem iz_tdiv {a b : Int} (h : -2147483648 ≤ a ∧ a ≤ 2147483647) (h3 : 2 ≤ b ∧ b ≤ 2147483647) : iz a / iz b = iz (a.tdiv b) := by
  apply Int32.toInt_inj.mp
  have h5 : (a.tdiv b).natAbs ≤ a.natAbs := by
    rw [Int.natAbs_tdiv]
    exact Nat.div_le_self _ _
  have h6 : -2147483648 ≤ a.tdiv b ∧ a.tdiv b ≤ 2147483647 := by
    constructor
    · omega
    · rcases Int.lt_or_le a 0 with h7 | h7
      · have : a.tdiv b ≤ 0 := by
          have h8 : 0 ≤ (-a).tdiv b := Int.tdiv_nonneg (by omega) (by omega)
          rw [Int.neg_tdiv] at h8
          omega
        omega
      · omega
  rw [Int32.toInt_div, iz_toInt h.1 h.2, iz_toInt (by omega) h3.2, iz_toInt h6.1 h6.2]
  exact Int.bmod_eq_of_le (by omega) (by omega)
theorem tdiv_em {a b : Int} : (a - a.tdiv b * b = 0) = (a % b = 0) := by
  have h := Int.tmod_def a b
  rw [Int.mul_comm] at h
  rw [← h]
  exact propext ⟨fun q => Int.dvd_iff_emod_eq_zero.mp (Int.dvd_iff_tmod_eq_zero.mpr q), fun q => Int.dvd_iff_tmod_eq_zero.mp (Int.dvd_iff_emod_eq_zero.mpr q)⟩
theorem iz_rem {a b : Int} (h : -2147483648 ≤ a ∧ a ≤ 2147483647) (h3 : 2 ≤ b ∧ b ≤ 60) : iz a - iz a / iz b * iz b = iz (if a % b = 0 then 0 else 1) ∨ (¬ a % b = 0 ∧ ¬ iz a - iz a / iz b * iz b = iz 0) := by
  rw [iz_tdiv h (by omega), iz_mul, iz_sub]
  by_cases z : a % b = 0
  · rw [if_pos z]
    exact Or.inl (by rw [tdiv_em.mpr z])
  · refine Or.inr ⟨z, ?_⟩
    have h1 := Int.tmod_def a b
    rw [Int.mul_comm] at h1
    have h2 : (a.tmod b).natAbs < b.natAbs := by
      rw [Int.natAbs_tmod]
      exact Nat.mod_lt _ (by omega)
    rw [← h1] 
    rw [iz_eq (by omega) (by omega) (by omega) (by omega), h1, tdiv_em]
    exact z
/-- the remainder by a step is 0 -/
theorem iz_rem0 {a b : Int} (h : -2147483648 ≤ a ∧ a ≤ 2147483647) (h3 : 2 ≤ b ∧ b ≤ 60) : (iz a - iz a / iz b * iz b = iz 0) = (a % b = 0) := by
  rcases iz_rem h h3 with q | q
  · rw [q]
    by_cases z : a % b = 0
    · simp [z]
    · simp only [z, if_false, iz_10]
  · exact propext ⟨fun z => absurd z q.2, fun z => absurd z q.1⟩
