/-! RUNNING THE ABSTRACT MACHINE: numbers as integers, the heap by what is known of it -/
def iz (z : Int) : Int32 := Int32.ofInt z
def lz (z : Int) : Int64 := Int64.ofInt z
theorem iz_lit (n : Nat) : (no_index (OfNat.ofNat n : Int32)) = iz (no_index (OfNat.ofNat n)) := by
  show Int32.ofNat n = Int32.ofInt (Int.ofNat n)
  exact Int32.ofInt_eq_ofNat.symm
theorem iz_ofInt (z : Int) : Int32.ofInt z = iz z := rfl
theorem iz_ofNat (z : Nat) : Int32.ofNat z = iz z := Int32.ofInt_eq_ofNat.symm
theorem iz_add (a b : Int) : iz a + iz b = iz (a + b) := (Int32.ofInt_add a b).symm
theorem iz_sub (a b : Int) : iz a - iz b = iz (a - b) := (Int32.ofInt_sub a b).symm
theorem iz_mul (a b : Int) : iz a * iz b = iz (a * b) := (Int32.ofInt_mul a b).symm
theorem iz_neg (a : Int) : - iz a = iz (-a) := Int32.neg_ofInt
theorem iz_toInt {a : Int} (h : -2147483648 ≤ a) (h2 : a ≤ 2147483647) : (iz a).toInt = a := Int32.toInt_ofInt_of_le h (by omega)
theorem iz_of (x : Int32) : iz x.toInt = x := Int32.ofInt_toInt x
theorem iz_rng (x : Int32) : -2147483648 ≤ x.toInt ∧ x.toInt ≤ 2147483647 := by
  have h1 := Int32.minValue_le_toInt x
  have h2 := Int32.toInt_le x
  exact ⟨h1, h2⟩
theorem iz_lt {a b : Int} (h : -2147483648 ≤ a) (h2 : a ≤ 2147483647) (h3 : -2147483648 ≤ b) (h4 : b ≤ 2147483647) : (iz a < iz b) = (a < b) := by
  rw [Int32.lt_iff_toInt_lt, iz_toInt h h2, iz_toInt h3 h4]
theorem iz_le {a b : Int} (h : -2147483648 ≤ a) (h2 : a ≤ 2147483647) (h3 : -2147483648 ≤ b) (h4 : b ≤ 2147483647) : (iz a ≤ iz b) = (a ≤ b) := by
  rw [Int32.le_iff_toInt_le, iz_toInt h h2, iz_toInt h3 h4]
theorem iz_eq {a b : Int} (h : -2147483648 ≤ a) (h2 : a ≤ 2147483647) (h3 : -2147483648 ≤ b) (h4 : b ≤ 2147483647) : (iz a = iz b) = (a = b) := by
  rw [← Int32.toInt_inj, iz_toInt h h2, iz_toInt h3 h4]
theorem iz_nat {a : Int} (h : 0 ≤ a) (h2 : a ≤ 2147483647) : (iz a).toNatClampNeg = a.toNat := by
  rw [← Int32.toNat_toInt, iz_toInt (by omega) h2]
theorem iz_in {a : Int} {n : Nat} (h : -2147483648 ≤ a) (h2 : a ≤ 2147483647) : am_in (iz a) n = (0 ≤ a ∧ a < n) := by
  unfold am_in
  rw [← Int32.toNat_toInt, Int32.lt_iff_toInt_lt, iz_toInt h h2, show (0 : Int32).toInt = 0 from rfl]
  apply propext
  omega
theorem iz_toInt64 {a : Int} (h : -2147483648 ≤ a) (h2 : a ≤ 2147483647) : (iz a).toInt64 = lz a := by
  apply Int64.toInt_inj.mp
  rw [Int32.toInt_toInt64, iz_toInt h h2, lz, Int64.toInt_ofInt_of_le (by omega) (by omega)]
theorem lz_toInt32 (a : Int) : (lz a).toInt32 = iz a := Int64.toInt32_ofInt
theorem lz_lit (n : Nat) : (no_index (OfNat.ofNat n : Int64)) = lz (no_index (OfNat.ofNat n)) := by
  show Int64.ofNat n = Int64.ofInt (Int.ofNat n)
  exact Int64.ofInt_eq_ofNat.symm
theorem lz_add (a b : Int) : lz a + lz b = lz (a + b) := (Int64.ofInt_add a b).symm
theorem lz_sub (a b : Int) : lz a - lz b = lz (a - b) := (Int64.ofInt_sub a b).symm
theorem lz_mul (a b : Int) : lz a * lz b = lz (a * b) := (Int64.ofInt_mul a b).symm
theorem lz_neg (a : Int) : - lz a = lz (-a) := Int64.neg_ofInt
theorem lz_toInt {a : Int} (h : -9223372036854775808 ≤ a) (h2 : a ≤ 9223372036854775807) : (lz a).toInt = a := Int64.toInt_ofInt_of_le h (by omega)
theorem lz_of (x : Int64) : lz x.toInt = x := Int64.ofInt_toInt x
theorem lz_lt {a b : Int} (h : -9223372036854775808 ≤ a) (h2 : a ≤ 9223372036854775807) (h3 : -9223372036854775808 ≤ b) (h4 : b ≤ 9223372036854775807) : (lz a < lz b) = (a < b) := by
  rw [Int64.lt_iff_toInt_lt, lz_toInt h h2, lz_toInt h3 h4]
theorem lz_eq {a b : Int} (h : -9223372036854775808 ≤ a) (h2 : a ≤ 9223372036854775807) (h3 : -9223372036854775808 ≤ b) (h4 : b ≤ 9223372036854775807) : (lz a = lz b) = (a = b) := by
  rw [← Int64.toInt_inj, lz_toInt h h2, lz_toInt h3 h4]
theorem am_gz {α : Type} (x : α) (xs : List α) (d : α) : (x :: xs).getD 0 d = x := rfl
theorem am_gs {α : Type} (x : α) (xs : List α) (k : Nat) (d : α) : (x :: xs).getD (k + 1) d = xs.getD k d := rfl
theorem am_qz {α : Type} (x : α) (xs : List α) : (x :: xs)[0]? = some x := rfl
theorem am_qs {α : Type} (x : α) (xs : List α) (k : Nat) : (x :: xs)[k + 1]? = xs[k]? := rfl
theorem am_sz {α : Type} (x y : α) (xs : List α) : (x :: xs).set 0 y = y :: xs := rfl
theorem am_ss {α : Type} (x y : α) (xs : List α) (k : Nat) : (x :: xs).set (k + 1) y = x :: xs.set k y := rfl
theorem am_inv_U : am_inv am_U = am_U := rfl
theorem am_inv_i (x : Int32) : am_inv (.int x) = .int x := rfl
theorem am_inv_r (x : Nat) : am_inv (.ref x) = .ref x := rfl
theorem am_inv_l (x : Int64) : am_inv (.long x) = am_U := rfl
theorem am_inv_d (x : UInt64) : am_inv (.double x) = am_U := rfl
theorem am_nUn : (Value.null = am_U) = False := by simp [am_U]
theorem am_nUi (x : Int32) : (Value.int x = am_U) = False := by simp [am_U]
theorem am_nUl (x : Int64) : (Value.long x = am_U) = False := by simp [am_U]
theorem am_nUd (x : UInt64) : (Value.double x = am_U) = False := by simp [am_U]
theorem am_nUr (x : Nat) : (Value.ref x = am_U) = False := by simp [am_U]
theorem am_b0z (c : am_C) (B : am_C) (F : am_C → Prop) : am_b0 c 0 0 B F = F c := propext ⟨fun q => q.1 ⟨rfl, rfl⟩, fun q => ⟨fun _ => q, fun z => absurd ⟨rfl, rfl⟩ z⟩⟩
theorem am_up_eq (h : am_H) (a : Nat) (e : va_E) : am_up h a e a = some e := if_pos rfl
theorem am_up_ne {h : am_H} {a b : Nat} {e : va_E} (q : b ≠ a) : am_up h a e b = h b := if_neg q
theorem am_cat_i (x : Int32) : (Value.int x).category = 1 := rfl
theorem am_cat_r (x : Nat) : (Value.ref x).category = 1 := rfl
theorem am_cat_l (x : Int64) : (Value.long x).category = 2 := rfl
theorem am_cat_d (x : UInt64) : (Value.double x).category = 2 := rfl
theorem am_clen (k : Nat) : (k + 1 ≤ 4) = (k ≤ 3) := propext (by omega)
theorem am_lc3 (x y : Int64) : (x < y ∧ ¬ x = y ∧ ¬ y < x ∧ lg_cmp x y = iz (-1)) ∨ (¬ x < y ∧ x = y ∧ ¬ y < x ∧ lg_cmp x y = iz 0) ∨ (¬ x < y ∧ ¬ x = y ∧ y < x ∧ lg_cmp x y = iz 1) := by
  unfold lg_cmp
  rcases Int.lt_trichotomy x.toInt y.toInt with h | h | h
  · have h1 : x < y := Int64.lt_iff_toInt_lt.mpr h
    have h2 : ¬ x = y := fun e => by rw [e] at h; omega
    have h3 : ¬ y < x := fun e => by have := Int64.lt_iff_toInt_lt.mp e; omega
    exact Or.inl ⟨h1, h2, h3, by rw [if_neg (show ¬ x > y from h3), if_neg h2]; rfl⟩
  · have h1 : x = y := Int64.toInt_inj.mp h
    subst h1
    have h3 : ¬ x < x := fun e => by have := Int64.lt_iff_toInt_lt.mp e; omega
    exact Or.inr (Or.inl ⟨h3, rfl, h3, by rw [if_neg (show ¬ x > x from h3), if_pos rfl]; rfl⟩)
  · have h1 : ¬ x < y := fun e => by have := Int64.lt_iff_toInt_lt.mp e; omega
    have h2 : ¬ x = y := fun e => by rw [e] at h; omega
    have h3 : y < x := Int64.lt_iff_toInt_lt.mpr h
    exact Or.inr (Or.inr ⟨h1, h2, h3, by rw [if_pos (show x > y from h3)]; rfl⟩)
theorem am_lc_eq (x y : Int64) : (lg_cmp x y = iz 0) = (x = y) := by
  rcases am_lc3 x y with ⟨h1, h2, h3, h4⟩ | ⟨h1, h2, h3, h4⟩ | ⟨h1, h2, h3, h4⟩
  · rw [h4, eq_false h2]; decide
  · rw [h4, eq_true h2]; decide
  · rw [h4, eq_false h2]; decide
theorem am_lc_lt (x y : Int64) : (lg_cmp x y < iz 0) = (x < y) := by
  rcases am_lc3 x y with ⟨h1, h2, h3, h4⟩ | ⟨h1, h2, h3, h4⟩ | ⟨h1, h2, h3, h4⟩ <;> simp only [h4, h1] <;> decide
theorem am_lc_gt (x y : Int64) : (iz 0 < lg_cmp x y) = (y < x) := by
  rcases am_lc3 x y with ⟨h1, h2, h3, h4⟩ | ⟨h1, h2, h3, h4⟩ | ⟨h1, h2, h3, h4⟩ <;> simp only [h4, h3] <;> decide
theorem am_lc_le (x y : Int64) : (lg_cmp x y ≤ iz 0) = (¬ y < x) := by
  rcases am_lc3 x y with ⟨h1, h2, h3, h4⟩ | ⟨h1, h2, h3, h4⟩ | ⟨h1, h2, h3, h4⟩ <;> simp only [h4, h3] <;> decide
theorem am_lc_ge (x y : Int64) : (iz 0 ≤ lg_cmp x y) = (¬ x < y) := by
  rcases am_lc3 x y with ⟨h1, h2, h3, h4⟩ | ⟨h1, h2, h3, h4⟩ | ⟨h1, h2, h3, h4⟩ <;> simp only [h4, h1] <;> decide
theorem am_if_t {P : Prop} [Decidable P] {α : Type} {x y : α} (h : P) : (if P then x else y) = x := if_pos h
theorem am_if_f {P : Prop} [Decidable P] {α : Type} {x y : α} (h : ¬ P) : (if P then x else y) = y := if_neg h
/-- a choice that comes together again -/
theorem am_join {P : Prop} [Decidable P] {α : Type} {G : α → Prop} {x y : α} (q : G (if P then x else y)) : (P → G x) ∧ (¬ P → G y) := ⟨fun h => by rwa [if_pos h] at q, fun h => by rwa [if_neg h] at q⟩
theorem am_up_up (h : am_H) (a : Nat) (e f : va_E) : am_up (am_up h a e) a f = am_up h a f := by
  funext b
  unfold am_up
  by_cases q : b = a <;> simp [q]
theorem am_up_self {h : am_H} {a : Nat} {e : va_E} (q : h a = some e) : am_up h a e = h := by
  funext b
  unfold am_up
  by_cases z : b = a <;> simp [z, q]
theorem am_up_comm {h : am_H} {a b : Nat} {e f : va_E} (q : a ≠ b) : am_up (am_up h a e) b f = am_up (am_up h b f) a e := by
  funext c
  unfold am_up
  by_cases z : c = a
  · subst z
    simp [q]
  · simp [z]
theorem am_i_eq (x y : Int32) : am_if .eq x y = (x = y) := propext Iff.rfl
theorem am_i_ne (x y : Int32) : am_if .ne x y = (¬ x = y) := propext Iff.rfl
theorem am_i_lt (x y : Int32) : am_if .lt x y = (x < y) := propext Iff.rfl
theorem am_i_ge (x y : Int32) : am_if .ge x y = (y ≤ x) := propext Iff.rfl
theorem am_i_gt (x y : Int32) : am_if .gt x y = (y < x) := propext Iff.rfl
theorem am_i_le (x y : Int32) : am_if .le x y = (x ≤ y) := propext Iff.rfl
theorem iz_div {a b : Int} (h : 0 ≤ a) (h2 : a ≤ 2147483647) (h3 : 1 ≤ b) (h4 : b ≤ 2147483647) : iz a / iz b = iz (a / b) := by
  apply Int32.toInt_inj.mp
  have h5 : 0 ≤ a / b := Int.ediv_nonneg h (by omega)
  have h6 : a / b ≤ a := Int.ediv_le_self b h
  rw [Int32.toInt_div, iz_toInt (by omega) h2, iz_toInt (by omega) h4, iz_toInt (by omega) (by omega), Int.tdiv_eq_ediv_of_nonneg h]
  exact Int.bmod_eq_of_le (by omega) (by omega)
theorem lz_div {a b : Int} (h : 0 ≤ a) (h2 : a ≤ 9223372036854775807) (h3 : 1 ≤ b) (h4 : b ≤ 9223372036854775807) : lz a / lz b = lz (a / b) := by
  apply Int64.toInt_inj.mp
  have h5 : 0 ≤ a / b := Int.ediv_nonneg h (by omega)
  have h6 : a / b ≤ a := Int.ediv_le_self b h
  rw [Int64.toInt_div, lz_toInt (by omega) h2, lz_toInt (by omega) h4, lz_toInt (by omega) (by omega), Int.tdiv_eq_ediv_of_nonneg h]
  exact Int.bmod_eq_of_le (by omega) (by omega)
theorem am_rf (a : Nat) : va_rf (some a) = .ref a := Eq.trans rfl rfl
theorem am_up3 {h : am_H} {a b : Nat} {e f g : va_E} (q : b ≠ a) : am_up (am_up (am_up h a e) b f) a g = am_up (am_up h a g) b f := by
  rw [am_up_comm q, am_up_up]
/-- arrays of ints by integers -/
abbrev am_zi (F : Nat → Int) : am_X := am_xi fun j => iz (F j)
def zup (F : Nat → Int) (k : Nat) (z : Int) : Nat → Int := fun j => if j = k then z else F j
def zfill (F G : Nat → Int) (k : Nat) : Nat → Int := fun j => if j < k then G j else F j
theorem am_vup (F : Nat → Int) (k : Nat) (z : Int) : va_up (fun j => iz (F j)) k (iz z) = fun j => iz (zup F k z j) := by
  funext j
  unfold va_up zup
  by_cases q : j = k <;> simp [q]
theorem zfill_0 (F G : Nat → Int) : zfill F G 0 = F := by
  funext j
  simp [zfill]
theorem zfill_s (F G : Nat → Int) (k : Nat) : zup (zfill F G k) k (G k) = zfill F G (k + 1) := by
  funext j
  unfold zup zfill
  by_cases q : j = k
  · subst q
    simp
  · by_cases z : j < k
    · simp [q, z, Nat.lt_succ_of_lt z]
    · have : ¬ j < k + 1 := by omega
      simp [q, z, this]
theorem zfill_lt {F G : Nat → Int} {k j : Nat} (q : j < k) : zfill F G k j = G j := if_pos q
theorem am_dz {α : Type} (xs : List α) : List.drop 0 xs = xs := rfl
theorem am_ds {α : Type} (x : α) (xs : List α) (k : Nat) : List.drop (k + 1) (x :: xs) = List.drop k xs := rfl
def qup {α : Type} (Q : Nat → α) (k : Nat) (x : α) : Nat → α := fun j => if j = k then x else Q j
theorem am_vupq (Q : Nat → Nat) (k x : Nat) : va_up (fun i => some (Q i)) k (some x) = fun i => some (qup Q k x i) := by
  funext j
  unfold va_up qup
  by_cases q : j = k <;> simp [q]
theorem am_tn1 (k : Nat) : ((k : Int) + 1).toNat = k + 1 := by omega
theorem am_tnm (k : Nat) : ((k : Int) - 1).toNat = k - 1 := by omega
/-- the first i moved down by one -/
def shL {α : Type} (Q : Nat → α) (i : Nat) : Nat → α := fun j => if j + 1 < i then Q (j + 1) else Q j
theorem shL_1 {α : Type} (Q : Nat → α) : shL Q 1 = Q := by
  funext j
  simp [shL]
theorem shL_ge {α : Type} {Q : Nat → α} {i j : Nat} (q : i ≤ j + 1) : shL Q i j = Q j := if_neg (by omega)
theorem shL_lt {α : Type} {Q : Nat → α} {i j : Nat} (q : j + 1 < i) : shL Q i j = Q (j + 1) := if_pos q
theorem shL_s {α : Type} (Q : Nat → α) (k : Nat) : qup (shL Q (k + 1)) k (Q (k + 1)) = shL Q (k + 1 + 1) := by
  funext j
  unfold qup shL
  by_cases q : j = k
  · subst q
    rw [if_pos rfl, if_pos (by omega)]
  · rw [if_neg q]
    by_cases z : j + 1 < k + 1
    · rw [if_pos z, if_pos (by omega)]
    · rw [if_neg z, if_neg (by omega)]
theorem shL_z (Q : Nat → Int) (k : Nat) : zup (shL Q (k + 1)) k (Q (k + 1)) = shL Q (k + 1 + 1) := shL_s Q k
theorem am_cpz (F G : Nat → Int) (k : Nat) : am_cp (fun j => iz (F j)) (fun j => iz (G j)) 0 0 k = fun j => iz (zfill G F k j) := by
  funext j
  unfold am_cp zfill
  by_cases q : j < k <;> simp [q]
theorem am_z_0 : am_z 0 = am_zi fun _ => 0 := by
  show am_xi (fun _ => 0) = am_xi fun _ => iz 0
  rw [iz_lit]
/-- here so that the equations that the engine's simp needs are made once -/
theorem am_warm {d : Nat} {K : am_K} {h : am_H} {n : Nat} {c : am_C} {x y : Int32} {l0 : Value} (q : K (some (.int x)) h n) : am_G d m_Series_presentSum K 3 [l0, .int x, .int y] [] h n c := by
  refine x_Series_presentSum_3 ?_; simp (disch := omega) only [i_Series_presentSum_3, am_e_nop, am_e_aconst_null, am_e_iconst, am_e_bipush, am_e_sipush, am_e_lconst, am_e_dconst, am_e_fconst, am_e_ldc, am_e_ldc_w, am_e_ldc2_w, am_e_getstatic, am_e_iload, am_e_iload_n_0, am_e_iload_n_1, am_e_iload_n_2, am_e_iload_n_3, am_e_lload, am_e_lload_n_0, am_e_lload_n_1, am_e_lload_n_2, am_e_lload_n_3, am_e_dload, am_e_dload_n_0, am_e_dload_n_1, am_e_dload_n_2, am_e_dload_n_3, am_e_fload_n_0, am_e_fload_n_1, am_e_fload_n_2, am_e_fload_n_3, am_e_aload, am_e_aload_n_0, am_e_aload_n_1, am_e_aload_n_2, am_e_aload_n_3, am_e_istore, am_e_istore_n_0, am_e_istore_n_1, am_e_istore_n_2, am_e_istore_n_3, am_e_lstore, am_e_lstore_n_0, am_e_lstore_n_1, am_e_lstore_n_2, am_e_lstore_n_3, am_e_dstore, am_e_dstore_n_0, am_e_dstore_n_1, am_e_dstore_n_2, am_e_dstore_n_3, am_e_fstore_n_0, am_e_fstore_n_1, am_e_fstore_n_2, am_e_fstore_n_3, am_e_astore, am_e_astore_n_0, am_e_astore_n_1, am_e_astore_n_2, am_e_astore_n_3, am_e_iinc, am_e_dup, am_e_dup_x1, am_e_dup2, am_e_pop, am_e_pop2, am_e_iadd, am_e_isub, am_e_imul, am_e_idiv, am_e_irem, am_e_ineg, am_e_iand, am_e_ior, am_e_ishl, am_e_ishr, am_e_ladd, am_e_lsub, am_e_lmul, am_e_ldiv, am_e_lrem, am_e_lneg, am_e_lcmp, am_e_i2l, am_e_l2i, am_e_i2b, am_e_i2c, am_e_i2d, am_e_l2d, am_e_l2f, am_e_d2i, am_e_d2l, am_e_f2d, am_e_d2f, am_e_dadd, am_e_dsub, am_e_dmul, am_e_ddiv, am_e_dneg, am_e_fneg, am_e_dcmp, am_e_fcmp, am_e_goto, am_e_ifCond_eq, am_e_ifCond_ne, am_e_ifCond_lt, am_e_ifCond_ge, am_e_ifCond_gt, am_e_ifCond_le, am_e_if_icmp_eq, am_e_if_icmp_ne, am_e_if_icmp_lt, am_e_if_icmp_ge, am_e_if_icmp_gt, am_e_if_icmp_le, am_e_ifnonnull, am_e_tableswitch, am_e_lookupswitch, am_e_getfield, am_e_putfield, am_e_new, am_e_newarray, am_e_anewarray, am_e_multianewarray, am_e_arraylength, am_e_iaload, am_e_baload, am_e_laload, am_e_daload, am_e_aaload, am_e_iastore, am_e_bastore, am_e_lastore, am_e_dastore, am_e_aastore, am_e_checkcast, am_e_return_, am_e_ireturn, am_e_lreturn, am_e_dreturn, am_e_areturn, am_e_virt, am_e_spec, am_e_stat, am_e_copy, am_e_fbits, am_lg_z, am_lg_s, am_s1_z, am_s1_1, am_s1_s, am_s2_z, am_s2_1, am_s2_s, am_cu_n, am_cu_c, am_I_i, am_L_l, am_D_d, am_F_f, am_R_r, am_R_n, am_ok_0, am_ok_1, am_ok_2, am_ok_3, am_ok_4, am_ok_5, am_po_z, am_po_s, am_ps_n, am_ps_s, am_rt_1, am_rt_2, am_rt_6, am_rt_7, am_sw_n, am_sw_c, am_sl_n, am_sl_c, am_inv_U, am_inv_i, am_inv_r, am_inv_l, am_inv_d, am_oa, am_ia, am_la, am_da, am_qa, am_an, am_b0z, am_qz, am_qs, am_sz, am_ss, am_nUn, am_nUi, am_z_0, am_nUl, am_nUd, am_nUr, am_cat_i, am_cat_r, am_cat_l, am_cat_d, List.length_cons, List.length_nil, Nat.reduceAdd, Nat.reduceLeDiff, Nat.reduceEqDiff, reduceIte, Int.reduceEq, Int.reduceLT, Int.reduceLE, Int.reduceAdd, Int.reduceSub, Int.reduceNeg, Int.reduceMul, not_false_eq_true, not_true_eq_false, or_true, true_or, false_or, or_false, true_and, and_true, true_implies, false_implies, implies_true, iz_lit, iz_ofInt, iz_ofNat, iz_add, iz_sub, iz_mul, iz_neg, iz_div, am_rf, iz_in, iz_nat, iz_le, iz_lt, iz_eq, iz_toInt64, lz_toInt32, lz_lit, lz_add, lz_sub, lz_mul, lz_neg, lz_div, lz_lt, lz_eq, am_lc_eq, am_lc_lt, am_lc_gt, am_lc_le, am_lc_ge, am_up_eq, am_up_up, am_up_ne, am_up3, am_vup, am_vupq, am_cpz, am_tn1, am_tnm, Int.add_sub_cancel, Int.toNat_natCast, Int.cast_ofNat_Int, Int.toNat_zero, Int.reduceToNat]; repeat (refine ⟨by omega, ?_⟩)
  exact q
