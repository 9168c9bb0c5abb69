/-! ROLLING UP: the class keeps the relation -/
theorem okQ_rot {A : Nat → Int} (h : okQ A) : okQ (zup (shL A 40) 39 (A 0)) := by
  have e : ∀ i, i < 40 → zup (shL A 40) 39 (A 0) i = A (if i = 39 then 0 else i + 1) := fun i hi => by
    unfold zup
    by_cases z : i = 39
    · rw [if_pos z, if_pos z]
    · rw [if_neg z, if_neg z, shL_lt (by omega)]
  refine ⟨fun i hi => ?_, fun i j hi hj q => ?_⟩
  · rw [e i hi]
    apply h.1
    split <;> omega
  · rw [e i hi, e j hj] at q
    have := h.2 _ _ (by split <;> omega) (by split <;> omega) q
    revert this
    repeat' split
    all_goals (intro this; omega)
/-- the address of the measures at a position -/
def mAd (T : Nat → Nat → Int) (b i : Nat) : Nat := b + 3 + (T (b + 1) i).toNat
theorem mAd_ne {T : Nat → Nat → Int} {b i j : Nat} (h : okQ (T (b + 1))) (hi : i < 40) (hj : j < 40) (hij : i ≠ j) : mAd T b i ≠ mAd T b j := by
  unfold mAd
  obtain ⟨x1, x2⟩ := h.1 i hi
  obtain ⟨y1, y2⟩ := h.1 j hj
  have : ¬ T (b + 1) i = T (b + 1) j := fun q => hij (h.2 i j hi hj q)
  omega
set_option maxRecDepth 16384 in
set_option maxHeartbeats 1000000 in
theorem q_roll {h0 : am_H} {N : Int} {T : Nat → Nat → Int} {n b x r i : Nat} {R : Nat → Int} {w : Int} (hb : isR b w) (hr : r < 2) (hw : 1 ≤ w ∧ w ≤ 60) (hi : i < 64) (hN : 0 ≤ N ∧ N ≤ 4000000000) (h : RL N T b R r) (hX : isP x) (hxb : x + 2 < b ∨ b + 42 < x) (hS : SPx T x R i) (hRS : RSx R i) :
    ∃ T2, (∀ d K, am_CL (d + 3) m_Rollups_add [.ref b, .ref x] (lay T h0) n K = K none (lay T2 h0) n) ∧ RL (N + 1) T2 b (rollR R r i w) r ∧ ∀ c, c < b ∨ b + 43 ≤ c → T2 c = T c := by
  obtain ⟨m, m1, m2, m3, m4, m5⟩ := h
  have hS' := hS
  obtain ⟨s1, s2, s3, s4, s5, -⟩ := hS'
  obtain ⟨t1, t2, t3, t4, -⟩ := hRS
  have v1 : -2147483648 ≤ T x 3 ∧ T x 3 ≤ 2147483647 := by rw [s2]; exact t2
  have v2 : 0 ≤ T x 4 ∧ T x 4 ≤ 3 := by rw [s3]; exact t3
  have v3 : 0 ≤ T x 5 ∧ T x 5 ≤ 2147483647 := by rw [s5]; omega
  have v4 : 1 ≤ T x 2 ∧ T x 2 ≤ 999999 := by rw [s1]; exact t1
  generalize hnum : (R (19 + i * 19) - 1) / w = num
  have hnum2 : (T x 2 - 1) / w = num := by rw [s1]; exact hnum
  have hn1 : 0 ≤ num := by rw [← hnum]; exact Int.ediv_nonneg (by omega) (by omega)
  have hn2 : num ≤ 999999 := by
    have := Int.ediv_le_self w (show 0 ≤ R (19 + i * 19) - 1 by omega)
    rw [hnum] at this
    omega
  unfold rollR
  rw [m3, Int.toNat_natCast, hnum]
  have eT : ∀ j, b + 3 + (T (b + 1) j).toNat = mAd T b j := fun j => rfl
  by_cases z : ¬ (m : Int) = 0 ∧ R (1235 + (r * 40 + (m - 1)) * 11 + 10) = num
  · rw [if_pos z]
    obtain ⟨z1, z2⟩ := z
    obtain ⟨k, rfl⟩ : ∃ k, m = k + 1 := ⟨m - 1, by omega⟩
    rw [Nat.add_sub_cancel] at z2 ⊢
    obtain ⟨q1, q2, q3, q4, q5⟩ := m5 k (by omega)
    obtain ⟨o1, o2⟩ := m4.1 k (by omega)
    obtain ⟨p, hp⟩ : ∃ p : Nat, T (b + 1) k = p := ⟨(T (b + 1) k).toNat, by omega⟩
    have hmA : mAd T b k = b + 3 + p := by unfold mAd; rw [hp, Int.toNat_natCast]
    have run := fun d K => q_rAddS (d := d) (K := K) (h0 := h0) (T := T) (n := n) (st := w) (num := num) hb hX hxb hw (show k < 40 by omega) (by rw [m2]; omega) hp (by omega) v4 (by rw [hnum2, q2, z2]) v1 v2 v3
    refine ⟨_, run, ⟨k + 1, m1, ?_, rollP_s, ?_, fun j hj => ?_⟩, fun c hc => uT_ne (by omega)⟩
    · rw [uT_ne (by omega), m2]
    · rw [uT_ne (by omega)]; exact m4
    · have e1 : uT T (b + 3 + p) (jnP T (T (b + 3 + p)) x) (b + 1) = T (b + 1) := uT_ne (by omega)
      have e2 : uT T (b + 3 + p) (jnP T (T (b + 3 + p)) x) (b + 2) = T (b + 2) := uT_ne (by omega)
      obtain ⟨w1, w2, w3, w4, w5⟩ := m5 j hj
      unfold RLx
      rw [e1, e2]
      by_cases zj : j = k
      · subst zj
        rw [hp, Int.toNat_natCast, uT_eq]
        have eF : mEq (T (b + 3 + p)) (jnR z0 R (1235 + (r * 40 + j) * 11)) := mEq_of fun q hq => by rw [jnR_z hq, ← q1 q hq, hp, Int.toNat_natCast]
        have e0 := rollP_k (R := R) (G := jnS (jnR z0 R (1235 + (r * 40 + j) * 11)) R i) (p := j) (num := num) (m := (((j + 1 : Nat)) : Int)) (k := 0) (by omega) hr
        simp only [Nat.add_zero] at e0
        refine ⟨fun q hq => by rw [rollP_k hq hr]; exact jnP_jnS hS eF q hq, by rw [rollP_n hr, q2, z2], by rw [rollP_n hr]; omega, ?_⟩
        rw [e0]
        unfold jnS
        rw [(jn_k).1, jnR_z (by omega), Nat.add_zero]
        omega
      · have ne := mAd_ne m4 (i := j) (j := k) (by omega) (by omega) zj
        rw [hmA] at ne
        have er : ∀ q, q < 11 → rollP R r k num (jnS (jnR z0 R (1235 + (r * 40 + k) * 11)) R i) ((k + 1 : Nat) : Int) (1235 + (r * 40 + j) * 11 + q) = R (1235 + (r * 40 + j) * 11 + q) := fun q hq => rollP_o (by omega) (by omega)
        have er0 := er 0 (by omega)
        simp only [Nat.add_zero] at er0
        refine ⟨fun q hq => by rw [er q (by omega), eT, uT_ne ne]; exact w1 q hq, by rw [er 10 (by omega)]; exact w2, by rw [er 10 (by omega)]; exact w3, by rw [er0]; exact w4, by rw [er0]; omega⟩
  · rw [if_neg z]
    by_cases z4 : (m : Int) = 40
    · rw [if_pos z4]
      have hm4 : m = 40 := by omega
      subst hm4
      obtain ⟨o1, o2⟩ := m4.1 0 (by omega)
      obtain ⟨p, hp⟩ : ∃ p : Nat, T (b + 1) 0 = p := ⟨(T (b + 1) 0).toNat, by omega⟩
      have hmA : mAd T b 0 = b + 3 + p := by unfold mAd; rw [hp, Int.toNat_natCast]
      obtain ⟨q1, q2, q3, q4, q5⟩ := m5 39 (by omega)
      have zn : ¬ T (b + 2) 39 = (T x 2 - 1) / w := fun q => z ⟨by omega, by rw [← hnum2, ← q, q2]⟩
      have run := fun d K => q_rAddF (d := d) (K := K) (h0 := h0) (T := T) (n := n) (st := w) (num := num) hb hX hxb hw (by rw [m2]; rfl) m4.1 hp v4 ⟨zn, by rw [q2]; exact q3⟩ v1 v2 v3
      rw [hnum2] at run
      have f1 : ∀ A B C D, uT (uT (uT (uT T (b + 1) A) (b + 2) B) b C) (b + 3 + p) D (b + 1) = A := fun A B C D => by rw [uT_ne (by omega), uT_ne (by omega), uT_ne (by omega), uT_eq]
      have f2 : ∀ A B C D, uT (uT (uT (uT T (b + 1) A) (b + 2) B) b C) (b + 3 + p) D (b + 2) = B := fun A B C D => by rw [uT_ne (by omega), uT_ne (by omega), uT_eq]
      have f3 : ∀ A B C D, uT (uT (uT (uT T (b + 1) A) (b + 2) B) b C) (b + 3 + p) D b = C := fun A B C D => by rw [uT_ne (by omega), uT_eq]
      have f4 : ∀ A B C D c, c ≠ b + 1 → c ≠ b + 2 → c ≠ b → c ≠ b + 3 + p → uT (uT (uT (uT T (b + 1) A) (b + 2) B) b C) (b + 3 + p) D c = T c := fun A B C D c c1 c2 c3 c4 => by rw [uT_ne c4, uT_ne c3, uT_ne c2, uT_ne c1]
      refine ⟨_, run, ⟨40, Nat.le_refl _, ?_, rollP_s, ?_, fun j hj => ?_⟩, fun c hc => f4 _ _ _ _ c (by omega) (by omega) (by omega) (by omega)⟩
      · rw [f3, zup_eq]; rfl
      · rw [f1, ← hp]; exact okQ_rot m4
      · unfold RLx
        rw [f1, f2]
        by_cases zj : j = 39
        · subst zj
          rw [zup_eq, zup_eq, Int.toNat_natCast, uT_eq]
          have e0 := rollP_k (R := shfR R r) (G := jnS z0 (shfR R r) i) (p := 39) (num := num) (m := 40) (k := 0) (by omega) hr
          simp only [Nat.add_zero] at e0
          have eS : SPx T x (shfR R r) i := by
            unfold SPx at *
            rw [shfR_o (by omega), shfR_o (by omega), shfR_o (by omega), shfR_o (by omega), shfR_o (by omega)]
            exact ⟨s1, s2, s3, s4, s5, fun k hk => by rw [shfR_o (by omega), shfR_o (by omega)]; exact hS.2.2.2.2.2 k hk⟩
          refine ⟨fun q hq => by rw [rollP_k hq hr]; exact jnP_jnS eS (mEq_0 _) q hq, by rw [rollP_n hr], by rw [rollP_n hr]; omega, ?_⟩
          rw [e0]
          unfold jnS
          rw [(jn_k).1]
          show 1 ≤ (0 : Int) + 1 ∧ (0 : Int) + 1 ≤ N + 1
          omega
        · obtain ⟨w1, w2, w3, w4, w5⟩ := m5 (j + 1) (by omega)
          have ne := mAd_ne m4 (i := j + 1) (j := 0) (by omega) (by omega) (by omega)
          rw [hmA] at ne
          obtain ⟨o3, o4⟩ := m4.1 (j + 1) (by omega)
          rw [zup_ne zj, zup_ne zj, shL_lt (by omega), shL_lt (by omega)]
          have er : ∀ q, q < 11 → rollP (shfR R r) r 39 num (jnS z0 (shfR R r) i) 40 (1235 + (r * 40 + j) * 11 + q) = R (1235 + (r * 40 + (j + 1)) * 11 + q) := fun q hq => by rw [rollP_o (by omega) (by omega), shfR_i (by omega) hq]
          have er0 := er 0 (by omega)
          simp only [Nat.add_zero] at er0
          refine ⟨fun q hq => ?_, by rw [er 10 (by omega)]; exact w2, by rw [er 10 (by omega)]; exact w3, by rw [er0]; exact w4, by rw [er0]; omega⟩
          rw [er q (by omega), eT, f4 _ _ _ _ _ (by unfold mAd; omega) (by unfold mAd; omega) (by unfold mAd; omega) ne]
          exact w1 q hq
    · rw [if_neg z4]
      have hm4 : m < 40 := by omega
      obtain ⟨o1, o2⟩ := m4.1 m (by omega)
      obtain ⟨p, hp⟩ : ∃ p : Nat, T (b + 1) m = p := ⟨(T (b + 1) m).toNat, by omega⟩
      have hmA : mAd T b m = b + 3 + p := by unfold mAd; rw [hp, Int.toNat_natCast]
      have zn : m = 0 ∨ (¬ T (b + 2) (m - 1) = (T x 2 - 1) / w ∧ 0 ≤ T (b + 2) (m - 1) ∧ T (b + 2) (m - 1) ≤ 999999) := by
        rcases Nat.eq_zero_or_pos m with hz | hz
        · exact Or.inl hz
        · obtain ⟨q1, q2, q3, q4, q5⟩ := m5 (m - 1) (by omega)
          exact Or.inr ⟨fun q => z ⟨by omega, by rw [← hnum2, ← q, q2]⟩, by rw [q2]; exact q3⟩
      have run := fun d K => q_rAddN (d := d) (K := K) (h0 := h0) (T := T) (n := n) (st := w) (num := num) hb hX hxb hw hm4 m2 hp (by omega) v4 zn v1 v2 v3
      rw [hnum2] at run
      have f1 : ∀ A B C c, c ≠ b + 2 → c ≠ b + 3 + p → c ≠ b → uT (uT (uT T (b + 2) A) (b + 3 + p) B) b C c = T c := fun A B C c c1 c2 c3 => by rw [uT_ne c3, uT_ne c2, uT_ne c1]
      have f2 : ∀ A B C, uT (uT (uT T (b + 2) A) (b + 3 + p) B) b C (b + 2) = A := fun A B C => by rw [uT_ne (by omega), uT_ne (by omega), uT_eq]
      have f3 : ∀ A B C, uT (uT (uT T (b + 2) A) (b + 3 + p) B) b C (b + 3 + p) = B := fun A B C => by rw [uT_ne (by omega), uT_eq]
      refine ⟨_, run, ⟨m + 1, by omega, ?_, ?_, ?_, fun j hj => ?_⟩, fun c hc => f1 _ _ _ c (by omega) (by omega) (by omega)⟩
      · rw [uT_eq, zup_eq]; rfl
      · rw [rollP_s]; rfl
      · rw [f1 _ _ _ _ (by omega) (by omega) (by omega)]; exact m4
      · unfold RLx
        rw [f1 _ _ _ (b + 1) (by omega) (by omega) (by omega), f2]
        by_cases zj : j = m
        · subst zj
          rw [hp, Int.toNat_natCast, f3, zup_eq]
          have e0 := rollP_k (R := R) (G := jnS z0 R i) (p := j) (num := num) (m := (j : Int) + 1) (k := 0) (by omega) hr
          simp only [Nat.add_zero] at e0
          refine ⟨fun q hq => by rw [rollP_k hq hr]; exact jnP_jnS hS (mEq_0 _) q hq, by rw [rollP_n hr], by rw [rollP_n hr]; omega, ?_⟩
          rw [e0]
          unfold jnS
          rw [(jn_k).1]
          show 1 ≤ (0 : Int) + 1 ∧ (0 : Int) + 1 ≤ N + 1
          omega
        · have ne := mAd_ne m4 (i := j) (j := m) (by omega) (by omega) zj
          rw [hmA] at ne
          obtain ⟨w1, w2, w3, w4, w5⟩ := m5 j (by omega)
          have er : ∀ q, q < 11 → rollP R r m num (jnS z0 R i) ((m : Int) + 1) (1235 + (r * 40 + j) * 11 + q) = R (1235 + (r * 40 + j) * 11 + q) := fun q hq => rollP_o (by omega) (by omega)
          have er0 := er 0 (by omega)
          simp only [Nat.add_zero] at er0
          refine ⟨fun q hq => ?_, by rw [er 10 (by omega), zup_ne zj]; exact w2, by rw [er 10 (by omega)]; exact w3, by rw [er0]; exact w4, by rw [er0]; omega⟩
          rw [er q (by omega), eT, f1 _ _ _ _ (by unfold mAd; omega) ne (by unfold mAd; omega)]
          exact w1 q hq
