/-! THE RELATION: the class's cells of a series against a row of the reference -/
def RSx (R : Nat → Int) (i : Nat) : Prop := (1 ≤ R (19 + i * 19) ∧ R (19 + i * 19) ≤ 999999) ∧ (-2147483648 ≤ R (19 + i * 19 + 1) ∧ R (19 + i * 19 + 1) ≤ 2147483647) ∧ (0 ≤ R (19 + i * 19 + 2) ∧ R (19 + i * 19 + 2) ≤ 3) ∧ ((0 ≤ R (19 + i * 19 + 4) ∧ R (19 + i * 19 + 4) ≤ 999999) ∧ -4294967296 ≤ R (19 + i * 19 + 3) ∧ R (19 + i * 19 + 3) ≤ 4294967296) ∧ ∀ k, k < 7 → (0 ≤ R (19 + i * 19 + 5 + k) ∧ R (19 + i * 19 + 5 + k) ≤ 999999) ∧ 0 ≤ R (19 + i * 19 + 12 + k) ∧ R (19 + i * 19 + 12 + k) ≤ 999999
def SPx (T : Nat → Nat → Int) (x : Nat) (R : Nat → Int) (i : Nat) : Prop := T x 2 = R (19 + i * 19) ∧ T x 3 = R (19 + i * 19 + 1) ∧ T x 4 = R (19 + i * 19 + 2) ∧ T x 6 = R (19 + i * 19 + 3) ∧ T x 5 = R (19 + i * 19 + 4) ∧ ∀ k, k < 7 → T (x + 1) k = R (19 + i * 19 + 5 + k) ∧ T (x + 2) k = R (19 + i * 19 + 12 + k)
/-- the address of the sample at a position -/
def sAd (T : Nat → Nat → Int) (a i : Nat) : Nat := a + 5 + 3 * (T (a + 3) i).toNat
def SH (T : Nat → Nat → Int) (a : Nat) (R : Nat → Int) (sz nb dl : Nat) : Prop :=
  (T a 4 = R 0 ∧ (R 0 = -5 ∨ 0 ≤ R 0) ∧ R 0 ≤ 2) ∧ (T a 5 = nb ∧ R 1 = nb ∧ nb ≤ 6 ∧ (¬ R 0 = 2 → nb = 0)) ∧ (T a 6 = ((sz + dl : Nat) : Int) ∧ R 2 = sz ∧ sz + dl ≤ 65 ∧ sz ≤ 64 ∧ T a 7 + ((sz + dl : Nat) : Int) = R 3) ∧
  (∀ k, k < nb → T (a + 1) k = R (4 + k) ∧ 1 ≤ R (4 + k) ∧ R (4 + k) ≤ 9999) ∧ (∀ k, k + 1 < nb → R (4 + k) < R (4 + (k + 1))) ∧ (∀ k, k < 7 → T (a + 2) k = R (10 + k) ∧ 0 ≤ R (10 + k)) ∧ sumZ' (fun k => R (10 + k)) 7 ≤ 999999
def SP (T : Nat → Nat → Int) (a : Nat) (R : Nat → Int) (sz dl : Nat) : Prop := okA (T (a + 3)) ∧ (∀ i, i < sz → SPx T (sAd T a (i + dl)) R i ∧ RSx R i) ∧ ∀ i, i + 1 < sz → R (19 + i * 19) < R (19 + (i + 1) * 19)
/-- numbers below 40, each once -/
def okQ (A : Nat → Int) : Prop := (∀ i, i < 40 → 0 ≤ A i ∧ A i < 40) ∧ ∀ i j, i < 40 → j < 40 → A i = A j → i = j
def RLx (N : Int) (T : Nat → Nat → Int) (b : Nat) (R : Nat → Int) (r i : Nat) : Prop := (∀ k, k < 10 → T (b + 3 + (T (b + 1) i).toNat) k = R (1235 + (r * 40 + i) * 11 + k)) ∧ T (b + 2) i = R (1235 + (r * 40 + i) * 11 + 10) ∧ (0 ≤ R (1235 + (r * 40 + i) * 11 + 10) ∧ R (1235 + (r * 40 + i) * 11 + 10) ≤ 999999) ∧ 1 ≤ R (1235 + (r * 40 + i) * 11) ∧ R (1235 + (r * 40 + i) * 11) ≤ N
def RL (N : Int) (T : Nat → Nat → Int) (b : Nat) (R : Nat → Int) (r : Nat) : Prop := ∃ m : Nat, m ≤ 40 ∧ T b 3 = m ∧ R (17 + r) = m ∧ okQ (T (b + 1)) ∧ ∀ i, i < m → RLx N T b R r i
def SRo (N : Int) (T : Nat → Nat → Int) (a : Nat) (R : Nat → Int) (sz nb dl : Nat) : Prop := SH T a R sz nb dl ∧ SP T a R sz dl ∧ RL N T (a + 221) R 0 ∧ RL N T (a + 264) R 1
def SR (N : Int) (T : Nat → Nat → Int) (a : Nat) (R : Nat → Int) : Prop := ∃ sz nb, SRo N T a R sz nb 0
theorem RL_congr {N N' : Int} {T T' : Nat → Nat → Int} {b : Nat} {R R' : Nat → Int} {r : Nat} (hN : N ≤ N') (hT : ∀ c, b ≤ c → c < b + 43 → T' c = T c) (hR : ∀ k, k = 17 + r ∨ (1235 + r * 440 ≤ k ∧ k < 1235 + r * 440 + 440) → R' k = R k) (h : RL N T b R r) : RL N' T' b R' r := by
  obtain ⟨m, m1, m2, m3, m4, m5⟩ := h
  refine ⟨m, m1, by rw [hT _ (by omega) (by omega), m2], by rw [hR _ (Or.inl rfl), m3], by rw [hT _ (by omega) (by omega)]; exact m4, fun i hi => ?_⟩
  obtain ⟨x1, x2, x3, x4, x5⟩ := m5 i hi
  obtain ⟨q1, q2⟩ := m4.1 i (by omega)
  have e : ∀ k, k < 11 → R' (1235 + (r * 40 + i) * 11 + k) = R (1235 + (r * 40 + i) * 11 + k) := fun k hk => hR _ (Or.inr (by omega))
  have e0 := e 0 (by omega)
  simp only [Nat.add_zero] at e0
  refine ⟨fun k hk => ?_, ?_, ?_, ?_, ?_⟩
  · rw [hT (b + 1) (by omega) (by omega), hT _ (by omega) (by omega), e k (by omega)]
    exact x1 k hk
  · rw [hT (b + 2) (by omega) (by omega), e 10 (by omega)]
    exact x2
  · rw [e 10 (by omega)]
    exact x3
  · rw [e0]
    exact x4
  · rw [e0]
    omega
theorem SR_congr {N N' : Int} {T T' : Nat → Nat → Int} {a : Nat} {R : Nat → Int} {sz nb dl : Nat} (hN : N ≤ N') (hT : ∀ c, a ≤ c → c < a + 307 → T' c = T c) (h : SRo N T a R sz nb dl) : SRo N' T' a R sz nb dl := by
  obtain ⟨h1, h2, h3, h4⟩ := h
  refine ⟨?_, ?_, RL_congr hN (fun c c1 c2 => hT c (by omega) (by omega)) (fun _ _ => rfl) h3, RL_congr hN (fun c c1 c2 => hT c (by omega) (by omega)) (fun _ _ => rfl) h4⟩
  · unfold SH at *
    rw [hT a (by omega) (by omega), hT (a + 1) (by omega) (by omega), hT (a + 2) (by omega) (by omega)]
    exact h1
  · obtain ⟨x1, x2, x3⟩ := h2
    refine ⟨by rw [hT (a + 3) (by omega) (by omega)]; exact x1, fun i hi => ⟨?_, (x2 i hi).2⟩, x3⟩
    have hp := (x2 i hi).1
    unfold SPx sAd at *
    rw [hT (a + 3) (by omega) (by omega)]
    rcases Nat.lt_or_ge (i + dl) 72 with hi2 | hi2
    · obtain ⟨q1, q2⟩ := x1.1 (i + dl) hi2
      rw [hT _ (by omega) (by omega), hT (_ + 1) (by omega) (by omega), hT (_ + 2) (by omega) (by omega)]
      exact hp
    · have := h1.2.2.1
      omega
