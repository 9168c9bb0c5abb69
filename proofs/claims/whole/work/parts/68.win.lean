/-! WINDOWS: the class's against the reference's -/
theorem uTo_lo {X : Nat → Int} {t : Int} : ∀ (j k i : Nat), k ≤ i → i < uTo X t j k → X i ≤ t
  | 0, k, i, h1, h2 => by rw [uTo] at h2; omega
  | j + 1, k, i, h1, h2 => by
    rw [uTo] at h2
    by_cases z : X k ≤ t
    · rw [if_pos z] at h2
      by_cases q : i = k
      · rw [q]; exact z
      · exact uTo_lo j (k + 1) i (by omega) h2
    · rw [if_neg z] at h2
      omega
theorem uTo_hi {X : Nat → Int} {t : Int} : ∀ (j k : Nat), uTo X t j k < k + j → t < X (uTo X t j k)
  | 0, k, h => by rw [uTo] at h; omega
  | j + 1, k, h => by
    rw [uTo] at h ⊢
    by_cases z : X k ≤ t
    · rw [if_pos z] at h ⊢
      exact uTo_hi j (k + 1) (by omega)
    · rw [if_neg z]
      omega
theorem asc_le {X : Nat → Int} {n : Nat} (h : ∀ i, i + 1 < n → X i < X (i + 1)) : ∀ (d i : Nat), i + d < n → X i ≤ X (i + d)
  | 0, i, _ => Int.le_refl _
  | d + 1, i, hd => by
    have h1 := asc_le h d i (by omega)
    have h2 := h (i + d) (by omega)
    rw [← Nat.add_assoc]
    omega
theorem uTo_hi' {X : Nat → Int} {t : Int} {n i : Nat} (h : ∀ i, i + 1 < n → X i < X (i + 1)) (h1 : uTo X t n 0 ≤ i) (h2 : i < n) : t < X i := by
  have h3 := uTo_hi (X := X) (t := t) n 0 (by omega)
  have h4 := asc_le h (i - uTo X t n 0) (uTo X t n 0) (by omega)
  rw [show uTo X t n 0 + (i - uTo X t n 0) = i by omega] at h4
  omega
theorem uTo_mono {X : Nat → Int} {a b : Int} {n : Nat} (h : ∀ i, i + 1 < n → X i < X (i + 1)) (hab : a ≤ b) : uTo X a n 0 ≤ uTo X b n 0 := by
  rcases Nat.lt_or_ge (uTo X b n 0) (uTo X a n 0) with q | q
  · have h1 := (uTo_le X a n 0).2
    have h2 := uTo_lo (X := X) (t := a) n 0 (uTo X b n 0) (by omega) q
    have h3 := uTo_hi' h (Nat.le_refl _) (show uTo X b n 0 < n by omega)
    omega
  · exact q
theorem cwin_mwin {T : Nat → Nat → Int} {R F G : Nat → Int} {P : Nat → Nat} {a b : Int} {sz f t : Nat} (hS : ∀ i, i < sz → SPx T (P i) R i) (hA : ∀ i, i + 1 < sz → R (19 + i * 19) < R (19 + (i + 1) * 19)) (hab : a ≤ b) (hf : f = uTo (fun i => R (19 + i * 19)) a sz 0) (ht : t = uTo (fun i => R (19 + i * 19)) b sz 0) (hFG : mEq F G) : mEq (cwin T P F f (t - f)) (mwin R a b G sz) := by
  have hl1 := (uTo_le (fun i => R (19 + i * 19)) a sz 0).2
  have hl2 := (uTo_le (fun i => R (19 + i * 19)) b sz 0).2
  have hft : f ≤ t := by rw [hf, ht]; exact uTo_mono hA hab
  rw [← hf] at hl1
  rw [← ht] at hl2
  have s1 : ∀ k, k ≤ f → mwin R a b G k = G := by
    intro k
    induction k with
    | zero => exact fun _ => rfl
    | succ k ih =>
      intro hk
      have := uTo_lo (X := fun i => R (19 + i * 19)) (t := a) sz 0 k (by omega) (by omega)
      rw [mwin, if_neg (by omega), ih (by omega)]
  have s2 : ∀ j, f + j ≤ t → mEq (cwin T P F f j) (mwin R a b G (f + j)) := by
    intro j
    induction j with
    | zero => intro _; rw [Nat.add_zero, s1 f (Nat.le_refl _)]; exact hFG
    | succ j ih =>
      intro hj
      have q1 := uTo_lo (X := fun i => R (19 + i * 19)) (t := b) sz 0 (f + j) (by omega) (by omega)
      have q2 := uTo_hi' (X := fun i => R (19 + i * 19)) (t := a) (n := sz) (i := f + j) hA (by omega) (by omega)
      rw [cwin, ← Nat.add_assoc, mwin, if_pos ⟨q2, q1⟩]
      exact mEq_of (jnP_jnS (hS (f + j) (by omega)) (ih (by omega)))
  have s3 : ∀ d, t + d ≤ sz → mwin R a b G (t + d) = mwin R a b G t := by
    intro d
    induction d with
    | zero => exact fun _ => rfl
    | succ d ih =>
      intro hd
      have q2 := uTo_hi' (X := fun i => R (19 + i * 19)) (t := b) (n := sz) (i := t + d) hA (by omega) (by omega)
      rw [← Nat.add_assoc, mwin, if_neg (by omega), ih (by omega)]
  have := s2 (t - f) (by omega)
  rw [show f + (t - f) = t by omega, ← s3 (sz - t) (by omega), show t + (sz - t) = sz by omega] at this
  exact this
theorem crol_mrol {N : Int} {T : Nat → Nat → Int} {R F G : Nat → Int} {b r m : Nat} {w x y : Int} (hL : ∀ i, i < m → RLx N T b R r i) (hFG : mEq F G) : ∀ k, k ≤ m → mEq (crol T b w x y F k) (mrol R r w x y G k) := by
  intro k
  induction k with
  | zero => exact fun _ => hFG
  | succ k ih =>
    intro hk
    obtain ⟨q1, q2, -⟩ := hL k (by omega)
    rw [crol, mrol, q2]
    split
    · unfold jnR
      have e0 := q1 0 (by omega)
      simp only [Nat.add_zero] at e0
      rw [e0, q1 1 (by omega), q1 2 (by omega), q1 3 (by omega), q1 4 (by omega), q1 5 (by omega), q1 6 (by omega), q1 7 (by omega), q1 8 (by omega), q1 9 (by omega)]
      exact jn_mEq (ih (by omega))
    · exact ih (by omega)
theorem msr_mEq {F G : Nat → Int} (h : mEq F G) {w : Nat} (hw : w < 10) : msr F w = msr G w := by
  obtain ⟨h0, h1, h2, h3, h4, h7, h5⟩ := h
  unfold msr
  rw [← h0]
  rcases (show w = 0 ∨ w = 1 ∨ w = 2 ∨ w = 3 ∨ w = 4 ∨ w = 5 ∨ w = 6 ∨ w = 7 ∨ w = 8 ∨ w = 9 by omega) with rfl | rfl | rfl | rfl | rfl | rfl | rfl | rfl | rfl | rfl
  · rw [if_neg (by omega), if_neg (by omega), h0]
  · rw [if_neg (by omega), if_neg (by omega), h1]
  · rw [if_neg (by omega), if_neg (by omega), h2]
  · rw [if_neg (by omega), if_neg (by omega), h3]
  · rw [if_neg (by omega), if_neg (by omega), h4]
  · rcases h5 with h5 | h5
    · rw [if_pos ⟨by omega, h5⟩, if_pos ⟨by omega, h5⟩]
    · rw [h5.1]
  · rcases h5 with h5 | h5
    · rw [if_pos ⟨by omega, h5⟩, if_pos ⟨by omega, h5⟩]
    · rw [h5.2.1]
  · rw [if_neg (by omega), if_neg (by omega), h7]
  · rcases h5 with h5 | h5
    · rw [if_pos ⟨by omega, h5⟩, if_pos ⟨by omega, h5⟩]
    · rw [h5.2.2.1]
  · rcases h5 with h5 | h5
    · rw [if_pos ⟨by omega, h5⟩, if_pos ⟨by omega, h5⟩]
    · rw [h5.2.2.2]
/-- how many samples are put together -/
theorem cwin_0 {T : Nat → Nat → Int} {P : Nat → Nat} {F : Nat → Int} {f : Nat} (h0 : F 0 = 0) : ∀ j, cwin T P F f j 0 = j
  | 0 => h0
  | j + 1 => by
    rw [cwin, jnP, (jn_k).1, cwin_0 h0 j]
    omega
theorem crol_0 {N : Int} {T : Nat → Nat → Int} {R F : Nat → Int} {b r m : Nat} {w x y : Int} (hN : 0 ≤ N) (hL : ∀ i, i < m → RLx N T b R r i) (h0 : F 0 = 0) : ∀ k : Nat, k ≤ m → 0 ≤ crol T b w x y F k 0 ∧ crol T b w x y F k 0 ≤ N * k := by
  intro k
  induction k with
  | zero => intro _; rw [crol, h0]; omega
  | succ k ih =>
    intro hk
    obtain ⟨q1, q2, q3, q4, q5⟩ := hL k (by omega)
    have e0 := q1 0 (by omega)
    simp only [Nat.add_zero] at e0
    have := ih (by omega)
    have e : N * ((k + 1 : Nat) : Int) = N * k + N := by rw [Int.natCast_add, Int.mul_add]; simp
    rw [crol, e]
    split
    · rw [(jn_k).1, e0]
      omega
    · omega
