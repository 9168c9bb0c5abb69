/-! ADDING A SAMPLE: class and reference -/
theorem SRo_pre {N : Int} {T : Nat → Nat → Int} {a nb : Nat} {R : Nat → Int} (h : SRo N T a R 64 nb 0) : SRo N T a (drop1 R 56) 56 nb 8 := by
  obtain ⟨⟨⟨b1, b2, b3⟩, ⟨b4, b5, b6, b7⟩, ⟨b8, b9, b10, b11, b12⟩, b13, b14, b15, b16⟩, ⟨p1, p2, p3⟩, h3, h4⟩ := h
  have hd : ∀ k, k < 19 → k ≠ 2 → drop1 R 56 k = R k := fun k hk h2 => drop1_hd hk h2
  have hs : ∀ i f, i < 56 → f < 19 → drop1 R 56 (19 + i * 19 + f) = R (19 + (i + 8) * 19 + f) := fun i f hi hf => drop1_s hi hf
  have hs0 : ∀ i, i < 56 → drop1 R 56 (19 + i * 19) = R (19 + (i + 8) * 19) := fun i hi => by have := hs i 0 hi (by omega); simp only [Nat.add_zero] at this; exact this
  refine ⟨⟨⟨by rw [hd 0 (by omega) (by omega)]; exact b1, by rw [hd 0 (by omega) (by omega)]; exact b2, by rw [hd 0 (by omega) (by omega)]; exact b3⟩, ⟨b4, by rw [hd 1 (by omega) (by omega)]; exact b5, b6, by rw [hd 0 (by omega) (by omega)]; exact b7⟩, ⟨b8, drop1_2, by omega, by omega, by rw [hd 3 (by omega) (by omega)]; exact b12⟩, fun k hk => by rw [hd (4 + k) (by omega) (by omega)]; exact b13 k hk, fun k hk => by rw [hd (4 + k) (by omega) (by omega), hd (4 + (k + 1)) (by omega) (by omega)]; exact b14 k hk, fun k hk => by rw [hd (10 + k) (by omega) (by omega)]; exact b15 k hk, ?_⟩, ⟨p1, fun i hi => ?_, fun i hi => ?_⟩, ?_, ?_⟩
  · have e : ∀ n, n ≤ 7 → sumZ' (fun k => drop1 R 56 (10 + k)) n = sumZ' (fun k => R (10 + k)) n := by
      intro n
      induction n with
      | zero => exact fun _ => rfl
      | succ n ih => exact fun hn => by rw [sumZ', sumZ', ih (by omega), hd (10 + n) (by omega) (by omega)]
    rw [e 7 (by omega)]
    exact b16
  · obtain ⟨q1, q2⟩ := p2 (i + 8) (by omega)
    have e5 : ∀ k, k < 7 → drop1 R 56 (19 + i * 19 + 5 + k) = R (19 + (i + 8) * 19 + 5 + k) := fun k hk => by rw [Nat.add_assoc, hs i (5 + k) hi (by omega), ← Nat.add_assoc]
    have e12 : ∀ k, k < 7 → drop1 R 56 (19 + i * 19 + 12 + k) = R (19 + (i + 8) * 19 + 12 + k) := fun k hk => by rw [Nat.add_assoc, hs i (12 + k) hi (by omega), ← Nat.add_assoc]
    constructor
    · unfold SPx at *
      rw [hs0 i hi, hs i 1 hi (by omega), hs i 2 hi (by omega), hs i 3 hi (by omega), hs i 4 hi (by omega)]
      exact ⟨q1.1, q1.2.1, q1.2.2.1, q1.2.2.2.1, q1.2.2.2.2.1, fun k hk => by rw [e5 k hk, e12 k hk]; exact q1.2.2.2.2.2 k hk⟩
    · unfold RSx at *
      rw [hs0 i hi, hs i 1 hi (by omega), hs i 2 hi (by omega), hs i 4 hi (by omega), hs i 3 hi (by omega)]
      exact ⟨q2.1, q2.2.1, q2.2.2.1, q2.2.2.2.1, fun k hk => by rw [e5 k hk, e12 k hk]; exact q2.2.2.2.2 k hk⟩
  · rw [hs0 i (by omega), hs0 (i + 1) (by omega)]
    have := p3 (i + 8) (by omega)
    rw [show i + 1 + 8 = i + 8 + 1 by omega]
    exact this
  · exact RL_congr (Int.le_refl _) (fun _ _ _ => rfl) (fun k hk => by rcases hk with rfl | hk; exact hd _ (by omega) (by omega); exact drop1_r (by omega) (by omega)) h3
  · exact RL_congr (Int.le_refl _) (fun _ _ _ => rfl) (fun k hk => by rcases hk with rfl | hk; exact hd _ (by omega) (by omega); exact drop1_r (by omega) (by omega)) h4
/-- positions moved down: the relation to the row without its first blocks -/
theorem SRo_drop {N : Int} {T T2 : Nat → Nat → Int} {a sz nb dl j D : Nat} {R : Nat → Int} (h : SRo N T a R sz nb dl) (hD : D = 8 * j + dl) (hj : 8 * j ≤ sz) (h3 : okA (T2 (a + 3))) (hA : ∀ i, i < sz - 8 * j → T2 (a + 3) i = T (a + 3) (i + D)) (h0 : ∀ k, k ≠ 6 → k ≠ 7 → T2 a k = T a k) (h6 : T2 a 6 = ((sz - 8 * j : Nat) : Int)) (h7 : T2 a 7 = T a 7 + D) (hc : ∀ c, c ≠ a → c ≠ a + 3 → T2 c = T c) : SRo N T2 a (dropN R sz j) (sz - 8 * j) nb 0 := by
  obtain ⟨⟨⟨b1, b2, b3⟩, ⟨b4, b5, b6, b7⟩, ⟨b8, b9, b10, b11, b12⟩, b13, b14, b15, b16⟩, ⟨p1, p2, p3⟩, g3, g4⟩ := h
  have hd : ∀ k, k < 19 → k ≠ 2 → dropN R sz j k = R k := fun k hk h2 => dropN_hd hk h2 j
  have hs : ∀ i f, i + 8 * j < sz → f < 19 → dropN R sz j (19 + i * 19 + f) = R (19 + (i + 8 * j) * 19 + f) := fun i f hi hf => dropN_s j hi hf
  have hs0 : ∀ i, i + 8 * j < sz → dropN R sz j (19 + i * 19) = R (19 + (i + 8 * j) * 19) := fun i hi => by have := hs i 0 hi (by omega); simp only [Nat.add_zero] at this; exact this
  refine ⟨⟨⟨by rw [hd 0 (by omega) (by omega), h0 4 (by omega) (by omega)]; exact b1, by rw [hd 0 (by omega) (by omega)]; exact b2, by rw [hd 0 (by omega) (by omega)]; exact b3⟩, ⟨by rw [h0 5 (by omega) (by omega)]; exact b4, by rw [hd 1 (by omega) (by omega)]; exact b5, b6, by rw [hd 0 (by omega) (by omega)]; exact b7⟩, ⟨by rw [Nat.add_zero]; exact h6, dropN_2 j b9, by omega, by omega, by rw [hd 3 (by omega) (by omega), h7, ← b12]; omega⟩, fun k hk => by rw [hd (4 + k) (by omega) (by omega), hc (a + 1) (by omega) (by omega)]; exact b13 k hk, fun k hk => by rw [hd (4 + k) (by omega) (by omega), hd (4 + (k + 1)) (by omega) (by omega)]; exact b14 k hk, fun k hk => by rw [hd (10 + k) (by omega) (by omega), hc (a + 2) (by omega) (by omega)]; exact b15 k hk, ?_⟩, ⟨h3, fun i hi => ?_, fun i hi => ?_⟩, ?_, ?_⟩
  · have e : ∀ n, n ≤ 7 → sumZ' (fun k => dropN R sz j (10 + k)) n = sumZ' (fun k => R (10 + k)) n := by
      intro n
      induction n with
      | zero => exact fun _ => rfl
      | succ n ih => exact fun hn => by rw [sumZ', sumZ', ih (by omega), hd (10 + n) (by omega) (by omega)]
    rw [e 7 (by omega)]
    exact b16
  · obtain ⟨q1, q2⟩ := p2 (i + 8 * j) (by omega)
    have es : sAd T2 a (i + 0) = sAd T a (i + 8 * j + dl) := by
      unfold sAd
      rw [show i + 0 = i from rfl, hA i hi, hD, Nat.add_assoc i]
    have hin := sAd_in (i := i + 8 * j + dl) p1 (by omega)
    rw [es]
    have e5 : ∀ k, k < 7 → dropN R sz j (19 + i * 19 + 5 + k) = R (19 + (i + 8 * j) * 19 + 5 + k) := fun k hk => by rw [Nat.add_assoc, hs i (5 + k) (by omega) (by omega), ← Nat.add_assoc]
    have e12 : ∀ k, k < 7 → dropN R sz j (19 + i * 19 + 12 + k) = R (19 + (i + 8 * j) * 19 + 12 + k) := fun k hk => by rw [Nat.add_assoc, hs i (12 + k) (by omega) (by omega), ← Nat.add_assoc]
    constructor
    · unfold SPx at *
      rw [hs0 i (by omega), hs i 1 (by omega) (by omega), hs i 2 (by omega) (by omega), hs i 3 (by omega) (by omega), hs i 4 (by omega) (by omega), hc _ (by omega) (by omega), hc (_ + 1) (by omega) (by omega), hc (_ + 2) (by omega) (by omega)]
      exact ⟨q1.1, q1.2.1, q1.2.2.1, q1.2.2.2.1, q1.2.2.2.2.1, fun k hk => by rw [e5 k hk, e12 k hk]; exact q1.2.2.2.2.2 k hk⟩
    · unfold RSx at *
      rw [hs0 i (by omega), hs i 1 (by omega) (by omega), hs i 2 (by omega) (by omega), hs i 4 (by omega) (by omega), hs i 3 (by omega) (by omega)]
      exact ⟨q2.1, q2.2.1, q2.2.2.1, q2.2.2.2.1, fun k hk => by rw [e5 k hk, e12 k hk]; exact q2.2.2.2.2 k hk⟩
  · rw [hs0 i (by omega), hs0 (i + 1) (by omega)]
    have := p3 (i + 8 * j) (by omega)
    rw [show i + 1 + 8 * j = i + 8 * j + 1 by omega]
    exact this
  · exact RL_congr (Int.le_refl _) (fun c c1 c2 => hc c (by omega) (by omega)) (fun k hk => by rcases hk with rfl | hk; exact hd _ (by omega) (by omega); exact dropN_r (by omega) j (by omega)) g3
  · exact RL_congr (Int.le_refl _) (fun c c1 c2 => hc c (by omega) (by omega)) (fun k hk => by rcases hk with rfl | hk; exact hd _ (by omega) (by omega); exact dropN_r (by omega) j (by omega)) g4
set_option maxRecDepth 16384 in
set_option maxHeartbeats 1000000 in
theorem q_dropS {h0 : am_H} {N : Int} {T : Nat → Nat → Int} {n a sz nb dl ret : Nat} {R : Nat → Int} (ha : isB a) (h : SRo N T a R sz nb dl) (hdl : dl = 0 ∨ (dl = 8 ∧ sz = 57)) (hr : 1 ≤ ret ∧ ret ≤ 8) :
    ∃ T2, (∀ d K, am_CL (d + 2) m_Series_dropBeyond [.ref a, .int (iz ret)] (lay T h0) n K = K none (lay T2 h0) n) ∧ SRo N T2 a (dropN R sz ((sz + 7) / 8 - ret)) (sz - 8 * ((sz + 7) / 8 - ret)) nb 0 ∧ ∀ c, c < a ∨ a + 307 ≤ c → T2 c = T c := by
  have h' := h
  obtain ⟨⟨-, -, ⟨b8, b9, b10, b11, b12⟩, -⟩, ⟨p1, p2, p3⟩, -⟩ := h
  have hz : sz + dl ≤ 65 := b10
  by_cases z : ret < (sz + dl + 7) / 8
  · refine ⟨_, fun d K => q_dropBeyond (d := d) (K := K) (h0 := h0) (T := T) (n := n) ha b8 hz p1 hr z, SRo_drop h' (D := 8 * ((sz + dl + 7) / 8 - ret)) (by omega) (by omega) ?_ (fun i hi => ?_) (fun k k1 k2 => ?_) ?_ ?_ (fun c c1 c2 => ?_), fun c hc => ?_⟩
    · rw [uT_ne (by omega), uT_eq]
      exact okA_sw p1 _ (by omega)
    · rw [uT_ne (by omega), uT_eq]
      exact sw_lo (by omega) _ _ (by omega)
    · rw [uT_eq, zup_ne k2, zup_ne k1]
    · rw [uT_eq, zup_ne (by decide), zup_eq]
      omega
    · rw [uT_eq, zup_eq]
    · rw [uT_ne c1, uT_ne c2]
    · rw [uT_ne (by omega), uT_ne (by omega)]
  · have hd0 : dl = 0 := by omega
    subst hd0
    have hj : (sz + 7) / 8 - ret = 0 := by omega
    refine ⟨T, fun d K => q_dropBeyond0 (d := d) (K := K) (h0 := h0) (T := T) (n := n) ha b8 hz hr z, ?_, fun _ _ => rfl⟩
    rw [hj]
    exact h'
/-- where a new sample goes in a row -/
def addI (R : Nat → Int) : Nat := if R 2 = 64 then 56 else (R 2).toNat
def addP (R : Nat → Int) : Nat → Int := if R 2 = 64 then drop1 R 56 else R
def addB (R : Nat → Int) (g t v : Int) : Nat → Int := rollR (rollR (addR1 (addP R) (addI R) g t v) 0 (addI R) 10) 1 (addI R) 60
/-- a row with a sample added -/
def addRow (R : Nat → Int) (g : Int) (ret : Nat) (t v : Int) : Nat → Int := dropN (addB R g t v) (addI R + 1) ((addI R + 1 + 7) / 8 - ret)
theorem RL_rng {N : Int} {T : Nat → Nat → Int} {b r : Nat} {R : Nat → Int} (h : RL N T b R r) : 0 ≤ R (17 + r) ∧ R (17 + r) ≤ 40 := by
  obtain ⟨m, m1, m2, m3, m4, m5⟩ := h
  rw [m3]
  omega
theorem SRo_row {T : Nat → Nat → Int} {a sz nb dl : Nat} {R R' : Nat → Int} (hR : ∀ k, k < 1235 → k ≠ 17 → k ≠ 18 → R' k = R k) (h1 : SH T a R sz nb dl) (h2 : SP T a R sz dl) : SH T a R' sz nb dl ∧ SP T a R' sz dl := by
  obtain ⟨⟨b1, b2, b3⟩, ⟨b4, b5, b6, b7⟩, ⟨b8, b9, b10, b11, b12⟩, b13, b14, b15, b16⟩ := h1
  obtain ⟨p1, p2, p3⟩ := h2
  refine ⟨⟨⟨by rw [hR 0 (by omega) (by omega) (by omega)]; exact b1, by rw [hR 0 (by omega) (by omega) (by omega)]; exact b2, by rw [hR 0 (by omega) (by omega) (by omega)]; exact b3⟩, ⟨b4, by rw [hR 1 (by omega) (by omega) (by omega)]; exact b5, b6, by rw [hR 0 (by omega) (by omega) (by omega)]; exact b7⟩, ⟨b8, by rw [hR 2 (by omega) (by omega) (by omega)]; exact b9, b10, b11, by rw [hR 3 (by omega) (by omega) (by omega)]; exact b12⟩, fun k hk => by rw [hR (4 + k) (by omega) (by omega) (by omega)]; exact b13 k hk, fun k hk => by rw [hR (4 + k) (by omega) (by omega) (by omega), hR (4 + (k + 1)) (by omega) (by omega) (by omega)]; exact b14 k hk, fun k hk => by rw [hR (10 + k) (by omega) (by omega) (by omega)]; exact b15 k hk, ?_⟩, ⟨p1, fun i hi => ?_, fun i hi => ?_⟩⟩
  · have e : ∀ n, n ≤ 7 → sumZ' (fun k => R' (10 + k)) n = sumZ' (fun k => R (10 + k)) n := by
      intro n
      induction n with
      | zero => exact fun _ => rfl
      | succ n ih => exact fun hn => by rw [sumZ', sumZ', ih (by omega), hR (10 + n) (by omega) (by omega) (by omega)]
    rw [e 7 (by omega)]
    exact b16
  · obtain ⟨q1, q2⟩ := p2 i hi
    have er : ∀ k, 19 + i * 19 ≤ k → k < 19 + i * 19 + 19 → R' k = R k := fun k k1 k2 => hR k (by omega) (by omega) (by omega)
    constructor
    · unfold SPx at *
      rw [er _ (by omega) (by omega), er (_ + 1) (by omega) (by omega), er (_ + 2) (by omega) (by omega), er (_ + 3) (by omega) (by omega), er (_ + 4) (by omega) (by omega)]
      exact ⟨q1.1, q1.2.1, q1.2.2.1, q1.2.2.2.1, q1.2.2.2.2.1, fun k hk => by rw [er _ (by omega) (by omega), er (_ + 12 + k) (by omega) (by omega)]; exact q1.2.2.2.2.2 k hk⟩
    · unfold RSx at *
      rw [er _ (by omega) (by omega), er (_ + 1) (by omega) (by omega), er (_ + 2) (by omega) (by omega), er (_ + 4) (by omega) (by omega), er (_ + 3) (by omega) (by omega)]
      exact ⟨q2.1, q2.2.1, q2.2.2.1, q2.2.2.2.1, fun k hk => by rw [er (_ + 5 + k) (by omega) (by omega), er (_ + 12 + k) (by omega) (by omega)]; exact q2.2.2.2.2 k hk⟩
  · rw [hR _ (by omega) (by omega) (by omega), hR (19 + (i + 1) * 19) (by omega) (by omega) (by omega)]
    exact p3 i hi
set_option maxRecDepth 16384 in
set_option maxHeartbeats 1000000 in
theorem q_addSample {h0 : am_H} {N : Int} {T : Nat → Nat → Int} {n a ret : Nat} {R : Nat → Int} {g t v : Int} (ha : isB a) (hN : 0 ≤ N ∧ N ≤ 4000000000) (h : SR N T a R) (hkd : 0 ≤ R 0) (hg : 1 ≤ g ∧ g ≤ 9999) (ht : 1 ≤ t ∧ t ≤ 999999) (hv : -2147483648 ≤ v ∧ v ≤ 2147483647) (hl : lastT R < t) (hr : 1 ≤ ret ∧ ret ≤ 8) :
    ∃ T2, (∀ d K, am_CL (d + 4) m_Series_addSample [.ref a, .int (iz t), .int (iz v), .int (iz g), .int (iz ret)] (lay T h0) n K = K none (lay T2 h0) n) ∧ SR (N + 1) T2 a (addRow R g ret t v) ∧ T2 a 6 = addRow R g ret t v 2 ∧ ∀ c, c < a ∨ a + 307 ≤ c → T2 c = T c := by
  obtain ⟨sz0, nb, h⟩ := h
  have e2 : R 2 = sz0 := h.1.2.2.1.2.1
  have hz0 : sz0 ≤ 64 := h.1.2.2.1.2.2.2.1
  -- the row and the offset to begin with
  obtain ⟨sz, dl, hP, hsz, hdl, hi⟩ : ∃ sz dl, SRo N T a (addP R) sz nb dl ∧ sz < 64 ∧ (dl = 0 ∨ (dl = 8 ∧ sz = 56)) ∧ sz = addI R := by
    unfold addP addI
    rw [e2]
    by_cases z : sz0 = 64
    · subst z
      rw [if_pos (show ((64 : Nat) : Int) = 64 from rfl), if_pos (show ((64 : Nat) : Int) = 64 from rfl)]
      exact ⟨56, 8, SRo_pre h, by omega, Or.inr ⟨rfl, rfl⟩, rfl⟩
    · rw [if_neg (by omega), if_neg (by omega)]
      exact ⟨sz0, 0, h, by omega, Or.inl rfl, by omega⟩
  have hlast : 0 < sz → addP R (19 + (sz - 1) * 19) < t := by
    intro hs
    by_cases z : sz0 = 64
    · have e64 : R 2 = 64 := by rw [e2, z]; rfl
      have ei : sz = 56 := by rw [hi]; unfold addI; rw [if_pos e64]
      have el : lastT R = R (19 + 63 * 19) := by unfold lastT; rw [e64]; rfl
      have := drop1_s (R := R) (m := 56) (i := 55) (f := 0) (by omega) (by omega)
      simp only [Nat.add_zero] at this
      unfold addP
      rw [if_pos e64, ei, this, ← el]
      exact hl
    · have e64 : ¬ R 2 = 64 := by omega
      have ei : sz = sz0 := by rw [hi]; unfold addI; rw [if_neg e64]; omega
      have el : lastT R = R (19 + (sz0 - 1) * 19) := by
        unfold lastT
        rw [if_neg (by omega), e2, Int.toNat_natCast]
      unfold addP
      rw [if_neg e64, ei, ← el]
      exact hl
  have hk0 : 0 ≤ addP R 0 := by
    unfold addP
    split
    · rw [drop1_hd (by omega) (by omega)]; exact hkd
    · exact hkd
  have hpr : ∀ k, k < 7 → addP R (10 + k) ≤ 999999 := by
    have h15 := hP.1.2.2.2.2.2.1
    have h16 := hP.1.2.2.2.2.2.2
    simp only [sumZ'] at h16
    intro k hk
    have g0 := (h15 0 (by omega)).2
    have g1 := (h15 1 (by omega)).2
    have g2 := (h15 2 (by omega)).2
    have g3 := (h15 3 (by omega)).2
    have g4 := (h15 4 (by omega)).2
    have g5 := (h15 5 (by omega)).2
    have g6 := (h15 6 (by omega)).2
    rcases (show k = 0 ∨ k = 1 ∨ k = 2 ∨ k = 3 ∨ k = 4 ∨ k = 5 ∨ k = 6 by omega) with rfl | rfl | rfl | rfl | rfl | rfl | rfl <;> omega
  obtain ⟨T1, run1, h1, f1, x1⟩ := q_push (h0 := h0) (n := n) (ret := ret) ha hP hsz (by omega) (by omega) hk0 hg ht hv hlast hpr
  obtain ⟨s1, s2, s3, s4⟩ := h1
  have g1 := isB_le ha
  have r0 := isR_of ha (show 0 < 2 by omega)
  have r1 := isR_of ha (show 1 < 2 by omega)
  simp only [Nat.mul_zero, Nat.add_zero, Nat.mul_one, if_true, show ¬ (1 : Nat) = 0 by decide, if_false] at r0 r1
  rw [show a + 221 + 43 = a + 264 from rfl] at r1
  have hpos := s2.1.1 (sz + dl) (by omega)
  have hin := sAd_in (i := sz + dl) s2.1 (by omega)
  have hX := isP_of ha (i := (T1 (a + 3) (sz + dl)).toNat) (by omega)
  rw [show a + 5 + 3 * (T1 (a + 3) (sz + dl)).toNat = sAd T1 a (sz + dl) from rfl, x1] at hX
  rw [x1] at hin
  obtain ⟨w1, w2⟩ := s2.2.1 sz (by omega)
  rw [x1] at w1
  generalize hx : sAd T a (sz + dl) = x at run1 hX hin w1
  generalize hA : addR1 (addP R) sz g t v = A at s1 s2 s3 s4 w1 w2
  obtain ⟨T2, run2, h2, f2⟩ := q_roll (h0 := h0) (n := n) (i := sz) r0 (show 0 < 2 by omega) (by omega) hsz hN s3 hX (by omega) w1 w2
  generalize hB : rollR A 0 sz 10 = B at h2
  have eAB : ∀ k, k ≠ 17 → (k < 1235 ∨ 1235 + 440 ≤ k) → B k = A k := fun k k1 k2 => by rw [← hB]; exact rollR_o (RL_rng s3) (by omega) (by omega)
  have w1B : SPx T2 x B sz := by
    unfold SPx at *
    rw [f2 _ (by omega), f2 (x + 1) (by omega), f2 (x + 2) (by omega), eAB _ (by omega) (by omega), eAB (_ + 1) (by omega) (by omega), eAB (_ + 2) (by omega) (by omega), eAB (_ + 3) (by omega) (by omega), eAB (_ + 4) (by omega) (by omega)]
    exact ⟨w1.1, w1.2.1, w1.2.2.1, w1.2.2.2.1, w1.2.2.2.2.1, fun k hk => by rw [eAB _ (by omega) (by omega), eAB (_ + 12 + k) (by omega) (by omega)]; exact w1.2.2.2.2.2 k hk⟩
  have w2B : RSx B sz := by
    unfold RSx at *
    rw [eAB _ (by omega) (by omega), eAB (_ + 1) (by omega) (by omega), eAB (_ + 2) (by omega) (by omega), eAB (_ + 4) (by omega) (by omega), eAB (_ + 3) (by omega) (by omega)]
    exact ⟨w2.1, w2.2.1, w2.2.2.1, w2.2.2.2.1, fun k hk => by rw [eAB (_ + 5 + k) (by omega) (by omega), eAB (_ + 12 + k) (by omega) (by omega)]; exact w2.2.2.2.2 k hk⟩
  have s4B : RL N T2 (a + 264) B 1 := RL_congr (Int.le_refl _) (fun c c1 c2 => f2 c (by omega)) (fun k hk => eAB k (by omega) (by omega)) s4
  obtain ⟨T3, run3, h3, f3⟩ := q_roll (h0 := h0) (n := n) (i := sz) r1 (show 1 < 2 by omega) (by omega) hsz hN s4B hX (by omega) w1B w2B
  generalize hC : rollR B 1 sz 60 = C at h3
  have eBC : ∀ k, k ≠ 18 → k < 1675 → C k = B k := fun k k1 k2 => by rw [← hC]; exact rollR_o (RL_rng s4B) (by omega) (by omega)
  obtain ⟨c1, c2⟩ := SRo_row (R' := C) (fun k k1 k2 k3 => by rw [eBC k k3 (by omega), eAB k k2 (by omega)]) s1 s2
  have hC4 : SRo (N + 1) T3 a C (sz + 1) nb dl := by
    refine ⟨?_, ?_, RL_congr (Int.le_refl _) (fun c c1 c2 => f3 c (by omega)) (fun k hk => eBC k (by omega) (by omega)) h2, h3⟩
    · unfold SH at *
      rw [f3 a (by omega), f3 (a + 1) (by omega), f3 (a + 2) (by omega), f2 a (by omega), f2 (a + 1) (by omega), f2 (a + 2) (by omega)]
      exact c1
    · obtain ⟨q1, q2, q3⟩ := c2
      refine ⟨by rw [f3 _ (by omega), f2 _ (by omega)]; exact q1, fun i hi => ⟨?_, (q2 i hi).2⟩, q3⟩
      have hh := (q2 i hi).1
      have hin2 := sAd_in (i := i + dl) s2.1 (by omega)
      unfold SPx at *
      have es : sAd T3 a (i + dl) = sAd T1 a (i + dl) := by
        unfold sAd
        rw [f3 _ (by omega), f2 _ (by omega)]
      rw [es, f3 _ (by omega), f3 (_ + 1) (by omega), f3 (_ + 2) (by omega), f2 _ (by omega), f2 (_ + 1) (by omega), f2 (_ + 2) (by omega)]
      exact hh
  obtain ⟨T4, run4, h4, f4⟩ := q_dropS (h0 := h0) (n := n) ha hC4 (by omega) hr
  have eRow : addRow R g ret t v = dropN C (sz + 1) ((sz + 1 + 7) / 8 - ret) := by
    unfold addRow addB
    rw [← hi, hA, hB, hC]
  refine ⟨T4, fun d K => ?_, ⟨_, _, by rw [eRow]; exact h4⟩, ?_, fun c hc => by rw [f4 c hc, f3 c (by omega), f2 c (by omega), f1 c hc]⟩
  · rw [e_Series_addSample, run1]
    rw [g_Series_addSample_8]
    simp (maxSteps := 1000000) (disch := omega) only [gd_T, gd_t, gd_a, br_T, br_F, brt, brf, oS_e, iS_e, lS_e, dS_e, qS_e, nS_i, nS_l, nS_d, nS_q, kI_e, kL_e, kD_e, kF_e, kR_e, kInc_e, kLen_e, kIa_e, kLa_e, kDa_e, kQa_e, kIs_e, kZs_e, kBs_e, kLs_e, kDs_e, kQs_e, kCc_e, kC1_e, kGet_e, kGv_i, kGv_l, kGv_d, kGv_r, kGv_n, kPut_e, kPv_i, kPv_l, kPv_d, kPv_r, kPv_n, kQ2_e, kCal_e, kV3_T, kV3_t, kV2_e, kV1_e, kS1_e, kC2_e, z_iload, z_iload_n_0, z_iload_n_1, z_iload_n_2, z_iload_n_3, z_lload, z_lload_n_0, z_lload_n_1, z_lload_n_2, z_lload_n_3, z_dload, z_dload_n_0, z_dload_n_1, z_dload_n_2, z_dload_n_3, z_fload_n_0, z_fload_n_1, z_fload_n_2, z_fload_n_3, z_aload, z_aload_n_0, z_aload_n_1, z_aload_n_2, z_aload_n_3, z_iinc, z_getfield, z_putfield, z_arraylength, z_iaload, z_baload, z_laload, z_daload, z_aaload, z_iastore, z_lastore, z_dastore, z_zastore, z_bastore, z_aastore, z_checkcast, z_ifCond_eq, z_if_icmp_eq, z_ifCond_ne, z_if_icmp_ne, z_ifCond_lt, z_if_icmp_lt, z_ifCond_ge, z_if_icmp_ge, z_ifCond_gt, z_if_icmp_gt, z_ifCond_le, z_if_icmp_le, z_dup, z_dup_x1, z_dup2, z_pop, z_pop2, z_idiv, z_irem, z_ldiv, z_lrem, z_new, z_newarray, z_virt, z_spec, z_obj, z_stat, z_fbits, kC0_t, kC0_T, z_copy, z_tableswitch, z_lookupswitch, am_sW_n, am_sW_c, sbt, sbf, sbT, sbF, am_sL_n, am_sL_c, tbt, tbf, tbT, tbF, am_e_nop, am_e_goto, am_e_aconst_null, am_e_iconst, am_e_bipush, am_e_sipush, am_e_lconst, am_e_dconst, am_e_fconst, am_e_ldc, am_e_ldc_w, am_e_ldc2_w, am_e_getstatic, am_e_istore, am_e_istore_n_0, am_e_istore_n_1, am_e_istore_n_2, am_e_istore_n_3, am_e_lstore, am_e_lstore_n_0, am_e_lstore_n_1, am_e_lstore_n_2, am_e_lstore_n_3, am_e_dstore, am_e_dstore_n_0, am_e_dstore_n_1, am_e_dstore_n_2, am_e_dstore_n_3, am_e_fstore_n_0, am_e_fstore_n_1, am_e_fstore_n_2, am_e_fstore_n_3, am_e_astore, am_e_astore_n_0, am_e_astore_n_1, am_e_astore_n_2, am_e_astore_n_3, am_e_iadd, am_e_isub, am_e_imul, am_e_ineg, am_e_iand, am_e_ior, am_e_ishl, am_e_ishr, am_e_ladd, am_e_lsub, am_e_lmul, am_e_lneg, am_e_lcmp, am_e_i2l, am_e_l2i, am_e_i2b, am_e_i2c, am_e_i2d, am_e_l2d, am_e_l2f, am_e_d2i, am_e_d2l, am_e_dneg, am_e_fneg, am_e_dcmp, am_e_fcmp, am_e_return_, am_e_ireturn, am_e_lreturn, am_e_dreturn, am_e_areturn, am_lg_z, am_lg_s, am_s1_z, am_s1_1, am_s1_s, am_s2_z, am_s2_1, am_s2_s, am_cu_n, am_cu_c, am_I_i, am_L_l, am_D_d, am_F_f, am_R_r, am_R_n, am_ok_0, am_ok_2, am_ok_3, am_ok_4, am_ok_5, am_po_z, am_po_s, am_ps_n, am_ps_s, am_rt_1, am_rt_6, am_rt_7, am_lim_2, am_lim_3, am_lim_7, am_inv_U, am_inv_i, am_inv_r, am_inv_l, am_inv_d, am_b0z, am_qz, am_qs, am_sz, am_ss, am_cat_i, am_cat_r, am_cat_l, am_cat_d, List.length_cons, List.length_nil, Nat.reduceAdd, Nat.reduceLeDiff, Nat.reduceEqDiff, reduceIte, Int.reduceEq, Int.reduceLT, Int.reduceLE, Int.reduceAdd, Int.reduceSub, Int.reduceNeg, Int.reduceMul, Int.reduceToNat, not_false_eq_true, not_true_eq_false, or_true, true_or, false_or, or_false, true_and, and_true, true_implies, false_implies, implies_true, iz_lit, iz_ofInt, iz_ofNat, iz_add, iz_sub, iz_mul, iz_neg, iz_div, am_rf, iz_in, iz_nat, iz_le, iz_lt, iz_eq, iz_toInt64, lz_toInt32, lz_lit, lz_add, lz_sub, lz_mul, lz_neg, am_lc_eq, am_lc_lt, am_lc_gt, am_lc_le, am_lc_ge, am_vup, am_vupq, am_cpz, am_nUn, am_nUi, am_nUl, am_nUd, am_nUr, Int.toNat_natCast, Int.cast_ofNat_Int, Int.toNat_zero, am_vupl, am_vupd, tn_add, tn_mul, tn_sub, uT_eq, uT_ne, uT_upd, uT3, zup_eq, zup_ne, zup_zup, zup3, iz_bz0, iz_bz0n, iz_bz1, rt2_bz, rt2_r, ok1_r, em_n, sl_toL, ok1_bz, bz_o, bz_n, bz_or, Nat.add_zero, Int.add_zero, Int.zero_add, Nat.zero_add, Int.natCast_add, Int.natCast_one, Nat.reduceMul, Nat.reduceSub, am_kq, Classical.not_not, ne_eq, le64_1, le64_2, le64_3, le64_4, le64_5, le64_6, iz_or, eq_self, false_and, and_false, and_self, lz_div, lz_lt, lz_eq, gl_St_0, gl_St_1, gl_St_2, gl_St_3, gl_St_4, gl_St_5, gl_St_6, gl_St_7, gl_St_8, gl_St_9, sl_St_9, gl_St_10, sl_St_10, gl_St_11, sl_St_11, gl_St_12, sl_St_12, gl_St_13, sl_St_13, gl_T_0, gl_T_1, gl_T_2, sl_T_2, gl_T_3, sl_T_3, gl_T_4, sl_T_4, gl_T_5, sl_T_5, gl_F_0, gl_F_1, gl_F_2, gl_F_3, sl_F_3, gl_E_0, gl_E_1, gl_E_2, gl_E_3, gl_E_4, gl_E_5, sl_E_5, gl_E_6, sl_E_6, gl_E_7, sl_E_7, gl_E_8, sl_E_8, gl_E_9, sl_E_9, gl_B_0, sl_B_0, gl_B_1, sl_B_1, gl_B_2, sl_B_2, gl_B_3, sl_B_3, gl_G_0, gl_G_1, gl_G_2, sl_G_2, gl_G_3, sl_G_3, gl_G_4, sl_G_4, gl_G_5, sl_G_5, gl_M_0, sl_M_0, gl_M_1, sl_M_1, gl_M_2, sl_M_2, gl_M_3, sl_M_3, gl_M_4, sl_M_4, gl_M_5, sl_M_5, gl_M_6, sl_M_6, gl_M_7, sl_M_7, gl_M_8, sl_M_8, gl_M_9, sl_M_9, gl_U_0, sl_U_0, gl_U_1, sl_U_1, gl_U_2, sl_U_2, gl_U_3, sl_U_3, gl_U_4, sl_U_4, gl_S_0, gl_S_1, gl_S_2, gl_S_3, gl_S_4, sl_S_4, gl_S_5, sl_S_5, gl_S_6, sl_S_6, gl_S_7, sl_S_7, gl_P_0, gl_P_1, gl_P_2, sl_P_2, gl_P_3, sl_P_3, gl_P_4, sl_P_4, gl_P_5, sl_P_5, gl_P_6, sl_P_6, gl_R_0, gl_R_1, gl_R_2, gl_R_3, sl_R_3, gl_W_0, gl_W_1, sl_W_1, gl_W_2, sl_W_2, lay_64, up_64, lay_65, up_65, lay_66, up_66, lay_67, up_67, lay_68, up_68, lay_69, up_69, lay_70, up_70, lay_71, up_71, lay_72, up_72, lay_73, up_73, lay_74, up_74, lay_75, up_75, lay_76, up_76, lay_77, up_77, lay_78, up_78, lay_79, up_79, lay_80, up_80, lay_81, up_81, lay_82, up_82, lay_83, up_83, lay_84, up_84, lay_85, up_85, lay_86, up_86, lay_87, up_87, lay_88, up_88, lay_89, up_89, lay_90, up_90, lay_91, up_91, lay_92, up_92, lay_93, up_93, lay_step, up_step, lay_W, up_W, lay_We, up_We, i_Series_addSample_8, g_Series_addSample_9, i_Series_addSample_9, lay_S ha, lay_S1 ha, lay_S2 ha, lay_S3' ha, lay_S4' ha, up_S ha, up_S1 ha, up_S2 ha, up_S3' ha, layR r0, layR1 r0, layR2 r0, upR r0, upR1 r0, upR2 r0, run2]
    rw [g_Series_addSample_8]
    simp (maxSteps := 1000000) (disch := omega) only [gd_T, gd_t, gd_a, br_T, br_F, brt, brf, oS_e, iS_e, lS_e, dS_e, qS_e, nS_i, nS_l, nS_d, nS_q, kI_e, kL_e, kD_e, kF_e, kR_e, kInc_e, kLen_e, kIa_e, kLa_e, kDa_e, kQa_e, kIs_e, kZs_e, kBs_e, kLs_e, kDs_e, kQs_e, kCc_e, kC1_e, kGet_e, kGv_i, kGv_l, kGv_d, kGv_r, kGv_n, kPut_e, kPv_i, kPv_l, kPv_d, kPv_r, kPv_n, kQ2_e, kCal_e, kV3_T, kV3_t, kV2_e, kV1_e, kS1_e, kC2_e, z_iload, z_iload_n_0, z_iload_n_1, z_iload_n_2, z_iload_n_3, z_lload, z_lload_n_0, z_lload_n_1, z_lload_n_2, z_lload_n_3, z_dload, z_dload_n_0, z_dload_n_1, z_dload_n_2, z_dload_n_3, z_fload_n_0, z_fload_n_1, z_fload_n_2, z_fload_n_3, z_aload, z_aload_n_0, z_aload_n_1, z_aload_n_2, z_aload_n_3, z_iinc, z_getfield, z_putfield, z_arraylength, z_iaload, z_baload, z_laload, z_daload, z_aaload, z_iastore, z_lastore, z_dastore, z_zastore, z_bastore, z_aastore, z_checkcast, z_ifCond_eq, z_if_icmp_eq, z_ifCond_ne, z_if_icmp_ne, z_ifCond_lt, z_if_icmp_lt, z_ifCond_ge, z_if_icmp_ge, z_ifCond_gt, z_if_icmp_gt, z_ifCond_le, z_if_icmp_le, z_dup, z_dup_x1, z_dup2, z_pop, z_pop2, z_idiv, z_irem, z_ldiv, z_lrem, z_new, z_newarray, z_virt, z_spec, z_obj, z_stat, z_fbits, kC0_t, kC0_T, z_copy, z_tableswitch, z_lookupswitch, am_sW_n, am_sW_c, sbt, sbf, sbT, sbF, am_sL_n, am_sL_c, tbt, tbf, tbT, tbF, am_e_nop, am_e_goto, am_e_aconst_null, am_e_iconst, am_e_bipush, am_e_sipush, am_e_lconst, am_e_dconst, am_e_fconst, am_e_ldc, am_e_ldc_w, am_e_ldc2_w, am_e_getstatic, am_e_istore, am_e_istore_n_0, am_e_istore_n_1, am_e_istore_n_2, am_e_istore_n_3, am_e_lstore, am_e_lstore_n_0, am_e_lstore_n_1, am_e_lstore_n_2, am_e_lstore_n_3, am_e_dstore, am_e_dstore_n_0, am_e_dstore_n_1, am_e_dstore_n_2, am_e_dstore_n_3, am_e_fstore_n_0, am_e_fstore_n_1, am_e_fstore_n_2, am_e_fstore_n_3, am_e_astore, am_e_astore_n_0, am_e_astore_n_1, am_e_astore_n_2, am_e_astore_n_3, am_e_iadd, am_e_isub, am_e_imul, am_e_ineg, am_e_iand, am_e_ior, am_e_ishl, am_e_ishr, am_e_ladd, am_e_lsub, am_e_lmul, am_e_lneg, am_e_lcmp, am_e_i2l, am_e_l2i, am_e_i2b, am_e_i2c, am_e_i2d, am_e_l2d, am_e_l2f, am_e_d2i, am_e_d2l, am_e_dneg, am_e_fneg, am_e_dcmp, am_e_fcmp, am_e_return_, am_e_ireturn, am_e_lreturn, am_e_dreturn, am_e_areturn, am_lg_z, am_lg_s, am_s1_z, am_s1_1, am_s1_s, am_s2_z, am_s2_1, am_s2_s, am_cu_n, am_cu_c, am_I_i, am_L_l, am_D_d, am_F_f, am_R_r, am_R_n, am_ok_0, am_ok_2, am_ok_3, am_ok_4, am_ok_5, am_po_z, am_po_s, am_ps_n, am_ps_s, am_rt_1, am_rt_6, am_rt_7, am_lim_2, am_lim_3, am_lim_7, am_inv_U, am_inv_i, am_inv_r, am_inv_l, am_inv_d, am_b0z, am_qz, am_qs, am_sz, am_ss, am_cat_i, am_cat_r, am_cat_l, am_cat_d, List.length_cons, List.length_nil, Nat.reduceAdd, Nat.reduceLeDiff, Nat.reduceEqDiff, reduceIte, Int.reduceEq, Int.reduceLT, Int.reduceLE, Int.reduceAdd, Int.reduceSub, Int.reduceNeg, Int.reduceMul, Int.reduceToNat, not_false_eq_true, not_true_eq_false, or_true, true_or, false_or, or_false, true_and, and_true, true_implies, false_implies, implies_true, iz_lit, iz_ofInt, iz_ofNat, iz_add, iz_sub, iz_mul, iz_neg, iz_div, am_rf, iz_in, iz_nat, iz_le, iz_lt, iz_eq, iz_toInt64, lz_toInt32, lz_lit, lz_add, lz_sub, lz_mul, lz_neg, am_lc_eq, am_lc_lt, am_lc_gt, am_lc_le, am_lc_ge, am_vup, am_vupq, am_cpz, am_nUn, am_nUi, am_nUl, am_nUd, am_nUr, Int.toNat_natCast, Int.cast_ofNat_Int, Int.toNat_zero, am_vupl, am_vupd, tn_add, tn_mul, tn_sub, uT_eq, uT_ne, uT_upd, uT3, zup_eq, zup_ne, zup_zup, zup3, iz_bz0, iz_bz0n, iz_bz1, rt2_bz, rt2_r, ok1_r, em_n, sl_toL, ok1_bz, bz_o, bz_n, bz_or, Nat.add_zero, Int.add_zero, Int.zero_add, Nat.zero_add, Int.natCast_add, Int.natCast_one, Nat.reduceMul, Nat.reduceSub, am_kq, Classical.not_not, ne_eq, le64_1, le64_2, le64_3, le64_4, le64_5, le64_6, iz_or, eq_self, false_and, and_false, and_self, lz_div, lz_lt, lz_eq, gl_St_0, gl_St_1, gl_St_2, gl_St_3, gl_St_4, gl_St_5, gl_St_6, gl_St_7, gl_St_8, gl_St_9, sl_St_9, gl_St_10, sl_St_10, gl_St_11, sl_St_11, gl_St_12, sl_St_12, gl_St_13, sl_St_13, gl_T_0, gl_T_1, gl_T_2, sl_T_2, gl_T_3, sl_T_3, gl_T_4, sl_T_4, gl_T_5, sl_T_5, gl_F_0, gl_F_1, gl_F_2, gl_F_3, sl_F_3, gl_E_0, gl_E_1, gl_E_2, gl_E_3, gl_E_4, gl_E_5, sl_E_5, gl_E_6, sl_E_6, gl_E_7, sl_E_7, gl_E_8, sl_E_8, gl_E_9, sl_E_9, gl_B_0, sl_B_0, gl_B_1, sl_B_1, gl_B_2, sl_B_2, gl_B_3, sl_B_3, gl_G_0, gl_G_1, gl_G_2, sl_G_2, gl_G_3, sl_G_3, gl_G_4, sl_G_4, gl_G_5, sl_G_5, gl_M_0, sl_M_0, gl_M_1, sl_M_1, gl_M_2, sl_M_2, gl_M_3, sl_M_3, gl_M_4, sl_M_4, gl_M_5, sl_M_5, gl_M_6, sl_M_6, gl_M_7, sl_M_7, gl_M_8, sl_M_8, gl_M_9, sl_M_9, gl_U_0, sl_U_0, gl_U_1, sl_U_1, gl_U_2, sl_U_2, gl_U_3, sl_U_3, gl_U_4, sl_U_4, gl_S_0, gl_S_1, gl_S_2, gl_S_3, gl_S_4, sl_S_4, gl_S_5, sl_S_5, gl_S_6, sl_S_6, gl_S_7, sl_S_7, gl_P_0, gl_P_1, gl_P_2, sl_P_2, gl_P_3, sl_P_3, gl_P_4, sl_P_4, gl_P_5, sl_P_5, gl_P_6, sl_P_6, gl_R_0, gl_R_1, gl_R_2, gl_R_3, sl_R_3, gl_W_0, gl_W_1, sl_W_1, gl_W_2, sl_W_2, lay_64, up_64, lay_65, up_65, lay_66, up_66, lay_67, up_67, lay_68, up_68, lay_69, up_69, lay_70, up_70, lay_71, up_71, lay_72, up_72, lay_73, up_73, lay_74, up_74, lay_75, up_75, lay_76, up_76, lay_77, up_77, lay_78, up_78, lay_79, up_79, lay_80, up_80, lay_81, up_81, lay_82, up_82, lay_83, up_83, lay_84, up_84, lay_85, up_85, lay_86, up_86, lay_87, up_87, lay_88, up_88, lay_89, up_89, lay_90, up_90, lay_91, up_91, lay_92, up_92, lay_93, up_93, lay_step, up_step, lay_W, up_W, lay_We, up_We, i_Series_addSample_8, g_Series_addSample_9, i_Series_addSample_9, lay_S ha, lay_S1 ha, lay_S2 ha, lay_S3' ha, lay_S4' ha, up_S ha, up_S1 ha, up_S2 ha, up_S3' ha, layR r1, layR1 r1, layR2 r1, upR r1, upR1 r1, upR2 r1, show ∀ x : Nat, x + 221 + 43 = x + 264 from fun x => rfl, run3]
    rw [g_Series_addSample_8]
    simp (maxSteps := 1000000) (disch := omega) only [gd_T, gd_t, gd_a, br_T, br_F, brt, brf, oS_e, iS_e, lS_e, dS_e, qS_e, nS_i, nS_l, nS_d, nS_q, kI_e, kL_e, kD_e, kF_e, kR_e, kInc_e, kLen_e, kIa_e, kLa_e, kDa_e, kQa_e, kIs_e, kZs_e, kBs_e, kLs_e, kDs_e, kQs_e, kCc_e, kC1_e, kGet_e, kGv_i, kGv_l, kGv_d, kGv_r, kGv_n, kPut_e, kPv_i, kPv_l, kPv_d, kPv_r, kPv_n, kQ2_e, kCal_e, kV3_T, kV3_t, kV2_e, kV1_e, kS1_e, kC2_e, z_iload, z_iload_n_0, z_iload_n_1, z_iload_n_2, z_iload_n_3, z_lload, z_lload_n_0, z_lload_n_1, z_lload_n_2, z_lload_n_3, z_dload, z_dload_n_0, z_dload_n_1, z_dload_n_2, z_dload_n_3, z_fload_n_0, z_fload_n_1, z_fload_n_2, z_fload_n_3, z_aload, z_aload_n_0, z_aload_n_1, z_aload_n_2, z_aload_n_3, z_iinc, z_getfield, z_putfield, z_arraylength, z_iaload, z_baload, z_laload, z_daload, z_aaload, z_iastore, z_lastore, z_dastore, z_zastore, z_bastore, z_aastore, z_checkcast, z_ifCond_eq, z_if_icmp_eq, z_ifCond_ne, z_if_icmp_ne, z_ifCond_lt, z_if_icmp_lt, z_ifCond_ge, z_if_icmp_ge, z_ifCond_gt, z_if_icmp_gt, z_ifCond_le, z_if_icmp_le, z_dup, z_dup_x1, z_dup2, z_pop, z_pop2, z_idiv, z_irem, z_ldiv, z_lrem, z_new, z_newarray, z_virt, z_spec, z_obj, z_stat, z_fbits, kC0_t, kC0_T, z_copy, z_tableswitch, z_lookupswitch, am_sW_n, am_sW_c, sbt, sbf, sbT, sbF, am_sL_n, am_sL_c, tbt, tbf, tbT, tbF, am_e_nop, am_e_goto, am_e_aconst_null, am_e_iconst, am_e_bipush, am_e_sipush, am_e_lconst, am_e_dconst, am_e_fconst, am_e_ldc, am_e_ldc_w, am_e_ldc2_w, am_e_getstatic, am_e_istore, am_e_istore_n_0, am_e_istore_n_1, am_e_istore_n_2, am_e_istore_n_3, am_e_lstore, am_e_lstore_n_0, am_e_lstore_n_1, am_e_lstore_n_2, am_e_lstore_n_3, am_e_dstore, am_e_dstore_n_0, am_e_dstore_n_1, am_e_dstore_n_2, am_e_dstore_n_3, am_e_fstore_n_0, am_e_fstore_n_1, am_e_fstore_n_2, am_e_fstore_n_3, am_e_astore, am_e_astore_n_0, am_e_astore_n_1, am_e_astore_n_2, am_e_astore_n_3, am_e_iadd, am_e_isub, am_e_imul, am_e_ineg, am_e_iand, am_e_ior, am_e_ishl, am_e_ishr, am_e_ladd, am_e_lsub, am_e_lmul, am_e_lneg, am_e_lcmp, am_e_i2l, am_e_l2i, am_e_i2b, am_e_i2c, am_e_i2d, am_e_l2d, am_e_l2f, am_e_d2i, am_e_d2l, am_e_dneg, am_e_fneg, am_e_dcmp, am_e_fcmp, am_e_return_, am_e_ireturn, am_e_lreturn, am_e_dreturn, am_e_areturn, am_lg_z, am_lg_s, am_s1_z, am_s1_1, am_s1_s, am_s2_z, am_s2_1, am_s2_s, am_cu_n, am_cu_c, am_I_i, am_L_l, am_D_d, am_F_f, am_R_r, am_R_n, am_ok_0, am_ok_2, am_ok_3, am_ok_4, am_ok_5, am_po_z, am_po_s, am_ps_n, am_ps_s, am_rt_1, am_rt_6, am_rt_7, am_lim_2, am_lim_3, am_lim_7, am_inv_U, am_inv_i, am_inv_r, am_inv_l, am_inv_d, am_b0z, am_qz, am_qs, am_sz, am_ss, am_cat_i, am_cat_r, am_cat_l, am_cat_d, List.length_cons, List.length_nil, Nat.reduceAdd, Nat.reduceLeDiff, Nat.reduceEqDiff, reduceIte, Int.reduceEq, Int.reduceLT, Int.reduceLE, Int.reduceAdd, Int.reduceSub, Int.reduceNeg, Int.reduceMul, Int.reduceToNat, not_false_eq_true, not_true_eq_false, or_true, true_or, false_or, or_false, true_and, and_true, true_implies, false_implies, implies_true, iz_lit, iz_ofInt, iz_ofNat, iz_add, iz_sub, iz_mul, iz_neg, iz_div, am_rf, iz_in, iz_nat, iz_le, iz_lt, iz_eq, iz_toInt64, lz_toInt32, lz_lit, lz_add, lz_sub, lz_mul, lz_neg, am_lc_eq, am_lc_lt, am_lc_gt, am_lc_le, am_lc_ge, am_vup, am_vupq, am_cpz, am_nUn, am_nUi, am_nUl, am_nUd, am_nUr, Int.toNat_natCast, Int.cast_ofNat_Int, Int.toNat_zero, am_vupl, am_vupd, tn_add, tn_mul, tn_sub, uT_eq, uT_ne, uT_upd, uT3, zup_eq, zup_ne, zup_zup, zup3, iz_bz0, iz_bz0n, iz_bz1, rt2_bz, rt2_r, ok1_r, em_n, sl_toL, ok1_bz, bz_o, bz_n, bz_or, Nat.add_zero, Int.add_zero, Int.zero_add, Nat.zero_add, Int.natCast_add, Int.natCast_one, Nat.reduceMul, Nat.reduceSub, am_kq, Classical.not_not, ne_eq, le64_1, le64_2, le64_3, le64_4, le64_5, le64_6, iz_or, eq_self, false_and, and_false, and_self, lz_div, lz_lt, lz_eq, gl_St_0, gl_St_1, gl_St_2, gl_St_3, gl_St_4, gl_St_5, gl_St_6, gl_St_7, gl_St_8, gl_St_9, sl_St_9, gl_St_10, sl_St_10, gl_St_11, sl_St_11, gl_St_12, sl_St_12, gl_St_13, sl_St_13, gl_T_0, gl_T_1, gl_T_2, sl_T_2, gl_T_3, sl_T_3, gl_T_4, sl_T_4, gl_T_5, sl_T_5, gl_F_0, gl_F_1, gl_F_2, gl_F_3, sl_F_3, gl_E_0, gl_E_1, gl_E_2, gl_E_3, gl_E_4, gl_E_5, sl_E_5, gl_E_6, sl_E_6, gl_E_7, sl_E_7, gl_E_8, sl_E_8, gl_E_9, sl_E_9, gl_B_0, sl_B_0, gl_B_1, sl_B_1, gl_B_2, sl_B_2, gl_B_3, sl_B_3, gl_G_0, gl_G_1, gl_G_2, sl_G_2, gl_G_3, sl_G_3, gl_G_4, sl_G_4, gl_G_5, sl_G_5, gl_M_0, sl_M_0, gl_M_1, sl_M_1, gl_M_2, sl_M_2, gl_M_3, sl_M_3, gl_M_4, sl_M_4, gl_M_5, sl_M_5, gl_M_6, sl_M_6, gl_M_7, sl_M_7, gl_M_8, sl_M_8, gl_M_9, sl_M_9, gl_U_0, sl_U_0, gl_U_1, sl_U_1, gl_U_2, sl_U_2, gl_U_3, sl_U_3, gl_U_4, sl_U_4, gl_S_0, gl_S_1, gl_S_2, gl_S_3, gl_S_4, sl_S_4, gl_S_5, sl_S_5, gl_S_6, sl_S_6, gl_S_7, sl_S_7, gl_P_0, gl_P_1, gl_P_2, sl_P_2, gl_P_3, sl_P_3, gl_P_4, sl_P_4, gl_P_5, sl_P_5, gl_P_6, sl_P_6, gl_R_0, gl_R_1, gl_R_2, gl_R_3, sl_R_3, gl_W_0, gl_W_1, sl_W_1, gl_W_2, sl_W_2, lay_64, up_64, lay_65, up_65, lay_66, up_66, lay_67, up_67, lay_68, up_68, lay_69, up_69, lay_70, up_70, lay_71, up_71, lay_72, up_72, lay_73, up_73, lay_74, up_74, lay_75, up_75, lay_76, up_76, lay_77, up_77, lay_78, up_78, lay_79, up_79, lay_80, up_80, lay_81, up_81, lay_82, up_82, lay_83, up_83, lay_84, up_84, lay_85, up_85, lay_86, up_86, lay_87, up_87, lay_88, up_88, lay_89, up_89, lay_90, up_90, lay_91, up_91, lay_92, up_92, lay_93, up_93, lay_step, up_step, lay_W, up_W, lay_We, up_We, i_Series_addSample_8, g_Series_addSample_10, i_Series_addSample_10, lay_S ha, lay_S1 ha, lay_S2 ha, lay_S3' ha, lay_S4' ha, up_S ha, up_S1 ha, up_S2 ha, up_S3' ha, run4]
  · rw [eRow]
    have q1 := h4.1.2.2.1.1
    have q2 := h4.1.2.2.1.2.1
    rw [q1, q2, Nat.add_zero]
