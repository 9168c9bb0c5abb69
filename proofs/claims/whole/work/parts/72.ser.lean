/-! series made anew, present counts changed -/
theorem SR_oks {N : Int} {T : Nat → Nat → Int} {a : Nat} {R : Nat → Int} (h : SR N T a R) : oks T a := by
  obtain ⟨sz, nb, -, ⟨p1, -, -⟩, ⟨m, -, -, -, m4, -⟩, ⟨m', -, -, -, m4', -⟩⟩ := h
  exact ⟨p1, m4, m4'⟩
/-- a series without samples -/
theorem SR_new {N : Int} {T : Nat → Nat → Int} {a nb : Nat} {R : Nat → Int} (ho : oks T a) (h0 : T a 4 = R 0) (h0' : R 0 = -5 ∨ 0 ≤ R 0) (h0'' : R 0 ≤ 2) (h1 : T a 5 = nb) (h1' : R 1 = nb) (h1'' : nb ≤ 6) (h1n : ¬ R 0 = 2 → nb = 0) (h6 : T a 6 = 0) (h7 : T a 7 = 0) (h2 : R 2 = 0) (h3 : R 3 = 0) (hb : ∀ k, k < nb → T (a + 1) k = R (4 + k) ∧ 1 ≤ R (4 + k) ∧ R (4 + k) ≤ 9999) (hb2 : ∀ k, k + 1 < nb → R (4 + k) < R (4 + (k + 1))) (hp : ∀ k, k < 7 → T (a + 2) k = 0 ∧ R (10 + k) = 0) (hr0 : T (a + 221) 3 = 0) (hr1 : T (a + 264) 3 = 0) (hr0' : R 17 = 0) (hr1' : R 18 = 0) : SR N T a R := by
  obtain ⟨o1, o2, o3⟩ := ho
  have e : ∀ n, n ≤ 7 → sumZ' (fun k => R (10 + k)) n = 0 := by
    intro n
    induction n with
    | zero => exact fun _ => rfl
    | succ n ih => exact fun hn => by rw [sumZ', ih (by omega), (hp n (by omega)).2]; rfl
  exact ⟨0, nb, ⟨⟨h0, h0', h0''⟩, ⟨h1, h1', h1'', h1n⟩, ⟨by rw [h6]; rfl, by rw [h2]; rfl, by omega, by omega, by rw [h7, h3]; rfl⟩, hb, hb2, fun k hk => by rw [(hp k hk).1, (hp k hk).2]; omega, by rw [e 7 (by omega)]; omega⟩, ⟨o1, fun i hi => absurd hi (by omega), fun i hi => absurd hi (by omega)⟩, ⟨0, by omega, by rw [hr0]; rfl, by rw [show 17 + 0 = 17 from rfl, hr0']; rfl, o2, fun i hi => absurd hi (by omega)⟩, ⟨0, by omega, by rw [hr1]; rfl, by rw [show 17 + 1 = 18 from rfl, hr1']; rfl, o3, fun i hi => absurd hi (by omega)⟩⟩
theorem SR_pres {N : Int} {T T' : Nat → Nat → Int} {a : Nat} {R R' : Nat → Int} (h : SR N T a R) (hc : ∀ c, a ≤ c → c < a + 307 → c ≠ a + 2 → T' c = T c) (hR : ∀ k, k < 10 ∨ 17 ≤ k → R' k = R k) (hp : ∀ k, k < 7 → T' (a + 2) k = R' (10 + k) ∧ 0 ≤ R' (10 + k)) (hs : sumZ' (fun k => R' (10 + k)) 7 ≤ 999999) : SR N T' a R' := by
  obtain ⟨sz, nb, ⟨⟨b1, b2, b3⟩, ⟨b4, b5, b6, b7⟩, ⟨b8, b9, b10, b11, b12⟩, b13, b14, b15, b16⟩, ⟨p1, p2, p3⟩, g3, g4⟩ := h
  have ea : T' a = T a := hc a (by omega) (by omega) (by omega)
  refine ⟨sz, nb, ⟨⟨by rw [ea, hR 0 (by omega)]; exact b1, by rw [hR 0 (by omega)]; exact b2, by rw [hR 0 (by omega)]; exact b3⟩, ⟨by rw [ea]; exact b4, by rw [hR 1 (by omega)]; exact b5, b6, by rw [hR 0 (by omega)]; exact b7⟩, ⟨by rw [ea]; exact b8, by rw [hR 2 (by omega)]; exact b9, b10, b11, by rw [ea, hR 3 (by omega)]; exact b12⟩, fun k hk => by rw [hc (a + 1) (by omega) (by omega) (by omega), hR (4 + k) (by omega)]; exact b13 k hk, fun k hk => by rw [hR (4 + k) (by omega), hR (4 + (k + 1)) (by omega)]; exact b14 k hk, hp, hs⟩, ⟨by rw [hc (a + 3) (by omega) (by omega) (by omega)]; exact p1, fun i hi => ?_, fun i hi => by rw [hR _ (by omega), hR (19 + (i + 1) * 19) (by omega)]; exact p3 i hi⟩, ?_, ?_⟩
  · obtain ⟨q1, q2⟩ := p2 i hi
    have hin := sAd_in (i := i + 0) p1 (by omega)
    have es : sAd T' a (i + 0) = sAd T a (i + 0) := by
      unfold sAd
      rw [hc (a + 3) (by omega) (by omega) (by omega)]
    have er : ∀ k, 19 ≤ k → R' k = R k := fun k hk => hR k (by omega)
    rw [es]
    constructor
    · unfold SPx at *
      rw [hc _ (by omega) (by omega) (by omega), hc (_ + 1) (by omega) (by omega) (by omega), hc (_ + 2) (by omega) (by omega) (by omega), er _ (by omega), er (_ + 1) (by omega), er (_ + 2) (by omega), er (_ + 3) (by omega), er (_ + 4) (by omega)]
      exact ⟨q1.1, q1.2.1, q1.2.2.1, q1.2.2.2.1, q1.2.2.2.2.1, fun k hk => by rw [er (_ + 5 + k) (by omega), er (_ + 12 + k) (by omega)]; exact q1.2.2.2.2.2 k hk⟩
    · unfold RSx at *
      rw [er _ (by omega), er (_ + 1) (by omega), er (_ + 2) (by omega), er (_ + 4) (by omega), er (_ + 3) (by omega)]
      exact ⟨q2.1, q2.2.1, q2.2.2.1, q2.2.2.2.1, fun k hk => by rw [er (_ + 5 + k) (by omega), er (_ + 12 + k) (by omega)]; exact q2.2.2.2.2 k hk⟩
  · exact RL_congr (Int.le_refl _) (fun c c1 c2 => hc c (by omega) (by omega) (by omega)) (fun k hk => hR k (by omega)) g3
  · exact RL_congr (Int.le_refl _) (fun c c1 c2 => hc c (by omega) (by omega) (by omega)) (fun k hk => hR k (by omega)) g4
theorem SR_up {N : Int} {T : Nat → Nat → Int} {a : Nat} {R : Nat → Int} (h : SR N T a R) : SR (N + 1) T a R := k_S h (fun _ _ _ => rfl)
theorem bkt_congr {B C : Nat → Int} {v : Int} {n : Nat} (h : ∀ k, k < n → B k = C k) : ∀ j k, k + j = n → bkt B v j k = bkt C v j k
  | 0, k, _ => rfl
  | j + 1, k, hk => by rw [bkt, bkt, h k (by omega), bkt_congr h j (k + 1) (by omega)]
theorem sumZ_congr {f g : Nat → Int} : ∀ n, (∀ k, k < n → f k = g k) → sumZ' f n = sumZ' g n
  | 0, _ => rfl
  | n + 1, h => by rw [sumZ', sumZ', sumZ_congr n (fun k hk => h k (by omega)), h n (by omega)]
theorem sumZ_zup {f : Nat → Int} {j : Nat} {z : Int} : ∀ n, j < n → sumZ' (zup f j z) n = sumZ' f n + z - f j
  | 0, h => absurd h (by omega)
  | n + 1, h => by
    rw [sumZ', sumZ']
    by_cases q : j = n
    · subst q
      have e : sumZ' (zup f j z) j = sumZ' f j := sumZ_congr j (fun k hk => zup_ne (by omega))
      rw [e, zup_eq]
      omega
    · rw [sumZ_zup n (by omega), zup_ne (by omega)]
      omega
theorem bwin_sum {R g : Nat → Int} {a b : Int} {q sz f t : Nat} (hA : ∀ i, i + 1 < sz → R (19 + i * 19) < R (19 + (i + 1) * 19)) (hab : a ≤ b) (hf : f = uTo (fun i => R (19 + i * 19)) a sz 0) (ht : t = uTo (fun i => R (19 + i * 19)) b sz 0) (hg : ∀ i, i < sz → g i = R (19 + i * 19 + (12 + q))) : sumZ' (fun i => g (f + i)) (t - f) = bwin R a b q sz := by
  have hl1 := (uTo_le (fun i => R (19 + i * 19)) a sz 0).2
  have hl2 := (uTo_le (fun i => R (19 + i * 19)) b sz 0).2
  have hft : f ≤ t := by rw [hf, ht]; exact uTo_mono hA hab
  rw [← hf] at hl1
  rw [← ht] at hl2
  have s1 : ∀ k, k ≤ f → bwin R a b q k = 0 := by
    intro k
    induction k with
    | zero => exact fun _ => rfl
    | succ k ih =>
      intro hk
      have := uTo_lo (X := fun i => R (19 + i * 19)) (t := a) sz 0 k (by omega) (by omega)
      rw [bwin, if_neg (by omega), ih (by omega)]
  have s2 : ∀ j, f + j ≤ t → sumZ' (fun i => g (f + i)) j = bwin R a b q (f + j) := by
    intro j
    induction j with
    | zero => intro _; rw [Nat.add_zero, s1 f (Nat.le_refl _)]; rfl
    | succ j ih =>
      intro hj
      have q1 := uTo_lo (X := fun i => R (19 + i * 19)) (t := b) sz 0 (f + j) (by omega) (by omega)
      have q2 := uTo_hi' (X := fun i => R (19 + i * 19)) (t := a) (n := sz) (i := f + j) hA (by omega) (by omega)
      rw [sumZ', ← Nat.add_assoc, bwin, if_pos ⟨q2, q1⟩, ih (by omega), hg (f + j) (by omega)]
  have s3 : ∀ d, t + d ≤ sz → bwin R a b q (t + d) = bwin R a b q t := by
    intro d
    induction d with
    | zero => exact fun _ => rfl
    | succ d ih =>
      intro hd
      have q2 := uTo_hi' (X := fun i => R (19 + i * 19)) (t := b) (n := sz) (i := t + d) hA (by omega) (by omega)
      rw [← Nat.add_assoc, bwin, if_neg (by omega), ih (by omega)]
  have := s2 (t - f) (by omega)
  rw [show f + (t - f) = t by omega, ← s3 (sz - t) (by omega), show t + (sz - t) = sz by omega] at this
  exact this
theorem SR_range {N : Int} {T : Nat → Nat → Int} {a : Nat} {R : Nat → Int} (h : SR N T a R) : 0 ≤ lastT R ∧ lastT R ≤ 999999 := by
  obtain ⟨sz, nb, ⟨-, -, ⟨b8, b9, b10, b11, b12⟩, -⟩, ⟨p1, p2, p3⟩, -⟩ := h
  unfold lastT
  rw [b9, Int.toNat_natCast]
  split
  · omega
  · have := (p2 (sz - 1) (by omega)).2.1
    omega
