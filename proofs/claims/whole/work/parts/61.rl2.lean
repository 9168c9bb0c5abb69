/-! a row with a new sample, entry by entry -/
section AR1
variable {R : Nat → Int} {i : Nat} {g t v : Int}
theorem addR0_hd {k : Nat} (h : k < 19) : addR0 R i t v k = R k := by
  unfold addR0
  rw [rfil_out (by omega), zup_ne (by omega), zup_ne (by omega), rfil_out (by omega)]
theorem addR0_out {k : Nat} (h : k < 19 + i * 19 ∨ 19 + i * 19 + 19 ≤ k) : addR0 R i t v k = R k := by
  unfold addR0
  rw [rfil_out (by omega), zup_ne (by omega), zup_ne (by omega), rfil_out (by omega)]
theorem addR0_t : addR0 R i t v (19 + i * 19) = t := by
  unfold addR0
  rw [rfil_out (by omega), zup_ne (by omega), zup_eq]
theorem addR0_v : addR0 R i t v (19 + i * 19 + 1) = v := by
  unfold addR0
  rw [rfil_out (by omega), zup_eq]
theorem addR0_c {k : Nat} (h : k < 7) : addR0 R i t v (19 + i * 19 + 5 + k) = R (10 + k) := by
  unfold addR0
  rw [rfil_in (by omega) (by omega), Nat.add_sub_cancel_left]
theorem addR0_z {k : Nat} (h : 2 ≤ k) (h2 : k < 5 ∨ 12 ≤ k) (h3 : k < 19) : addR0 R i t v (19 + i * 19 + k) = 0 := by
  unfold addR0
  rw [rfil_out (by omega), zup_ne (by omega), zup_ne (by omega), rfil_in (by omega) (by omega)]
theorem pairR_out {k : Nat} (h : k < 19 + i * 19 + 2 ∨ 19 + i * 19 + 19 ≤ k) : pairR R g i k = R k := by
  unfold pairR
  rw [rfil_out (by omega), zup_ne (by omega), zup_ne (by omega), zup_ne (by omega)]
theorem pairR_c {k : Nat} (h : 5 ≤ k) (h2 : k < 12) : pairR R g i (19 + i * 19 + k) = R (19 + i * 19 + k) := by
  unfold pairR
  rw [rfil_out (by omega), zup_ne (by omega), zup_ne (by omega), zup_ne (by omega)]
/-- what a new sample's pair is -/
def nBel (R : Nat → Int) (i : Nat) (g t v : Int) : Int := if i = 0 then 0 else if g < t - R (19 + (i - 1) * 19) then 3 else if ¬ R 0 = 1 ∧ v < R (19 + (i - 1) * 19 + 1) then 2 else 1
def nChg (R : Nat → Int) (i : Nat) (g t v : Int) : Int := if i = 0 then 0 else if g < t - R (19 + (i - 1) * 19) then 0 else if ¬ R 0 = 1 ∧ v < R (19 + (i - 1) * 19 + 1) then v else v - R (19 + (i - 1) * 19 + 1)
def nCov (R : Nat → Int) (i : Nat) (g t v : Int) : Int := if i = 0 then 0 else if g < t - R (19 + (i - 1) * 19) then 0 else t - R (19 + (i - 1) * 19)
def nBkt (R : Nat → Int) (i : Nat) (g t v : Int) (k : Nat) : Int := if i = 0 then 0 else if g < t - R (19 + (i - 1) * 19) then 0 else if ¬ R 0 = 1 ∧ v < R (19 + (i - 1) * 19 + 1) then R (10 + k) else if R (10 + k) - R (19 + (i - 1) * 19 + 5 + k) < 0 then 0 else R (10 + k) - R (19 + (i - 1) * 19 + 5 + k)
theorem addR1_2 : addR1 R i g t v 2 = (i : Int) + 1 := by
  unfold addR1
  rw [zup_ne (by omega), zup_eq]
theorem addR1_3 : addR1 R i g t v 3 = R 3 + 1 := by
  unfold addR1
  rw [zup_eq]
theorem addR1_o {k : Nat} (h2 : k ≠ 2) (h3 : k ≠ 3) : addR1 R i g t v k = (if i = 0 then addR0 R i t v else pairR (addR0 R i t v) g i) k := by
  unfold addR1
  rw [zup_ne h3, zup_ne h2]
theorem addR1_out {k : Nat} (h2 : k ≠ 2) (h3 : k ≠ 3) (h : k < 19 + i * 19 ∨ 19 + i * 19 + 19 ≤ k) : addR1 R i g t v k = R k := by
  rw [addR1_o h2 h3]
  split
  · exact addR0_out h
  · rw [pairR_out (by omega), addR0_out h]
theorem addR1_t : addR1 R i g t v (19 + i * 19) = t := by
  rw [addR1_o (by omega) (by omega)]
  split
  · exact addR0_t
  · rw [pairR_out (by omega), addR0_t]
theorem addR1_v : addR1 R i g t v (19 + i * 19 + 1) = v := by
  rw [addR1_o (by omega) (by omega)]
  split
  · exact addR0_v
  · rw [pairR_out (by omega), addR0_v]
theorem addR1_c {k : Nat} (h : k < 7) : addR1 R i g t v (19 + i * 19 + 5 + k) = R (10 + k) := by
  rw [addR1_o (by omega) (by omega)]
  split
  · exact addR0_c h
  · rw [Nat.add_assoc, pairR_c (by omega) (by omega), ← Nat.add_assoc, addR0_c h]
theorem addR0_p {f : Nat} (hi : i ≠ 0) (hf : f < 19) : addR0 R i t v (19 + (i - 1) * 19 + f) = R (19 + (i - 1) * 19 + f) := addR0_out (by omega)
theorem addR1_bel : addR1 R i g t v (19 + i * 19 + 2) = nBel R i g t v := by
  rw [addR1_o (by omega) (by omega)]
  unfold nBel
  by_cases z : i = 0
  · rw [if_pos z, if_pos z, addR0_z (by omega) (by omega) (by omega)]
  · have e0 := addR0_p (R := R) (t := t) (v := v) (f := 0) z (by omega)
    rw [Nat.add_zero] at e0
    rw [if_neg z, if_neg z]
    unfold pairR
    rw [rfil_out (by omega), zup_ne (by omega), zup_ne (by omega), zup_eq, addR0_t, e0, addR0_v, addR0_p z (by omega), addR0_hd (by omega)]
theorem addR1_chg : addR1 R i g t v (19 + i * 19 + 3) = nChg R i g t v := by
  rw [addR1_o (by omega) (by omega)]
  unfold nChg
  by_cases z : i = 0
  · rw [if_pos z, if_pos z, addR0_z (by omega) (by omega) (by omega)]
  · have e0 := addR0_p (R := R) (t := t) (v := v) (f := 0) z (by omega)
    rw [Nat.add_zero] at e0
    rw [if_neg z, if_neg z]
    unfold pairR
    rw [rfil_out (by omega), zup_ne (by omega), zup_eq, addR0_t, e0, addR0_v, addR0_p z (by omega), addR0_hd (by omega)]
theorem addR1_cov : addR1 R i g t v (19 + i * 19 + 4) = nCov R i g t v := by
  rw [addR1_o (by omega) (by omega)]
  unfold nCov
  by_cases z : i = 0
  · rw [if_pos z, if_pos z, addR0_z (by omega) (by omega) (by omega)]
  · have e0 := addR0_p (R := R) (t := t) (v := v) (f := 0) z (by omega)
    rw [Nat.add_zero] at e0
    rw [if_neg z, if_neg z]
    unfold pairR
    rw [rfil_out (by omega), zup_eq, addR0_t, e0]
theorem addR1_bkt {k : Nat} (h : k < 7) : addR1 R i g t v (19 + i * 19 + 12 + k) = nBkt R i g t v k := by
  rw [addR1_o (by omega) (by omega)]
  unfold nBkt
  by_cases z : i = 0
  · rw [if_pos z, if_pos z, Nat.add_assoc, addR0_z (by omega) (by omega) (by omega)]
  · have e0 := addR0_p (R := R) (t := t) (v := v) (f := 0) z (by omega)
    rw [Nat.add_zero] at e0
    have e5 : addR0 R i t v (19 + (i - 1) * 19 + 5 + k) = R (19 + (i - 1) * 19 + 5 + k) := addR0_out (by omega)
    rw [if_neg z, if_neg z]
    unfold pairR
    rw [rfil_in (by omega) (by omega), Nat.add_sub_cancel_left, addR0_t, e0, addR0_v, addR0_p z (by omega), addR0_hd (by omega), addR0_c h, e5]
end AR1
theorem sAd_ne {T : Nat → Nat → Int} {a i j : Nat} (h : okA (T (a + 3))) (hi : i < 72) (hj : j < 72) (hij : i ≠ j) : sAd T a i + 2 < sAd T a j ∨ sAd T a j + 2 < sAd T a i := by
  unfold sAd
  obtain ⟨x1, x2⟩ := h.1 i hi
  obtain ⟨y1, y2⟩ := h.1 j hj
  have : ¬ T (a + 3) i = T (a + 3) j := fun q => hij (h.2 i j hi hj q)
  omega
theorem sAd_in {T : Nat → Nat → Int} {a i : Nat} (h : okA (T (a + 3))) (hi : i < 72) : a + 5 ≤ sAd T a i ∧ sAd T a i + 2 < a + 221 := by
  unfold sAd
  obtain ⟨x1, x2⟩ := h.1 i hi
  omega
/-- a sample pushed: the relation to the row with the new sample -/
theorem push_rel {N : Int} {T T1 : Nat → Nat → Int} {a x sz nb dl : Nat} {R A : Nat → Int} (h : SRo N T a R sz nb dl) (hsz : sz < 64) (hdl : sz + dl ≤ 64) (hx : x = sAd T a (sz + dl)) (hc : ∀ c, c ≠ x → c ≠ x + 1 → c ≠ x + 2 → T1 c = T c) (hS : SPx T1 x A sz) (hRS : RSx A sz) (hlast : 0 < sz → R (19 + (sz - 1) * 19) < A (19 + sz * 19)) (a1 : ∀ k, k ≠ 2 → k ≠ 3 → (k < 19 + sz * 19 ∨ 19 + sz * 19 + 19 ≤ k) → A k = R k) (a2 : A 2 = (sz : Int) + 1) (a3 : A 3 = R 3 + 1) : SRo N (uT T1 a (zup (T1 a) 6 (((sz + dl : Nat) : Int) + 1))) a A (sz + 1) nb dl := by
  obtain ⟨h1, ⟨p1, p2, p3⟩, h3, h4⟩ := h
  have hin := sAd_in (i := sz + dl) p1 (by omega)
  rw [← hx] at hin
  have ea : T1 a = T a := hc a (by omega) (by omega) (by omega)
  have e1 : ∀ c, c ≠ a → c ≠ x → c ≠ x + 1 → c ≠ x + 2 → uT T1 a (zup (T1 a) 6 (((sz + dl : Nat) : Int) + 1)) c = T c := fun c c1 c2 c3 c4 => by rw [uT_ne c1, hc c c2 c3 c4]
  obtain ⟨⟨b1, b2, b3⟩, ⟨b4, b5, b6, b7⟩, ⟨b8, b9, b10, b11, b12⟩, b13, b14, b15, b16⟩ := h1
  refine ⟨⟨⟨?_, ?_, ?_⟩, ⟨?_, ?_, b6, ?_⟩, ⟨?_, ?_, by omega, by omega, ?_⟩, ?_, ?_, ?_, ?_⟩, ⟨?_, ?_, ?_⟩, ?_, ?_⟩
  · rw [uT_eq, zup_ne (by decide), ea, b1, a1 0 (by omega) (by omega) (by omega)]
  · rw [a1 0 (by omega) (by omega) (by omega)]; exact b2
  · rw [a1 0 (by omega) (by omega) (by omega)]; exact b3
  · rw [uT_eq, zup_ne (by decide), ea, b4]
  · rw [a1 1 (by omega) (by omega) (by omega), b5]
  · rw [a1 0 (by omega) (by omega) (by omega)]; exact b7
  · rw [uT_eq, zup_eq]; omega
  · rw [a2]; omega
  · rw [uT_eq, zup_ne (by decide), ea, a3, ← b12]; omega
  · intro k hk
    rw [e1 (a + 1) (by omega) (by omega) (by omega) (by omega), a1 (4 + k) (by omega) (by omega) (by omega)]
    exact b13 k hk
  · intro k hk
    rw [a1 (4 + k) (by omega) (by omega) (by omega), a1 (4 + (k + 1)) (by omega) (by omega) (by omega)]
    exact b14 k hk
  · intro k hk
    rw [e1 (a + 2) (by omega) (by omega) (by omega) (by omega), a1 (10 + k) (by omega) (by omega) (by omega)]
    exact b15 k hk
  · have e : ∀ n, n ≤ 7 → sumZ' (fun k => A (10 + k)) n = sumZ' (fun k => R (10 + k)) n := by
      intro n
      induction n with
      | zero => exact fun _ => rfl
      | succ n ih => exact fun hn => by rw [sumZ', sumZ', ih (by omega), a1 (10 + n) (by omega) (by omega) (by omega)]
    rw [e 7 (by omega)]
    exact b16
  · rw [e1 (a + 3) (by omega) (by omega) (by omega) (by omega)]
    exact p1
  · intro i hi
    have es : sAd (uT T1 a (zup (T1 a) 6 (((sz + dl : Nat) : Int) + 1))) a (i + dl) = sAd T a (i + dl) := by
      unfold sAd
      rw [e1 (a + 3) (by omega) (by omega) (by omega) (by omega)]
    rw [es]
    by_cases z : i = sz
    · subst z
      rw [← hx]
      refine ⟨?_, hRS⟩
      unfold SPx at *
      rw [uT_ne (by omega), uT_ne (by omega), uT_ne (by omega)]
      exact hS
    · have hi2 : i < sz := by omega
      have hne := sAd_ne (i := i + dl) (j := sz + dl) p1 (by omega) (by omega) (by omega)
      rw [← hx] at hne
      have hi3 := sAd_in (i := i + dl) p1 (by omega)
      obtain ⟨q1, q2⟩ := p2 i hi2
      have er : ∀ f, f < 19 → A (19 + i * 19 + f) = R (19 + i * 19 + f) := fun f hf => a1 _ (by omega) (by omega) (by omega)
      have er0 := er 0 (by omega)
      rw [Nat.add_zero] at er0
      constructor
      · unfold SPx at *
        rw [e1 _ (by omega) (by omega) (by omega) (by omega), e1 _ (by omega) (by omega) (by omega) (by omega), e1 _ (by omega) (by omega) (by omega) (by omega), er0, er 1 (by omega), er 2 (by omega), er 3 (by omega), er 4 (by omega)]
        refine ⟨q1.1, q1.2.1, q1.2.2.1, q1.2.2.2.1, q1.2.2.2.2.1, fun k hk => ?_⟩
        rw [show A (19 + i * 19 + 5 + k) = R (19 + i * 19 + 5 + k) from a1 _ (by omega) (by omega) (by omega), show A (19 + i * 19 + 12 + k) = R (19 + i * 19 + 12 + k) from a1 _ (by omega) (by omega) (by omega)]
        exact q1.2.2.2.2.2 k hk
      · unfold RSx at *
        rw [er0, er 1 (by omega), er 2 (by omega), er 4 (by omega), er 3 (by omega)]
        refine ⟨q2.1, q2.2.1, q2.2.2.1, q2.2.2.2.1, fun k hk => ?_⟩
        rw [show A (19 + i * 19 + 5 + k) = R (19 + i * 19 + 5 + k) from a1 _ (by omega) (by omega) (by omega), show A (19 + i * 19 + 12 + k) = R (19 + i * 19 + 12 + k) from a1 _ (by omega) (by omega) (by omega)]
        exact q2.2.2.2.2 k hk
  · intro i hi
    rw [a1 (19 + i * 19) (by omega) (by omega) (by omega)]
    by_cases z : i + 1 = sz
    · rw [z]
      have := hlast (by omega)
      rw [show i = sz - 1 by omega]
      exact this
    · rw [a1 (19 + (i + 1) * 19) (by omega) (by omega) (by omega)]
      exact p3 i (by omega)
  · exact RL_congr (Int.le_refl _) (fun c c1 c2 => e1 c (by omega) (by omega) (by omega) (by omega)) (fun k hk => a1 k (by omega) (by omega) (by omega)) h3
  · exact RL_congr (Int.le_refl _) (fun c c1 c2 => e1 c (by omega) (by omega) (by omega) (by omega)) (fun k hk => a1 k (by omega) (by omega) (by omega)) h4
