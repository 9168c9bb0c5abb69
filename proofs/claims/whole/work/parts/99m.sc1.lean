/-! STEPS TOLD: the reference -/
theorem nd_le {v m : Nat} (h : v < 10 ^ m) (hm : 1 ≤ m) : nd v ≤ m := by
  have a1 := ndl_lo v 18 1 (by omega) (Or.inr rfl)
  have e : ndl v 18 1 = nd v := rfl
  rw [e] at a1
  rcases a1 with q | q
  · have := (Nat.pow_lt_pow_iff_right (show 1 < 10 by decide)).mp (Nat.lt_of_le_of_lt q h)
    omega
  · omega
theorem sb_new {h : am_H} {n : Nat} (hn : 64 ≤ n) : ∃ h', (∀ d K, am_CL (d + 2) m_JStringBuilder_init [.ref n] (am_up h n (am_ob 1 [.null, .int (iz 0), .int (iz 0), .int (iz 0)])) (n + 1) K = K none h' (n + 2)) ∧ SBT h' (n + 2) n (n + 1) 16 h' (n + 2) [] ∧ ∀ c, c < n → h' c = h c := by
  refine ⟨_, fun d K => q_sbInit (d := d) (am_up_eq _ _ _) (by omega) hn, ⟨n + 1, 16, zup (zup (fun _ => 0) 0 ((n + 1 : Nat) : Int)) 1 0, fun _ => 0, ⟨am_up_eq _ _ _, by rw [am_up_ne (by omega), am_up_eq]⟩, ⟨by rw [zup_ne (by decide), zup_eq], zup_eq _ _ _, rfl⟩, byt_0, ⟨Nat.zero_le _, by omega⟩, fun j hj => absurd hj (Nat.not_lt_zero j), ⟨by omega, by omega, by omega, by omega⟩, Or.inl ⟨rfl, rfl⟩, fun c _ _ _ => rfl, ⟨fun _ => 0, by rw [am_up_ne (by omega), am_up_eq]⟩, hn, by omega, by omega, by omega⟩, fun c hc => by rw [am_up_ne (by omega), am_up_ne (by omega), am_up_ne (by omega)]⟩
theorem SBT_fr {H0 h : am_H} {n0 b a0 C0 n : Nat} {t : List Int} (hs : SBT H0 n0 b a0 C0 h n t) : (∀ c, c < n0 → c ≠ b → c ≠ a0 → h c = H0 c) ∧ n0 ≤ n ∧ ∃ f, h b = some (am_ob 1 (l_B f)) := by
  obtain ⟨a, C, f, y, ⟨e1, -⟩, -, -, -, -, ⟨g1, -⟩, -, f6, -⟩ := hs
  exact ⟨f6, g1, f, e1⟩
def nmT8 (f : Nat) : List Int := (List.range (nmL f)).map fun j => nmC f j
theorem nmT8_len (f : Nat) : (nmT8 f).length = nmL f := by
  unfold nmT8
  rw [List.length_map, List.length_range]
theorem nmT8_at {f j : Nat} (h : j < nmL f) : gt (nmT8 f) j = nmC f j := by
  unfold gt nmT8
  rw [List.getD_eq_getElem?_getD, List.getElem?_map, List.getElem?_range h]
  rfl
/-- a long in letters -/
def dgL (z : Int) : List Int := dgS z.natAbs (decide (z < 0))
/-- a step told -/
def stT (f s w : Nat) (ov : Option UInt64) : List Int := nmT8 f ++ [40] ++ dg s ++ [44] ++ dg w ++ [41, 61] ++ (match ov with
  | some v => dgL (FP.d2l v).toInt
  | none => [63])
theorem dgL_arg {z : Int} (h : -9223372036854775808 ≤ z ∧ z ≤ 9223372036854775807) : (if decide (z < 0) = true then -((z.natAbs : Nat) : Int) else ((z.natAbs : Nat) : Int)) = z := by
  by_cases q : z < 0
  · rw [if_pos (decide_eq_true q)]
    omega
  · rw [if_neg (fun y => q (of_decide_eq_true y))]
    omega
theorem dgL_len {z : Int} (h : -9223372036854775808 ≤ z ∧ z ≤ 9223372036854775807) : (dgL z).length ≤ 20 := by
  unfold dgL
  rw [dgS_len]
  have := (nd_r z.natAbs).2
  split <;> omega
theorem d2l_r (v : UInt64) : -9223372036854775808 ≤ (FP.d2l v).toInt ∧ (FP.d2l v).toInt ≤ 9223372036854775807 := by
  have h1 := Int64.le_toInt (FP.d2l v)
  have h2 := Int64.toInt_lt (FP.d2l v)
  omega
/-- a constant put on -/
theorem st_K {H0 h : am_H} {n0 b a0 C0 n k : Nat} {t r : List Int} {xs : Nat → Int} (hs : SBT H0 n0 b a0 C0 h n t) (hL : t.length + r.length ≤ 36) (hg : strA h k r.length xs) (hr : ∀ j, j < r.length → xs j = gt r j) (hx : byt xs) (hk : k + 1 < 64) : ∃ h' n', (∀ d K, am_CL (d + 7) m_JStringBuilder_append_S [.ref b, .ref k] h n K = K (some (.ref b)) h' n') ∧ SBT H0 n0 b a0 C0 h' n' (t ++ r) ∧ n ≤ n' := by
  obtain ⟨a, C, f, y, -, -, -, -, -, ⟨g1, g2, g3, g4⟩, -, -, -, k1, k2, k3, k4⟩ := id hs
  exact st_S hs hL (strG_A hg) hr hx (by omega)
section MEX
variable {h1 : am_H} {n1 : Nat} {T : Nat → Nat → Int}
/-- a long in a text of its own -/
theorem sb_long {h : am_H} {n : Nat} {z : Int} (hn : 64 ≤ n) (hc : hC h) (hz : -9223372036854775808 ≤ z ∧ z ≤ 9223372036854775807) : ∃ hN qN q1 h2 n2 h3 n3 h4 x4, (hN = am_up h n (am_ob 1 [.null, .int (iz 0), .int (iz 0), .int (iz 0)])) ∧ (∀ d K, am_CL (d + 2) m_JStringBuilder_init [.ref n] hN (n + 1) K = K none qN (n + 2)) ∧ (∃ f, qN n = some (am_ob 1 (l_B f))) ∧ (qN 25 = h 25) ∧ q1 = n + 2 ∧ (∀ d K, am_CL (d + 7) m_JStringBuilder_append_S [.ref n, .ref 25] qN q1 K = K (some (.ref n)) h2 n2) ∧ (∃ f, h2 n = some (am_ob 1 (l_B f))) ∧ (∀ c, c < n → h2 c = h c) ∧ (∀ d K, am_CL (d + 6) m_JStringBuilder_append_J [.ref n, .long (lz z)] h2 n2 K = K (some (.ref n)) h3 n3) ∧ (∃ f, h3 n = some (am_ob 1 (l_B f))) ∧ (∀ d K, am_CL (d + 8) m_JStringBuilder_toString [.ref n] h3 n3 K = K (some (.ref n3)) h4 (n3 + 2)) ∧ strG h4 n3 (n3 + 1) (dgL z).length x4 ∧ byt x4 ∧ (∀ j, j < (dgL z).length → x4 j = gt (dgL z) j) ∧ n ≤ n3 ∧ ∀ c, c < n → h4 c = h c := by
  obtain ⟨qN, q1, s1, f1⟩ := sb_new (h := h) hn
  have c25 : strA qN 25 0 (fun _ => 0) := by
    have := hc.2.2.2.2.2.1
    unfold strA at *
    rw [f1 25 (by omega), f1 (25 + 1) (by omega)]
    exact this
  obtain ⟨h2, n2, q2, s2, m2⟩ := st_K (r := []) s1 (by decide) c25 (fun j hj => absurd hj (Nat.not_lt_zero j)) byt_0 (by omega)
  have F2 := SBT_fr s2
  have ht2 : tbH h2 := ⟨by rw [F2.1 40 (by omega) (by omega) (by omega), f1 40 (by omega)]; exact hc.2.2.2.2.2.2.2.1, by rw [F2.1 41 (by omega) (by omega) (by omega), f1 41 (by omega)]; exact hc.2.2.2.2.2.2.2.2⟩
  have hlen := dgL_len hz
  unfold dgL at hlen
  rw [dgS_len] at hlen
  obtain ⟨h3, n3, q3, s3, m3⟩ := st_J (v := z.natAbs) (m := decide (z < 0)) s2 (by omega) (fun q => by have := of_decide_eq_false q; omega) (fun q => by have := of_decide_eq_true q; omega) (by show 0 + _ ≤ 36; omega) ht2
  simp only [dgL_arg hz] at q3
  have F3 := SBT_fr s3
  obtain ⟨h4, x4, q4, g4, b4, e4, f4⟩ := sb_str s3
  have el : ([] ++ [] ++ dgS z.natAbs (decide (z < 0))) = dgL z := rfl
  rw [el] at g4 e4
  exact ⟨_, qN, n + 2, h2, n2, h3, n3, h4, x4, rfl, q1, (SBT_fr s1).2.2, f1 25 (by omega), rfl, q2, F2.2.2, fun c hc => by rw [F2.1 c (by omega) (by omega) (by omega)]; exact f1 c hc, q3, F3.2.2, q4, g4, b4, e4, by omega, fun c hc => by rw [f4 c (by omega), F3.1 c (by omega) (by omega) (by omega)]; exact f1 c hc⟩
end MEX
