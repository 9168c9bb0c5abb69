/-! each piece of the invariant is kept where its cells are -/
theorem k_S {N : Int} {T T' : Nat → Nat → Int} {a : Nat} {R : Nat → Int} (h : SR N T a R) (hc : ∀ c, a ≤ c → c < a + 307 → T' c = T c) : SR (N + 1) T' a R := by
  obtain ⟨sz, nb, q⟩ := h
  exact ⟨sz, nb, SR_congr (by omega) hc q⟩
theorem k_Par {T T' : Nat → Nat → Int} (h : iPar T) (h1 : T' 64 9 = T 64 9) (h2 : T' 64 10 = T 64 10) (h3 : T' 5033 = T 5033) (h4 : ∀ s, s < 8 → T' (5016 + s) 2 ≤ 8 * T 5033 1) : iPar T' := by
  unfold iPar at *
  rw [h1, h2, h3]
  exact ⟨h.1, h.2.1, h.2.2.1, h.2.2.2.1, h4⟩
theorem k_oks {T T' : Nat → Nat → Int} {a : Nat} (h : oks T a) (hc : ∀ c, a ≤ c → c < a + 307 → T' c = T c) : oks T' a := by
  unfold oks at *
  rw [hc _ (by omega) (by omega), hc (a + 222) (by omega) (by omega), hc (a + 265) (by omega) (by omega)]
  exact h
theorem k_Img {N : Int} {T T' : Nat → Nat → Int} (h : iImg N T) (h1 : ∀ k, 11 ≤ k → T' 64 k = T 64 k) (h2 : T' 5014 4 = T 5014 4) (h3 : T' 5034 = T 5034) (h4 : ∀ s, s < 8 → ∀ c, svA s ≤ c → c < svA s + 307 → T' c = T c) (h5 : ∀ s, s < 8 → T' (5025 + s) = T (5025 + s)) : iImg (N + 1) T' := by
  obtain ⟨q1, q2, q3, q4⟩ := h
  refine ⟨by rw [h1 13 (by omega), h2]; exact q1, by rw [h2]; exact q2, fun s hs => k_oks (q3 s hs) (h4 s hs), fun q => ?_⟩
  rw [h2] at q
  obtain ⟨q5, q6⟩ := q4 q
  refine ⟨by rw [h1 11 (by omega), h1 12 (by omega), h3]; exact q5, fun s hs => ?_⟩
  rw [h5 s hs, h3]
  exact ⟨k_S (q6 s hs).1 (h4 s hs), (q6 s hs).2⟩
theorem k_Tape {T T' : Nat → Nat → Int} (h : iTape T) (h1 : T' 68 2 = T 68 2) (h2 : T' 5014 6 = T 5014 6) (h3 : T' 69 = T 69) (h4 : T' 5035 = T 5035) : iTape T' := by
  unfold iTape at *
  rw [h1, h2, h3, h4]
  exact h
theorem k_Rows {T T' : Nat → Nat → Int} (h : iRows T) (hc : ∀ c, (5006 ≤ c ∧ c < 5014) ∨ 5046 ≤ c → T' c = T c) : iRows T' := by
  intro r hr
  rw [hc _ (by omega), hc (5006 + 2 * r + 1) (by omega), hc 5046 (by omega), hc 5047 (by omega), hc (5049 + r) (by omega)]
  exact h r hr
theorem k_Flag {T T' : Nat → Nat → Int} (h : iFlag T) (h1 : ∀ k, k = 8 ∨ 16 ≤ k → T' 5014 k = T 5014 k) : iFlag T' := by
  unfold iFlag at *
  rw [h1 8 (by omega), h1 19 (by omega), h1 20 (by omega), h1 21 (by omega), h1 22 (by omega)]
  exact h
theorem OpOK_u {E : (Nat → Nat → Int) → Prop} {N : Int} {T : Nat → Nat → Int} {h0 : am_H} {n mx my : Nat} {as : List Value} (v : Value) (T1 T2 : Nat → Nat → Int) (q1 : ∀ d K, am_CL (d + 200) mx (.ref 64 :: as) (lay T h0) n K = K (some v) (lay T1 h0) n) (q2 : ∀ d K, am_CL (d + 200) my (.ref 5014 :: as) (lay T1 h0) n K = K (some v) (lay T2 h0) n) (hI : Inv E (N + 1) T2) (hv : vT mx v := by exact rfl) : OpOK E N T h0 n mx my as :=
  ⟨v, T1, T2, hv, fun d K z => by rw [q1]; exact z, fun d K z => by rw [q2]; exact z, hI⟩
/-- only one live series and scratch cells change -/
theorem Inv_ser {E : (Nat → Nat → Int) → Prop} (hE : evOK E) {N : Int} {T T' : Nat → Nat → Int} {s : Nat} (hs : s < 8) (hN : N + 1 ≤ 512) (h : Inv E N T) (hS : SR (N + 1) T' (lvA s) (T' (5016 + s))) (hB : T' (5016 + s) 2 ≤ 8 * T 5033 1) (hc : ∀ c, ¬ (94 + 614 * s ≤ c ∧ c < 94 + 614 * s + 307) → c ≠ 5016 + s → c ≠ 5037 → T' c = T c) : Inv E (N + 1) T' := by
  obtain ⟨h1, h2, h3, h4, h5, h6, h7, h8⟩ := h
  have eO : T' 5014 = T 5014 := hc _ (by omega) (by omega) (by omega)
  have e64 : T' 64 = T 64 := hc _ (by omega) (by omega) (by omega)
  refine ⟨⟨by omega, hN⟩, fun s' hs' => ?_, k_Par h3 (by rw [e64]) (by rw [e64]) (hc _ (by omega) (by omega) (by omega)) (fun s' hs' => by by_cases z : s' = s; rw [z]; exact hB; rw [hc (5016 + s') (by omega) (by omega) (by omega)]; exact h3.2.2.2.2 s' hs'), k_Img h4 (fun k hk => by rw [e64]) (by rw [eO]) (hc _ (by omega) (by omega) (by omega)) (fun s' hs' c c1 c2 => hc c (by unfold svA at *; omega) (by unfold svA at *; omega) (by unfold svA at *; omega)) (fun s' hs' => hc _ (by omega) (by omega) (by omega)), k_Tape h5 (by rw [hc 68 (by omega) (by omega) (by omega)]) (by rw [eO]) (hc _ (by omega) (by omega) (by omega)) (hc _ (by omega) (by omega) (by omega)), k_Rows h6 (fun c hc' => hc c (by omega) (by omega) (by omega)), k_Flag h7 (fun k hk => by rw [eO]), hE T T' (fun c q => ?_) (fun k hk => by rw [eO]) h8⟩
  · by_cases z : s' = s
    · subst z
      exact hS
    · rw [hc (5016 + s') (by omega) (by omega) (by omega)]
      exact k_S (h2 s' hs') (fun c c1 c2 => hc c (by unfold lvA at *; omega) (by unfold lvA at *; omega) (by unfold lvA at *; omega))
  · unfold evC at q
    exact hc c (by omega) (by omega) (by omega)
