/-! THE WHOLE STATE: class against reference -/
/-- live and saved series of the class -/
def lvA (s : Nat) : Nat := 94 + 614 * s
def svA (s : Nat) : Nat := 401 + 614 * s
theorem lvA_B {s : Nat} (h : s < 8) : isB (lvA s) := ⟨2 * s, by omega, by unfold lvA; omega⟩
theorem svA_B {s : Nat} (h : s < 8) : isB (svA s) := ⟨2 * s + 1, by omega, by unfold svA; omega⟩
/-- the objects of a series in order, whatever it holds -/
def oks (T : Nat → Nat → Int) (a : Nat) : Prop := okA (T (a + 3)) ∧ okQ (T (a + 222)) ∧ okQ (T (a + 265))
def iTape (T : Nat → Nat → Int) : Prop := T 68 2 = T 5014 6 ∧ (0 ≤ T 5014 6 ∧ T 5014 6 ≤ 60) ∧ ∀ k : Nat, (k : Int) < T 5014 6 → T 69 k = T 5035 k ∧ 0 ≤ T 5035 k ∧ T 5035 k ≤ 127
def iPar (T : Nat → Nat → Int) : Prop := T 64 9 = T 5033 0 ∧ T 64 10 = T 5033 1 ∧ (1 ≤ T 5033 0 ∧ T 5033 0 ≤ 9999) ∧ (1 ≤ T 5033 1 ∧ T 5033 1 ≤ 8) ∧ ∀ s, s < 8 → T (5016 + s) 2 ≤ 8 * T 5033 1
def iImg (N : Int) (T : Nat → Nat → Int) : Prop := T 64 13 = T 5014 4 ∧ (T 5014 4 = 0 ∨ T 5014 4 = 1) ∧ (∀ s, s < 8 → oks T (svA s)) ∧ (T 5014 4 = 1 → (T 64 11 = T 5034 0 ∧ T 64 12 = T 5034 1 ∧ (1 ≤ T 5034 0 ∧ T 5034 0 ≤ 9999) ∧ 1 ≤ T 5034 1 ∧ T 5034 1 ≤ 8) ∧ ∀ s, s < 8 → SR N T (svA s) (T (5025 + s)) ∧ T (5025 + s) 2 ≤ 8 * T 5034 1)
def iRows (T : Nat → Nat → Int) : Prop := ∀ r, r < 4 → T (5006 + 2 * r) 1 = T 5046 r ∧ (0 ≤ T 5046 r ∧ T 5046 r ≤ 40) ∧ (0 ≤ T 5047 r ∧ T 5047 r ≤ 1) ∧ (0 ≤ T (5006 + 2 * r) 2 ∧ T (5006 + 2 * r) 2 ≤ 1) ∧ (0 < T 5046 r → T (5006 + 2 * r) 2 = 1 - T 5047 r) ∧ (∀ i : Nat, (i : Int) < T 5046 r → T (5006 + 2 * r + 1) i = T (5049 + r) i) ∧ ∀ i, i < 40 → (-2147483648 ≤ T (5049 + r) i ∧ T (5049 + r) i ≤ 2147483647) ∧ -2147483648 ≤ T (5006 + 2 * r + 1) i ∧ T (5006 + 2 * r + 1) i ≤ 2147483647
def iFlag (T : Nat → Nat → Int) : Prop := (0 ≤ T 5014 8 ∧ T 5014 8 ≤ 1) ∧ (0 ≤ T 5014 19 ∧ T 5014 19 ≤ 1) ∧ (0 ≤ T 5014 20 ∧ T 5014 20 ≤ 1) ∧ (0 ≤ T 5014 21 ∧ T 5014 21 ≤ 1) ∧ 0 ≤ T 5014 22 ∧ T 5014 22 ≤ 1
/-- what the class's part of a call may change beside the series: its measures and the merge -/
def Inv (E : (Nat → Nat → Int) → Prop) (N : Int) (T : Nat → Nat → Int) : Prop := (0 ≤ N ∧ N ≤ 512) ∧ (∀ s, s < 8 → SR N T (lvA s) (T (5016 + s))) ∧ iPar T ∧ iImg N T ∧ iTape T ∧ iRows T ∧ iFlag T ∧ E T
/-- the evaluation's part speaks of its own cells alone -/
def evC (c : Nat) : Prop := (75 ≤ c ∧ c ≤ 78) ∨ (80 ≤ c ∧ c ≤ 88) ∨ (5041 ≤ c ∧ c ≤ 5045)
def evOK (E : (Nat → Nat → Int) → Prop) : Prop := ∀ T T', (∀ c, evC c → T' c = T c) → (∀ k, 16 ≤ k → T' 5014 k = T 5014 k) → E T → E T'
/-- the invariant is kept where its cells are -/
theorem Inv_keep {E : (Nat → Nat → Int) → Prop} (hE : evOK E) {N : Int} {T T' : Nat → Nat → Int} (hN : N + 1 ≤ 512) (h : Inv E N T) (hc : ∀ c, c ≠ 79 → c ≠ 92 → c ≠ 93 → ¬ (89 ≤ c ∧ c ≤ 91) → ¬ (5037 ≤ c ∧ c ≤ 5040) → c ≠ 5014 → ¬ (70 ≤ c ∧ c ≤ 74) → c ≠ 68 → c ≠ 5036 → T' c = T c) (h14 : ∀ k, k = 4 ∨ k = 6 ∨ k = 8 ∨ 16 ≤ k → T' 5014 k = T 5014 k) (h68 : T' 68 2 = T 68 2) : Inv E (N + 1) T' := by
  obtain ⟨h1, h2, h3, h4, h5, h6, h7, h8⟩ := h
  have cS : ∀ a, 94 ≤ a → a + 307 ≤ 5006 → ∀ c, a ≤ c → c < a + 307 → T' c = T c := fun a a1 a2 c c1 c2 => hc c (by omega) (by omega) (by omega) (by omega) (by omega) (by omega) (by omega) (by omega) (by omega)
  have c5 : ∀ c, 5041 ≤ c → T' c = T c := fun c c1 => hc c (by omega) (by omega) (by omega) (by omega) (by omega) (by omega) (by omega) (by omega) (by omega)
  have cR : ∀ c, 5006 ≤ c → c < 5014 → T' c = T c := fun c c1 c2 => hc c (by omega) (by omega) (by omega) (by omega) (by omega) (by omega) (by omega) (by omega) (by omega)
  have cK : ∀ c, 5015 ≤ c → c < 5036 → T' c = T c := fun c c1 c2 => hc c (by omega) (by omega) (by omega) (by omega) (by omega) (by omega) (by omega) (by omega) (by omega)
  have c64 : T' 64 = T 64 := hc 64 (by omega) (by omega) (by omega) (by omega) (by omega) (by omega) (by omega) (by omega) (by omega)
  have c69 : T' 69 = T 69 := hc 69 (by omega) (by omega) (by omega) (by omega) (by omega) (by omega) (by omega) (by omega) (by omega)
  refine ⟨⟨by omega, hN⟩, fun s hs => ?_, ?_, ?_, ?_, fun r hr => ?_, ?_, ?_⟩
  · obtain ⟨sz, nb, q⟩ := h2 s hs
    rw [cK (5016 + s) (by omega) (by omega)]
    exact ⟨sz, nb, SR_congr (by omega) (cS (lvA s) (by unfold lvA; omega) (by unfold lvA; omega)) q⟩
  · obtain ⟨x1, x2, x3, x4, x5⟩ := h3
    unfold iPar
    rw [c64, cK 5033 (by omega) (by omega)]
    exact ⟨x1, x2, x3, x4, fun s hs => by rw [cK (5016 + s) (by omega) (by omega)]; exact x5 s hs⟩
  · obtain ⟨q1, q2, q3, q4⟩ := h4
    refine ⟨by rw [c64, h14 4 (by omega)]; exact q1, by rw [h14 4 (by omega)]; exact q2, fun s hs => ?_, fun q => ?_⟩
    · have := q3 s hs
      have a1 : svA s = 401 + 614 * s := rfl
      unfold oks at *
      rw [cS (svA s) (by omega) (by omega) _ (by omega) (by omega), cS (svA s) (by omega) (by omega) (svA s + 222) (by omega) (by omega), cS (svA s) (by omega) (by omega) (svA s + 265) (by omega) (by omega)]
      exact this
    · rw [h14 4 (by omega)] at q
      obtain ⟨q5, q6⟩ := q4 q
      refine ⟨by rw [c64, cK 5034 (by omega) (by omega)]; exact q5, fun s hs => ?_⟩
      obtain ⟨⟨sz, nb, q⟩, q8⟩ := q6 s hs
      rw [cK (5025 + s) (by omega) (by omega), cK 5034 (by omega) (by omega)]
      exact ⟨⟨sz, nb, SR_congr (by omega) (cS (svA s) (by unfold svA; omega) (by unfold svA; omega)) q⟩, q8⟩
  · unfold iTape at *
    rw [h68, h14 6 (by omega), c69, cK 5035 (by omega) (by omega)]
    exact h5
  · rw [cR (5006 + 2 * r) (by omega) (by omega), cR (5006 + 2 * r + 1) (by omega) (by omega), c5 5046 (by omega), c5 5047 (by omega), c5 (5049 + r) (by omega)]
    exact h6 r hr
  · unfold iFlag at *
    rw [h14 8 (by omega), h14 19 (by omega), h14 20 (by omega), h14 21 (by omega), h14 22 (by omega)]
    exact h7
  · refine hE T T' (fun c q => ?_) (fun k hk => h14 k (by omega)) h8
    unfold evC at q
    exact hc c (by omega) (by omega) (by omega) (by omega) (by omega) (by omega) (by omega) (by omega) (by omega)
/-- the calls of the class that answer longs -/
def lngM (mx : Nat) : Bool := mx == m_St_sample || mx == m_St_window || mx == m_St_rolled || mx == m_St_rollup || mx == m_St_fused || mx == m_St_bucket || mx == m_St_merged || mx == m_St_quantile || mx == m_St_element
/-- an answer of the call's type -/
def vT (mx : Nat) (v : Value) : Prop := match v with
  | .int _ => lngM mx = false
  | .long _ => lngM mx = true
  | _ => False
/-- a call of both, alike -/
def OpOK (E : (Nat → Nat → Int) → Prop) (N : Int) (T : Nat → Nat → Int) (h0 : am_H) (n mx my : Nat) (as : List Value) : Prop := ∃ v T1 T2, vT mx v ∧ (∀ d K, K (some v) (lay T1 h0) n → am_CL (d + 200) mx (.ref 64 :: as) (lay T h0) n K) ∧ (∀ d K, K (some v) (lay T2 h0) n → am_CL (d + 200) my (.ref 5014 :: as) (lay T1 h0) n K) ∧ Inv E (N + 1) T2
/-- a question: nothing but scratch cells changes -/
theorem OpOK_q {E : (Nat → Nat → Int) → Prop} (hE : evOK E) {N : Int} {T : Nat → Nat → Int} {h0 : am_H} {n mx my : Nat} {as : List Value} (hN : N + 1 ≤ 512) (h : Inv E N T) (v : Value) (T1 T2 : Nat → Nat → Int) (q1 : ∀ d K, am_CL (d + 200) mx (.ref 64 :: as) (lay T h0) n K = K (some v) (lay T1 h0) n) (q2 : ∀ d K, am_CL (d + 200) my (.ref 5014 :: as) (lay T1 h0) n K = K (some v) (lay T2 h0) n) (hc : ∀ c, c ≠ 79 → c ≠ 92 → c ≠ 93 → ¬ (89 ≤ c ∧ c ≤ 91) → ¬ (5037 ≤ c ∧ c ≤ 5040) → T2 c = T c) (hv : vT mx v := by exact rfl) : OpOK E N T h0 n mx my as :=
  ⟨v, T1, T2, hv, fun d K z => by rw [q1]; exact z, fun d K z => by rw [q2]; exact z, Inv_keep hE hN h (fun c c1 c2 c3 c4 c5 c6 c7 c8 c9 => hc c c1 c2 c3 c4 c5) (fun k _ => by rw [hc 5014 (by omega) (by omega) (by omega) (by omega) (by omega)]) (by rw [hc 68 (by omega) (by omega) (by omega) (by omega) (by omega)])⟩
