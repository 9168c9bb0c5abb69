/-! STEPS TOLD: both programs alike -/
/-- the class's builder between calls -/
def SBK (T : Nat → Nat → Int) (h0 : am_H) (n : Nat) : Prop := 5053 ≤ n ∧ T 80 1 = 0 ∧ ∃ (a C L : Nat) (y : Nat → Int), T 80 0 = a ∧ T 80 3 = L ∧ (L ≤ C ∧ C ≤ 72) ∧ (a < n ∧ (a = 81 ∨ 5053 ≤ a)) ∧ byt y ∧ lay T h0 a = some (am_ar 4 C (am_xi fun j => iz (y j)))
/-- what stands between calls -/
def SI (S : Option va_E) (N : Int) (T : Nat → Nat → Int) (h0 : am_H) (n : Nat) : Prop := h0 0 = S ∧ hC h0 ∧ SBK T h0 n ∧ Inv (evE T) N T
/-- a call of both, alike, new objects allowed -/
def OpX (S : Option va_E) (N : Int) (T : Nat → Nat → Int) (h0 : am_H) (n mx my : Nat) (as : List Value) : Prop := ∃ v T1 h1 n1, vT mx v ∧ h1 0 = S ∧ (∀ d K, K (some v) (lay T1 h1) n1 → am_CL (d + 200) mx (.ref 64 :: as) (lay T h0) n K) ∧ ∀ d K, (∀ T2 h2 n2, SI S (N + 1) T2 h2 n2 → K (some v) (lay T2 h2) n2) → am_CL (d + 200) my (.ref 5014 :: as) (lay T1 h1) n1 K
theorem SI_next {S : Option va_E} {N : Int} {T T2 : Nat → Nat → Int} {h0 : am_H} {n : Nat} (hs : SI S N T h0 n) (h2 : Inv (evE T) (N + 1) T2) : SI S (N + 1) T2 h0 n := by
  obtain ⟨hS0, hc, ⟨b1, b2, a, C, L, y, b3, b4, b5, b6, b7, b8⟩, -⟩ := hs
  obtain ⟨i1, i2, i3, i4, i5, i6, i7, i8, i9⟩ := h2
  have e80 : T2 80 = T 80 := i8 80 (Or.inl rfl)
  have e81 : T2 81 = T 81 := i8 81 (Or.inr rfl)
  refine ⟨hS0, hc, ⟨b1, by rw [e80]; exact b2, a, C, L, y, by rw [e80]; exact b3, by rw [e80]; exact b4, b5, b6, b7, ?_⟩, i1, i2, i3, i4, i5, i6, i7, fun c _ => rfl, i9⟩
  rcases b6.2 with q | q
  · subst q
    rw [lay_81] at b8 ⊢
    rw [e81]
    exact b8
  · rw [lay_out (Or.inr q)] at b8 ⊢
    exact b8
theorem OpX_of {S : Option va_E} {N : Int} {T : Nat → Nat → Int} {h0 : am_H} {n mx my : Nat} {as : List Value} (hs : SI S N T h0 n) (h : OpG (evE T) N T h0 n mx my as) : OpX S N T h0 n mx my as := by
  obtain ⟨v, T1, hv, q1, q2⟩ := h
  exact ⟨v, T1, h0, n, hv, hs.1, q1, fun d K hK => q2 d K fun T2 hI => hK T2 h0 n (SI_next hs hI)⟩
theorem Inv_sb {E E' : (Nat → Nat → Int) → Prop} {N : Int} {T T' : Nat → Nat → Int} (hN : N + 1 ≤ 512) (h : Inv E N T) (hc : ∀ c, c ≠ 80 → c ≠ 81 → T' c = T c) (hE : E' T') : Inv E' (N + 1) T' := by
  obtain ⟨h1, h2, h3, h4, h5, h6, h7, h8⟩ := h
  have eO : T' 5014 = T 5014 := hc _ (by omega) (by omega)
  have e64 : T' 64 = T 64 := hc _ (by omega) (by omega)
  refine ⟨⟨by omega, hN⟩, fun s hs => ?_, k_Par h3 (by rw [e64]) (by rw [e64]) (hc _ (by omega) (by omega)) (fun s hs => by rw [hc _ (by omega) (by omega)]; exact h3.2.2.2.2 s hs), k_Img h4 (fun k hk => by rw [e64]) (by rw [eO]) (hc _ (by omega) (by omega)) (fun s hs c c1 c2 => hc c (by unfold svA at *; omega) (by unfold svA at *; omega)) (fun s hs => hc _ (by omega) (by omega)), k_Tape h5 (by rw [hc 68 (by omega) (by omega)]) (by rw [eO]) (hc _ (by omega) (by omega)) (hc _ (by omega) (by omega)), fun r hr => ?_, k_Flag h7 (fun k hk => by rw [eO]), hE⟩
  · rw [hc (5016 + s) (by omega) (by omega)]
    exact k_S (h2 s hs) (fun c c1 c2 => hc c (by unfold lvA at *; omega) (by unfold lvA at *; omega))
  · rw [hc (5006 + 2 * r) (by omega) (by omega), hc (5006 + 2 * r + 1) (by omega) (by omega), hc 5046 (by omega) (by omega), hc 5047 (by omega) (by omega), hc (5049 + r) (by omega) (by omega)]
    exact h6 r hr
/-- any heap that keeps the cells is one function again -/
theorem lay_of {T T1 : Nat → Nat → Int} {h0 h : am_H} (hh : ∀ c, 64 ≤ c → c < 5053 → h c = some (cell c (T1 c))) : h = lay T1 h := by
  funext c
  unfold lay
  by_cases z : 64 ≤ c ∧ c < 5053
  · rw [if_pos z]
    exact hh c z.1 z.2
  · rw [if_neg z]
theorem lay_in {T : Nat → Nat → Int} {h0 : am_H} {c : Nat} (h1 : 64 ≤ c) (h2 : c < 5053) : lay T h0 c = some (cell c (T c)) := if_pos ⟨h1, h2⟩
