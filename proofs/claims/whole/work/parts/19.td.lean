/-! the tape's words and the common divisor: what stands of the first rows (sp8, sp9, sp12) -/
def tNow (F : Nat → Int) (len : Nat) (p : Int) : Int := if 0 ≤ p ∧ p < len then F p.toNat else -1
def tNum (F : Nat → Int) (len : Nat) : Nat → Int → Int → Int × Int
  | 0, num, p => (num, p)
  | j + 1, num, p => if ¬ num = 0 ∧ 48 ≤ tNow F len p ∧ tNow F len p ≤ 57 then tNum F len j ((if j + 1 < 6 then num * 10 else 0) + tNow F len p - 48) (p + 1) else (num, p)
def tBnd : Nat → Int
  | 5 => 9
  | 4 => 99
  | 3 => 999
  | 2 => 9999
  | 1 => 99999
  | _ => 999999
theorem tBnd_s {j : Nat} {num x : Int} (hj : j < 6) (h : (j + 1 = 6 ∧ num = -1) ∨ (j + 1 < 6 ∧ 0 ≤ num ∧ num ≤ tBnd (j + 1))) (hx : 48 ≤ x ∧ x ≤ 57) : 0 ≤ (if j + 1 < 6 then num * 10 else 0) + x - 48 ∧ (if j + 1 < 6 then num * 10 else 0) + x - 48 ≤ tBnd j := by
  rcases (show j = 0 ∨ j = 1 ∨ j = 2 ∨ j = 3 ∨ j = 4 ∨ j = 5 by omega) with rfl | rfl | rfl | rfl | rfl | rfl <;> simp [tBnd] at h ⊢ <;> omega
theorem tBnd_le (j : Nat) : tBnd j ≤ 999999 := by
  unfold tBnd
  split <;> omega
theorem tNum_p (F : Nat → Int) (len : Nat) : ∀ (j : Nat) (num p : Int), p ≤ (tNum F len j num p).2 ∧ (tNum F len j num p).2 ≤ p + j
  | 0, num, p => by simp only [tNum]; omega
  | j + 1, num, p => by
    rw [tNum]
    split
    · have := tNum_p F len j ((if j + 1 < 6 then num * 10 else 0) + tNow F len p - 48) (p + 1)
      omega
    · exact ⟨Int.le_refl _, by show p ≤ _; omega⟩
theorem tNum_n (F : Nat → Int) (len : Nat) : ∀ (j : Nat) (num p : Int), j ≤ 6 → ((j = 6 ∧ num = -1) ∨ (j < 6 ∧ 0 ≤ num ∧ num ≤ tBnd j)) → -1 ≤ (tNum F len j num p).1 ∧ (tNum F len j num p).1 ≤ 999999
  | 0, num, p, _, h => by
    have := tBnd_le 0
    simp only [tNum]
    omega
  | j + 1, num, p, hj, h => by
    have := tBnd_le (j + 1)
    rw [tNum]
    split
    · rename_i z
      have hs := tBnd_s (x := tNow F len p) (by omega) h z.2
      exact tNum_n F len j _ (p + 1) (by omega) (Or.inr ⟨by omega, hs⟩)
    · show -1 ≤ num ∧ num ≤ 999999
      omega
def tFit (B : Nat → Int) : Nat → Nat → Int → Bool
  | 0, _, _ => true
  | j + 1, k, bf => if B k ≤ bf ∨ 9999 < B k then false else tFit B j (k + 1) (B k)
def tBs (F : Nat → Int) (len : Nat) : Nat → Nat → (Nat → Int) → Int → Bool × Int × Nat × (Nat → Int)
  | 0, k, B, p => (false, p, k, B)
  | j + 1, k, B, p => if (tNum F len 6 (-1) p).1 = -1 then (false, (tNum F len 6 (-1) p).2, k, B) else if (tNum F len 6 (-1) p).2 = len then (true, (tNum F len 6 (-1) p).2, k + 1, zup B k (tNum F len 6 (-1) p).1) else if tNow F len (tNum F len 6 (-1) p).2 = 44 then tBs F len j (k + 1) (zup B k (tNum F len 6 (-1) p).1) ((tNum F len 6 (-1) p).2 + 1) else (false, (tNum F len 6 (-1) p).2, k + 1, zup B k (tNum F len 6 (-1) p).1)
def cdv : Nat → Int → Int → Int
  | 0, a, _ => a
  | f + 1, a, b => if b = 0 then a else cdv f b (a - a / b * b)
theorem cdv_rem {a b : Int} (ha : 0 ≤ a) (hb : 1 ≤ b) : 0 ≤ a - a / b * b ∧ a - a / b * b < b := by
  have h1 := Int.emod_nonneg a (show b ≠ 0 by omega)
  have h2 := Int.emod_lt_of_pos a (show 0 < b by omega)
  have h3 : a % b = a - a / b * b := by rw [Int.emod_def, Int.mul_comm]
  omega
theorem cdv_rng : ∀ (f : Nat) {a b : Int}, 0 ≤ a → 0 ≤ b → a ≤ 9223372036854775807 → b ≤ 9223372036854775807 → 0 ≤ cdv f a b ∧ cdv f a b ≤ 9223372036854775807
  | 0, a, b, h1, h2, h3, h4 => ⟨h1, h3⟩
  | f + 1, a, b, h1, h2, h3, h4 => by
    rw [cdv]
    split
    · exact ⟨h1, h3⟩
    · have := cdv_rem h1 (show 1 ≤ b by omega)
      exact cdv_rng f h2 this.1 h4 (by omega)
