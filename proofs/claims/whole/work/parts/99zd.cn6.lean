/-! MADE: a series whole -/
/-- the first contents of a series, told by its offsets -/
def Ts (r : Nat) : Nat → Int := if r = 0 then zup (fun _ => 0) 4 (-5) else if r = 3 ∨ r = 222 ∨ r = 265 then (fun k : Nat => (k : Int)) else fun _ => 0
theorem Ts_0 : Ts 0 = zup (fun _ => 0) 4 (-5) := if_pos rfl
theorem Ts_i {r : Nat} (h : r = 3 ∨ r = 222 ∨ r = 265) : Ts r = fun k : Nat => (k : Int) := by
  unfold Ts
  rw [if_neg (by omega), if_pos h]
theorem Ts_z {r : Nat} (h0 : r ≠ 0) (h : ¬ (r = 3 ∨ r = 222 ∨ r = 265)) : Ts r = fun _ => 0 := by
  unfold Ts
  rw [if_neg h0, if_neg h]
theorem cS_0 {b r : Nat} {f : Nat → Int} (h : r = 0) : cellS b r f = am_ob 9 (l_S b f) := if_pos h
theorem cS_1 {b r : Nat} {f : Nat → Int} (h : r = 1) : cellS b r f = am_ar 0 6 (am_xi fun j => iz (f j)) := by
  unfold cellS
  rw [if_neg (by omega), if_pos h]
theorem cS_2 {b r : Nat} {f : Nat → Int} (h : r = 2) : cellS b r f = am_ar 0 7 (am_xi fun j => iz (f j)) := by
  unfold cellS
  rw [if_neg (by omega), if_neg (by omega), if_pos h]
theorem cS_3 {b r : Nat} {f : Nat → Int} (h : r = 3) : cellS b r f = am_ar 8 72 (am_xq fun i => some (b + 2 + 3 * (f i).toNat)) := by
  unfold cellS
  rw [if_neg (by omega), if_neg (by omega), if_neg (by omega), if_pos h]
theorem cS_4 {b r : Nat} {f : Nat → Int} (h : r = 4) : cellS b r f = am_ar 9 2 (am_xq fun i => some (b + 217 + 43 * i)) := by
  unfold cellS
  rw [if_neg (by omega), if_neg (by omega), if_neg (by omega), if_neg (by omega), if_pos h]
theorem cS_P {b r : Nat} {f : Nat → Int} (h1 : 5 ≤ r) (h2 : r < 221) (h3 : (r - 5) % 3 = 0) : cellS b r f = am_ob 8 (l_P b f) := by
  unfold cellS
  rw [if_neg (by omega), if_neg (by omega), if_neg (by omega), if_neg (by omega), if_neg (by omega), if_pos h2, if_pos h3]
theorem cS_Pa {b r : Nat} {f : Nat → Int} (h1 : 5 ≤ r) (h2 : r < 221) (h3 : (r - 5) % 3 ≠ 0) : cellS b r f = am_ar 0 7 (am_xi fun j => iz (f j)) := by
  unfold cellS
  rw [if_neg (by omega), if_neg (by omega), if_neg (by omega), if_neg (by omega), if_neg (by omega), if_pos h2, if_neg h3]
theorem cS_R {b r : Nat} {f : Nat → Int} (h2 : 221 ≤ r) (h3 : (r - 221) % 43 = 0) : cellS b r f = am_ob 6 (l_R b (if r < 264 then 10 else 60) f) := by
  unfold cellS
  rw [if_neg (by omega), if_neg (by omega), if_neg (by omega), if_neg (by omega), if_neg (by omega), if_neg (by omega), if_pos h3]
theorem cS_R1 {b r : Nat} {f : Nat → Int} (h2 : 221 ≤ r) (h3 : (r - 221) % 43 = 1) : cellS b r f = am_ar 10 40 (am_xq fun i => some (b + 2 + (f i).toNat)) := by
  unfold cellS
  rw [if_neg (by omega), if_neg (by omega), if_neg (by omega), if_neg (by omega), if_neg (by omega), if_neg (by omega), if_neg (by omega), if_pos h3]
theorem cS_R2 {b r : Nat} {f : Nat → Int} (h2 : 221 ≤ r) (h3 : (r - 221) % 43 = 2) : cellS b r f = am_ar 0 40 (am_xi fun j => iz (f j)) := by
  unfold cellS
  rw [if_neg (by omega), if_neg (by omega), if_neg (by omega), if_neg (by omega), if_neg (by omega), if_neg (by omega), if_neg (by omega), if_neg (by omega), if_pos h3]
theorem cS_M {b r : Nat} {f : Nat → Int} (h2 : 221 ≤ r) (h3 : 3 ≤ (r - 221) % 43) : cellS b r f = am_ob 4 (l_M f) := by
  unfold cellS
  rw [if_neg (by omega), if_neg (by omega), if_neg (by omega), if_neg (by omega), if_neg (by omega), if_neg (by omega), if_neg (by omega), if_neg (by omega), if_neg (by omega)]
/-- rollups as made, told by offsets -/
theorem RC_cell {h : am_H} {b u : Nat} {st : Int} (hu : u < 2) (hst : st = if u = 0 then 10 else 60) (hr : RC h (b + 221 + 43 * u) st) : ∀ r, 221 + 43 * u ≤ r → r < 264 + 43 * u → h (b + r) = some (cellS (b + r) r (Ts r)) := fun r r1 r2 => by
  obtain ⟨a1, a2, a3, a4⟩ := hr
  by_cases z0 : r = 221 + 43 * u
  · have e : b + r = b + 221 + 43 * u := by omega
    have es : (if r < 264 then (10 : Int) else 60) = st := by
      rw [hst]
      by_cases q : u = 0
      · rw [if_pos q, if_pos (by omega)]
      · rw [if_neg q, if_neg (by omega)]
    rw [cS_R (by omega) (by omega), Ts_z (by omega) (by omega), es, e]
    exact a1
  · by_cases z1 : r = 222 + 43 * u
    · have e : b + r = b + 221 + 43 * u + 1 := by omega
      have ef : (fun i : Nat => some (b + 221 + 43 * u + 3 + i)) = fun i : Nat => some (b + 221 + 43 * u + 1 + 2 + ((i : Int)).toNat) := funext fun i => by
        rw [Int.toNat_natCast]
      rw [cS_R1 (by omega) (by omega), Ts_i (by omega), e, a2, gQ_n, ef]
    · by_cases z2 : r = 223 + 43 * u
      · have e : b + r = b + 221 + 43 * u + 2 := by omega
        rw [cS_R2 (by omega) (by omega), Ts_z (by omega) (by omega), e]
        exact a3
      · obtain ⟨i, hi⟩ : ∃ i, r = 224 + 43 * u + i := ⟨r - (224 + 43 * u), by omega⟩
        have e : b + r = b + 221 + 43 * u + 3 + i := by omega
        rw [cS_M (by omega) (by omega), Ts_z (by omega) (by omega), e]
        exact a4 i (by omega)
set_option maxRecDepth 16384 in
set_option maxHeartbeats 1000000 in
theorem q_Series_init {h : am_H} {b : Nat} (hb : 64 ≤ b) (eb : h b = some (am_ob 9 [.null, .null, .null, .null, .int (iz 0), .int (iz 0), .int (iz 0), .int (iz 0)])) : ∃ h', (∀ d K, K none h' (b + 307) → am_CL (d + 3) m_Series_init [.ref b] h (b + 1) K) ∧ (∀ r, r < 307 → h' (b + r) = some (cellS (b + r) r (Ts r))) ∧ ∀ c, c < b → h' c = h c := by
  obtain ⟨hA, sA, qA⟩ := q_Series_init0 hb eb
  obtain ⟨hB, qB, sB⟩ := q_Series_init_l hb 72 0 hA 4 87 (by omega) sA (by omega) (by omega)
  obtain ⟨hC, qC, c1, c2, c3, c4⟩ := q_Series_init4 hb sB
  obtain ⟨⟨b1, b2, b3⟩, b4, b5, b6, b7⟩ := sB
  refine ⟨hC, fun d K hK => qA (d + 1) K ?_, fun r hr => ?_, fun c hc => by rw [c4 c (by omega) (by omega), b7 c hc]⟩
  · have q := qB (d + 1) K
    have q' : am_G (d + 2) m_Series_init K 1 [.ref b, .int (iz 0)] [] hA (b + 5) (4, 87) = am_G (d + 2) m_Series_init K 4 [.ref b, .int (iz 0)] [] hB (b + 221) (220, 1599) := q
    rw [q']
    exact qC d K hK
  · by_cases z0 : r < 221
    · by_cases z1 : r = 4
      · subst z1
        rw [cS_4 rfl, c3]
      · rw [c4 (b + r) (by omega) (by omega)]
        by_cases z2 : r = 0
        · subst z2
          rw [cS_0 rfl, Ts_0]
          exact b1
        · by_cases z3 : r = 1
          · subst z3
            rw [cS_1 rfl, Ts_z (by omega) (by omega)]
            exact b2
          · by_cases z4 : r = 2
            · subst z4
              rw [cS_2 rfl, Ts_z (by omega) (by omega)]
              exact b3
            · by_cases z5 : r = 3
              · subst z5
                have ef : (fun i : Nat => some (b + 5 + 3 * i)) = fun i : Nat => some (b + 3 + 2 + 3 * ((i : Int)).toNat) := funext fun i => by
                  rw [Int.toNat_natCast]
                rw [cS_3 rfl, Ts_i (by omega), b4, gQ_n, ef]
              · obtain ⟨i, j, hi, hj⟩ : ∃ i j, r = 5 + 3 * i + j ∧ j < 3 := ⟨(r - 5) / 3, (r - 5) % 3, by omega, by omega⟩
                obtain ⟨p1, p2, p3⟩ := b6 i (by omega)
                have e : b + r = b + 5 + 3 * i + j := by omega
                rw [Ts_z (by omega) (by omega), e]
                by_cases y0 : j = 0
                · subst y0
                  rw [cS_P (by omega) z0 (by omega)]
                  exact p1
                · rw [cS_Pa (by omega) z0 (by omega)]
                  by_cases y1 : j = 1
                  · subst y1
                    exact p2
                  · have : j = 2 := by omega
                    subst this
                    exact p3
    · by_cases z1 : r < 264
      · exact RC_cell (u := 0) (by omega) rfl c1 r (by omega) (by omega)
      · exact RC_cell (u := 1) (by omega) rfl c2 r (by omega) (by omega)
