/-! MADE: a series -/
/-- rollups as made -/
def RC (h : am_H) (b : Nat) (st : Int) : Prop := h b = some (am_ob 6 (l_R b st (fun _ => 0))) ∧ h (b + 1) = some (am_ar 10 40 (am_xq (gQ 40 (fun i => b + 3 + i) 40))) ∧ h (b + 2) = some (am_ar 0 40 (am_xi fun _ => iz 0)) ∧ ∀ i, i < 40 → h (b + 3 + i) = some (am_ob 4 (l_M (fun _ => 0)))
theorem RC_cg {h h' : am_H} {b : Nat} {st : Int} (hr : RC h b st) (hh : ∀ c, b ≤ c → c < b + 43 → h' c = h c) : RC h' b st := by
  obtain ⟨a1, a2, a3, a4⟩ := hr
  exact ⟨by rw [hh _ (by omega) (by omega)]; exact a1, by rw [hh _ (by omega) (by omega)]; exact a2, by rw [hh _ (by omega) (by omega)]; exact a3, fun i hi => by rw [hh _ (by omega) (by omega)]; exact a4 i hi⟩
/-- one pair of rollups made: the heap before -/
theorem sr_roll {h : am_H} {b u : Nat} {st : Int} (hb : 64 ≤ b) (hu : u < 2) (r3 : h (b + 4) = some (am_ar 9 2 (am_xq (gQ 2 (fun i => b + 221 + 43 * i) u)))) : ∃ h1 h2, (∀ d K, K none h1 (b + 221 + 43 * u + 43) → am_CL (d + 2) m_Rollups_init [.ref (b + 221 + 43 * u), .int (iz st)] (am_up h (b + 221 + 43 * u) (am_ob 6 [.null, .null, .int (iz 0), .int (iz 0)])) (b + 221 + 43 * u + 1) K) ∧ h2 = am_up h1 (b + 4) (am_ar 9 2 (am_xq (gQ 2 (fun i => b + 221 + 43 * i) (u + 1)))) ∧ h1 (b + 4) = some (am_ar 9 2 (am_xq (gQ 2 (fun i => b + 221 + 43 * i) u))) ∧ (∃ fs, h1 (b + 221 + 43 * u) = some (am_ob 6 fs)) ∧ RC h2 (b + 221 + 43 * u) st ∧ h2 (b + 4) = some (am_ar 9 2 (am_xq (gQ 2 (fun i => b + 221 + 43 * i) (u + 1)))) ∧ (∀ c, c < b + 221 + 43 * u → h1 c = h c) ∧ ∀ c, c < b + 221 + 43 * u → c ≠ b + 4 → h2 c = h c := by
  obtain ⟨h1, q, ⟨a1, a2, a3, a4, a5⟩⟩ := q_Rollups_init (h := am_up h (b + 221 + 43 * u) (am_ob 6 [.null, .null, .int (iz 0), .int (iz 0)])) (b := b + 221 + 43 * u) (st := st) (by omega) (am_up_eq _ _ _)
  have fr : ∀ c, c < b + 221 + 43 * u → h1 c = h c := fun c hc => by rw [a5 c hc, am_up_ne (by omega)]
  refine ⟨h1, _, q, rfl, by rw [fr _ (by omega)]; exact r3, ⟨_, a1⟩, RC_cg ⟨a1, a2, a3, a4⟩ (fun c c1 c2 => am_up_ne (by omega)), am_up_eq _ _ _, fr, fun c hc hc4 => by rw [am_up_ne hc4]; exact fr c hc⟩
