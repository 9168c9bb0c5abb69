/-! ROLLING UP: the class against a row -/
theorem jn_k {F : Nat → Int} {c rs g ch cv le gr su fi la : Int} : jn F c rs g ch cv le gr su fi la 0 = F 0 + c ∧ jn F c rs g ch cv le gr su fi la 1 = F 1 + rs ∧ jn F c rs g ch cv le gr su fi la 2 = F 2 + g ∧ jn F c rs g ch cv le gr su fi la 3 = F 3 + ch ∧ jn F c rs g ch cv le gr su fi la 4 = F 4 + cv ∧ jn F c rs g ch cv le gr su fi la 5 = (if lz (F 0) = lz 0 ∨ lz le < lz (F 5) then le else F 5) ∧ jn F c rs g ch cv le gr su fi la 6 = (if lz (F 0) = lz 0 ∨ lz (F 6) < lz gr then gr else F 6) ∧ jn F c rs g ch cv le gr su fi la 7 = F 7 + su ∧ jn F c rs g ch cv le gr su fi la 8 = (if lz (F 0) = lz 0 then fi else F 8) ∧ jn F c rs g ch cv le gr su fi la 9 = la := by
  unfold jn
  refine ⟨?_, ?_, ?_, ?_, ?_, ?_, ?_, ?_, ?_, ?_⟩ <;> simp [zup]
/-- two rows of measures that agree as far as they exist -/
def mEq (F G : Nat → Int) : Prop := F 0 = G 0 ∧ F 1 = G 1 ∧ F 2 = G 2 ∧ F 3 = G 3 ∧ F 4 = G 4 ∧ F 7 = G 7 ∧ (lz (F 0) = lz 0 ∨ F 5 = G 5 ∧ F 6 = G 6 ∧ F 8 = G 8 ∧ F 9 = G 9)
theorem jn_congr {F G : Nat → Int} {c rs g ch cv le gr su fi la : Int} (h : mEq F G) : ∀ k, k < 10 → jn F c rs g ch cv le gr su fi la k = jn G c rs g ch cv le gr su fi la k := by
  obtain ⟨h0, h1, h2, h3, h4, h7, h5⟩ := h
  obtain ⟨f0, f1, f2, f3, f4, f5, f6, f7, f8, f9⟩ := jn_k (F := F) (c := c) (rs := rs) (g := g) (ch := ch) (cv := cv) (le := le) (gr := gr) (su := su) (fi := fi) (la := la)
  obtain ⟨g0, g1, g2, g3, g4, g5, g6, g7, g8, g9⟩ := jn_k (F := G) (c := c) (rs := rs) (g := g) (ch := ch) (cv := cv) (le := le) (gr := gr) (su := su) (fi := fi) (la := la)
  intro k hk
  rcases (show k = 0 ∨ k = 1 ∨ k = 2 ∨ k = 3 ∨ k = 4 ∨ k = 5 ∨ k = 6 ∨ k = 7 ∨ k = 8 ∨ k = 9 by omega) with rfl | rfl | rfl | rfl | rfl | rfl | rfl | rfl | rfl | rfl
  · rw [f0, g0, h0]
  · rw [f1, g1, h1]
  · rw [f2, g2, h2]
  · rw [f3, g3, h3]
  · rw [f4, g4, h4]
  · rw [f5, g5, ← h0]
    rcases h5 with h5 | ⟨h5, -⟩
    · rw [if_pos (Or.inl h5), if_pos (Or.inl h5)]
    · rw [h5]
  · rw [f6, g6, ← h0]
    rcases h5 with h5 | ⟨-, h5, -⟩
    · rw [if_pos (Or.inl h5), if_pos (Or.inl h5)]
    · rw [h5]
  · rw [f7, g7, h7]
  · rw [f8, g8, ← h0]
    rcases h5 with h5 | ⟨-, -, h5, -⟩
    · rw [if_pos h5, if_pos h5]
    · rw [h5]
  · rw [f9, g9]
theorem mEq_of {F G : Nat → Int} (h : ∀ k, k < 10 → F k = G k) : mEq F G := ⟨h 0 (by omega), h 1 (by omega), h 2 (by omega), h 3 (by omega), h 4 (by omega), h 7 (by omega), Or.inr ⟨h 5 (by omega), h 6 (by omega), h 8 (by omega), h 9 (by omega)⟩⟩
def z0 : Nat → Int := fun _ => 0
theorem mem0_k {F : Nat → Int} : mem0 F 0 = 0 ∧ mem0 F 1 = 0 ∧ mem0 F 2 = 0 ∧ mem0 F 3 = 0 ∧ mem0 F 4 = 0 ∧ mem0 F 7 = 0 := by
  unfold mem0
  refine ⟨?_, ?_, ?_, ?_, ?_, ?_⟩ <;> simp [zup]
theorem mEq_0 (F : Nat → Int) : mEq (mem0 F) z0 := by
  obtain ⟨f0, f1, f2, f3, f4, f7⟩ := mem0_k (F := F)
  exact ⟨f0, f1, f2, f3, f4, f7, Or.inl (by rw [f0])⟩
theorem mEq_z (F : Nat → Int) : mEq (zfill F (fun _ => 0) 10) z0 := mEq_of fun k hk => zfill_lt hk
theorem mEq_symm {F G : Nat → Int} (h : mEq F G) : mEq G F := by
  obtain ⟨h0, h1, h2, h3, h4, h7, h5⟩ := h
  exact ⟨h0.symm, h1.symm, h2.symm, h3.symm, h4.symm, h7.symm, h5.imp (fun q => by rw [← h0]; exact q) (fun q => ⟨q.1.symm, q.2.1.symm, q.2.2.1.symm, q.2.2.2.symm⟩)⟩
theorem mEq_trans {F G H : Nat → Int} (h : mEq F G) (h' : mEq G H) : mEq F H := by
  obtain ⟨h0, h1, h2, h3, h4, h7, h5⟩ := h
  obtain ⟨g0, g1, g2, g3, g4, g7, g5⟩ := h'
  refine ⟨h0.trans g0, h1.trans g1, h2.trans g2, h3.trans g3, h4.trans g4, h7.trans g7, ?_⟩
  rcases h5 with h5 | ⟨a1, a2, a3, a4⟩
  · exact Or.inl h5
  · rcases g5 with g5 | ⟨b1, b2, b3, b4⟩
    · exact Or.inl (by rw [h0]; exact g5)
    · exact Or.inr ⟨a1.trans b1, a2.trans b2, a3.trans b3, a4.trans b4⟩
theorem jn_mEq {F G : Nat → Int} {c rs g ch cv le gr su fi la : Int} (h : mEq F G) : mEq (jn F c rs g ch cv le gr su fi la) (jn G c rs g ch cv le gr su fi la) := mEq_of (jn_congr h)
theorem jnP_jnS {T : Nat → Nat → Int} {R F G : Nat → Int} {x i : Nat} (hS : SPx T x R i) (h : mEq F G) : ∀ k, k < 10 → jnP T F x k = jnS G R i k := by
  obtain ⟨s1, s2, s3, s4, s5, -⟩ := hS
  unfold jnP jnS
  simp only [s2, s3, s4, s5]
  exact jn_congr h
theorem jnR_z {R : Nat → Int} {p k : Nat} (hk : k < 10) : jnR z0 R p k = R (p + k) := by
  unfold jnR
  obtain ⟨f0, f1, f2, f3, f4, f5, f6, f7, f8, f9⟩ := jn_k (F := z0) (c := R p) (rs := R (p + 1)) (g := R (p + 2)) (ch := R (p + 3)) (cv := R (p + 4)) (le := R (p + 5)) (gr := R (p + 6)) (su := R (p + 7)) (fi := R (p + 8)) (la := R (p + 9))
  have e : lz (z0 0) = lz 0 := rfl
  have e2 : ∀ j, z0 j = 0 := fun _ => rfl
  rcases (show k = 0 ∨ k = 1 ∨ k = 2 ∨ k = 3 ∨ k = 4 ∨ k = 5 ∨ k = 6 ∨ k = 7 ∨ k = 8 ∨ k = 9 by omega) with rfl | rfl | rfl | rfl | rfl | rfl | rfl | rfl | rfl | rfl
  · rw [f0, e2, Int.zero_add]; rfl
  · rw [f1, e2, Int.zero_add]
  · rw [f2, e2, Int.zero_add]
  · rw [f3, e2, Int.zero_add]
  · rw [f4, e2, Int.zero_add]
  · rw [f5, if_pos (Or.inl e)]
  · rw [f6, if_pos (Or.inl e)]
  · rw [f7, e2, Int.zero_add]
  · rw [f8, if_pos e]
  · exact f9
/-- the row with its rollup of a resolution brought up to date by the sample i -/
def rollP (R : Nat → Int) (r p : Nat) (num : Int) (G : Nat → Int) (m : Int) : Nat → Int := zup (zup (rfil R (1235 + (r * 40 + p) * 11) 10 G) (1235 + (r * 40 + p) * 11 + 10) num) (17 + r) m
def shfR (R : Nat → Int) (r : Nat) : Nat → Int := rfil R (1235 + r * 440) 429 (fun q => R (1235 + r * 440 + q + 11))
def rollR (R : Nat → Int) (r i : Nat) (w : Int) : Nat → Int :=
  if ¬ R (17 + r) = 0 ∧ R (1235 + (r * 40 + ((R (17 + r)).toNat - 1)) * 11 + 10) = (R (19 + i * 19) - 1) / w then rollP R r ((R (17 + r)).toNat - 1) ((R (19 + i * 19) - 1) / w) (jnS (jnR z0 R (1235 + (r * 40 + ((R (17 + r)).toNat - 1)) * 11)) R i) (R (17 + r))
  else if R (17 + r) = 40 then rollP (shfR R r) r 39 ((R (19 + i * 19) - 1) / w) (jnS z0 (shfR R r) i) 40
  else rollP R r (R (17 + r)).toNat ((R (19 + i * 19) - 1) / w) (jnS z0 R i) (R (17 + r) + 1)
theorem rfil_congr {R f g : Nat → Int} {a n : Nat} (h : ∀ k, k < n → f k = g k) : rfil R a n f = rfil R a n g := by
  funext j
  unfold rfil
  by_cases z : a ≤ j ∧ j < a + n
  · rw [if_pos z, if_pos z, h _ (by omega)]
  · rw [if_neg z, if_neg z]
set_option maxRecDepth 16384 in
set_option maxHeartbeats 1000000 in
theorem q_Mo_roll {h0 : am_H} {T : Nat → Nat → Int} {n : Nat} {s r i m : Nat} {w : Int} (hs : s < 8) (hr : r < 2) (hi : i < 64) (hm : m ≤ 40) (hw : (if (r : Int) = 0 then 10 else 60) = w) (e1 : T (5016 + s) (17 + r) = m) (hS : RSx (T (5016 + s)) i) (hN : ∀ j, j < m → 0 ≤ T (5016 + s) (1235 + (r * 40 + j) * 11 + 10) ∧ T (5016 + s) (1235 + (r * 40 + j) * 11 + 10) ≤ 999999) :
    ∃ F, ∀ d K, am_CL (d + 4) m_Mo_rollUp [.ref 5014, .int (iz s), .int (iz r), .int (iz i)] (lay T h0) n K = K none (lay (uT (uT T 5037 F) (5016 + s) (rollR (T (5016 + s)) r i w)) h0) n := by
  have hw1 : 1 ≤ w ∧ w ≤ 60 := by rw [← hw]; split <;> omega
  obtain ⟨t1, -, t3, -⟩ := hS
  unfold rollR
  rw [e1, Int.toNat_natCast]
  by_cases z : ¬ (m : Int) = 0 ∧ T (5016 + s) (1235 + (r * 40 + (m - 1)) * 11 + 10) = (T (5016 + s) (19 + i * 19) - 1) / w
  · rw [if_pos z]
    obtain ⟨z1, z2⟩ := z
    refine ⟨jnS (jnR (zfill (T 5037) (fun _ => 0) 10) (T (5016 + s)) (1235 + (r * 40 + (m - 1)) * 11)) (T (5016 + s)) i, fun d K => ?_⟩
    have q := q_Mo_rollUpS (d := d) (K := K) (h0 := h0) (T := T) (n := n) (m := m - 1) hs hr hi (by omega) hw hw1 (by rw [e1]; omega) t1 t3 z2
    rw [show (((m - 1 : Nat) : Int) + 1) = m by omega] at q
    rw [q]
    unfold rollP
    rw [rfil_congr (f := jnS (jnR (zfill (T 5037) (fun _ => 0) 10) (T (5016 + s)) (1235 + (r * 40 + (m - 1)) * 11)) (T (5016 + s)) i) (g := jnS (jnR z0 (T (5016 + s)) (1235 + (r * 40 + (m - 1)) * 11)) (T (5016 + s)) i) (jn_congr (jn_mEq (mEq_z _)))]
  · rw [if_neg z]
    by_cases z4 : (m : Int) = 40
    · rw [if_pos z4]
      have hm4 : m = 40 := by omega
      have zn : ¬ T (5016 + s) (1235 + (r * 40 + 39) * 11 + 10) = (T (5016 + s) (19 + i * 19) - 1) / w := fun q => z ⟨by omega, by rw [hm4]; exact q⟩
      refine ⟨jnS (zfill (T 5037) (fun _ => 0) 10) (shfR (T (5016 + s)) r) i, fun d K => ?_⟩
      have q := q_Mo_rollUpF (d := d) (K := K) (h0 := h0) (T := T) (n := n) (R1 := shfR (T (5016 + s)) r) hs hr hi hw hw1 (by rw [e1]; exact z4) t1 t3 ⟨zn, hN 39 (by omega)⟩ rfl
      rw [q, uT_comm (by omega)]
      unfold rollP
      rw [rfil_congr (f := jnS (zfill (T 5037) (fun _ => 0) 10) (shfR (T (5016 + s)) r) i) (g := jnS z0 (shfR (T (5016 + s)) r) i) (jn_congr (mEq_z _))]
    · rw [if_neg z4]
      refine ⟨jnS (zfill (T 5037) (fun _ => 0) 10) (T (5016 + s)) i, fun d K => ?_⟩
      have zn : m = 0 ∨ (¬ T (5016 + s) (1235 + (r * 40 + (m - 1)) * 11 + 10) = (T (5016 + s) (19 + i * 19) - 1) / w ∧ 0 ≤ T (5016 + s) (1235 + (r * 40 + (m - 1)) * 11 + 10) ∧ T (5016 + s) (1235 + (r * 40 + (m - 1)) * 11 + 10) ≤ 999999) := by
        rcases Nat.eq_zero_or_pos m with hz | hz
        · exact Or.inl hz
        · exact Or.inr ⟨fun q => z ⟨by omega, q⟩, hN (m - 1) (by omega)⟩
      have q := q_Mo_rollUpN (d := d) (K := K) (h0 := h0) (T := T) (n := n) (m := m) hs hr hi (by omega) hw hw1 e1 t1 t3 zn
      rw [q]
      unfold rollP
      rw [rfil_congr (f := jnS (zfill (T 5037) (fun _ => 0) 10) (T (5016 + s)) i) (g := jnS z0 (T (5016 + s)) i) (jn_congr (mEq_z _))]
section RP
variable {R G : Nat → Int} {r p : Nat} {num m : Int}
theorem rollP_k {k : Nat} (hk : k < 10) (hr : r < 2) : rollP R r p num G m (1235 + (r * 40 + p) * 11 + k) = G k := by
  unfold rollP
  rw [zup_ne (by omega), zup_ne (by omega), rfil_in (by omega) (by omega), Nat.add_sub_cancel_left]
theorem rollP_n (hr : r < 2) : rollP R r p num G m (1235 + (r * 40 + p) * 11 + 10) = num := by
  unfold rollP
  rw [zup_ne (by omega), zup_eq]
theorem rollP_s : rollP R r p num G m (17 + r) = m := by
  unfold rollP
  rw [zup_eq]
theorem rollP_o {k : Nat} (h : k ≠ 17 + r) (h2 : k < 1235 + (r * 40 + p) * 11 ∨ 1235 + (r * 40 + p) * 11 + 11 ≤ k) : rollP R r p num G m k = R k := by
  unfold rollP
  rw [zup_ne h, zup_ne (by omega), rfil_out (by omega)]
theorem shfR_o {k : Nat} (h : k < 1235 + r * 440 ∨ 1235 + r * 440 + 429 ≤ k) : shfR R r k = R k := by
  unfold shfR
  rw [rfil_out (by omega)]
theorem shfR_i {i k : Nat} (hi : i < 39) (hk : k < 11) : shfR R r (1235 + (r * 40 + i) * 11 + k) = R (1235 + (r * 40 + (i + 1)) * 11 + k) := by
  unfold shfR
  rw [rfil_in (by omega) (by omega)]
  congr 1
  omega
end RP
theorem rollR_o {R : Nat → Int} {r i k : Nat} {w : Int} (hm : 0 ≤ R (17 + r) ∧ R (17 + r) ≤ 40) (h : k ≠ 17 + r) (h2 : k < 1235 + r * 440 ∨ 1235 + r * 440 + 440 ≤ k) : rollR R r i w k = R k := by
  unfold rollR
  split
  · exact rollP_o h (by omega)
  · split
    · rw [rollP_o h (by omega), shfR_o (by omega)]
    · exact rollP_o h (by omega)
