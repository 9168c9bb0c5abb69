/-! the class's objects by their addresses -/
def isM (o : Nat) : Prop := 64 ≤ o ∧ o < 5014 ∧ ∀ f, cell o f = am_ob 4 (l_M f)
theorem lay_M {o : Nat} (h : isM o) {T : Nat → Nat → Int} {h0 : am_H} : lay T h0 o = some (am_ob 4 (l_M (T o))) := lay_get h.1 (by have := h.2.1; omega) (h.2.2 _)
theorem up_M {o : Nat} (h : isM o) {T : Nat → Nat → Int} {h0 : am_H} {f : Nat → Int} : am_up (lay T h0) o (am_ob 4 (l_M f)) = lay (uT T o f) h0 := lay_up f h.1 (by have := h.2.1; omega) (h.2.2 f)
theorem isM_79 : isM 79 := ⟨by decide, by decide, fun f => cell_79 f⟩
theorem isM_92 : isM 92 := ⟨by decide, by decide, fun f => cell_92 f⟩
theorem isM_93 : isM 93 := ⟨by decide, by decide, fun f => cell_93 f⟩
theorem isB_le {a : Nat} (h : isB a) : 94 ≤ a ∧ a + 307 ≤ 5006 := by
  obtain ⟨j, hj, rfl⟩ := h
  omega
/-- a sample with its two arrays -/
def isP (b : Nat) : Prop := 64 ≤ b ∧ b + 2 < 5014 ∧ (∀ f, cell b f = am_ob 8 (l_P b f)) ∧ (∀ f, cell (b + 1) f = am_ar 0 7 (am_xi fun j => iz (f j))) ∧ ∀ f, cell (b + 2) f = am_ar 0 7 (am_xi fun j => iz (f j))
theorem isP_of {a : Nat} (ha : isB a) {i : Nat} (hi : i < 72) : isP (a + 5 + 3 * i) := ⟨by have := isB_le ha; omega, by have := isB_le ha; omega, fun f => cell_P ha hi f, fun f => cell_P1 ha hi f, fun f => cell_P2 ha hi f⟩
theorem layP {b : Nat} (h : isP b) {T : Nat → Nat → Int} {h0 : am_H} : lay T h0 b = some (am_ob 8 (l_P b (T b))) := lay_get h.1 (by have := h.2.1; omega) (h.2.2.1 _)
theorem layP1 {b : Nat} (h : isP b) {T : Nat → Nat → Int} {h0 : am_H} : lay T h0 (b + 1) = some (am_ar 0 7 (am_xi fun j => iz (T (b + 1) j))) := lay_get (by have := h.1; omega) (by have := h.2.1; omega) (h.2.2.2.1 _)
theorem layP2 {b : Nat} (h : isP b) {T : Nat → Nat → Int} {h0 : am_H} : lay T h0 (b + 2) = some (am_ar 0 7 (am_xi fun j => iz (T (b + 2) j))) := lay_get (by have := h.1; omega) (by have := h.2.1; omega) (h.2.2.2.2 _)
theorem upP {b : Nat} (h : isP b) {T : Nat → Nat → Int} {h0 : am_H} {f : Nat → Int} : am_up (lay T h0) b (am_ob 8 (l_P b f)) = lay (uT T b f) h0 := lay_up f h.1 (by have := h.2.1; omega) (h.2.2.1 f)
theorem upP1 {b : Nat} (h : isP b) {T : Nat → Nat → Int} {h0 : am_H} {f : Nat → Int} : am_up (lay T h0) (b + 1) (am_ar 0 7 (am_xi fun j => iz (f j))) = lay (uT T (b + 1) f) h0 := lay_up f (by have := h.1; omega) (by have := h.2.1; omega) (h.2.2.2.1 f)
theorem upP2 {b : Nat} (h : isP b) {T : Nat → Nat → Int} {h0 : am_H} {f : Nat → Int} : am_up (lay T h0) (b + 2) (am_ar 0 7 (am_xi fun j => iz (f j))) = lay (uT T (b + 2) f) h0 := lay_up f (by have := h.1; omega) (by have := h.2.1; omega) (h.2.2.2.2 f)
/-- the rollups of one resolution with their arrays and measures -/
def isR (b : Nat) (st : Int) : Prop := 64 ≤ b ∧ b + 42 < 5014 ∧ (∀ f, cell b f = am_ob 6 (l_R b st f)) ∧ (∀ f, cell (b + 1) f = am_ar 10 40 (am_xq fun i => some (b + 3 + (f i).toNat))) ∧ (∀ f, cell (b + 2) f = am_ar 0 40 (am_xi fun j => iz (f j))) ∧ ∀ i, i < 40 → isM (b + 3 + i)
theorem isR_of {a : Nat} (ha : isB a) {r : Nat} (hr : r < 2) : isR (a + 221 + 43 * r) (if r = 0 then 10 else 60) := ⟨by have := isB_le ha; omega, by have := isB_le ha; omega, fun f => cell_R ha hr f, fun f => cell_R1 ha hr f, fun f => cell_R2 ha hr f, fun i hi => ⟨by have := isB_le ha; omega, by have := isB_le ha; omega, fun f => cell_R3 ha hr hi f⟩⟩
theorem layR {b : Nat} {st : Int} (h : isR b st) {T : Nat → Nat → Int} {h0 : am_H} : lay T h0 b = some (am_ob 6 (l_R b st (T b))) := lay_get h.1 (by have := h.2.1; omega) (h.2.2.1 _)
theorem layR1 {b : Nat} {st : Int} (h : isR b st) {T : Nat → Nat → Int} {h0 : am_H} : lay T h0 (b + 1) = some (am_ar 10 40 (am_xq fun i => some (b + 3 + (T (b + 1) i).toNat))) := lay_get (by have := h.1; omega) (by have := h.2.1; omega) (h.2.2.2.1 _)
theorem layR2 {b : Nat} {st : Int} (h : isR b st) {T : Nat → Nat → Int} {h0 : am_H} : lay T h0 (b + 2) = some (am_ar 0 40 (am_xi fun j => iz (T (b + 2) j))) := lay_get (by have := h.1; omega) (by have := h.2.1; omega) (h.2.2.2.2.1 _)
theorem upR {b : Nat} {st : Int} (h : isR b st) {T : Nat → Nat → Int} {h0 : am_H} {f : Nat → Int} : am_up (lay T h0) b (am_ob 6 (l_R b st f)) = lay (uT T b f) h0 := lay_up f h.1 (by have := h.2.1; omega) (h.2.2.1 f)
theorem upR1 {b : Nat} {st : Int} (h : isR b st) {T : Nat → Nat → Int} {h0 : am_H} {f : Nat → Int} : am_up (lay T h0) (b + 1) (am_ar 10 40 (am_xq fun i => some (b + 3 + (f i).toNat))) = lay (uT T (b + 1) f) h0 := lay_up f (by have := h.1; omega) (by have := h.2.1; omega) (h.2.2.2.1 f)
theorem upR2 {b : Nat} {st : Int} (h : isR b st) {T : Nat → Nat → Int} {h0 : am_H} {f : Nat → Int} : am_up (lay T h0) (b + 2) (am_ar 0 40 (am_xi fun j => iz (f j))) = lay (uT T (b + 2) f) h0 := lay_up f (by have := h.1; omega) (by have := h.2.1; omega) (h.2.2.2.2.1 f)
/-- an array of references by their numbers, one put anew -/
theorem am_vupR (b : Nat) (F : Nat → Int) (k x : Nat) : va_up (fun i => some (b + (F i).toNat)) k (some (b + x)) = fun i => some (b + ((zup F k x) i).toNat) := by
  funext j
  unfold va_up zup
  by_cases q : j = k <;> simp [q]
theorem lay_S3' {T : Nat → Nat → Int} {h0 : am_H} {a : Nat} (ha : isB a) : lay T h0 (a + 3) = some (am_ar 8 72 (am_xq fun i => some (a + 5 + 3 * (T (a + 3) i).toNat))) := (lay_S3 ha).trans (by congr 5)
theorem lay_S4' {T : Nat → Nat → Int} {h0 : am_H} {a : Nat} (ha : isB a) : lay T h0 (a + 4) = some (am_ar 9 2 (am_xq fun i => some (a + 221 + 43 * i))) := (lay_S4 ha).trans (by congr 5)
theorem up_S3' {T : Nat → Nat → Int} {h0 : am_H} {a : Nat} (ha : isB a) {f : Nat → Int} : am_up (lay T h0) (a + 3) (am_ar 8 72 (am_xq fun i => some (a + 5 + 3 * (f i).toNat))) = lay (uT T (a + 3) f) h0 := by
  rw [← up_S3 ha]
theorem am_vupS (b : Nat) (F : Nat → Int) (k x : Nat) : va_up (fun i => some (b + 3 * (F i).toNat)) k (some (b + 3 * x)) = fun i => some (b + 3 * ((zup F k x) i).toNat) := by
  funext j
  unfold va_up zup
  by_cases q : j = k <;> simp [q]
/-- the measures taken, as the class does it -/
def mtk (F : Nat → Int) (le gr fi la : Int) : Nat → Int := zup (zup (zup (zup F 5 (if lz (F 0) = lz 0 ∨ lz le < lz (F 5) then le else F 5)) 6 (if lz (F 0) = lz 0 ∨ lz (F 6) < lz gr then gr else F 6)) 8 (if lz (F 0) = lz 0 then fi else F 8)) 9 la
theorem jn_mtk (F : Nat → Int) (c rs g ch cv le gr su fi la : Int) : jn F c rs g ch cv le gr su fi la = zup (zup (zup (zup (zup (zup (mtk F le gr fi la) 0 (F 0 + c)) 1 (F 1 + rs)) 2 (F 2 + g)) 3 (F 3 + ch)) 4 (F 4 + cv)) 7 (F 7 + su) := rfl
theorem mtk_lo {F : Nat → Int} {le gr fi la : Int} {k : Nat} (h5 : k ≠ 5) (h6 : k ≠ 6) (h8 : k ≠ 8) (h9 : k ≠ 9) : mtk F le gr fi la k = F k := by
  unfold mtk
  rw [zup_ne h9, zup_ne h8, zup_ne h6, zup_ne h5]
/-- measures emptied, as the class does it -/
def mem0 (F : Nat → Int) : Nat → Int := zup (zup (zup (zup (zup (zup F 0 0) 1 0) 2 0) 3 0) 4 0) 7 0
