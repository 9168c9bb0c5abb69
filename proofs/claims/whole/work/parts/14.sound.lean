theorem am_b0_out {k : am_C} {mc ms : Nat} {Bd : am_C} {F : am_C → Prop} (q : am_b0 k mc ms Bd F) (h1 : k.1 ≤ Bd.1) (h2 : k.2 ≤ Bd.2) : F (k.1 + mc, k.2 + ms) ∧ k.1 + mc ≤ Bd.1 ∧ k.2 + ms ≤ Bd.2 := by
  by_cases z : mc = 0 ∧ ms = 0
  · have := q.1 z
    obtain ⟨rfl, rfl⟩ := z
    exact ⟨this, h1, h2⟩
  · have := q.2 z
    exact ⟨this.2.2, this.1, this.2.1⟩
def am_retI (rt : Nat) : Instr := match rt with
  | 0 => .return_
  | 3 => .lreturn
  | 4 => .dreturn
  | 5 => .areturn
  | _ => .ireturn
theorem am_rt_retI {rt : Nat} {x : Int32} (h : am_rt rt x) : am_retI rt = .ireturn := by
  unfold am_rt at h
  split at h <;> first | rfl | exact False.elim h
theorem am_psh_map {L : Nat → Value} (v : Option Value) (r : List Value) : (v.map (am_mv L)).toList ++ r.map (am_mv L) = (am_psh v r).map (am_mv L) := by cases v <;> rfl
section AMS
variable {p : Program} {l : Launch} {e : Env} {R : Room} {s : State} {m : MethodId} {args : Array Value} {below : List Frame} {meth : Method} {c : Code} {Q : State → Prop} {mr : am_Rec} {L : Nat → Value} {D : va_G} {B d : Nat} {H : Heap} {locs : List Loc} {cells slots : Nat} {pc len : Nat} {lsm : Array Slot} {rest : List Value} {d0 : Drawn}
def am_Cx (p : Program) (R : Room) (s : State) (m : MethodId) (meth : Method) (c : Code) (mr : am_Rec) (L : Nat → Value) (D : va_G) (B d : Nat) : Prop :=
  p.tables.exec = Jvm.exec ∧ c.code = mr.2.1 ∧ c.maxLocals = mr.2.2.1 ∧ s.vm.findClass mr.1.cls = some m.cls ∧ am_E L D B s s.heap ∧ (mr.1.name = "<init>" → meth.name = "<init>") ∧ d + 1 ≤ R.frames ∧ 60 * (d + 1) ≤ R.locals ∧ mr.2.2.2.2.1.1 ≤ R.cells ∧ mr.2.2.2.2.1.2 ≤ R.slots
def am_At (p : Program) (l : Launch) (e : Env) (R : Room) (s : State) (m : MethodId) (args : Array Value) (below : List Frame) (meth : Method) (c : Code) (Q : State → Prop) (mr : am_Rec) (L : Nat → Value) (D : va_G) (B pc : Nat) : am_N := fun ls st h n k => ∀ (d0 : Drawn) (H : Heap) (locs : List Loc) (lsm : Array Slot), s.drawn.sameBut d0 lw_cs → am_LR L mr.2.2.1 ls lsm → am_HR s L D B h n H → va_S (fun q => B ≤ q) s.heap H locs → k.1 ≤ mr.2.2.2.2.1.1 → k.2 ≤ mr.2.2.2.2.1.2 → W p l e R (s.setDrawn d0) m args below meth c H locs k.1 k.2 Q (F0 m pc lsm (st.map (am_mv L)))
set_option maxHeartbeats 4000000 in
theorem am_ss_aconst_null {CT : am_CT} {BT : Nat → am_N} {K : am_K} {v : Value} {a : List Nat} {nx : am_N} {ls st : List Value} {h : am_H} {n : Nat} {k : am_C} (hC : am_Cx p R s m meth c mr L D B d) (hok : am_okI mr pc len (.aconst_null, v, a) = true) (hdec : decode mr.2.1 pc = .ok (.aconst_null, len))
    (hCT : am_Sound l d CT)
    (hend : ∀ (pc : Nat) (v : Option Value) (h : am_H) (n : Nat) (k : am_C) (d0 : Drawn) (H : Heap) (locs : List Loc) (lsm : Array Slot), am_rets mr.2.2.2.2.2.1 v → K v h n → s.drawn.sameBut d0 lw_cs → am_HR s L D B h n H → va_S (fun q => B ≤ q) s.heap H locs → k.1 ≤ mr.2.2.2.2.1.1 → k.2 ≤ mr.2.2.2.2.1.2 → decode mr.2.1 pc = .ok (am_retI mr.2.2.2.2.2.1, 1) → W p l e R (s.setDrawn d0) m args below meth c H locs k.1 k.2 Q (F0 m pc lsm ((v.map (am_mv L)).toList)))
    (hn : ∀ ls st h n k, nx ls st h n k → am_At p l e R s m args below meth c Q mr L D B (pc + len) ls st h n k) (hB : ∀ b ls st h n k t, am_pc mr b = some t → BT b ls st h n k → am_At p l e R s m args below meth c Q mr L D B t ls st h n k) :
    am_sem CT am_dfs BT mr.2.2.2.2.1 mr.2.2.2.2.2.1 K (.aconst_null, v, a) nx ls st h n k → am_At p l e R s m args below meth c Q mr L D B pc ls st h n k := by
  intro q d0 H locs lsm hd0 hl hH hS hk1 hk2
  obtain ⟨hx, hb, hml, hown, hE, hnm, hRf, hRl, hRc, hRs⟩ := hC
  have hL := hE.1
  have hts : ∀ d0 : Drawn, ∀ w ∈ am_tbl, am_keep w = true → w.before args (s.setDrawn d0) = true := fun d0 w hw hk => (Cond.before_setDrawn args s d0 w).trans (hE.2.1 w hw hk args)
  have hlen : len = 1 := by simpa [am_okI] using hok
  subst hlen
  exact lv_null hx hb hdec (hn _ _ _ _ _ q d0 H locs lsm hd0 hl hH hS hk1 hk2)
set_option maxHeartbeats 4000000 in
theorem am_ss_iconst {CT : am_CT} {BT : Nat → am_N} {K : am_K} {z} {v : Value} {a : List Nat} {nx : am_N} {ls st : List Value} {h : am_H} {n : Nat} {k : am_C} (hC : am_Cx p R s m meth c mr L D B d) (hok : am_okI mr pc len (.iconst z, v, a) = true) (hdec : decode mr.2.1 pc = .ok (.iconst z, len))
    (hCT : am_Sound l d CT)
    (hend : ∀ (pc : Nat) (v : Option Value) (h : am_H) (n : Nat) (k : am_C) (d0 : Drawn) (H : Heap) (locs : List Loc) (lsm : Array Slot), am_rets mr.2.2.2.2.2.1 v → K v h n → s.drawn.sameBut d0 lw_cs → am_HR s L D B h n H → va_S (fun q => B ≤ q) s.heap H locs → k.1 ≤ mr.2.2.2.2.1.1 → k.2 ≤ mr.2.2.2.2.1.2 → decode mr.2.1 pc = .ok (am_retI mr.2.2.2.2.2.1, 1) → W p l e R (s.setDrawn d0) m args below meth c H locs k.1 k.2 Q (F0 m pc lsm ((v.map (am_mv L)).toList)))
    (hn : ∀ ls st h n k, nx ls st h n k → am_At p l e R s m args below meth c Q mr L D B (pc + len) ls st h n k) (hB : ∀ b ls st h n k t, am_pc mr b = some t → BT b ls st h n k → am_At p l e R s m args below meth c Q mr L D B t ls st h n k) :
    am_sem CT am_dfs BT mr.2.2.2.2.1 mr.2.2.2.2.2.1 K (.iconst z, v, a) nx ls st h n k → am_At p l e R s m args below meth c Q mr L D B pc ls st h n k := by
  intro q d0 H locs lsm hd0 hl hH hS hk1 hk2
  obtain ⟨hx, hb, hml, hown, hE, hnm, hRf, hRl, hRc, hRs⟩ := hC
  have hL := hE.1
  have hts : ∀ d0 : Drawn, ∀ w ∈ am_tbl, am_keep w = true → w.before args (s.setDrawn d0) = true := fun d0 w hw hk => (Cond.before_setDrawn args s d0 w).trans (hE.2.1 w hw hk args)
  simp only [am_okI, Bool.and_eq_true, beq_iff_eq, decide_eq_true_eq] at hok
  obtain ⟨hlen, hv⟩ := hok
  subst hlen; subst hv
  exact lv_iconst hx hb hdec rfl (hn _ _ _ _ _ q d0 H locs lsm hd0 hl hH hS hk1 hk2)
set_option maxHeartbeats 4000000 in
theorem am_ss_bipush {CT : am_CT} {BT : Nat → am_N} {K : am_K} {z} {v : Value} {a : List Nat} {nx : am_N} {ls st : List Value} {h : am_H} {n : Nat} {k : am_C} (hC : am_Cx p R s m meth c mr L D B d) (hok : am_okI mr pc len (.bipush z, v, a) = true) (hdec : decode mr.2.1 pc = .ok (.bipush z, len))
    (hCT : am_Sound l d CT)
    (hend : ∀ (pc : Nat) (v : Option Value) (h : am_H) (n : Nat) (k : am_C) (d0 : Drawn) (H : Heap) (locs : List Loc) (lsm : Array Slot), am_rets mr.2.2.2.2.2.1 v → K v h n → s.drawn.sameBut d0 lw_cs → am_HR s L D B h n H → va_S (fun q => B ≤ q) s.heap H locs → k.1 ≤ mr.2.2.2.2.1.1 → k.2 ≤ mr.2.2.2.2.1.2 → decode mr.2.1 pc = .ok (am_retI mr.2.2.2.2.2.1, 1) → W p l e R (s.setDrawn d0) m args below meth c H locs k.1 k.2 Q (F0 m pc lsm ((v.map (am_mv L)).toList)))
    (hn : ∀ ls st h n k, nx ls st h n k → am_At p l e R s m args below meth c Q mr L D B (pc + len) ls st h n k) (hB : ∀ b ls st h n k t, am_pc mr b = some t → BT b ls st h n k → am_At p l e R s m args below meth c Q mr L D B t ls st h n k) :
    am_sem CT am_dfs BT mr.2.2.2.2.1 mr.2.2.2.2.2.1 K (.bipush z, v, a) nx ls st h n k → am_At p l e R s m args below meth c Q mr L D B pc ls st h n k := by
  intro q d0 H locs lsm hd0 hl hH hS hk1 hk2
  obtain ⟨hx, hb, hml, hown, hE, hnm, hRf, hRl, hRc, hRs⟩ := hC
  have hL := hE.1
  have hts : ∀ d0 : Drawn, ∀ w ∈ am_tbl, am_keep w = true → w.before args (s.setDrawn d0) = true := fun d0 w hw hk => (Cond.before_setDrawn args s d0 w).trans (hE.2.1 w hw hk args)
  simp only [am_okI, Bool.and_eq_true, beq_iff_eq, decide_eq_true_eq] at hok
  obtain ⟨hlen, hv⟩ := hok
  subst hlen; subst hv
  exact lv_bipush hx hb hdec rfl (hn _ _ _ _ _ q d0 H locs lsm hd0 hl hH hS hk1 hk2)
set_option maxHeartbeats 4000000 in
theorem am_ss_sipush {CT : am_CT} {BT : Nat → am_N} {K : am_K} {z} {v : Value} {a : List Nat} {nx : am_N} {ls st : List Value} {h : am_H} {n : Nat} {k : am_C} (hC : am_Cx p R s m meth c mr L D B d) (hok : am_okI mr pc len (.sipush z, v, a) = true) (hdec : decode mr.2.1 pc = .ok (.sipush z, len))
    (hCT : am_Sound l d CT)
    (hend : ∀ (pc : Nat) (v : Option Value) (h : am_H) (n : Nat) (k : am_C) (d0 : Drawn) (H : Heap) (locs : List Loc) (lsm : Array Slot), am_rets mr.2.2.2.2.2.1 v → K v h n → s.drawn.sameBut d0 lw_cs → am_HR s L D B h n H → va_S (fun q => B ≤ q) s.heap H locs → k.1 ≤ mr.2.2.2.2.1.1 → k.2 ≤ mr.2.2.2.2.1.2 → decode mr.2.1 pc = .ok (am_retI mr.2.2.2.2.2.1, 1) → W p l e R (s.setDrawn d0) m args below meth c H locs k.1 k.2 Q (F0 m pc lsm ((v.map (am_mv L)).toList)))
    (hn : ∀ ls st h n k, nx ls st h n k → am_At p l e R s m args below meth c Q mr L D B (pc + len) ls st h n k) (hB : ∀ b ls st h n k t, am_pc mr b = some t → BT b ls st h n k → am_At p l e R s m args below meth c Q mr L D B t ls st h n k) :
    am_sem CT am_dfs BT mr.2.2.2.2.1 mr.2.2.2.2.2.1 K (.sipush z, v, a) nx ls st h n k → am_At p l e R s m args below meth c Q mr L D B pc ls st h n k := by
  intro q d0 H locs lsm hd0 hl hH hS hk1 hk2
  obtain ⟨hx, hb, hml, hown, hE, hnm, hRf, hRl, hRc, hRs⟩ := hC
  have hL := hE.1
  have hts : ∀ d0 : Drawn, ∀ w ∈ am_tbl, am_keep w = true → w.before args (s.setDrawn d0) = true := fun d0 w hw hk => (Cond.before_setDrawn args s d0 w).trans (hE.2.1 w hw hk args)
  simp only [am_okI, Bool.and_eq_true, beq_iff_eq, decide_eq_true_eq] at hok
  obtain ⟨hlen, hv⟩ := hok
  subst hlen; subst hv
  exact lv_sipush hx hb hdec rfl (hn _ _ _ _ _ q d0 H locs lsm hd0 hl hH hS hk1 hk2)
set_option maxHeartbeats 4000000 in
theorem am_ss_lconst {CT : am_CT} {BT : Nat → am_N} {K : am_K} {z} {v : Value} {a : List Nat} {nx : am_N} {ls st : List Value} {h : am_H} {n : Nat} {k : am_C} (hC : am_Cx p R s m meth c mr L D B d) (hok : am_okI mr pc len (.lconst z, v, a) = true) (hdec : decode mr.2.1 pc = .ok (.lconst z, len))
    (hCT : am_Sound l d CT)
    (hend : ∀ (pc : Nat) (v : Option Value) (h : am_H) (n : Nat) (k : am_C) (d0 : Drawn) (H : Heap) (locs : List Loc) (lsm : Array Slot), am_rets mr.2.2.2.2.2.1 v → K v h n → s.drawn.sameBut d0 lw_cs → am_HR s L D B h n H → va_S (fun q => B ≤ q) s.heap H locs → k.1 ≤ mr.2.2.2.2.1.1 → k.2 ≤ mr.2.2.2.2.1.2 → decode mr.2.1 pc = .ok (am_retI mr.2.2.2.2.2.1, 1) → W p l e R (s.setDrawn d0) m args below meth c H locs k.1 k.2 Q (F0 m pc lsm ((v.map (am_mv L)).toList)))
    (hn : ∀ ls st h n k, nx ls st h n k → am_At p l e R s m args below meth c Q mr L D B (pc + len) ls st h n k) (hB : ∀ b ls st h n k t, am_pc mr b = some t → BT b ls st h n k → am_At p l e R s m args below meth c Q mr L D B t ls st h n k) :
    am_sem CT am_dfs BT mr.2.2.2.2.1 mr.2.2.2.2.2.1 K (.lconst z, v, a) nx ls st h n k → am_At p l e R s m args below meth c Q mr L D B pc ls st h n k := by
  intro q d0 H locs lsm hd0 hl hH hS hk1 hk2
  obtain ⟨hx, hb, hml, hown, hE, hnm, hRf, hRl, hRc, hRs⟩ := hC
  have hL := hE.1
  have hts : ∀ d0 : Drawn, ∀ w ∈ am_tbl, am_keep w = true → w.before args (s.setDrawn d0) = true := fun d0 w hw hk => (Cond.before_setDrawn args s d0 w).trans (hE.2.1 w hw hk args)
  simp only [am_okI, Bool.and_eq_true, beq_iff_eq, decide_eq_true_eq] at hok
  obtain ⟨hlen, hv⟩ := hok
  subst hlen; subst hv
  exact lv_lconst hx hb hdec rfl (hn _ _ _ _ _ q d0 H locs lsm hd0 hl hH hS hk1 hk2)
set_option maxHeartbeats 4000000 in
theorem am_ss_dconst {CT : am_CT} {BT : Nat → am_N} {K : am_K} {z} {v : Value} {a : List Nat} {nx : am_N} {ls st : List Value} {h : am_H} {n : Nat} {k : am_C} (hC : am_Cx p R s m meth c mr L D B d) (hok : am_okI mr pc len (.dconst z, v, a) = true) (hdec : decode mr.2.1 pc = .ok (.dconst z, len))
    (hCT : am_Sound l d CT)
    (hend : ∀ (pc : Nat) (v : Option Value) (h : am_H) (n : Nat) (k : am_C) (d0 : Drawn) (H : Heap) (locs : List Loc) (lsm : Array Slot), am_rets mr.2.2.2.2.2.1 v → K v h n → s.drawn.sameBut d0 lw_cs → am_HR s L D B h n H → va_S (fun q => B ≤ q) s.heap H locs → k.1 ≤ mr.2.2.2.2.1.1 → k.2 ≤ mr.2.2.2.2.1.2 → decode mr.2.1 pc = .ok (am_retI mr.2.2.2.2.2.1, 1) → W p l e R (s.setDrawn d0) m args below meth c H locs k.1 k.2 Q (F0 m pc lsm ((v.map (am_mv L)).toList)))
    (hn : ∀ ls st h n k, nx ls st h n k → am_At p l e R s m args below meth c Q mr L D B (pc + len) ls st h n k) (hB : ∀ b ls st h n k t, am_pc mr b = some t → BT b ls st h n k → am_At p l e R s m args below meth c Q mr L D B t ls st h n k) :
    am_sem CT am_dfs BT mr.2.2.2.2.1 mr.2.2.2.2.2.1 K (.dconst z, v, a) nx ls st h n k → am_At p l e R s m args below meth c Q mr L D B pc ls st h n k := by
  intro q d0 H locs lsm hd0 hl hH hS hk1 hk2
  obtain ⟨hx, hb, hml, hown, hE, hnm, hRf, hRl, hRc, hRs⟩ := hC
  have hL := hE.1
  have hts : ∀ d0 : Drawn, ∀ w ∈ am_tbl, am_keep w = true → w.before args (s.setDrawn d0) = true := fun d0 w hw hk => (Cond.before_setDrawn args s d0 w).trans (hE.2.1 w hw hk args)
  simp only [am_okI, Bool.and_eq_true, Bool.or_eq_true, beq_iff_eq, decide_eq_true_eq] at hok
  obtain ⟨hlen, ⟨hz, hv⟩ | ⟨hz, hv⟩⟩ := hok
  · subst hlen; subst hz; subst hv
    exact lv_dconst0 hx hb hdec (hn _ _ _ _ _ q d0 H locs lsm hd0 hl hH hS hk1 hk2)
  · subst hlen; subst hz; subst hv
    exact lv_dconst1 hx hb hdec (hn _ _ _ _ _ q d0 H locs lsm hd0 hl hH hS hk1 hk2)
set_option maxHeartbeats 4000000 in
theorem am_ss_fconst {CT : am_CT} {BT : Nat → am_N} {K : am_K} {z} {v : Value} {a : List Nat} {nx : am_N} {ls st : List Value} {h : am_H} {n : Nat} {k : am_C} (hC : am_Cx p R s m meth c mr L D B d) (hok : am_okI mr pc len (.fconst z, v, a) = true) (hdec : decode mr.2.1 pc = .ok (.fconst z, len))
    (hCT : am_Sound l d CT)
    (hend : ∀ (pc : Nat) (v : Option Value) (h : am_H) (n : Nat) (k : am_C) (d0 : Drawn) (H : Heap) (locs : List Loc) (lsm : Array Slot), am_rets mr.2.2.2.2.2.1 v → K v h n → s.drawn.sameBut d0 lw_cs → am_HR s L D B h n H → va_S (fun q => B ≤ q) s.heap H locs → k.1 ≤ mr.2.2.2.2.1.1 → k.2 ≤ mr.2.2.2.2.1.2 → decode mr.2.1 pc = .ok (am_retI mr.2.2.2.2.2.1, 1) → W p l e R (s.setDrawn d0) m args below meth c H locs k.1 k.2 Q (F0 m pc lsm ((v.map (am_mv L)).toList)))
    (hn : ∀ ls st h n k, nx ls st h n k → am_At p l e R s m args below meth c Q mr L D B (pc + len) ls st h n k) (hB : ∀ b ls st h n k t, am_pc mr b = some t → BT b ls st h n k → am_At p l e R s m args below meth c Q mr L D B t ls st h n k) :
    am_sem CT am_dfs BT mr.2.2.2.2.1 mr.2.2.2.2.2.1 K (.fconst z, v, a) nx ls st h n k → am_At p l e R s m args below meth c Q mr L D B pc ls st h n k := by
  intro q d0 H locs lsm hd0 hl hH hS hk1 hk2
  obtain ⟨hx, hb, hml, hown, hE, hnm, hRf, hRl, hRc, hRs⟩ := hC
  have hL := hE.1
  have hts : ∀ d0 : Drawn, ∀ w ∈ am_tbl, am_keep w = true → w.before args (s.setDrawn d0) = true := fun d0 w hw hk => (Cond.before_setDrawn args s d0 w).trans (hE.2.1 w hw hk args)
  simp only [am_okI, Bool.and_eq_true, beq_iff_eq, decide_eq_true_eq] at hok
  obtain ⟨⟨hlen, hz⟩, hv⟩ := hok
  subst hlen; subst hz; subst hv
  exact lv_fconst0 hx hb hdec (hn _ _ _ _ _ q d0 H locs lsm hd0 hl hH hS hk1 hk2)
set_option maxHeartbeats 4000000 in
theorem am_ss_ldc {CT : am_CT} {BT : Nat → am_N} {K : am_K} {z} {v : Value} {a : List Nat} {nx : am_N} {ls st : List Value} {h : am_H} {n : Nat} {k : am_C} (hC : am_Cx p R s m meth c mr L D B d) (hok : am_okI mr pc len (.ldc z, v, a) = true) (hdec : decode mr.2.1 pc = .ok (.ldc z, len))
    (hCT : am_Sound l d CT)
    (hend : ∀ (pc : Nat) (v : Option Value) (h : am_H) (n : Nat) (k : am_C) (d0 : Drawn) (H : Heap) (locs : List Loc) (lsm : Array Slot), am_rets mr.2.2.2.2.2.1 v → K v h n → s.drawn.sameBut d0 lw_cs → am_HR s L D B h n H → va_S (fun q => B ≤ q) s.heap H locs → k.1 ≤ mr.2.2.2.2.1.1 → k.2 ≤ mr.2.2.2.2.1.2 → decode mr.2.1 pc = .ok (am_retI mr.2.2.2.2.2.1, 1) → W p l e R (s.setDrawn d0) m args below meth c H locs k.1 k.2 Q (F0 m pc lsm ((v.map (am_mv L)).toList)))
    (hn : ∀ ls st h n k, nx ls st h n k → am_At p l e R s m args below meth c Q mr L D B (pc + len) ls st h n k) (hB : ∀ b ls st h n k t, am_pc mr b = some t → BT b ls st h n k → am_At p l e R s m args below meth c Q mr L D B t ls st h n k) :
    am_sem CT am_dfs BT mr.2.2.2.2.1 mr.2.2.2.2.2.1 K (.ldc z, v, a) nx ls st h n k → am_At p l e R s m args below meth c Q mr L D B pc ls st h n k := by
  intro q d0 H locs lsm hd0 hl hH hS hk1 hk2
  obtain ⟨hx, hb, hml, hown, hE, hnm, hRf, hRl, hRc, hRs⟩ := hC
  have hL := hE.1
  have hts : ∀ d0 : Drawn, ∀ w ∈ am_tbl, am_keep w = true → w.before args (s.setDrawn d0) = true := fun d0 w hw hk => (Cond.before_setDrawn args s d0 w).trans (hE.2.1 w hw hk args)
  refine am_s_ldc hE hx hb hown (hts d0) hok hdec fun hlen => ?_
  subst hlen
  exact hn _ _ _ _ _ q d0 H locs lsm hd0 hl hH hS hk1 hk2
set_option maxHeartbeats 4000000 in
theorem am_ss_ldc_w {CT : am_CT} {BT : Nat → am_N} {K : am_K} {z} {v : Value} {a : List Nat} {nx : am_N} {ls st : List Value} {h : am_H} {n : Nat} {k : am_C} (hC : am_Cx p R s m meth c mr L D B d) (hok : am_okI mr pc len (.ldc_w z, v, a) = true) (hdec : decode mr.2.1 pc = .ok (.ldc_w z, len))
    (hCT : am_Sound l d CT)
    (hend : ∀ (pc : Nat) (v : Option Value) (h : am_H) (n : Nat) (k : am_C) (d0 : Drawn) (H : Heap) (locs : List Loc) (lsm : Array Slot), am_rets mr.2.2.2.2.2.1 v → K v h n → s.drawn.sameBut d0 lw_cs → am_HR s L D B h n H → va_S (fun q => B ≤ q) s.heap H locs → k.1 ≤ mr.2.2.2.2.1.1 → k.2 ≤ mr.2.2.2.2.1.2 → decode mr.2.1 pc = .ok (am_retI mr.2.2.2.2.2.1, 1) → W p l e R (s.setDrawn d0) m args below meth c H locs k.1 k.2 Q (F0 m pc lsm ((v.map (am_mv L)).toList)))
    (hn : ∀ ls st h n k, nx ls st h n k → am_At p l e R s m args below meth c Q mr L D B (pc + len) ls st h n k) (hB : ∀ b ls st h n k t, am_pc mr b = some t → BT b ls st h n k → am_At p l e R s m args below meth c Q mr L D B t ls st h n k) :
    am_sem CT am_dfs BT mr.2.2.2.2.1 mr.2.2.2.2.2.1 K (.ldc_w z, v, a) nx ls st h n k → am_At p l e R s m args below meth c Q mr L D B pc ls st h n k := by
  intro q d0 H locs lsm hd0 hl hH hS hk1 hk2
  obtain ⟨hx, hb, hml, hown, hE, hnm, hRf, hRl, hRc, hRs⟩ := hC
  have hL := hE.1
  have hts : ∀ d0 : Drawn, ∀ w ∈ am_tbl, am_keep w = true → w.before args (s.setDrawn d0) = true := fun d0 w hw hk => (Cond.before_setDrawn args s d0 w).trans (hE.2.1 w hw hk args)
  refine am_s_ldc_w hE hx hb hown (hts d0) hok hdec fun hlen => ?_
  subst hlen
  exact hn _ _ _ _ _ q d0 H locs lsm hd0 hl hH hS hk1 hk2
set_option maxHeartbeats 4000000 in
theorem am_ss_ldc2_w {CT : am_CT} {BT : Nat → am_N} {K : am_K} {z} {v : Value} {a : List Nat} {nx : am_N} {ls st : List Value} {h : am_H} {n : Nat} {k : am_C} (hC : am_Cx p R s m meth c mr L D B d) (hok : am_okI mr pc len (.ldc2_w z, v, a) = true) (hdec : decode mr.2.1 pc = .ok (.ldc2_w z, len))
    (hCT : am_Sound l d CT)
    (hend : ∀ (pc : Nat) (v : Option Value) (h : am_H) (n : Nat) (k : am_C) (d0 : Drawn) (H : Heap) (locs : List Loc) (lsm : Array Slot), am_rets mr.2.2.2.2.2.1 v → K v h n → s.drawn.sameBut d0 lw_cs → am_HR s L D B h n H → va_S (fun q => B ≤ q) s.heap H locs → k.1 ≤ mr.2.2.2.2.1.1 → k.2 ≤ mr.2.2.2.2.1.2 → decode mr.2.1 pc = .ok (am_retI mr.2.2.2.2.2.1, 1) → W p l e R (s.setDrawn d0) m args below meth c H locs k.1 k.2 Q (F0 m pc lsm ((v.map (am_mv L)).toList)))
    (hn : ∀ ls st h n k, nx ls st h n k → am_At p l e R s m args below meth c Q mr L D B (pc + len) ls st h n k) (hB : ∀ b ls st h n k t, am_pc mr b = some t → BT b ls st h n k → am_At p l e R s m args below meth c Q mr L D B t ls st h n k) :
    am_sem CT am_dfs BT mr.2.2.2.2.1 mr.2.2.2.2.2.1 K (.ldc2_w z, v, a) nx ls st h n k → am_At p l e R s m args below meth c Q mr L D B pc ls st h n k := by
  intro q d0 H locs lsm hd0 hl hH hS hk1 hk2
  obtain ⟨hx, hb, hml, hown, hE, hnm, hRf, hRl, hRc, hRs⟩ := hC
  have hL := hE.1
  have hts : ∀ d0 : Drawn, ∀ w ∈ am_tbl, am_keep w = true → w.before args (s.setDrawn d0) = true := fun d0 w hw hk => (Cond.before_setDrawn args s d0 w).trans (hE.2.1 w hw hk args)
  simp only [am_okI, Bool.and_eq_true, beq_iff_eq] at hok
  obtain ⟨hlen, hok⟩ := hok
  subst hlen
  cases v <;> first | (simp at hok; done) | skip
  · exact lv_ldc2 hx hb hown (am_W_use (hts d0) hok) hdec (hn _ _ _ _ _ q d0 H locs lsm hd0 hl hH hS hk1 hk2)
  · exact lv_ldc2d hx hb hown (am_W_use (hts d0) hok) hdec (hn _ _ _ _ _ q d0 H locs lsm hd0 hl hH hS hk1 hk2)
set_option maxHeartbeats 4000000 in
theorem am_ss_getstatic {CT : am_CT} {BT : Nat → am_N} {K : am_K} {z} {v : Value} {a : List Nat} {nx : am_N} {ls st : List Value} {h : am_H} {n : Nat} {k : am_C} (hC : am_Cx p R s m meth c mr L D B d) (hok : am_okI mr pc len (.getstatic z, v, a) = true) (hdec : decode mr.2.1 pc = .ok (.getstatic z, len))
    (hCT : am_Sound l d CT)
    (hend : ∀ (pc : Nat) (v : Option Value) (h : am_H) (n : Nat) (k : am_C) (d0 : Drawn) (H : Heap) (locs : List Loc) (lsm : Array Slot), am_rets mr.2.2.2.2.2.1 v → K v h n → s.drawn.sameBut d0 lw_cs → am_HR s L D B h n H → va_S (fun q => B ≤ q) s.heap H locs → k.1 ≤ mr.2.2.2.2.1.1 → k.2 ≤ mr.2.2.2.2.1.2 → decode mr.2.1 pc = .ok (am_retI mr.2.2.2.2.2.1, 1) → W p l e R (s.setDrawn d0) m args below meth c H locs k.1 k.2 Q (F0 m pc lsm ((v.map (am_mv L)).toList)))
    (hn : ∀ ls st h n k, nx ls st h n k → am_At p l e R s m args below meth c Q mr L D B (pc + len) ls st h n k) (hB : ∀ b ls st h n k t, am_pc mr b = some t → BT b ls st h n k → am_At p l e R s m args below meth c Q mr L D B t ls st h n k) :
    am_sem CT am_dfs BT mr.2.2.2.2.1 mr.2.2.2.2.2.1 K (.getstatic z, v, a) nx ls st h n k → am_At p l e R s m args below meth c Q mr L D B pc ls st h n k := by
  intro q d0 H locs lsm hd0 hl hH hS hk1 hk2
  obtain ⟨hx, hb, hml, hown, hE, hnm, hRf, hRl, hRc, hRs⟩ := hC
  have hL := hE.1
  have hts : ∀ d0 : Drawn, ∀ w ∈ am_tbl, am_keep w = true → w.before args (s.setDrawn d0) = true := fun d0 w hw hk => (Cond.before_setDrawn args s d0 w).trans (hE.2.1 w hw hk args)
  refine am_s_gets hE hx hb hown (hts d0) hS hok hdec fun hlen => ?_
  subst hlen
  exact hn _ _ _ _ _ q d0 H locs lsm hd0 hl hH hS hk1 hk2
set_option maxHeartbeats 4000000 in
theorem am_ss_iload {CT : am_CT} {BT : Nat → am_N} {K : am_K} {z} {v : Value} {a : List Nat} {nx : am_N} {ls st : List Value} {h : am_H} {n : Nat} {k : am_C} (hC : am_Cx p R s m meth c mr L D B d) (hok : am_okI mr pc len (.iload z, v, a) = true) (hdec : decode mr.2.1 pc = .ok (.iload z, len))
    (hCT : am_Sound l d CT)
    (hend : ∀ (pc : Nat) (v : Option Value) (h : am_H) (n : Nat) (k : am_C) (d0 : Drawn) (H : Heap) (locs : List Loc) (lsm : Array Slot), am_rets mr.2.2.2.2.2.1 v → K v h n → s.drawn.sameBut d0 lw_cs → am_HR s L D B h n H → va_S (fun q => B ≤ q) s.heap H locs → k.1 ≤ mr.2.2.2.2.1.1 → k.2 ≤ mr.2.2.2.2.1.2 → decode mr.2.1 pc = .ok (am_retI mr.2.2.2.2.2.1, 1) → W p l e R (s.setDrawn d0) m args below meth c H locs k.1 k.2 Q (F0 m pc lsm ((v.map (am_mv L)).toList)))
    (hn : ∀ ls st h n k, nx ls st h n k → am_At p l e R s m args below meth c Q mr L D B (pc + len) ls st h n k) (hB : ∀ b ls st h n k t, am_pc mr b = some t → BT b ls st h n k → am_At p l e R s m args below meth c Q mr L D B t ls st h n k) :
    am_sem CT am_dfs BT mr.2.2.2.2.1 mr.2.2.2.2.2.1 K (.iload z, v, a) nx ls st h n k → am_At p l e R s m args below meth c Q mr L D B pc ls st h n k := by
  intro q d0 H locs lsm hd0 hl hH hS hk1 hk2
  obtain ⟨hx, hb, hml, hown, hE, hnm, hRf, hRl, hRc, hRs⟩ := hC
  have hL := hE.1
  have hts : ∀ d0 : Drawn, ∀ w ∈ am_tbl, am_keep w = true → w.before args (s.setDrawn d0) = true := fun d0 w hw hk => (Cond.before_setDrawn args s d0 w).trans (hE.2.1 w hw hk args)
  have hlen : len = 2 := by simpa [am_okI] using hok
  subst hlen
  obtain ⟨x, e, q⟩ := am_I_out q
  exact lv_iload hx hb hdec (hl.get e (by simp [am_U])) (hn _ _ _ _ _ q d0 H locs lsm hd0 hl hH hS hk1 hk2)
set_option maxHeartbeats 4000000 in
theorem am_ss_lload {CT : am_CT} {BT : Nat → am_N} {K : am_K} {z} {v : Value} {a : List Nat} {nx : am_N} {ls st : List Value} {h : am_H} {n : Nat} {k : am_C} (hC : am_Cx p R s m meth c mr L D B d) (hok : am_okI mr pc len (.lload z, v, a) = true) (hdec : decode mr.2.1 pc = .ok (.lload z, len))
    (hCT : am_Sound l d CT)
    (hend : ∀ (pc : Nat) (v : Option Value) (h : am_H) (n : Nat) (k : am_C) (d0 : Drawn) (H : Heap) (locs : List Loc) (lsm : Array Slot), am_rets mr.2.2.2.2.2.1 v → K v h n → s.drawn.sameBut d0 lw_cs → am_HR s L D B h n H → va_S (fun q => B ≤ q) s.heap H locs → k.1 ≤ mr.2.2.2.2.1.1 → k.2 ≤ mr.2.2.2.2.1.2 → decode mr.2.1 pc = .ok (am_retI mr.2.2.2.2.2.1, 1) → W p l e R (s.setDrawn d0) m args below meth c H locs k.1 k.2 Q (F0 m pc lsm ((v.map (am_mv L)).toList)))
    (hn : ∀ ls st h n k, nx ls st h n k → am_At p l e R s m args below meth c Q mr L D B (pc + len) ls st h n k) (hB : ∀ b ls st h n k t, am_pc mr b = some t → BT b ls st h n k → am_At p l e R s m args below meth c Q mr L D B t ls st h n k) :
    am_sem CT am_dfs BT mr.2.2.2.2.1 mr.2.2.2.2.2.1 K (.lload z, v, a) nx ls st h n k → am_At p l e R s m args below meth c Q mr L D B pc ls st h n k := by
  intro q d0 H locs lsm hd0 hl hH hS hk1 hk2
  obtain ⟨hx, hb, hml, hown, hE, hnm, hRf, hRl, hRc, hRs⟩ := hC
  have hL := hE.1
  have hts : ∀ d0 : Drawn, ∀ w ∈ am_tbl, am_keep w = true → w.before args (s.setDrawn d0) = true := fun d0 w hw hk => (Cond.before_setDrawn args s d0 w).trans (hE.2.1 w hw hk args)
  have hlen : len = 2 := by simpa [am_okI] using hok
  subst hlen
  obtain ⟨x, e, q⟩ := am_L_out q
  exact lv_lload hx hb hdec (hl.get e (by simp [am_U])) (hn _ _ _ _ _ q d0 H locs lsm hd0 hl hH hS hk1 hk2)
set_option maxHeartbeats 4000000 in
theorem am_ss_dload {CT : am_CT} {BT : Nat → am_N} {K : am_K} {z} {v : Value} {a : List Nat} {nx : am_N} {ls st : List Value} {h : am_H} {n : Nat} {k : am_C} (hC : am_Cx p R s m meth c mr L D B d) (hok : am_okI mr pc len (.dload z, v, a) = true) (hdec : decode mr.2.1 pc = .ok (.dload z, len))
    (hCT : am_Sound l d CT)
    (hend : ∀ (pc : Nat) (v : Option Value) (h : am_H) (n : Nat) (k : am_C) (d0 : Drawn) (H : Heap) (locs : List Loc) (lsm : Array Slot), am_rets mr.2.2.2.2.2.1 v → K v h n → s.drawn.sameBut d0 lw_cs → am_HR s L D B h n H → va_S (fun q => B ≤ q) s.heap H locs → k.1 ≤ mr.2.2.2.2.1.1 → k.2 ≤ mr.2.2.2.2.1.2 → decode mr.2.1 pc = .ok (am_retI mr.2.2.2.2.2.1, 1) → W p l e R (s.setDrawn d0) m args below meth c H locs k.1 k.2 Q (F0 m pc lsm ((v.map (am_mv L)).toList)))
    (hn : ∀ ls st h n k, nx ls st h n k → am_At p l e R s m args below meth c Q mr L D B (pc + len) ls st h n k) (hB : ∀ b ls st h n k t, am_pc mr b = some t → BT b ls st h n k → am_At p l e R s m args below meth c Q mr L D B t ls st h n k) :
    am_sem CT am_dfs BT mr.2.2.2.2.1 mr.2.2.2.2.2.1 K (.dload z, v, a) nx ls st h n k → am_At p l e R s m args below meth c Q mr L D B pc ls st h n k := by
  intro q d0 H locs lsm hd0 hl hH hS hk1 hk2
  obtain ⟨hx, hb, hml, hown, hE, hnm, hRf, hRl, hRc, hRs⟩ := hC
  have hL := hE.1
  have hts : ∀ d0 : Drawn, ∀ w ∈ am_tbl, am_keep w = true → w.before args (s.setDrawn d0) = true := fun d0 w hw hk => (Cond.before_setDrawn args s d0 w).trans (hE.2.1 w hw hk args)
  have hlen : len = 2 := by simpa [am_okI] using hok
  subst hlen
  obtain ⟨x, e, q⟩ := am_D_out q
  exact lv_dload hx hb hdec (hl.get e (by simp [am_U])) (hn _ _ _ _ _ q d0 H locs lsm hd0 hl hH hS hk1 hk2)
set_option maxHeartbeats 4000000 in
theorem am_ss_iload_n {CT : am_CT} {BT : Nat → am_N} {K : am_K} {z} {v : Value} {a : List Nat} {nx : am_N} {ls st : List Value} {h : am_H} {n : Nat} {k : am_C} (hC : am_Cx p R s m meth c mr L D B d) (hok : am_okI mr pc len (.iload_n z, v, a) = true) (hdec : decode mr.2.1 pc = .ok (.iload_n z, len))
    (hCT : am_Sound l d CT)
    (hend : ∀ (pc : Nat) (v : Option Value) (h : am_H) (n : Nat) (k : am_C) (d0 : Drawn) (H : Heap) (locs : List Loc) (lsm : Array Slot), am_rets mr.2.2.2.2.2.1 v → K v h n → s.drawn.sameBut d0 lw_cs → am_HR s L D B h n H → va_S (fun q => B ≤ q) s.heap H locs → k.1 ≤ mr.2.2.2.2.1.1 → k.2 ≤ mr.2.2.2.2.1.2 → decode mr.2.1 pc = .ok (am_retI mr.2.2.2.2.2.1, 1) → W p l e R (s.setDrawn d0) m args below meth c H locs k.1 k.2 Q (F0 m pc lsm ((v.map (am_mv L)).toList)))
    (hn : ∀ ls st h n k, nx ls st h n k → am_At p l e R s m args below meth c Q mr L D B (pc + len) ls st h n k) (hB : ∀ b ls st h n k t, am_pc mr b = some t → BT b ls st h n k → am_At p l e R s m args below meth c Q mr L D B t ls st h n k) :
    am_sem CT am_dfs BT mr.2.2.2.2.1 mr.2.2.2.2.2.1 K (.iload_n z, v, a) nx ls st h n k → am_At p l e R s m args below meth c Q mr L D B pc ls st h n k := by
  intro q d0 H locs lsm hd0 hl hH hS hk1 hk2
  obtain ⟨hx, hb, hml, hown, hE, hnm, hRf, hRl, hRc, hRs⟩ := hC
  have hL := hE.1
  have hts : ∀ d0 : Drawn, ∀ w ∈ am_tbl, am_keep w = true → w.before args (s.setDrawn d0) = true := fun d0 w hw hk => (Cond.before_setDrawn args s d0 w).trans (hE.2.1 w hw hk args)
  have hlen : len = 1 := by simpa [am_okI] using hok
  subst hlen
  obtain ⟨x, e, q⟩ := am_I_out q
  exact lv_iload_n hx hb hdec rfl (hl.get e (by simp [am_U])) (hn _ _ _ _ _ q d0 H locs lsm hd0 hl hH hS hk1 hk2)
set_option maxHeartbeats 4000000 in
theorem am_ss_lload_n {CT : am_CT} {BT : Nat → am_N} {K : am_K} {z} {v : Value} {a : List Nat} {nx : am_N} {ls st : List Value} {h : am_H} {n : Nat} {k : am_C} (hC : am_Cx p R s m meth c mr L D B d) (hok : am_okI mr pc len (.lload_n z, v, a) = true) (hdec : decode mr.2.1 pc = .ok (.lload_n z, len))
    (hCT : am_Sound l d CT)
    (hend : ∀ (pc : Nat) (v : Option Value) (h : am_H) (n : Nat) (k : am_C) (d0 : Drawn) (H : Heap) (locs : List Loc) (lsm : Array Slot), am_rets mr.2.2.2.2.2.1 v → K v h n → s.drawn.sameBut d0 lw_cs → am_HR s L D B h n H → va_S (fun q => B ≤ q) s.heap H locs → k.1 ≤ mr.2.2.2.2.1.1 → k.2 ≤ mr.2.2.2.2.1.2 → decode mr.2.1 pc = .ok (am_retI mr.2.2.2.2.2.1, 1) → W p l e R (s.setDrawn d0) m args below meth c H locs k.1 k.2 Q (F0 m pc lsm ((v.map (am_mv L)).toList)))
    (hn : ∀ ls st h n k, nx ls st h n k → am_At p l e R s m args below meth c Q mr L D B (pc + len) ls st h n k) (hB : ∀ b ls st h n k t, am_pc mr b = some t → BT b ls st h n k → am_At p l e R s m args below meth c Q mr L D B t ls st h n k) :
    am_sem CT am_dfs BT mr.2.2.2.2.1 mr.2.2.2.2.2.1 K (.lload_n z, v, a) nx ls st h n k → am_At p l e R s m args below meth c Q mr L D B pc ls st h n k := by
  intro q d0 H locs lsm hd0 hl hH hS hk1 hk2
  obtain ⟨hx, hb, hml, hown, hE, hnm, hRf, hRl, hRc, hRs⟩ := hC
  have hL := hE.1
  have hts : ∀ d0 : Drawn, ∀ w ∈ am_tbl, am_keep w = true → w.before args (s.setDrawn d0) = true := fun d0 w hw hk => (Cond.before_setDrawn args s d0 w).trans (hE.2.1 w hw hk args)
  have hlen : len = 1 := by simpa [am_okI] using hok
  subst hlen
  obtain ⟨x, e, q⟩ := am_L_out q
  exact lv_lload_n hx hb hdec rfl (hl.get e (by simp [am_U])) (hn _ _ _ _ _ q d0 H locs lsm hd0 hl hH hS hk1 hk2)
set_option maxHeartbeats 4000000 in
theorem am_ss_dload_n {CT : am_CT} {BT : Nat → am_N} {K : am_K} {z} {v : Value} {a : List Nat} {nx : am_N} {ls st : List Value} {h : am_H} {n : Nat} {k : am_C} (hC : am_Cx p R s m meth c mr L D B d) (hok : am_okI mr pc len (.dload_n z, v, a) = true) (hdec : decode mr.2.1 pc = .ok (.dload_n z, len))
    (hCT : am_Sound l d CT)
    (hend : ∀ (pc : Nat) (v : Option Value) (h : am_H) (n : Nat) (k : am_C) (d0 : Drawn) (H : Heap) (locs : List Loc) (lsm : Array Slot), am_rets mr.2.2.2.2.2.1 v → K v h n → s.drawn.sameBut d0 lw_cs → am_HR s L D B h n H → va_S (fun q => B ≤ q) s.heap H locs → k.1 ≤ mr.2.2.2.2.1.1 → k.2 ≤ mr.2.2.2.2.1.2 → decode mr.2.1 pc = .ok (am_retI mr.2.2.2.2.2.1, 1) → W p l e R (s.setDrawn d0) m args below meth c H locs k.1 k.2 Q (F0 m pc lsm ((v.map (am_mv L)).toList)))
    (hn : ∀ ls st h n k, nx ls st h n k → am_At p l e R s m args below meth c Q mr L D B (pc + len) ls st h n k) (hB : ∀ b ls st h n k t, am_pc mr b = some t → BT b ls st h n k → am_At p l e R s m args below meth c Q mr L D B t ls st h n k) :
    am_sem CT am_dfs BT mr.2.2.2.2.1 mr.2.2.2.2.2.1 K (.dload_n z, v, a) nx ls st h n k → am_At p l e R s m args below meth c Q mr L D B pc ls st h n k := by
  intro q d0 H locs lsm hd0 hl hH hS hk1 hk2
  obtain ⟨hx, hb, hml, hown, hE, hnm, hRf, hRl, hRc, hRs⟩ := hC
  have hL := hE.1
  have hts : ∀ d0 : Drawn, ∀ w ∈ am_tbl, am_keep w = true → w.before args (s.setDrawn d0) = true := fun d0 w hw hk => (Cond.before_setDrawn args s d0 w).trans (hE.2.1 w hw hk args)
  have hlen : len = 1 := by simpa [am_okI] using hok
  subst hlen
  obtain ⟨x, e, q⟩ := am_D_out q
  exact lv_dload_n hx hb hdec rfl (hl.get e (by simp [am_U])) (hn _ _ _ _ _ q d0 H locs lsm hd0 hl hH hS hk1 hk2)
set_option maxHeartbeats 4000000 in
theorem am_ss_fload_n {CT : am_CT} {BT : Nat → am_N} {K : am_K} {z} {v : Value} {a : List Nat} {nx : am_N} {ls st : List Value} {h : am_H} {n : Nat} {k : am_C} (hC : am_Cx p R s m meth c mr L D B d) (hok : am_okI mr pc len (.fload_n z, v, a) = true) (hdec : decode mr.2.1 pc = .ok (.fload_n z, len))
    (hCT : am_Sound l d CT)
    (hend : ∀ (pc : Nat) (v : Option Value) (h : am_H) (n : Nat) (k : am_C) (d0 : Drawn) (H : Heap) (locs : List Loc) (lsm : Array Slot), am_rets mr.2.2.2.2.2.1 v → K v h n → s.drawn.sameBut d0 lw_cs → am_HR s L D B h n H → va_S (fun q => B ≤ q) s.heap H locs → k.1 ≤ mr.2.2.2.2.1.1 → k.2 ≤ mr.2.2.2.2.1.2 → decode mr.2.1 pc = .ok (am_retI mr.2.2.2.2.2.1, 1) → W p l e R (s.setDrawn d0) m args below meth c H locs k.1 k.2 Q (F0 m pc lsm ((v.map (am_mv L)).toList)))
    (hn : ∀ ls st h n k, nx ls st h n k → am_At p l e R s m args below meth c Q mr L D B (pc + len) ls st h n k) (hB : ∀ b ls st h n k t, am_pc mr b = some t → BT b ls st h n k → am_At p l e R s m args below meth c Q mr L D B t ls st h n k) :
    am_sem CT am_dfs BT mr.2.2.2.2.1 mr.2.2.2.2.2.1 K (.fload_n z, v, a) nx ls st h n k → am_At p l e R s m args below meth c Q mr L D B pc ls st h n k := by
  intro q d0 H locs lsm hd0 hl hH hS hk1 hk2
  obtain ⟨hx, hb, hml, hown, hE, hnm, hRf, hRl, hRc, hRs⟩ := hC
  have hL := hE.1
  have hts : ∀ d0 : Drawn, ∀ w ∈ am_tbl, am_keep w = true → w.before args (s.setDrawn d0) = true := fun d0 w hw hk => (Cond.before_setDrawn args s d0 w).trans (hE.2.1 w hw hk args)
  have hlen : len = 1 := by simpa [am_okI] using hok
  subst hlen
  obtain ⟨x, e, q⟩ := am_F_out q
  exact lv_fload_n hx hb hdec rfl (hl.get e (by simp [am_U])) (hn _ _ _ _ _ q d0 H locs lsm hd0 hl hH hS hk1 hk2)
set_option maxHeartbeats 4000000 in
theorem am_ss_aload {CT : am_CT} {BT : Nat → am_N} {K : am_K} {z} {v : Value} {a : List Nat} {nx : am_N} {ls st : List Value} {h : am_H} {n : Nat} {k : am_C} (hC : am_Cx p R s m meth c mr L D B d) (hok : am_okI mr pc len (.aload z, v, a) = true) (hdec : decode mr.2.1 pc = .ok (.aload z, len))
    (hCT : am_Sound l d CT)
    (hend : ∀ (pc : Nat) (v : Option Value) (h : am_H) (n : Nat) (k : am_C) (d0 : Drawn) (H : Heap) (locs : List Loc) (lsm : Array Slot), am_rets mr.2.2.2.2.2.1 v → K v h n → s.drawn.sameBut d0 lw_cs → am_HR s L D B h n H → va_S (fun q => B ≤ q) s.heap H locs → k.1 ≤ mr.2.2.2.2.1.1 → k.2 ≤ mr.2.2.2.2.1.2 → decode mr.2.1 pc = .ok (am_retI mr.2.2.2.2.2.1, 1) → W p l e R (s.setDrawn d0) m args below meth c H locs k.1 k.2 Q (F0 m pc lsm ((v.map (am_mv L)).toList)))
    (hn : ∀ ls st h n k, nx ls st h n k → am_At p l e R s m args below meth c Q mr L D B (pc + len) ls st h n k) (hB : ∀ b ls st h n k t, am_pc mr b = some t → BT b ls st h n k → am_At p l e R s m args below meth c Q mr L D B t ls st h n k) :
    am_sem CT am_dfs BT mr.2.2.2.2.1 mr.2.2.2.2.2.1 K (.aload z, v, a) nx ls st h n k → am_At p l e R s m args below meth c Q mr L D B pc ls st h n k := by
  intro q d0 H locs lsm hd0 hl hH hS hk1 hk2
  obtain ⟨hx, hb, hml, hown, hE, hnm, hRf, hRl, hRc, hRs⟩ := hC
  have hL := hE.1
  have hts : ∀ d0 : Drawn, ∀ w ∈ am_tbl, am_keep w = true → w.before args (s.setDrawn d0) = true := fun d0 w hw hk => (Cond.before_setDrawn args s d0 w).trans (hE.2.1 w hw hk args)
  have hlen : len = 2 := by simpa [am_okI] using hok
  subst hlen
  obtain ⟨x, e, q⟩ | ⟨e, q⟩ := am_R_out (v := am_lget ls z) (f := fun v => nx ls (v :: st) h n k) q
  · have hg := hl.get e (by simp [am_U])
    have q := hn _ _ _ _ _ q d0 H locs lsm hd0 hl hH hS hk1 hk2
    revert hg q
    simp only [List.map_cons, am_mv]
    rcases hL.2.2 x with ⟨x', hx'⟩ | hx'
    · rw [hx']
      exact fun hg q => lv_aload hx hb hdec hg q
    · rw [hx']
      exact fun hg q => lv_aloadN hx hb hdec hg q
  · exact lv_aloadN hx hb hdec (hl.get e (by simp [am_U])) (hn _ _ _ _ _ q d0 H locs lsm hd0 hl hH hS hk1 hk2)
set_option maxHeartbeats 4000000 in
theorem am_ss_aload_n {CT : am_CT} {BT : Nat → am_N} {K : am_K} {z} {v : Value} {a : List Nat} {nx : am_N} {ls st : List Value} {h : am_H} {n : Nat} {k : am_C} (hC : am_Cx p R s m meth c mr L D B d) (hok : am_okI mr pc len (.aload_n z, v, a) = true) (hdec : decode mr.2.1 pc = .ok (.aload_n z, len))
    (hCT : am_Sound l d CT)
    (hend : ∀ (pc : Nat) (v : Option Value) (h : am_H) (n : Nat) (k : am_C) (d0 : Drawn) (H : Heap) (locs : List Loc) (lsm : Array Slot), am_rets mr.2.2.2.2.2.1 v → K v h n → s.drawn.sameBut d0 lw_cs → am_HR s L D B h n H → va_S (fun q => B ≤ q) s.heap H locs → k.1 ≤ mr.2.2.2.2.1.1 → k.2 ≤ mr.2.2.2.2.1.2 → decode mr.2.1 pc = .ok (am_retI mr.2.2.2.2.2.1, 1) → W p l e R (s.setDrawn d0) m args below meth c H locs k.1 k.2 Q (F0 m pc lsm ((v.map (am_mv L)).toList)))
    (hn : ∀ ls st h n k, nx ls st h n k → am_At p l e R s m args below meth c Q mr L D B (pc + len) ls st h n k) (hB : ∀ b ls st h n k t, am_pc mr b = some t → BT b ls st h n k → am_At p l e R s m args below meth c Q mr L D B t ls st h n k) :
    am_sem CT am_dfs BT mr.2.2.2.2.1 mr.2.2.2.2.2.1 K (.aload_n z, v, a) nx ls st h n k → am_At p l e R s m args below meth c Q mr L D B pc ls st h n k := by
  intro q d0 H locs lsm hd0 hl hH hS hk1 hk2
  obtain ⟨hx, hb, hml, hown, hE, hnm, hRf, hRl, hRc, hRs⟩ := hC
  have hL := hE.1
  have hts : ∀ d0 : Drawn, ∀ w ∈ am_tbl, am_keep w = true → w.before args (s.setDrawn d0) = true := fun d0 w hw hk => (Cond.before_setDrawn args s d0 w).trans (hE.2.1 w hw hk args)
  have hlen : len = 1 := by simpa [am_okI] using hok
  subst hlen
  obtain ⟨x, e, q⟩ | ⟨e, q⟩ := am_R_out (v := am_lget ls z.val) (f := fun v => nx ls (v :: st) h n k) q
  · have hg := hl.get e (by simp [am_U])
    have q := hn _ _ _ _ _ q d0 H locs lsm hd0 hl hH hS hk1 hk2
    revert hg q
    simp only [List.map_cons, am_mv]
    rcases hL.2.2 x with ⟨x', hx'⟩ | hx'
    · rw [hx']
      exact fun hg q => lv_aload_n hx hb hdec rfl hg q
    · rw [hx']
      exact fun hg q => lv_aload_nN hx hb hdec rfl hg q
  · exact lv_aload_nN hx hb hdec rfl (hl.get e (by simp [am_U])) (hn _ _ _ _ _ q d0 H locs lsm hd0 hl hH hS hk1 hk2)
set_option maxHeartbeats 4000000 in
theorem am_ss_istore {CT : am_CT} {BT : Nat → am_N} {K : am_K} {z} {v : Value} {a : List Nat} {nx : am_N} {ls st : List Value} {h : am_H} {n : Nat} {k : am_C} (hC : am_Cx p R s m meth c mr L D B d) (hok : am_okI mr pc len (.istore z, v, a) = true) (hdec : decode mr.2.1 pc = .ok (.istore z, len))
    (hCT : am_Sound l d CT)
    (hend : ∀ (pc : Nat) (v : Option Value) (h : am_H) (n : Nat) (k : am_C) (d0 : Drawn) (H : Heap) (locs : List Loc) (lsm : Array Slot), am_rets mr.2.2.2.2.2.1 v → K v h n → s.drawn.sameBut d0 lw_cs → am_HR s L D B h n H → va_S (fun q => B ≤ q) s.heap H locs → k.1 ≤ mr.2.2.2.2.1.1 → k.2 ≤ mr.2.2.2.2.1.2 → decode mr.2.1 pc = .ok (am_retI mr.2.2.2.2.2.1, 1) → W p l e R (s.setDrawn d0) m args below meth c H locs k.1 k.2 Q (F0 m pc lsm ((v.map (am_mv L)).toList)))
    (hn : ∀ ls st h n k, nx ls st h n k → am_At p l e R s m args below meth c Q mr L D B (pc + len) ls st h n k) (hB : ∀ b ls st h n k t, am_pc mr b = some t → BT b ls st h n k → am_At p l e R s m args below meth c Q mr L D B t ls st h n k) :
    am_sem CT am_dfs BT mr.2.2.2.2.1 mr.2.2.2.2.2.1 K (.istore z, v, a) nx ls st h n k → am_At p l e R s m args below meth c Q mr L D B pc ls st h n k := by
  intro q d0 H locs lsm hd0 hl hH hS hk1 hk2
  obtain ⟨hx, hb, hml, hown, hE, hnm, hRf, hRl, hRc, hRs⟩ := hC
  have hL := hE.1
  have hts : ∀ d0 : Drawn, ∀ w ∈ am_tbl, am_keep w = true → w.before args (s.setDrawn d0) = true := fun d0 w hw hk => (Cond.before_setDrawn args s d0 w).trans (hE.2.1 w hw hk args)
  simp only [am_okI, Bool.and_eq_true, beq_iff_eq, decide_eq_true_eq] at hok
  obtain ⟨hlen, hlt⟩ := hok
  subst hlen
  revert q; dsimp only [am_sem]; split
  · intro q
    exact lv_istore hx hb hdec hl.has hlt rfl (fun ls' h' => hn _ _ _ _ _ q d0 H locs ls' hd0 (am_LR.set1 hL h') hH hS hk1 hk2)
  · exact False.elim
set_option maxHeartbeats 4000000 in
theorem am_ss_istore_n {CT : am_CT} {BT : Nat → am_N} {K : am_K} {z} {v : Value} {a : List Nat} {nx : am_N} {ls st : List Value} {h : am_H} {n : Nat} {k : am_C} (hC : am_Cx p R s m meth c mr L D B d) (hok : am_okI mr pc len (.istore_n z, v, a) = true) (hdec : decode mr.2.1 pc = .ok (.istore_n z, len))
    (hCT : am_Sound l d CT)
    (hend : ∀ (pc : Nat) (v : Option Value) (h : am_H) (n : Nat) (k : am_C) (d0 : Drawn) (H : Heap) (locs : List Loc) (lsm : Array Slot), am_rets mr.2.2.2.2.2.1 v → K v h n → s.drawn.sameBut d0 lw_cs → am_HR s L D B h n H → va_S (fun q => B ≤ q) s.heap H locs → k.1 ≤ mr.2.2.2.2.1.1 → k.2 ≤ mr.2.2.2.2.1.2 → decode mr.2.1 pc = .ok (am_retI mr.2.2.2.2.2.1, 1) → W p l e R (s.setDrawn d0) m args below meth c H locs k.1 k.2 Q (F0 m pc lsm ((v.map (am_mv L)).toList)))
    (hn : ∀ ls st h n k, nx ls st h n k → am_At p l e R s m args below meth c Q mr L D B (pc + len) ls st h n k) (hB : ∀ b ls st h n k t, am_pc mr b = some t → BT b ls st h n k → am_At p l e R s m args below meth c Q mr L D B t ls st h n k) :
    am_sem CT am_dfs BT mr.2.2.2.2.1 mr.2.2.2.2.2.1 K (.istore_n z, v, a) nx ls st h n k → am_At p l e R s m args below meth c Q mr L D B pc ls st h n k := by
  intro q d0 H locs lsm hd0 hl hH hS hk1 hk2
  obtain ⟨hx, hb, hml, hown, hE, hnm, hRf, hRl, hRc, hRs⟩ := hC
  have hL := hE.1
  have hts : ∀ d0 : Drawn, ∀ w ∈ am_tbl, am_keep w = true → w.before args (s.setDrawn d0) = true := fun d0 w hw hk => (Cond.before_setDrawn args s d0 w).trans (hE.2.1 w hw hk args)
  simp only [am_okI, Bool.and_eq_true, beq_iff_eq, decide_eq_true_eq] at hok
  obtain ⟨hlen, hlt⟩ := hok
  subst hlen
  revert q; dsimp only [am_sem]; split
  · intro q
    exact lv_istore_n hx hb hdec rfl hl.has hlt rfl (fun ls' h' => hn _ _ _ _ _ q d0 H locs ls' hd0 (am_LR.set1 hL h') hH hS hk1 hk2)
  · exact False.elim
set_option maxHeartbeats 4000000 in
theorem am_ss_lstore {CT : am_CT} {BT : Nat → am_N} {K : am_K} {z} {v : Value} {a : List Nat} {nx : am_N} {ls st : List Value} {h : am_H} {n : Nat} {k : am_C} (hC : am_Cx p R s m meth c mr L D B d) (hok : am_okI mr pc len (.lstore z, v, a) = true) (hdec : decode mr.2.1 pc = .ok (.lstore z, len))
    (hCT : am_Sound l d CT)
    (hend : ∀ (pc : Nat) (v : Option Value) (h : am_H) (n : Nat) (k : am_C) (d0 : Drawn) (H : Heap) (locs : List Loc) (lsm : Array Slot), am_rets mr.2.2.2.2.2.1 v → K v h n → s.drawn.sameBut d0 lw_cs → am_HR s L D B h n H → va_S (fun q => B ≤ q) s.heap H locs → k.1 ≤ mr.2.2.2.2.1.1 → k.2 ≤ mr.2.2.2.2.1.2 → decode mr.2.1 pc = .ok (am_retI mr.2.2.2.2.2.1, 1) → W p l e R (s.setDrawn d0) m args below meth c H locs k.1 k.2 Q (F0 m pc lsm ((v.map (am_mv L)).toList)))
    (hn : ∀ ls st h n k, nx ls st h n k → am_At p l e R s m args below meth c Q mr L D B (pc + len) ls st h n k) (hB : ∀ b ls st h n k t, am_pc mr b = some t → BT b ls st h n k → am_At p l e R s m args below meth c Q mr L D B t ls st h n k) :
    am_sem CT am_dfs BT mr.2.2.2.2.1 mr.2.2.2.2.2.1 K (.lstore z, v, a) nx ls st h n k → am_At p l e R s m args below meth c Q mr L D B pc ls st h n k := by
  intro q d0 H locs lsm hd0 hl hH hS hk1 hk2
  obtain ⟨hx, hb, hml, hown, hE, hnm, hRf, hRl, hRc, hRs⟩ := hC
  have hL := hE.1
  have hts : ∀ d0 : Drawn, ∀ w ∈ am_tbl, am_keep w = true → w.before args (s.setDrawn d0) = true := fun d0 w hw hk => (Cond.before_setDrawn args s d0 w).trans (hE.2.1 w hw hk args)
  simp only [am_okI, Bool.and_eq_true, beq_iff_eq, decide_eq_true_eq] at hok
  obtain ⟨hlen, hlt⟩ := hok
  subst hlen
  revert q; dsimp only [am_sem]; split
  · intro q
    exact lv_lstore hx hb hdec hl.has hlt rfl (fun ls' h' => hn _ _ _ _ _ q d0 H locs ls' hd0 (am_LR.set2 hL h') hH hS hk1 hk2)
  · exact False.elim
set_option maxHeartbeats 4000000 in
theorem am_ss_lstore_n {CT : am_CT} {BT : Nat → am_N} {K : am_K} {z} {v : Value} {a : List Nat} {nx : am_N} {ls st : List Value} {h : am_H} {n : Nat} {k : am_C} (hC : am_Cx p R s m meth c mr L D B d) (hok : am_okI mr pc len (.lstore_n z, v, a) = true) (hdec : decode mr.2.1 pc = .ok (.lstore_n z, len))
    (hCT : am_Sound l d CT)
    (hend : ∀ (pc : Nat) (v : Option Value) (h : am_H) (n : Nat) (k : am_C) (d0 : Drawn) (H : Heap) (locs : List Loc) (lsm : Array Slot), am_rets mr.2.2.2.2.2.1 v → K v h n → s.drawn.sameBut d0 lw_cs → am_HR s L D B h n H → va_S (fun q => B ≤ q) s.heap H locs → k.1 ≤ mr.2.2.2.2.1.1 → k.2 ≤ mr.2.2.2.2.1.2 → decode mr.2.1 pc = .ok (am_retI mr.2.2.2.2.2.1, 1) → W p l e R (s.setDrawn d0) m args below meth c H locs k.1 k.2 Q (F0 m pc lsm ((v.map (am_mv L)).toList)))
    (hn : ∀ ls st h n k, nx ls st h n k → am_At p l e R s m args below meth c Q mr L D B (pc + len) ls st h n k) (hB : ∀ b ls st h n k t, am_pc mr b = some t → BT b ls st h n k → am_At p l e R s m args below meth c Q mr L D B t ls st h n k) :
    am_sem CT am_dfs BT mr.2.2.2.2.1 mr.2.2.2.2.2.1 K (.lstore_n z, v, a) nx ls st h n k → am_At p l e R s m args below meth c Q mr L D B pc ls st h n k := by
  intro q d0 H locs lsm hd0 hl hH hS hk1 hk2
  obtain ⟨hx, hb, hml, hown, hE, hnm, hRf, hRl, hRc, hRs⟩ := hC
  have hL := hE.1
  have hts : ∀ d0 : Drawn, ∀ w ∈ am_tbl, am_keep w = true → w.before args (s.setDrawn d0) = true := fun d0 w hw hk => (Cond.before_setDrawn args s d0 w).trans (hE.2.1 w hw hk args)
  simp only [am_okI, Bool.and_eq_true, beq_iff_eq, decide_eq_true_eq] at hok
  obtain ⟨hlen, hlt⟩ := hok
  subst hlen
  revert q; dsimp only [am_sem]; split
  · intro q
    exact lv_lstore_n hx hb hdec rfl hl.has hlt rfl (fun ls' h' => hn _ _ _ _ _ q d0 H locs ls' hd0 (am_LR.set2 hL h') hH hS hk1 hk2)
  · exact False.elim
set_option maxHeartbeats 4000000 in
theorem am_ss_dstore {CT : am_CT} {BT : Nat → am_N} {K : am_K} {z} {v : Value} {a : List Nat} {nx : am_N} {ls st : List Value} {h : am_H} {n : Nat} {k : am_C} (hC : am_Cx p R s m meth c mr L D B d) (hok : am_okI mr pc len (.dstore z, v, a) = true) (hdec : decode mr.2.1 pc = .ok (.dstore z, len))
    (hCT : am_Sound l d CT)
    (hend : ∀ (pc : Nat) (v : Option Value) (h : am_H) (n : Nat) (k : am_C) (d0 : Drawn) (H : Heap) (locs : List Loc) (lsm : Array Slot), am_rets mr.2.2.2.2.2.1 v → K v h n → s.drawn.sameBut d0 lw_cs → am_HR s L D B h n H → va_S (fun q => B ≤ q) s.heap H locs → k.1 ≤ mr.2.2.2.2.1.1 → k.2 ≤ mr.2.2.2.2.1.2 → decode mr.2.1 pc = .ok (am_retI mr.2.2.2.2.2.1, 1) → W p l e R (s.setDrawn d0) m args below meth c H locs k.1 k.2 Q (F0 m pc lsm ((v.map (am_mv L)).toList)))
    (hn : ∀ ls st h n k, nx ls st h n k → am_At p l e R s m args below meth c Q mr L D B (pc + len) ls st h n k) (hB : ∀ b ls st h n k t, am_pc mr b = some t → BT b ls st h n k → am_At p l e R s m args below meth c Q mr L D B t ls st h n k) :
    am_sem CT am_dfs BT mr.2.2.2.2.1 mr.2.2.2.2.2.1 K (.dstore z, v, a) nx ls st h n k → am_At p l e R s m args below meth c Q mr L D B pc ls st h n k := by
  intro q d0 H locs lsm hd0 hl hH hS hk1 hk2
  obtain ⟨hx, hb, hml, hown, hE, hnm, hRf, hRl, hRc, hRs⟩ := hC
  have hL := hE.1
  have hts : ∀ d0 : Drawn, ∀ w ∈ am_tbl, am_keep w = true → w.before args (s.setDrawn d0) = true := fun d0 w hw hk => (Cond.before_setDrawn args s d0 w).trans (hE.2.1 w hw hk args)
  simp only [am_okI, Bool.and_eq_true, beq_iff_eq, decide_eq_true_eq] at hok
  obtain ⟨hlen, hlt⟩ := hok
  subst hlen
  revert q; dsimp only [am_sem]; split
  · intro q
    exact lv_dstore hx hb hdec hl.has hlt rfl (fun ls' h' => hn _ _ _ _ _ q d0 H locs ls' hd0 (am_LR.set2 hL h') hH hS hk1 hk2)
  · exact False.elim
set_option maxHeartbeats 4000000 in
theorem am_ss_dstore_n {CT : am_CT} {BT : Nat → am_N} {K : am_K} {z} {v : Value} {a : List Nat} {nx : am_N} {ls st : List Value} {h : am_H} {n : Nat} {k : am_C} (hC : am_Cx p R s m meth c mr L D B d) (hok : am_okI mr pc len (.dstore_n z, v, a) = true) (hdec : decode mr.2.1 pc = .ok (.dstore_n z, len))
    (hCT : am_Sound l d CT)
    (hend : ∀ (pc : Nat) (v : Option Value) (h : am_H) (n : Nat) (k : am_C) (d0 : Drawn) (H : Heap) (locs : List Loc) (lsm : Array Slot), am_rets mr.2.2.2.2.2.1 v → K v h n → s.drawn.sameBut d0 lw_cs → am_HR s L D B h n H → va_S (fun q => B ≤ q) s.heap H locs → k.1 ≤ mr.2.2.2.2.1.1 → k.2 ≤ mr.2.2.2.2.1.2 → decode mr.2.1 pc = .ok (am_retI mr.2.2.2.2.2.1, 1) → W p l e R (s.setDrawn d0) m args below meth c H locs k.1 k.2 Q (F0 m pc lsm ((v.map (am_mv L)).toList)))
    (hn : ∀ ls st h n k, nx ls st h n k → am_At p l e R s m args below meth c Q mr L D B (pc + len) ls st h n k) (hB : ∀ b ls st h n k t, am_pc mr b = some t → BT b ls st h n k → am_At p l e R s m args below meth c Q mr L D B t ls st h n k) :
    am_sem CT am_dfs BT mr.2.2.2.2.1 mr.2.2.2.2.2.1 K (.dstore_n z, v, a) nx ls st h n k → am_At p l e R s m args below meth c Q mr L D B pc ls st h n k := by
  intro q d0 H locs lsm hd0 hl hH hS hk1 hk2
  obtain ⟨hx, hb, hml, hown, hE, hnm, hRf, hRl, hRc, hRs⟩ := hC
  have hL := hE.1
  have hts : ∀ d0 : Drawn, ∀ w ∈ am_tbl, am_keep w = true → w.before args (s.setDrawn d0) = true := fun d0 w hw hk => (Cond.before_setDrawn args s d0 w).trans (hE.2.1 w hw hk args)
  simp only [am_okI, Bool.and_eq_true, beq_iff_eq, decide_eq_true_eq] at hok
  obtain ⟨hlen, hlt⟩ := hok
  subst hlen
  revert q; dsimp only [am_sem]; split
  · intro q
    exact lv_dstore_n hx hb hdec rfl hl.has hlt rfl (fun ls' h' => hn _ _ _ _ _ q d0 H locs ls' hd0 (am_LR.set2 hL h') hH hS hk1 hk2)
  · exact False.elim
set_option maxHeartbeats 4000000 in
theorem am_ss_fstore_n {CT : am_CT} {BT : Nat → am_N} {K : am_K} {z} {v : Value} {a : List Nat} {nx : am_N} {ls st : List Value} {h : am_H} {n : Nat} {k : am_C} (hC : am_Cx p R s m meth c mr L D B d) (hok : am_okI mr pc len (.fstore_n z, v, a) = true) (hdec : decode mr.2.1 pc = .ok (.fstore_n z, len))
    (hCT : am_Sound l d CT)
    (hend : ∀ (pc : Nat) (v : Option Value) (h : am_H) (n : Nat) (k : am_C) (d0 : Drawn) (H : Heap) (locs : List Loc) (lsm : Array Slot), am_rets mr.2.2.2.2.2.1 v → K v h n → s.drawn.sameBut d0 lw_cs → am_HR s L D B h n H → va_S (fun q => B ≤ q) s.heap H locs → k.1 ≤ mr.2.2.2.2.1.1 → k.2 ≤ mr.2.2.2.2.1.2 → decode mr.2.1 pc = .ok (am_retI mr.2.2.2.2.2.1, 1) → W p l e R (s.setDrawn d0) m args below meth c H locs k.1 k.2 Q (F0 m pc lsm ((v.map (am_mv L)).toList)))
    (hn : ∀ ls st h n k, nx ls st h n k → am_At p l e R s m args below meth c Q mr L D B (pc + len) ls st h n k) (hB : ∀ b ls st h n k t, am_pc mr b = some t → BT b ls st h n k → am_At p l e R s m args below meth c Q mr L D B t ls st h n k) :
    am_sem CT am_dfs BT mr.2.2.2.2.1 mr.2.2.2.2.2.1 K (.fstore_n z, v, a) nx ls st h n k → am_At p l e R s m args below meth c Q mr L D B pc ls st h n k := by
  intro q d0 H locs lsm hd0 hl hH hS hk1 hk2
  obtain ⟨hx, hb, hml, hown, hE, hnm, hRf, hRl, hRc, hRs⟩ := hC
  have hL := hE.1
  have hts : ∀ d0 : Drawn, ∀ w ∈ am_tbl, am_keep w = true → w.before args (s.setDrawn d0) = true := fun d0 w hw hk => (Cond.before_setDrawn args s d0 w).trans (hE.2.1 w hw hk args)
  simp only [am_okI, Bool.and_eq_true, beq_iff_eq, decide_eq_true_eq] at hok
  obtain ⟨hlen, hlt⟩ := hok
  subst hlen
  revert q; dsimp only [am_sem]; split
  · intro q
    exact lv_fstore_n hx hb hdec rfl hl.has hlt rfl (fun ls' h' => hn _ _ _ _ _ q d0 H locs ls' hd0 (am_LR.set1 hL h') hH hS hk1 hk2)
  · exact False.elim
set_option maxHeartbeats 4000000 in
theorem am_ss_astore {CT : am_CT} {BT : Nat → am_N} {K : am_K} {z} {v : Value} {a : List Nat} {nx : am_N} {ls st : List Value} {h : am_H} {n : Nat} {k : am_C} (hC : am_Cx p R s m meth c mr L D B d) (hok : am_okI mr pc len (.astore z, v, a) = true) (hdec : decode mr.2.1 pc = .ok (.astore z, len))
    (hCT : am_Sound l d CT)
    (hend : ∀ (pc : Nat) (v : Option Value) (h : am_H) (n : Nat) (k : am_C) (d0 : Drawn) (H : Heap) (locs : List Loc) (lsm : Array Slot), am_rets mr.2.2.2.2.2.1 v → K v h n → s.drawn.sameBut d0 lw_cs → am_HR s L D B h n H → va_S (fun q => B ≤ q) s.heap H locs → k.1 ≤ mr.2.2.2.2.1.1 → k.2 ≤ mr.2.2.2.2.1.2 → decode mr.2.1 pc = .ok (am_retI mr.2.2.2.2.2.1, 1) → W p l e R (s.setDrawn d0) m args below meth c H locs k.1 k.2 Q (F0 m pc lsm ((v.map (am_mv L)).toList)))
    (hn : ∀ ls st h n k, nx ls st h n k → am_At p l e R s m args below meth c Q mr L D B (pc + len) ls st h n k) (hB : ∀ b ls st h n k t, am_pc mr b = some t → BT b ls st h n k → am_At p l e R s m args below meth c Q mr L D B t ls st h n k) :
    am_sem CT am_dfs BT mr.2.2.2.2.1 mr.2.2.2.2.2.1 K (.astore z, v, a) nx ls st h n k → am_At p l e R s m args below meth c Q mr L D B pc ls st h n k := by
  intro q d0 H locs lsm hd0 hl hH hS hk1 hk2
  obtain ⟨hx, hb, hml, hown, hE, hnm, hRf, hRl, hRc, hRs⟩ := hC
  have hL := hE.1
  have hts : ∀ d0 : Drawn, ∀ w ∈ am_tbl, am_keep w = true → w.before args (s.setDrawn d0) = true := fun d0 w hw hk => (Cond.before_setDrawn args s d0 w).trans (hE.2.1 w hw hk args)
  simp only [am_okI, Bool.and_eq_true, beq_iff_eq, decide_eq_true_eq] at hok
  obtain ⟨hlen, hlt⟩ := hok
  subst hlen
  revert q; dsimp only [am_sem]; split
  · intro q
    rename_i x r
    simp only [List.map_cons, am_mv]
    rcases hL.2.2 x with ⟨x', hx'⟩ | hx'
    · rw [hx']
      exact lv_astore hx hb hdec hl.has hlt rfl (fun ls' h' => hn _ _ _ _ _ q d0 H locs ls' hd0 (am_LR.set1 (v := .ref x) hL (by rw [show am_mv L (.ref x) = .ref x' from hx']; exact h')) hH hS hk1 hk2)
    · rw [hx']
      exact lv_astoreN hx hb hdec hl.has hlt rfl (fun ls' h' => hn _ _ _ _ _ q d0 H locs ls' hd0 (am_LR.set1 (v := .ref x) hL (by rw [show am_mv L (.ref x) = .null from hx']; exact h')) hH hS hk1 hk2)
  · exact False.elim
set_option maxHeartbeats 4000000 in
theorem am_ss_astore_n {CT : am_CT} {BT : Nat → am_N} {K : am_K} {z} {v : Value} {a : List Nat} {nx : am_N} {ls st : List Value} {h : am_H} {n : Nat} {k : am_C} (hC : am_Cx p R s m meth c mr L D B d) (hok : am_okI mr pc len (.astore_n z, v, a) = true) (hdec : decode mr.2.1 pc = .ok (.astore_n z, len))
    (hCT : am_Sound l d CT)
    (hend : ∀ (pc : Nat) (v : Option Value) (h : am_H) (n : Nat) (k : am_C) (d0 : Drawn) (H : Heap) (locs : List Loc) (lsm : Array Slot), am_rets mr.2.2.2.2.2.1 v → K v h n → s.drawn.sameBut d0 lw_cs → am_HR s L D B h n H → va_S (fun q => B ≤ q) s.heap H locs → k.1 ≤ mr.2.2.2.2.1.1 → k.2 ≤ mr.2.2.2.2.1.2 → decode mr.2.1 pc = .ok (am_retI mr.2.2.2.2.2.1, 1) → W p l e R (s.setDrawn d0) m args below meth c H locs k.1 k.2 Q (F0 m pc lsm ((v.map (am_mv L)).toList)))
    (hn : ∀ ls st h n k, nx ls st h n k → am_At p l e R s m args below meth c Q mr L D B (pc + len) ls st h n k) (hB : ∀ b ls st h n k t, am_pc mr b = some t → BT b ls st h n k → am_At p l e R s m args below meth c Q mr L D B t ls st h n k) :
    am_sem CT am_dfs BT mr.2.2.2.2.1 mr.2.2.2.2.2.1 K (.astore_n z, v, a) nx ls st h n k → am_At p l e R s m args below meth c Q mr L D B pc ls st h n k := by
  intro q d0 H locs lsm hd0 hl hH hS hk1 hk2
  obtain ⟨hx, hb, hml, hown, hE, hnm, hRf, hRl, hRc, hRs⟩ := hC
  have hL := hE.1
  have hts : ∀ d0 : Drawn, ∀ w ∈ am_tbl, am_keep w = true → w.before args (s.setDrawn d0) = true := fun d0 w hw hk => (Cond.before_setDrawn args s d0 w).trans (hE.2.1 w hw hk args)
  simp only [am_okI, Bool.and_eq_true, beq_iff_eq, decide_eq_true_eq] at hok
  obtain ⟨hlen, hlt⟩ := hok
  subst hlen
  revert q; dsimp only [am_sem]; split
  · intro q
    rename_i x r
    simp only [List.map_cons, am_mv]
    rcases hL.2.2 x with ⟨x', hx'⟩ | hx'
    · rw [hx']
      exact lv_astore_n hx hb hdec rfl hl.has hlt rfl (fun ls' h' => hn _ _ _ _ _ q d0 H locs ls' hd0 (am_LR.set1 (v := .ref x) hL (by rw [show am_mv L (.ref x) = .ref x' from hx']; exact h')) hH hS hk1 hk2)
    · rw [hx']
      exact lv_astore_nN hx hb hdec rfl hl.has hlt rfl (fun ls' h' => hn _ _ _ _ _ q d0 H locs ls' hd0 (am_LR.set1 (v := .ref x) hL (by rw [show am_mv L (.ref x) = .null from hx']; exact h')) hH hS hk1 hk2)
  · exact False.elim
set_option maxHeartbeats 4000000 in
theorem am_ss_iinc {CT : am_CT} {BT : Nat → am_N} {K : am_K} {z zz} {v : Value} {a : List Nat} {nx : am_N} {ls st : List Value} {h : am_H} {n : Nat} {k : am_C} (hC : am_Cx p R s m meth c mr L D B d) (hok : am_okI mr pc len (.iinc z zz, v, a) = true) (hdec : decode mr.2.1 pc = .ok (.iinc z zz, len))
    (hCT : am_Sound l d CT)
    (hend : ∀ (pc : Nat) (v : Option Value) (h : am_H) (n : Nat) (k : am_C) (d0 : Drawn) (H : Heap) (locs : List Loc) (lsm : Array Slot), am_rets mr.2.2.2.2.2.1 v → K v h n → s.drawn.sameBut d0 lw_cs → am_HR s L D B h n H → va_S (fun q => B ≤ q) s.heap H locs → k.1 ≤ mr.2.2.2.2.1.1 → k.2 ≤ mr.2.2.2.2.1.2 → decode mr.2.1 pc = .ok (am_retI mr.2.2.2.2.2.1, 1) → W p l e R (s.setDrawn d0) m args below meth c H locs k.1 k.2 Q (F0 m pc lsm ((v.map (am_mv L)).toList)))
    (hn : ∀ ls st h n k, nx ls st h n k → am_At p l e R s m args below meth c Q mr L D B (pc + len) ls st h n k) (hB : ∀ b ls st h n k t, am_pc mr b = some t → BT b ls st h n k → am_At p l e R s m args below meth c Q mr L D B t ls st h n k) :
    am_sem CT am_dfs BT mr.2.2.2.2.1 mr.2.2.2.2.2.1 K (.iinc z zz, v, a) nx ls st h n k → am_At p l e R s m args below meth c Q mr L D B pc ls st h n k := by
  intro q d0 H locs lsm hd0 hl hH hS hk1 hk2
  obtain ⟨hx, hb, hml, hown, hE, hnm, hRf, hRl, hRc, hRs⟩ := hC
  have hL := hE.1
  have hts : ∀ d0 : Drawn, ∀ w ∈ am_tbl, am_keep w = true → w.before args (s.setDrawn d0) = true := fun d0 w hw hk => (Cond.before_setDrawn args s d0 w).trans (hE.2.1 w hw hk args)
  simp only [am_okI, Bool.and_eq_true, beq_iff_eq, decide_eq_true_eq] at hok
  obtain ⟨hlen, hlt⟩ := hok
  subst hlen
  obtain ⟨x, e, q⟩ := am_I_out q
  have hm : (z, am_mv L (.int x)) ∈ am_lv L ls := am_lv_mem.mpr ⟨.int x, by rw [← e]; exact am_lget_some ls z (by rw [e]; simp [am_U]), by simp [am_U], rfl⟩
  obtain ⟨j, hj⟩ := List.getElem?_of_mem hm
  exact lv_iinc hx hb hdec hl.has hj rfl hlt rfl (fun ls' h' => hn _ _ _ _ _ q d0 H locs ls' hd0 (am_LR.set1 hL h') hH hS hk1 hk2)
set_option maxHeartbeats 4000000 in
theorem am_ss_dup {CT : am_CT} {BT : Nat → am_N} {K : am_K} {v : Value} {a : List Nat} {nx : am_N} {ls st : List Value} {h : am_H} {n : Nat} {k : am_C} (hC : am_Cx p R s m meth c mr L D B d) (hok : am_okI mr pc len (.dup, v, a) = true) (hdec : decode mr.2.1 pc = .ok (.dup, len))
    (hCT : am_Sound l d CT)
    (hend : ∀ (pc : Nat) (v : Option Value) (h : am_H) (n : Nat) (k : am_C) (d0 : Drawn) (H : Heap) (locs : List Loc) (lsm : Array Slot), am_rets mr.2.2.2.2.2.1 v → K v h n → s.drawn.sameBut d0 lw_cs → am_HR s L D B h n H → va_S (fun q => B ≤ q) s.heap H locs → k.1 ≤ mr.2.2.2.2.1.1 → k.2 ≤ mr.2.2.2.2.1.2 → decode mr.2.1 pc = .ok (am_retI mr.2.2.2.2.2.1, 1) → W p l e R (s.setDrawn d0) m args below meth c H locs k.1 k.2 Q (F0 m pc lsm ((v.map (am_mv L)).toList)))
    (hn : ∀ ls st h n k, nx ls st h n k → am_At p l e R s m args below meth c Q mr L D B (pc + len) ls st h n k) (hB : ∀ b ls st h n k t, am_pc mr b = some t → BT b ls st h n k → am_At p l e R s m args below meth c Q mr L D B t ls st h n k) :
    am_sem CT am_dfs BT mr.2.2.2.2.1 mr.2.2.2.2.2.1 K (.dup, v, a) nx ls st h n k → am_At p l e R s m args below meth c Q mr L D B pc ls st h n k := by
  intro q d0 H locs lsm hd0 hl hH hS hk1 hk2
  obtain ⟨hx, hb, hml, hown, hE, hnm, hRf, hRl, hRc, hRs⟩ := hC
  have hL := hE.1
  have hts : ∀ d0 : Drawn, ∀ w ∈ am_tbl, am_keep w = true → w.before args (s.setDrawn d0) = true := fun d0 w hw hk => (Cond.before_setDrawn args s d0 w).trans (hE.2.1 w hw hk args)
  have hlen : len = 1 := by simpa [am_okI] using hok
  subst hlen
  revert q; dsimp only [am_sem]; split
  · intro q
    exact lv_dup hx hb hdec ((am_mv_cat hL _).trans q.1) (hn _ _ _ _ _ q.2 d0 H locs lsm hd0 hl hH hS hk1 hk2)
  · exact False.elim
set_option maxHeartbeats 4000000 in
theorem am_ss_dup_x1 {CT : am_CT} {BT : Nat → am_N} {K : am_K} {v : Value} {a : List Nat} {nx : am_N} {ls st : List Value} {h : am_H} {n : Nat} {k : am_C} (hC : am_Cx p R s m meth c mr L D B d) (hok : am_okI mr pc len (.dup_x1, v, a) = true) (hdec : decode mr.2.1 pc = .ok (.dup_x1, len))
    (hCT : am_Sound l d CT)
    (hend : ∀ (pc : Nat) (v : Option Value) (h : am_H) (n : Nat) (k : am_C) (d0 : Drawn) (H : Heap) (locs : List Loc) (lsm : Array Slot), am_rets mr.2.2.2.2.2.1 v → K v h n → s.drawn.sameBut d0 lw_cs → am_HR s L D B h n H → va_S (fun q => B ≤ q) s.heap H locs → k.1 ≤ mr.2.2.2.2.1.1 → k.2 ≤ mr.2.2.2.2.1.2 → decode mr.2.1 pc = .ok (am_retI mr.2.2.2.2.2.1, 1) → W p l e R (s.setDrawn d0) m args below meth c H locs k.1 k.2 Q (F0 m pc lsm ((v.map (am_mv L)).toList)))
    (hn : ∀ ls st h n k, nx ls st h n k → am_At p l e R s m args below meth c Q mr L D B (pc + len) ls st h n k) (hB : ∀ b ls st h n k t, am_pc mr b = some t → BT b ls st h n k → am_At p l e R s m args below meth c Q mr L D B t ls st h n k) :
    am_sem CT am_dfs BT mr.2.2.2.2.1 mr.2.2.2.2.2.1 K (.dup_x1, v, a) nx ls st h n k → am_At p l e R s m args below meth c Q mr L D B pc ls st h n k := by
  intro q d0 H locs lsm hd0 hl hH hS hk1 hk2
  obtain ⟨hx, hb, hml, hown, hE, hnm, hRf, hRl, hRc, hRs⟩ := hC
  have hL := hE.1
  have hts : ∀ d0 : Drawn, ∀ w ∈ am_tbl, am_keep w = true → w.before args (s.setDrawn d0) = true := fun d0 w hw hk => (Cond.before_setDrawn args s d0 w).trans (hE.2.1 w hw hk args)
  have hlen : len = 1 := by simpa [am_okI] using hok
  subst hlen
  revert q; dsimp only [am_sem]; split
  · intro q
    exact lv_dup_x1 hx hb hdec ((am_mv_cat hL _).trans q.1) ((am_mv_cat hL _).trans q.2.1) (hn _ _ _ _ _ q.2.2 d0 H locs lsm hd0 hl hH hS hk1 hk2)
  · exact False.elim
set_option maxHeartbeats 4000000 in
theorem am_ss_dup2 {CT : am_CT} {BT : Nat → am_N} {K : am_K} {v : Value} {a : List Nat} {nx : am_N} {ls st : List Value} {h : am_H} {n : Nat} {k : am_C} (hC : am_Cx p R s m meth c mr L D B d) (hok : am_okI mr pc len (.dup2, v, a) = true) (hdec : decode mr.2.1 pc = .ok (.dup2, len))
    (hCT : am_Sound l d CT)
    (hend : ∀ (pc : Nat) (v : Option Value) (h : am_H) (n : Nat) (k : am_C) (d0 : Drawn) (H : Heap) (locs : List Loc) (lsm : Array Slot), am_rets mr.2.2.2.2.2.1 v → K v h n → s.drawn.sameBut d0 lw_cs → am_HR s L D B h n H → va_S (fun q => B ≤ q) s.heap H locs → k.1 ≤ mr.2.2.2.2.1.1 → k.2 ≤ mr.2.2.2.2.1.2 → decode mr.2.1 pc = .ok (am_retI mr.2.2.2.2.2.1, 1) → W p l e R (s.setDrawn d0) m args below meth c H locs k.1 k.2 Q (F0 m pc lsm ((v.map (am_mv L)).toList)))
    (hn : ∀ ls st h n k, nx ls st h n k → am_At p l e R s m args below meth c Q mr L D B (pc + len) ls st h n k) (hB : ∀ b ls st h n k t, am_pc mr b = some t → BT b ls st h n k → am_At p l e R s m args below meth c Q mr L D B t ls st h n k) :
    am_sem CT am_dfs BT mr.2.2.2.2.1 mr.2.2.2.2.2.1 K (.dup2, v, a) nx ls st h n k → am_At p l e R s m args below meth c Q mr L D B pc ls st h n k := by
  intro q d0 H locs lsm hd0 hl hH hS hk1 hk2
  obtain ⟨hx, hb, hml, hown, hE, hnm, hRf, hRl, hRc, hRs⟩ := hC
  have hL := hE.1
  have hts : ∀ d0 : Drawn, ∀ w ∈ am_tbl, am_keep w = true → w.before args (s.setDrawn d0) = true := fun d0 w hw hk => (Cond.before_setDrawn args s d0 w).trans (hE.2.1 w hw hk args)
  have hlen : len = 1 := by simpa [am_okI] using hok
  subst hlen
  revert q; dsimp only [am_sem]; split
  · intro q
    exact lv_dup2_11 hx hb hdec ((am_mv_cat hL _).trans q.1) ((am_mv_cat hL _).trans q.2.1) (hn _ _ _ _ _ q.2.2 d0 H locs lsm hd0 hl hH hS hk1 hk2)
  · exact False.elim
set_option maxHeartbeats 4000000 in
theorem am_ss_pop {CT : am_CT} {BT : Nat → am_N} {K : am_K} {v : Value} {a : List Nat} {nx : am_N} {ls st : List Value} {h : am_H} {n : Nat} {k : am_C} (hC : am_Cx p R s m meth c mr L D B d) (hok : am_okI mr pc len (.pop, v, a) = true) (hdec : decode mr.2.1 pc = .ok (.pop, len))
    (hCT : am_Sound l d CT)
    (hend : ∀ (pc : Nat) (v : Option Value) (h : am_H) (n : Nat) (k : am_C) (d0 : Drawn) (H : Heap) (locs : List Loc) (lsm : Array Slot), am_rets mr.2.2.2.2.2.1 v → K v h n → s.drawn.sameBut d0 lw_cs → am_HR s L D B h n H → va_S (fun q => B ≤ q) s.heap H locs → k.1 ≤ mr.2.2.2.2.1.1 → k.2 ≤ mr.2.2.2.2.1.2 → decode mr.2.1 pc = .ok (am_retI mr.2.2.2.2.2.1, 1) → W p l e R (s.setDrawn d0) m args below meth c H locs k.1 k.2 Q (F0 m pc lsm ((v.map (am_mv L)).toList)))
    (hn : ∀ ls st h n k, nx ls st h n k → am_At p l e R s m args below meth c Q mr L D B (pc + len) ls st h n k) (hB : ∀ b ls st h n k t, am_pc mr b = some t → BT b ls st h n k → am_At p l e R s m args below meth c Q mr L D B t ls st h n k) :
    am_sem CT am_dfs BT mr.2.2.2.2.1 mr.2.2.2.2.2.1 K (.pop, v, a) nx ls st h n k → am_At p l e R s m args below meth c Q mr L D B pc ls st h n k := by
  intro q d0 H locs lsm hd0 hl hH hS hk1 hk2
  obtain ⟨hx, hb, hml, hown, hE, hnm, hRf, hRl, hRc, hRs⟩ := hC
  have hL := hE.1
  have hts : ∀ d0 : Drawn, ∀ w ∈ am_tbl, am_keep w = true → w.before args (s.setDrawn d0) = true := fun d0 w hw hk => (Cond.before_setDrawn args s d0 w).trans (hE.2.1 w hw hk args)
  have hlen : len = 1 := by simpa [am_okI] using hok
  subst hlen
  revert q; dsimp only [am_sem]; split
  · intro q
    exact lv_pop hx hb hdec ((am_mv_cat hL _).trans q.1) (hn _ _ _ _ _ q.2 d0 H locs lsm hd0 hl hH hS hk1 hk2)
  · exact False.elim
set_option maxHeartbeats 4000000 in
theorem am_ss_pop2 {CT : am_CT} {BT : Nat → am_N} {K : am_K} {v : Value} {a : List Nat} {nx : am_N} {ls st : List Value} {h : am_H} {n : Nat} {k : am_C} (hC : am_Cx p R s m meth c mr L D B d) (hok : am_okI mr pc len (.pop2, v, a) = true) (hdec : decode mr.2.1 pc = .ok (.pop2, len))
    (hCT : am_Sound l d CT)
    (hend : ∀ (pc : Nat) (v : Option Value) (h : am_H) (n : Nat) (k : am_C) (d0 : Drawn) (H : Heap) (locs : List Loc) (lsm : Array Slot), am_rets mr.2.2.2.2.2.1 v → K v h n → s.drawn.sameBut d0 lw_cs → am_HR s L D B h n H → va_S (fun q => B ≤ q) s.heap H locs → k.1 ≤ mr.2.2.2.2.1.1 → k.2 ≤ mr.2.2.2.2.1.2 → decode mr.2.1 pc = .ok (am_retI mr.2.2.2.2.2.1, 1) → W p l e R (s.setDrawn d0) m args below meth c H locs k.1 k.2 Q (F0 m pc lsm ((v.map (am_mv L)).toList)))
    (hn : ∀ ls st h n k, nx ls st h n k → am_At p l e R s m args below meth c Q mr L D B (pc + len) ls st h n k) (hB : ∀ b ls st h n k t, am_pc mr b = some t → BT b ls st h n k → am_At p l e R s m args below meth c Q mr L D B t ls st h n k) :
    am_sem CT am_dfs BT mr.2.2.2.2.1 mr.2.2.2.2.2.1 K (.pop2, v, a) nx ls st h n k → am_At p l e R s m args below meth c Q mr L D B pc ls st h n k := by
  intro q d0 H locs lsm hd0 hl hH hS hk1 hk2
  obtain ⟨hx, hb, hml, hown, hE, hnm, hRf, hRl, hRc, hRs⟩ := hC
  have hL := hE.1
  have hts : ∀ d0 : Drawn, ∀ w ∈ am_tbl, am_keep w = true → w.before args (s.setDrawn d0) = true := fun d0 w hw hk => (Cond.before_setDrawn args s d0 w).trans (hE.2.1 w hw hk args)
  have hlen : len = 1 := by simpa [am_okI] using hok
  subst hlen
  revert q; dsimp only [am_sem]; split
  · intro q
    exact lv_pop2_2 hx hb hdec ((am_mv_cat hL _).trans q.1) (hn _ _ _ _ _ q.2 d0 H locs lsm hd0 hl hH hS hk1 hk2)
  · exact False.elim
set_option maxHeartbeats 4000000 in
theorem am_ss_iadd {CT : am_CT} {BT : Nat → am_N} {K : am_K} {v : Value} {a : List Nat} {nx : am_N} {ls st : List Value} {h : am_H} {n : Nat} {k : am_C} (hC : am_Cx p R s m meth c mr L D B d) (hok : am_okI mr pc len (.iadd, v, a) = true) (hdec : decode mr.2.1 pc = .ok (.iadd, len))
    (hCT : am_Sound l d CT)
    (hend : ∀ (pc : Nat) (v : Option Value) (h : am_H) (n : Nat) (k : am_C) (d0 : Drawn) (H : Heap) (locs : List Loc) (lsm : Array Slot), am_rets mr.2.2.2.2.2.1 v → K v h n → s.drawn.sameBut d0 lw_cs → am_HR s L D B h n H → va_S (fun q => B ≤ q) s.heap H locs → k.1 ≤ mr.2.2.2.2.1.1 → k.2 ≤ mr.2.2.2.2.1.2 → decode mr.2.1 pc = .ok (am_retI mr.2.2.2.2.2.1, 1) → W p l e R (s.setDrawn d0) m args below meth c H locs k.1 k.2 Q (F0 m pc lsm ((v.map (am_mv L)).toList)))
    (hn : ∀ ls st h n k, nx ls st h n k → am_At p l e R s m args below meth c Q mr L D B (pc + len) ls st h n k) (hB : ∀ b ls st h n k t, am_pc mr b = some t → BT b ls st h n k → am_At p l e R s m args below meth c Q mr L D B t ls st h n k) :
    am_sem CT am_dfs BT mr.2.2.2.2.1 mr.2.2.2.2.2.1 K (.iadd, v, a) nx ls st h n k → am_At p l e R s m args below meth c Q mr L D B pc ls st h n k := by
  intro q d0 H locs lsm hd0 hl hH hS hk1 hk2
  obtain ⟨hx, hb, hml, hown, hE, hnm, hRf, hRl, hRc, hRs⟩ := hC
  have hL := hE.1
  have hts : ∀ d0 : Drawn, ∀ w ∈ am_tbl, am_keep w = true → w.before args (s.setDrawn d0) = true := fun d0 w hw hk => (Cond.before_setDrawn args s d0 w).trans (hE.2.1 w hw hk args)
  have hlen : len = 1 := by simpa [am_okI] using hok
  subst hlen
  revert q; dsimp only [am_sem]; split
  · intro q
    exact lv_iadd hx hb hdec (hn _ _ _ _ _ q d0 H locs lsm hd0 hl hH hS hk1 hk2)
  · exact False.elim
set_option maxHeartbeats 4000000 in
theorem am_ss_isub {CT : am_CT} {BT : Nat → am_N} {K : am_K} {v : Value} {a : List Nat} {nx : am_N} {ls st : List Value} {h : am_H} {n : Nat} {k : am_C} (hC : am_Cx p R s m meth c mr L D B d) (hok : am_okI mr pc len (.isub, v, a) = true) (hdec : decode mr.2.1 pc = .ok (.isub, len))
    (hCT : am_Sound l d CT)
    (hend : ∀ (pc : Nat) (v : Option Value) (h : am_H) (n : Nat) (k : am_C) (d0 : Drawn) (H : Heap) (locs : List Loc) (lsm : Array Slot), am_rets mr.2.2.2.2.2.1 v → K v h n → s.drawn.sameBut d0 lw_cs → am_HR s L D B h n H → va_S (fun q => B ≤ q) s.heap H locs → k.1 ≤ mr.2.2.2.2.1.1 → k.2 ≤ mr.2.2.2.2.1.2 → decode mr.2.1 pc = .ok (am_retI mr.2.2.2.2.2.1, 1) → W p l e R (s.setDrawn d0) m args below meth c H locs k.1 k.2 Q (F0 m pc lsm ((v.map (am_mv L)).toList)))
    (hn : ∀ ls st h n k, nx ls st h n k → am_At p l e R s m args below meth c Q mr L D B (pc + len) ls st h n k) (hB : ∀ b ls st h n k t, am_pc mr b = some t → BT b ls st h n k → am_At p l e R s m args below meth c Q mr L D B t ls st h n k) :
    am_sem CT am_dfs BT mr.2.2.2.2.1 mr.2.2.2.2.2.1 K (.isub, v, a) nx ls st h n k → am_At p l e R s m args below meth c Q mr L D B pc ls st h n k := by
  intro q d0 H locs lsm hd0 hl hH hS hk1 hk2
  obtain ⟨hx, hb, hml, hown, hE, hnm, hRf, hRl, hRc, hRs⟩ := hC
  have hL := hE.1
  have hts : ∀ d0 : Drawn, ∀ w ∈ am_tbl, am_keep w = true → w.before args (s.setDrawn d0) = true := fun d0 w hw hk => (Cond.before_setDrawn args s d0 w).trans (hE.2.1 w hw hk args)
  have hlen : len = 1 := by simpa [am_okI] using hok
  subst hlen
  revert q; dsimp only [am_sem]; split
  · intro q
    exact lv_isub hx hb hdec (hn _ _ _ _ _ q d0 H locs lsm hd0 hl hH hS hk1 hk2)
  · exact False.elim
set_option maxHeartbeats 4000000 in
theorem am_ss_imul {CT : am_CT} {BT : Nat → am_N} {K : am_K} {v : Value} {a : List Nat} {nx : am_N} {ls st : List Value} {h : am_H} {n : Nat} {k : am_C} (hC : am_Cx p R s m meth c mr L D B d) (hok : am_okI mr pc len (.imul, v, a) = true) (hdec : decode mr.2.1 pc = .ok (.imul, len))
    (hCT : am_Sound l d CT)
    (hend : ∀ (pc : Nat) (v : Option Value) (h : am_H) (n : Nat) (k : am_C) (d0 : Drawn) (H : Heap) (locs : List Loc) (lsm : Array Slot), am_rets mr.2.2.2.2.2.1 v → K v h n → s.drawn.sameBut d0 lw_cs → am_HR s L D B h n H → va_S (fun q => B ≤ q) s.heap H locs → k.1 ≤ mr.2.2.2.2.1.1 → k.2 ≤ mr.2.2.2.2.1.2 → decode mr.2.1 pc = .ok (am_retI mr.2.2.2.2.2.1, 1) → W p l e R (s.setDrawn d0) m args below meth c H locs k.1 k.2 Q (F0 m pc lsm ((v.map (am_mv L)).toList)))
    (hn : ∀ ls st h n k, nx ls st h n k → am_At p l e R s m args below meth c Q mr L D B (pc + len) ls st h n k) (hB : ∀ b ls st h n k t, am_pc mr b = some t → BT b ls st h n k → am_At p l e R s m args below meth c Q mr L D B t ls st h n k) :
    am_sem CT am_dfs BT mr.2.2.2.2.1 mr.2.2.2.2.2.1 K (.imul, v, a) nx ls st h n k → am_At p l e R s m args below meth c Q mr L D B pc ls st h n k := by
  intro q d0 H locs lsm hd0 hl hH hS hk1 hk2
  obtain ⟨hx, hb, hml, hown, hE, hnm, hRf, hRl, hRc, hRs⟩ := hC
  have hL := hE.1
  have hts : ∀ d0 : Drawn, ∀ w ∈ am_tbl, am_keep w = true → w.before args (s.setDrawn d0) = true := fun d0 w hw hk => (Cond.before_setDrawn args s d0 w).trans (hE.2.1 w hw hk args)
  have hlen : len = 1 := by simpa [am_okI] using hok
  subst hlen
  revert q; dsimp only [am_sem]; split
  · intro q
    exact lv_imul hx hb hdec (hn _ _ _ _ _ q d0 H locs lsm hd0 hl hH hS hk1 hk2)
  · exact False.elim
set_option maxHeartbeats 4000000 in
theorem am_ss_iand {CT : am_CT} {BT : Nat → am_N} {K : am_K} {v : Value} {a : List Nat} {nx : am_N} {ls st : List Value} {h : am_H} {n : Nat} {k : am_C} (hC : am_Cx p R s m meth c mr L D B d) (hok : am_okI mr pc len (.iand, v, a) = true) (hdec : decode mr.2.1 pc = .ok (.iand, len))
    (hCT : am_Sound l d CT)
    (hend : ∀ (pc : Nat) (v : Option Value) (h : am_H) (n : Nat) (k : am_C) (d0 : Drawn) (H : Heap) (locs : List Loc) (lsm : Array Slot), am_rets mr.2.2.2.2.2.1 v → K v h n → s.drawn.sameBut d0 lw_cs → am_HR s L D B h n H → va_S (fun q => B ≤ q) s.heap H locs → k.1 ≤ mr.2.2.2.2.1.1 → k.2 ≤ mr.2.2.2.2.1.2 → decode mr.2.1 pc = .ok (am_retI mr.2.2.2.2.2.1, 1) → W p l e R (s.setDrawn d0) m args below meth c H locs k.1 k.2 Q (F0 m pc lsm ((v.map (am_mv L)).toList)))
    (hn : ∀ ls st h n k, nx ls st h n k → am_At p l e R s m args below meth c Q mr L D B (pc + len) ls st h n k) (hB : ∀ b ls st h n k t, am_pc mr b = some t → BT b ls st h n k → am_At p l e R s m args below meth c Q mr L D B t ls st h n k) :
    am_sem CT am_dfs BT mr.2.2.2.2.1 mr.2.2.2.2.2.1 K (.iand, v, a) nx ls st h n k → am_At p l e R s m args below meth c Q mr L D B pc ls st h n k := by
  intro q d0 H locs lsm hd0 hl hH hS hk1 hk2
  obtain ⟨hx, hb, hml, hown, hE, hnm, hRf, hRl, hRc, hRs⟩ := hC
  have hL := hE.1
  have hts : ∀ d0 : Drawn, ∀ w ∈ am_tbl, am_keep w = true → w.before args (s.setDrawn d0) = true := fun d0 w hw hk => (Cond.before_setDrawn args s d0 w).trans (hE.2.1 w hw hk args)
  have hlen : len = 1 := by simpa [am_okI] using hok
  subst hlen
  revert q; dsimp only [am_sem]; split
  · intro q
    exact lv_iand hx hb hdec (hn _ _ _ _ _ q d0 H locs lsm hd0 hl hH hS hk1 hk2)
  · exact False.elim
set_option maxHeartbeats 4000000 in
theorem am_ss_ior {CT : am_CT} {BT : Nat → am_N} {K : am_K} {v : Value} {a : List Nat} {nx : am_N} {ls st : List Value} {h : am_H} {n : Nat} {k : am_C} (hC : am_Cx p R s m meth c mr L D B d) (hok : am_okI mr pc len (.ior, v, a) = true) (hdec : decode mr.2.1 pc = .ok (.ior, len))
    (hCT : am_Sound l d CT)
    (hend : ∀ (pc : Nat) (v : Option Value) (h : am_H) (n : Nat) (k : am_C) (d0 : Drawn) (H : Heap) (locs : List Loc) (lsm : Array Slot), am_rets mr.2.2.2.2.2.1 v → K v h n → s.drawn.sameBut d0 lw_cs → am_HR s L D B h n H → va_S (fun q => B ≤ q) s.heap H locs → k.1 ≤ mr.2.2.2.2.1.1 → k.2 ≤ mr.2.2.2.2.1.2 → decode mr.2.1 pc = .ok (am_retI mr.2.2.2.2.2.1, 1) → W p l e R (s.setDrawn d0) m args below meth c H locs k.1 k.2 Q (F0 m pc lsm ((v.map (am_mv L)).toList)))
    (hn : ∀ ls st h n k, nx ls st h n k → am_At p l e R s m args below meth c Q mr L D B (pc + len) ls st h n k) (hB : ∀ b ls st h n k t, am_pc mr b = some t → BT b ls st h n k → am_At p l e R s m args below meth c Q mr L D B t ls st h n k) :
    am_sem CT am_dfs BT mr.2.2.2.2.1 mr.2.2.2.2.2.1 K (.ior, v, a) nx ls st h n k → am_At p l e R s m args below meth c Q mr L D B pc ls st h n k := by
  intro q d0 H locs lsm hd0 hl hH hS hk1 hk2
  obtain ⟨hx, hb, hml, hown, hE, hnm, hRf, hRl, hRc, hRs⟩ := hC
  have hL := hE.1
  have hts : ∀ d0 : Drawn, ∀ w ∈ am_tbl, am_keep w = true → w.before args (s.setDrawn d0) = true := fun d0 w hw hk => (Cond.before_setDrawn args s d0 w).trans (hE.2.1 w hw hk args)
  have hlen : len = 1 := by simpa [am_okI] using hok
  subst hlen
  revert q; dsimp only [am_sem]; split
  · intro q
    exact lv_ior hx hb hdec (hn _ _ _ _ _ q d0 H locs lsm hd0 hl hH hS hk1 hk2)
  · exact False.elim
set_option maxHeartbeats 4000000 in
theorem am_ss_ishl {CT : am_CT} {BT : Nat → am_N} {K : am_K} {v : Value} {a : List Nat} {nx : am_N} {ls st : List Value} {h : am_H} {n : Nat} {k : am_C} (hC : am_Cx p R s m meth c mr L D B d) (hok : am_okI mr pc len (.ishl, v, a) = true) (hdec : decode mr.2.1 pc = .ok (.ishl, len))
    (hCT : am_Sound l d CT)
    (hend : ∀ (pc : Nat) (v : Option Value) (h : am_H) (n : Nat) (k : am_C) (d0 : Drawn) (H : Heap) (locs : List Loc) (lsm : Array Slot), am_rets mr.2.2.2.2.2.1 v → K v h n → s.drawn.sameBut d0 lw_cs → am_HR s L D B h n H → va_S (fun q => B ≤ q) s.heap H locs → k.1 ≤ mr.2.2.2.2.1.1 → k.2 ≤ mr.2.2.2.2.1.2 → decode mr.2.1 pc = .ok (am_retI mr.2.2.2.2.2.1, 1) → W p l e R (s.setDrawn d0) m args below meth c H locs k.1 k.2 Q (F0 m pc lsm ((v.map (am_mv L)).toList)))
    (hn : ∀ ls st h n k, nx ls st h n k → am_At p l e R s m args below meth c Q mr L D B (pc + len) ls st h n k) (hB : ∀ b ls st h n k t, am_pc mr b = some t → BT b ls st h n k → am_At p l e R s m args below meth c Q mr L D B t ls st h n k) :
    am_sem CT am_dfs BT mr.2.2.2.2.1 mr.2.2.2.2.2.1 K (.ishl, v, a) nx ls st h n k → am_At p l e R s m args below meth c Q mr L D B pc ls st h n k := by
  intro q d0 H locs lsm hd0 hl hH hS hk1 hk2
  obtain ⟨hx, hb, hml, hown, hE, hnm, hRf, hRl, hRc, hRs⟩ := hC
  have hL := hE.1
  have hts : ∀ d0 : Drawn, ∀ w ∈ am_tbl, am_keep w = true → w.before args (s.setDrawn d0) = true := fun d0 w hw hk => (Cond.before_setDrawn args s d0 w).trans (hE.2.1 w hw hk args)
  have hlen : len = 1 := by simpa [am_okI] using hok
  subst hlen
  revert q; dsimp only [am_sem]; split
  · intro q
    exact lv_ishl hx hb hdec (hn _ _ _ _ _ q d0 H locs lsm hd0 hl hH hS hk1 hk2)
  · exact False.elim
set_option maxHeartbeats 4000000 in
theorem am_ss_ishr {CT : am_CT} {BT : Nat → am_N} {K : am_K} {v : Value} {a : List Nat} {nx : am_N} {ls st : List Value} {h : am_H} {n : Nat} {k : am_C} (hC : am_Cx p R s m meth c mr L D B d) (hok : am_okI mr pc len (.ishr, v, a) = true) (hdec : decode mr.2.1 pc = .ok (.ishr, len))
    (hCT : am_Sound l d CT)
    (hend : ∀ (pc : Nat) (v : Option Value) (h : am_H) (n : Nat) (k : am_C) (d0 : Drawn) (H : Heap) (locs : List Loc) (lsm : Array Slot), am_rets mr.2.2.2.2.2.1 v → K v h n → s.drawn.sameBut d0 lw_cs → am_HR s L D B h n H → va_S (fun q => B ≤ q) s.heap H locs → k.1 ≤ mr.2.2.2.2.1.1 → k.2 ≤ mr.2.2.2.2.1.2 → decode mr.2.1 pc = .ok (am_retI mr.2.2.2.2.2.1, 1) → W p l e R (s.setDrawn d0) m args below meth c H locs k.1 k.2 Q (F0 m pc lsm ((v.map (am_mv L)).toList)))
    (hn : ∀ ls st h n k, nx ls st h n k → am_At p l e R s m args below meth c Q mr L D B (pc + len) ls st h n k) (hB : ∀ b ls st h n k t, am_pc mr b = some t → BT b ls st h n k → am_At p l e R s m args below meth c Q mr L D B t ls st h n k) :
    am_sem CT am_dfs BT mr.2.2.2.2.1 mr.2.2.2.2.2.1 K (.ishr, v, a) nx ls st h n k → am_At p l e R s m args below meth c Q mr L D B pc ls st h n k := by
  intro q d0 H locs lsm hd0 hl hH hS hk1 hk2
  obtain ⟨hx, hb, hml, hown, hE, hnm, hRf, hRl, hRc, hRs⟩ := hC
  have hL := hE.1
  have hts : ∀ d0 : Drawn, ∀ w ∈ am_tbl, am_keep w = true → w.before args (s.setDrawn d0) = true := fun d0 w hw hk => (Cond.before_setDrawn args s d0 w).trans (hE.2.1 w hw hk args)
  have hlen : len = 1 := by simpa [am_okI] using hok
  subst hlen
  revert q; dsimp only [am_sem]; split
  · intro q
    exact lv_ishr hx hb hdec (hn _ _ _ _ _ q d0 H locs lsm hd0 hl hH hS hk1 hk2)
  · exact False.elim
set_option maxHeartbeats 4000000 in
theorem am_ss_ineg {CT : am_CT} {BT : Nat → am_N} {K : am_K} {v : Value} {a : List Nat} {nx : am_N} {ls st : List Value} {h : am_H} {n : Nat} {k : am_C} (hC : am_Cx p R s m meth c mr L D B d) (hok : am_okI mr pc len (.ineg, v, a) = true) (hdec : decode mr.2.1 pc = .ok (.ineg, len))
    (hCT : am_Sound l d CT)
    (hend : ∀ (pc : Nat) (v : Option Value) (h : am_H) (n : Nat) (k : am_C) (d0 : Drawn) (H : Heap) (locs : List Loc) (lsm : Array Slot), am_rets mr.2.2.2.2.2.1 v → K v h n → s.drawn.sameBut d0 lw_cs → am_HR s L D B h n H → va_S (fun q => B ≤ q) s.heap H locs → k.1 ≤ mr.2.2.2.2.1.1 → k.2 ≤ mr.2.2.2.2.1.2 → decode mr.2.1 pc = .ok (am_retI mr.2.2.2.2.2.1, 1) → W p l e R (s.setDrawn d0) m args below meth c H locs k.1 k.2 Q (F0 m pc lsm ((v.map (am_mv L)).toList)))
    (hn : ∀ ls st h n k, nx ls st h n k → am_At p l e R s m args below meth c Q mr L D B (pc + len) ls st h n k) (hB : ∀ b ls st h n k t, am_pc mr b = some t → BT b ls st h n k → am_At p l e R s m args below meth c Q mr L D B t ls st h n k) :
    am_sem CT am_dfs BT mr.2.2.2.2.1 mr.2.2.2.2.2.1 K (.ineg, v, a) nx ls st h n k → am_At p l e R s m args below meth c Q mr L D B pc ls st h n k := by
  intro q d0 H locs lsm hd0 hl hH hS hk1 hk2
  obtain ⟨hx, hb, hml, hown, hE, hnm, hRf, hRl, hRc, hRs⟩ := hC
  have hL := hE.1
  have hts : ∀ d0 : Drawn, ∀ w ∈ am_tbl, am_keep w = true → w.before args (s.setDrawn d0) = true := fun d0 w hw hk => (Cond.before_setDrawn args s d0 w).trans (hE.2.1 w hw hk args)
  have hlen : len = 1 := by simpa [am_okI] using hok
  subst hlen
  revert q; dsimp only [am_sem]; split
  · intro q
    exact lv_ineg hx hb hdec (hn _ _ _ _ _ q d0 H locs lsm hd0 hl hH hS hk1 hk2)
  · exact False.elim
set_option maxHeartbeats 4000000 in
theorem am_ss_ladd {CT : am_CT} {BT : Nat → am_N} {K : am_K} {v : Value} {a : List Nat} {nx : am_N} {ls st : List Value} {h : am_H} {n : Nat} {k : am_C} (hC : am_Cx p R s m meth c mr L D B d) (hok : am_okI mr pc len (.ladd, v, a) = true) (hdec : decode mr.2.1 pc = .ok (.ladd, len))
    (hCT : am_Sound l d CT)
    (hend : ∀ (pc : Nat) (v : Option Value) (h : am_H) (n : Nat) (k : am_C) (d0 : Drawn) (H : Heap) (locs : List Loc) (lsm : Array Slot), am_rets mr.2.2.2.2.2.1 v → K v h n → s.drawn.sameBut d0 lw_cs → am_HR s L D B h n H → va_S (fun q => B ≤ q) s.heap H locs → k.1 ≤ mr.2.2.2.2.1.1 → k.2 ≤ mr.2.2.2.2.1.2 → decode mr.2.1 pc = .ok (am_retI mr.2.2.2.2.2.1, 1) → W p l e R (s.setDrawn d0) m args below meth c H locs k.1 k.2 Q (F0 m pc lsm ((v.map (am_mv L)).toList)))
    (hn : ∀ ls st h n k, nx ls st h n k → am_At p l e R s m args below meth c Q mr L D B (pc + len) ls st h n k) (hB : ∀ b ls st h n k t, am_pc mr b = some t → BT b ls st h n k → am_At p l e R s m args below meth c Q mr L D B t ls st h n k) :
    am_sem CT am_dfs BT mr.2.2.2.2.1 mr.2.2.2.2.2.1 K (.ladd, v, a) nx ls st h n k → am_At p l e R s m args below meth c Q mr L D B pc ls st h n k := by
  intro q d0 H locs lsm hd0 hl hH hS hk1 hk2
  obtain ⟨hx, hb, hml, hown, hE, hnm, hRf, hRl, hRc, hRs⟩ := hC
  have hL := hE.1
  have hts : ∀ d0 : Drawn, ∀ w ∈ am_tbl, am_keep w = true → w.before args (s.setDrawn d0) = true := fun d0 w hw hk => (Cond.before_setDrawn args s d0 w).trans (hE.2.1 w hw hk args)
  have hlen : len = 1 := by simpa [am_okI] using hok
  subst hlen
  revert q; dsimp only [am_sem]; split
  · intro q
    exact lv_ladd hx hb hdec (hn _ _ _ _ _ q d0 H locs lsm hd0 hl hH hS hk1 hk2)
  · exact False.elim
set_option maxHeartbeats 4000000 in
theorem am_ss_lsub {CT : am_CT} {BT : Nat → am_N} {K : am_K} {v : Value} {a : List Nat} {nx : am_N} {ls st : List Value} {h : am_H} {n : Nat} {k : am_C} (hC : am_Cx p R s m meth c mr L D B d) (hok : am_okI mr pc len (.lsub, v, a) = true) (hdec : decode mr.2.1 pc = .ok (.lsub, len))
    (hCT : am_Sound l d CT)
    (hend : ∀ (pc : Nat) (v : Option Value) (h : am_H) (n : Nat) (k : am_C) (d0 : Drawn) (H : Heap) (locs : List Loc) (lsm : Array Slot), am_rets mr.2.2.2.2.2.1 v → K v h n → s.drawn.sameBut d0 lw_cs → am_HR s L D B h n H → va_S (fun q => B ≤ q) s.heap H locs → k.1 ≤ mr.2.2.2.2.1.1 → k.2 ≤ mr.2.2.2.2.1.2 → decode mr.2.1 pc = .ok (am_retI mr.2.2.2.2.2.1, 1) → W p l e R (s.setDrawn d0) m args below meth c H locs k.1 k.2 Q (F0 m pc lsm ((v.map (am_mv L)).toList)))
    (hn : ∀ ls st h n k, nx ls st h n k → am_At p l e R s m args below meth c Q mr L D B (pc + len) ls st h n k) (hB : ∀ b ls st h n k t, am_pc mr b = some t → BT b ls st h n k → am_At p l e R s m args below meth c Q mr L D B t ls st h n k) :
    am_sem CT am_dfs BT mr.2.2.2.2.1 mr.2.2.2.2.2.1 K (.lsub, v, a) nx ls st h n k → am_At p l e R s m args below meth c Q mr L D B pc ls st h n k := by
  intro q d0 H locs lsm hd0 hl hH hS hk1 hk2
  obtain ⟨hx, hb, hml, hown, hE, hnm, hRf, hRl, hRc, hRs⟩ := hC
  have hL := hE.1
  have hts : ∀ d0 : Drawn, ∀ w ∈ am_tbl, am_keep w = true → w.before args (s.setDrawn d0) = true := fun d0 w hw hk => (Cond.before_setDrawn args s d0 w).trans (hE.2.1 w hw hk args)
  have hlen : len = 1 := by simpa [am_okI] using hok
  subst hlen
  revert q; dsimp only [am_sem]; split
  · intro q
    exact lv_lsub hx hb hdec (hn _ _ _ _ _ q d0 H locs lsm hd0 hl hH hS hk1 hk2)
  · exact False.elim
set_option maxHeartbeats 4000000 in
theorem am_ss_lmul {CT : am_CT} {BT : Nat → am_N} {K : am_K} {v : Value} {a : List Nat} {nx : am_N} {ls st : List Value} {h : am_H} {n : Nat} {k : am_C} (hC : am_Cx p R s m meth c mr L D B d) (hok : am_okI mr pc len (.lmul, v, a) = true) (hdec : decode mr.2.1 pc = .ok (.lmul, len))
    (hCT : am_Sound l d CT)
    (hend : ∀ (pc : Nat) (v : Option Value) (h : am_H) (n : Nat) (k : am_C) (d0 : Drawn) (H : Heap) (locs : List Loc) (lsm : Array Slot), am_rets mr.2.2.2.2.2.1 v → K v h n → s.drawn.sameBut d0 lw_cs → am_HR s L D B h n H → va_S (fun q => B ≤ q) s.heap H locs → k.1 ≤ mr.2.2.2.2.1.1 → k.2 ≤ mr.2.2.2.2.1.2 → decode mr.2.1 pc = .ok (am_retI mr.2.2.2.2.2.1, 1) → W p l e R (s.setDrawn d0) m args below meth c H locs k.1 k.2 Q (F0 m pc lsm ((v.map (am_mv L)).toList)))
    (hn : ∀ ls st h n k, nx ls st h n k → am_At p l e R s m args below meth c Q mr L D B (pc + len) ls st h n k) (hB : ∀ b ls st h n k t, am_pc mr b = some t → BT b ls st h n k → am_At p l e R s m args below meth c Q mr L D B t ls st h n k) :
    am_sem CT am_dfs BT mr.2.2.2.2.1 mr.2.2.2.2.2.1 K (.lmul, v, a) nx ls st h n k → am_At p l e R s m args below meth c Q mr L D B pc ls st h n k := by
  intro q d0 H locs lsm hd0 hl hH hS hk1 hk2
  obtain ⟨hx, hb, hml, hown, hE, hnm, hRf, hRl, hRc, hRs⟩ := hC
  have hL := hE.1
  have hts : ∀ d0 : Drawn, ∀ w ∈ am_tbl, am_keep w = true → w.before args (s.setDrawn d0) = true := fun d0 w hw hk => (Cond.before_setDrawn args s d0 w).trans (hE.2.1 w hw hk args)
  have hlen : len = 1 := by simpa [am_okI] using hok
  subst hlen
  revert q; dsimp only [am_sem]; split
  · intro q
    exact lv_lmul hx hb hdec (hn _ _ _ _ _ q d0 H locs lsm hd0 hl hH hS hk1 hk2)
  · exact False.elim
set_option maxHeartbeats 4000000 in
theorem am_ss_lneg {CT : am_CT} {BT : Nat → am_N} {K : am_K} {v : Value} {a : List Nat} {nx : am_N} {ls st : List Value} {h : am_H} {n : Nat} {k : am_C} (hC : am_Cx p R s m meth c mr L D B d) (hok : am_okI mr pc len (.lneg, v, a) = true) (hdec : decode mr.2.1 pc = .ok (.lneg, len))
    (hCT : am_Sound l d CT)
    (hend : ∀ (pc : Nat) (v : Option Value) (h : am_H) (n : Nat) (k : am_C) (d0 : Drawn) (H : Heap) (locs : List Loc) (lsm : Array Slot), am_rets mr.2.2.2.2.2.1 v → K v h n → s.drawn.sameBut d0 lw_cs → am_HR s L D B h n H → va_S (fun q => B ≤ q) s.heap H locs → k.1 ≤ mr.2.2.2.2.1.1 → k.2 ≤ mr.2.2.2.2.1.2 → decode mr.2.1 pc = .ok (am_retI mr.2.2.2.2.2.1, 1) → W p l e R (s.setDrawn d0) m args below meth c H locs k.1 k.2 Q (F0 m pc lsm ((v.map (am_mv L)).toList)))
    (hn : ∀ ls st h n k, nx ls st h n k → am_At p l e R s m args below meth c Q mr L D B (pc + len) ls st h n k) (hB : ∀ b ls st h n k t, am_pc mr b = some t → BT b ls st h n k → am_At p l e R s m args below meth c Q mr L D B t ls st h n k) :
    am_sem CT am_dfs BT mr.2.2.2.2.1 mr.2.2.2.2.2.1 K (.lneg, v, a) nx ls st h n k → am_At p l e R s m args below meth c Q mr L D B pc ls st h n k := by
  intro q d0 H locs lsm hd0 hl hH hS hk1 hk2
  obtain ⟨hx, hb, hml, hown, hE, hnm, hRf, hRl, hRc, hRs⟩ := hC
  have hL := hE.1
  have hts : ∀ d0 : Drawn, ∀ w ∈ am_tbl, am_keep w = true → w.before args (s.setDrawn d0) = true := fun d0 w hw hk => (Cond.before_setDrawn args s d0 w).trans (hE.2.1 w hw hk args)
  have hlen : len = 1 := by simpa [am_okI] using hok
  subst hlen
  revert q; dsimp only [am_sem]; split
  · intro q
    exact lv_lneg hx hb hdec (hn _ _ _ _ _ q d0 H locs lsm hd0 hl hH hS hk1 hk2)
  · exact False.elim
set_option maxHeartbeats 4000000 in
theorem am_ss_i2d {CT : am_CT} {BT : Nat → am_N} {K : am_K} {v : Value} {a : List Nat} {nx : am_N} {ls st : List Value} {h : am_H} {n : Nat} {k : am_C} (hC : am_Cx p R s m meth c mr L D B d) (hok : am_okI mr pc len (.i2d, v, a) = true) (hdec : decode mr.2.1 pc = .ok (.i2d, len))
    (hCT : am_Sound l d CT)
    (hend : ∀ (pc : Nat) (v : Option Value) (h : am_H) (n : Nat) (k : am_C) (d0 : Drawn) (H : Heap) (locs : List Loc) (lsm : Array Slot), am_rets mr.2.2.2.2.2.1 v → K v h n → s.drawn.sameBut d0 lw_cs → am_HR s L D B h n H → va_S (fun q => B ≤ q) s.heap H locs → k.1 ≤ mr.2.2.2.2.1.1 → k.2 ≤ mr.2.2.2.2.1.2 → decode mr.2.1 pc = .ok (am_retI mr.2.2.2.2.2.1, 1) → W p l e R (s.setDrawn d0) m args below meth c H locs k.1 k.2 Q (F0 m pc lsm ((v.map (am_mv L)).toList)))
    (hn : ∀ ls st h n k, nx ls st h n k → am_At p l e R s m args below meth c Q mr L D B (pc + len) ls st h n k) (hB : ∀ b ls st h n k t, am_pc mr b = some t → BT b ls st h n k → am_At p l e R s m args below meth c Q mr L D B t ls st h n k) :
    am_sem CT am_dfs BT mr.2.2.2.2.1 mr.2.2.2.2.2.1 K (.i2d, v, a) nx ls st h n k → am_At p l e R s m args below meth c Q mr L D B pc ls st h n k := by
  intro q d0 H locs lsm hd0 hl hH hS hk1 hk2
  obtain ⟨hx, hb, hml, hown, hE, hnm, hRf, hRl, hRc, hRs⟩ := hC
  have hL := hE.1
  have hts : ∀ d0 : Drawn, ∀ w ∈ am_tbl, am_keep w = true → w.before args (s.setDrawn d0) = true := fun d0 w hw hk => (Cond.before_setDrawn args s d0 w).trans (hE.2.1 w hw hk args)
  have hlen : len = 1 := by simpa [am_okI] using hok
  subst hlen
  revert q; dsimp only [am_sem]; split
  · intro q
    exact lv_i2d hx hb hdec (hn _ _ _ _ _ q d0 H locs lsm hd0 hl hH hS hk1 hk2)
  · exact False.elim
set_option maxHeartbeats 4000000 in
theorem am_ss_l2d {CT : am_CT} {BT : Nat → am_N} {K : am_K} {v : Value} {a : List Nat} {nx : am_N} {ls st : List Value} {h : am_H} {n : Nat} {k : am_C} (hC : am_Cx p R s m meth c mr L D B d) (hok : am_okI mr pc len (.l2d, v, a) = true) (hdec : decode mr.2.1 pc = .ok (.l2d, len))
    (hCT : am_Sound l d CT)
    (hend : ∀ (pc : Nat) (v : Option Value) (h : am_H) (n : Nat) (k : am_C) (d0 : Drawn) (H : Heap) (locs : List Loc) (lsm : Array Slot), am_rets mr.2.2.2.2.2.1 v → K v h n → s.drawn.sameBut d0 lw_cs → am_HR s L D B h n H → va_S (fun q => B ≤ q) s.heap H locs → k.1 ≤ mr.2.2.2.2.1.1 → k.2 ≤ mr.2.2.2.2.1.2 → decode mr.2.1 pc = .ok (am_retI mr.2.2.2.2.2.1, 1) → W p l e R (s.setDrawn d0) m args below meth c H locs k.1 k.2 Q (F0 m pc lsm ((v.map (am_mv L)).toList)))
    (hn : ∀ ls st h n k, nx ls st h n k → am_At p l e R s m args below meth c Q mr L D B (pc + len) ls st h n k) (hB : ∀ b ls st h n k t, am_pc mr b = some t → BT b ls st h n k → am_At p l e R s m args below meth c Q mr L D B t ls st h n k) :
    am_sem CT am_dfs BT mr.2.2.2.2.1 mr.2.2.2.2.2.1 K (.l2d, v, a) nx ls st h n k → am_At p l e R s m args below meth c Q mr L D B pc ls st h n k := by
  intro q d0 H locs lsm hd0 hl hH hS hk1 hk2
  obtain ⟨hx, hb, hml, hown, hE, hnm, hRf, hRl, hRc, hRs⟩ := hC
  have hL := hE.1
  have hts : ∀ d0 : Drawn, ∀ w ∈ am_tbl, am_keep w = true → w.before args (s.setDrawn d0) = true := fun d0 w hw hk => (Cond.before_setDrawn args s d0 w).trans (hE.2.1 w hw hk args)
  have hlen : len = 1 := by simpa [am_okI] using hok
  subst hlen
  revert q; dsimp only [am_sem]; split
  · intro q
    exact lv_l2d hx hb hdec (hn _ _ _ _ _ q d0 H locs lsm hd0 hl hH hS hk1 hk2)
  · exact False.elim
set_option maxHeartbeats 4000000 in
theorem am_ss_l2f {CT : am_CT} {BT : Nat → am_N} {K : am_K} {v : Value} {a : List Nat} {nx : am_N} {ls st : List Value} {h : am_H} {n : Nat} {k : am_C} (hC : am_Cx p R s m meth c mr L D B d) (hok : am_okI mr pc len (.l2f, v, a) = true) (hdec : decode mr.2.1 pc = .ok (.l2f, len))
    (hCT : am_Sound l d CT)
    (hend : ∀ (pc : Nat) (v : Option Value) (h : am_H) (n : Nat) (k : am_C) (d0 : Drawn) (H : Heap) (locs : List Loc) (lsm : Array Slot), am_rets mr.2.2.2.2.2.1 v → K v h n → s.drawn.sameBut d0 lw_cs → am_HR s L D B h n H → va_S (fun q => B ≤ q) s.heap H locs → k.1 ≤ mr.2.2.2.2.1.1 → k.2 ≤ mr.2.2.2.2.1.2 → decode mr.2.1 pc = .ok (am_retI mr.2.2.2.2.2.1, 1) → W p l e R (s.setDrawn d0) m args below meth c H locs k.1 k.2 Q (F0 m pc lsm ((v.map (am_mv L)).toList)))
    (hn : ∀ ls st h n k, nx ls st h n k → am_At p l e R s m args below meth c Q mr L D B (pc + len) ls st h n k) (hB : ∀ b ls st h n k t, am_pc mr b = some t → BT b ls st h n k → am_At p l e R s m args below meth c Q mr L D B t ls st h n k) :
    am_sem CT am_dfs BT mr.2.2.2.2.1 mr.2.2.2.2.2.1 K (.l2f, v, a) nx ls st h n k → am_At p l e R s m args below meth c Q mr L D B pc ls st h n k := by
  intro q d0 H locs lsm hd0 hl hH hS hk1 hk2
  obtain ⟨hx, hb, hml, hown, hE, hnm, hRf, hRl, hRc, hRs⟩ := hC
  have hL := hE.1
  have hts : ∀ d0 : Drawn, ∀ w ∈ am_tbl, am_keep w = true → w.before args (s.setDrawn d0) = true := fun d0 w hw hk => (Cond.before_setDrawn args s d0 w).trans (hE.2.1 w hw hk args)
  have hlen : len = 1 := by simpa [am_okI] using hok
  subst hlen
  revert q; dsimp only [am_sem]; split
  · intro q
    exact lv_l2f hx hb hdec (hn _ _ _ _ _ q d0 H locs lsm hd0 hl hH hS hk1 hk2)
  · exact False.elim
set_option maxHeartbeats 4000000 in
theorem am_ss_d2i {CT : am_CT} {BT : Nat → am_N} {K : am_K} {v : Value} {a : List Nat} {nx : am_N} {ls st : List Value} {h : am_H} {n : Nat} {k : am_C} (hC : am_Cx p R s m meth c mr L D B d) (hok : am_okI mr pc len (.d2i, v, a) = true) (hdec : decode mr.2.1 pc = .ok (.d2i, len))
    (hCT : am_Sound l d CT)
    (hend : ∀ (pc : Nat) (v : Option Value) (h : am_H) (n : Nat) (k : am_C) (d0 : Drawn) (H : Heap) (locs : List Loc) (lsm : Array Slot), am_rets mr.2.2.2.2.2.1 v → K v h n → s.drawn.sameBut d0 lw_cs → am_HR s L D B h n H → va_S (fun q => B ≤ q) s.heap H locs → k.1 ≤ mr.2.2.2.2.1.1 → k.2 ≤ mr.2.2.2.2.1.2 → decode mr.2.1 pc = .ok (am_retI mr.2.2.2.2.2.1, 1) → W p l e R (s.setDrawn d0) m args below meth c H locs k.1 k.2 Q (F0 m pc lsm ((v.map (am_mv L)).toList)))
    (hn : ∀ ls st h n k, nx ls st h n k → am_At p l e R s m args below meth c Q mr L D B (pc + len) ls st h n k) (hB : ∀ b ls st h n k t, am_pc mr b = some t → BT b ls st h n k → am_At p l e R s m args below meth c Q mr L D B t ls st h n k) :
    am_sem CT am_dfs BT mr.2.2.2.2.1 mr.2.2.2.2.2.1 K (.d2i, v, a) nx ls st h n k → am_At p l e R s m args below meth c Q mr L D B pc ls st h n k := by
  intro q d0 H locs lsm hd0 hl hH hS hk1 hk2
  obtain ⟨hx, hb, hml, hown, hE, hnm, hRf, hRl, hRc, hRs⟩ := hC
  have hL := hE.1
  have hts : ∀ d0 : Drawn, ∀ w ∈ am_tbl, am_keep w = true → w.before args (s.setDrawn d0) = true := fun d0 w hw hk => (Cond.before_setDrawn args s d0 w).trans (hE.2.1 w hw hk args)
  have hlen : len = 1 := by simpa [am_okI] using hok
  subst hlen
  revert q; dsimp only [am_sem]; split
  · intro q
    exact lv_d2i hx hb hdec (hn _ _ _ _ _ q d0 H locs lsm hd0 hl hH hS hk1 hk2)
  · exact False.elim
set_option maxHeartbeats 4000000 in
theorem am_ss_d2l {CT : am_CT} {BT : Nat → am_N} {K : am_K} {v : Value} {a : List Nat} {nx : am_N} {ls st : List Value} {h : am_H} {n : Nat} {k : am_C} (hC : am_Cx p R s m meth c mr L D B d) (hok : am_okI mr pc len (.d2l, v, a) = true) (hdec : decode mr.2.1 pc = .ok (.d2l, len))
    (hCT : am_Sound l d CT)
    (hend : ∀ (pc : Nat) (v : Option Value) (h : am_H) (n : Nat) (k : am_C) (d0 : Drawn) (H : Heap) (locs : List Loc) (lsm : Array Slot), am_rets mr.2.2.2.2.2.1 v → K v h n → s.drawn.sameBut d0 lw_cs → am_HR s L D B h n H → va_S (fun q => B ≤ q) s.heap H locs → k.1 ≤ mr.2.2.2.2.1.1 → k.2 ≤ mr.2.2.2.2.1.2 → decode mr.2.1 pc = .ok (am_retI mr.2.2.2.2.2.1, 1) → W p l e R (s.setDrawn d0) m args below meth c H locs k.1 k.2 Q (F0 m pc lsm ((v.map (am_mv L)).toList)))
    (hn : ∀ ls st h n k, nx ls st h n k → am_At p l e R s m args below meth c Q mr L D B (pc + len) ls st h n k) (hB : ∀ b ls st h n k t, am_pc mr b = some t → BT b ls st h n k → am_At p l e R s m args below meth c Q mr L D B t ls st h n k) :
    am_sem CT am_dfs BT mr.2.2.2.2.1 mr.2.2.2.2.2.1 K (.d2l, v, a) nx ls st h n k → am_At p l e R s m args below meth c Q mr L D B pc ls st h n k := by
  intro q d0 H locs lsm hd0 hl hH hS hk1 hk2
  obtain ⟨hx, hb, hml, hown, hE, hnm, hRf, hRl, hRc, hRs⟩ := hC
  have hL := hE.1
  have hts : ∀ d0 : Drawn, ∀ w ∈ am_tbl, am_keep w = true → w.before args (s.setDrawn d0) = true := fun d0 w hw hk => (Cond.before_setDrawn args s d0 w).trans (hE.2.1 w hw hk args)
  have hlen : len = 1 := by simpa [am_okI] using hok
  subst hlen
  revert q; dsimp only [am_sem]; split
  · intro q
    exact lv_d2l hx hb hdec (hn _ _ _ _ _ q d0 H locs lsm hd0 hl hH hS hk1 hk2)
  · exact False.elim
set_option maxHeartbeats 4000000 in
theorem am_ss_dneg {CT : am_CT} {BT : Nat → am_N} {K : am_K} {v : Value} {a : List Nat} {nx : am_N} {ls st : List Value} {h : am_H} {n : Nat} {k : am_C} (hC : am_Cx p R s m meth c mr L D B d) (hok : am_okI mr pc len (.dneg, v, a) = true) (hdec : decode mr.2.1 pc = .ok (.dneg, len))
    (hCT : am_Sound l d CT)
    (hend : ∀ (pc : Nat) (v : Option Value) (h : am_H) (n : Nat) (k : am_C) (d0 : Drawn) (H : Heap) (locs : List Loc) (lsm : Array Slot), am_rets mr.2.2.2.2.2.1 v → K v h n → s.drawn.sameBut d0 lw_cs → am_HR s L D B h n H → va_S (fun q => B ≤ q) s.heap H locs → k.1 ≤ mr.2.2.2.2.1.1 → k.2 ≤ mr.2.2.2.2.1.2 → decode mr.2.1 pc = .ok (am_retI mr.2.2.2.2.2.1, 1) → W p l e R (s.setDrawn d0) m args below meth c H locs k.1 k.2 Q (F0 m pc lsm ((v.map (am_mv L)).toList)))
    (hn : ∀ ls st h n k, nx ls st h n k → am_At p l e R s m args below meth c Q mr L D B (pc + len) ls st h n k) (hB : ∀ b ls st h n k t, am_pc mr b = some t → BT b ls st h n k → am_At p l e R s m args below meth c Q mr L D B t ls st h n k) :
    am_sem CT am_dfs BT mr.2.2.2.2.1 mr.2.2.2.2.2.1 K (.dneg, v, a) nx ls st h n k → am_At p l e R s m args below meth c Q mr L D B pc ls st h n k := by
  intro q d0 H locs lsm hd0 hl hH hS hk1 hk2
  obtain ⟨hx, hb, hml, hown, hE, hnm, hRf, hRl, hRc, hRs⟩ := hC
  have hL := hE.1
  have hts : ∀ d0 : Drawn, ∀ w ∈ am_tbl, am_keep w = true → w.before args (s.setDrawn d0) = true := fun d0 w hw hk => (Cond.before_setDrawn args s d0 w).trans (hE.2.1 w hw hk args)
  have hlen : len = 1 := by simpa [am_okI] using hok
  subst hlen
  revert q; dsimp only [am_sem]; split
  · intro q
    exact lv_dneg hx hb hdec (hn _ _ _ _ _ q d0 H locs lsm hd0 hl hH hS hk1 hk2)
  · exact False.elim
set_option maxHeartbeats 4000000 in
theorem am_ss_fneg {CT : am_CT} {BT : Nat → am_N} {K : am_K} {v : Value} {a : List Nat} {nx : am_N} {ls st : List Value} {h : am_H} {n : Nat} {k : am_C} (hC : am_Cx p R s m meth c mr L D B d) (hok : am_okI mr pc len (.fneg, v, a) = true) (hdec : decode mr.2.1 pc = .ok (.fneg, len))
    (hCT : am_Sound l d CT)
    (hend : ∀ (pc : Nat) (v : Option Value) (h : am_H) (n : Nat) (k : am_C) (d0 : Drawn) (H : Heap) (locs : List Loc) (lsm : Array Slot), am_rets mr.2.2.2.2.2.1 v → K v h n → s.drawn.sameBut d0 lw_cs → am_HR s L D B h n H → va_S (fun q => B ≤ q) s.heap H locs → k.1 ≤ mr.2.2.2.2.1.1 → k.2 ≤ mr.2.2.2.2.1.2 → decode mr.2.1 pc = .ok (am_retI mr.2.2.2.2.2.1, 1) → W p l e R (s.setDrawn d0) m args below meth c H locs k.1 k.2 Q (F0 m pc lsm ((v.map (am_mv L)).toList)))
    (hn : ∀ ls st h n k, nx ls st h n k → am_At p l e R s m args below meth c Q mr L D B (pc + len) ls st h n k) (hB : ∀ b ls st h n k t, am_pc mr b = some t → BT b ls st h n k → am_At p l e R s m args below meth c Q mr L D B t ls st h n k) :
    am_sem CT am_dfs BT mr.2.2.2.2.1 mr.2.2.2.2.2.1 K (.fneg, v, a) nx ls st h n k → am_At p l e R s m args below meth c Q mr L D B pc ls st h n k := by
  intro q d0 H locs lsm hd0 hl hH hS hk1 hk2
  obtain ⟨hx, hb, hml, hown, hE, hnm, hRf, hRl, hRc, hRs⟩ := hC
  have hL := hE.1
  have hts : ∀ d0 : Drawn, ∀ w ∈ am_tbl, am_keep w = true → w.before args (s.setDrawn d0) = true := fun d0 w hw hk => (Cond.before_setDrawn args s d0 w).trans (hE.2.1 w hw hk args)
  have hlen : len = 1 := by simpa [am_okI] using hok
  subst hlen
  revert q; dsimp only [am_sem]; split
  · intro q
    exact lv_fneg hx hb hdec (hn _ _ _ _ _ q d0 H locs lsm hd0 hl hH hS hk1 hk2)
  · exact False.elim
set_option maxHeartbeats 4000000 in
theorem am_ss_i2l {CT : am_CT} {BT : Nat → am_N} {K : am_K} {v : Value} {a : List Nat} {nx : am_N} {ls st : List Value} {h : am_H} {n : Nat} {k : am_C} (hC : am_Cx p R s m meth c mr L D B d) (hok : am_okI mr pc len (.i2l, v, a) = true) (hdec : decode mr.2.1 pc = .ok (.i2l, len))
    (hCT : am_Sound l d CT)
    (hend : ∀ (pc : Nat) (v : Option Value) (h : am_H) (n : Nat) (k : am_C) (d0 : Drawn) (H : Heap) (locs : List Loc) (lsm : Array Slot), am_rets mr.2.2.2.2.2.1 v → K v h n → s.drawn.sameBut d0 lw_cs → am_HR s L D B h n H → va_S (fun q => B ≤ q) s.heap H locs → k.1 ≤ mr.2.2.2.2.1.1 → k.2 ≤ mr.2.2.2.2.1.2 → decode mr.2.1 pc = .ok (am_retI mr.2.2.2.2.2.1, 1) → W p l e R (s.setDrawn d0) m args below meth c H locs k.1 k.2 Q (F0 m pc lsm ((v.map (am_mv L)).toList)))
    (hn : ∀ ls st h n k, nx ls st h n k → am_At p l e R s m args below meth c Q mr L D B (pc + len) ls st h n k) (hB : ∀ b ls st h n k t, am_pc mr b = some t → BT b ls st h n k → am_At p l e R s m args below meth c Q mr L D B t ls st h n k) :
    am_sem CT am_dfs BT mr.2.2.2.2.1 mr.2.2.2.2.2.1 K (.i2l, v, a) nx ls st h n k → am_At p l e R s m args below meth c Q mr L D B pc ls st h n k := by
  intro q d0 H locs lsm hd0 hl hH hS hk1 hk2
  obtain ⟨hx, hb, hml, hown, hE, hnm, hRf, hRl, hRc, hRs⟩ := hC
  have hL := hE.1
  have hts : ∀ d0 : Drawn, ∀ w ∈ am_tbl, am_keep w = true → w.before args (s.setDrawn d0) = true := fun d0 w hw hk => (Cond.before_setDrawn args s d0 w).trans (hE.2.1 w hw hk args)
  have hlen : len = 1 := by simpa [am_okI] using hok
  subst hlen
  revert q; dsimp only [am_sem]; split
  · intro q
    exact lv_i2l hx hb hdec rfl (hn _ _ _ _ _ q d0 H locs lsm hd0 hl hH hS hk1 hk2)
  · exact False.elim
set_option maxHeartbeats 4000000 in
theorem am_ss_l2i {CT : am_CT} {BT : Nat → am_N} {K : am_K} {v : Value} {a : List Nat} {nx : am_N} {ls st : List Value} {h : am_H} {n : Nat} {k : am_C} (hC : am_Cx p R s m meth c mr L D B d) (hok : am_okI mr pc len (.l2i, v, a) = true) (hdec : decode mr.2.1 pc = .ok (.l2i, len))
    (hCT : am_Sound l d CT)
    (hend : ∀ (pc : Nat) (v : Option Value) (h : am_H) (n : Nat) (k : am_C) (d0 : Drawn) (H : Heap) (locs : List Loc) (lsm : Array Slot), am_rets mr.2.2.2.2.2.1 v → K v h n → s.drawn.sameBut d0 lw_cs → am_HR s L D B h n H → va_S (fun q => B ≤ q) s.heap H locs → k.1 ≤ mr.2.2.2.2.1.1 → k.2 ≤ mr.2.2.2.2.1.2 → decode mr.2.1 pc = .ok (am_retI mr.2.2.2.2.2.1, 1) → W p l e R (s.setDrawn d0) m args below meth c H locs k.1 k.2 Q (F0 m pc lsm ((v.map (am_mv L)).toList)))
    (hn : ∀ ls st h n k, nx ls st h n k → am_At p l e R s m args below meth c Q mr L D B (pc + len) ls st h n k) (hB : ∀ b ls st h n k t, am_pc mr b = some t → BT b ls st h n k → am_At p l e R s m args below meth c Q mr L D B t ls st h n k) :
    am_sem CT am_dfs BT mr.2.2.2.2.1 mr.2.2.2.2.2.1 K (.l2i, v, a) nx ls st h n k → am_At p l e R s m args below meth c Q mr L D B pc ls st h n k := by
  intro q d0 H locs lsm hd0 hl hH hS hk1 hk2
  obtain ⟨hx, hb, hml, hown, hE, hnm, hRf, hRl, hRc, hRs⟩ := hC
  have hL := hE.1
  have hts : ∀ d0 : Drawn, ∀ w ∈ am_tbl, am_keep w = true → w.before args (s.setDrawn d0) = true := fun d0 w hw hk => (Cond.before_setDrawn args s d0 w).trans (hE.2.1 w hw hk args)
  have hlen : len = 1 := by simpa [am_okI] using hok
  subst hlen
  revert q; dsimp only [am_sem]; split
  · intro q
    exact lv_l2i hx hb hdec rfl (hn _ _ _ _ _ q d0 H locs lsm hd0 hl hH hS hk1 hk2)
  · exact False.elim
set_option maxHeartbeats 4000000 in
theorem am_ss_i2b {CT : am_CT} {BT : Nat → am_N} {K : am_K} {v : Value} {a : List Nat} {nx : am_N} {ls st : List Value} {h : am_H} {n : Nat} {k : am_C} (hC : am_Cx p R s m meth c mr L D B d) (hok : am_okI mr pc len (.i2b, v, a) = true) (hdec : decode mr.2.1 pc = .ok (.i2b, len))
    (hCT : am_Sound l d CT)
    (hend : ∀ (pc : Nat) (v : Option Value) (h : am_H) (n : Nat) (k : am_C) (d0 : Drawn) (H : Heap) (locs : List Loc) (lsm : Array Slot), am_rets mr.2.2.2.2.2.1 v → K v h n → s.drawn.sameBut d0 lw_cs → am_HR s L D B h n H → va_S (fun q => B ≤ q) s.heap H locs → k.1 ≤ mr.2.2.2.2.1.1 → k.2 ≤ mr.2.2.2.2.1.2 → decode mr.2.1 pc = .ok (am_retI mr.2.2.2.2.2.1, 1) → W p l e R (s.setDrawn d0) m args below meth c H locs k.1 k.2 Q (F0 m pc lsm ((v.map (am_mv L)).toList)))
    (hn : ∀ ls st h n k, nx ls st h n k → am_At p l e R s m args below meth c Q mr L D B (pc + len) ls st h n k) (hB : ∀ b ls st h n k t, am_pc mr b = some t → BT b ls st h n k → am_At p l e R s m args below meth c Q mr L D B t ls st h n k) :
    am_sem CT am_dfs BT mr.2.2.2.2.1 mr.2.2.2.2.2.1 K (.i2b, v, a) nx ls st h n k → am_At p l e R s m args below meth c Q mr L D B pc ls st h n k := by
  intro q d0 H locs lsm hd0 hl hH hS hk1 hk2
  obtain ⟨hx, hb, hml, hown, hE, hnm, hRf, hRl, hRc, hRs⟩ := hC
  have hL := hE.1
  have hts : ∀ d0 : Drawn, ∀ w ∈ am_tbl, am_keep w = true → w.before args (s.setDrawn d0) = true := fun d0 w hw hk => (Cond.before_setDrawn args s d0 w).trans (hE.2.1 w hw hk args)
  have hlen : len = 1 := by simpa [am_okI] using hok
  subst hlen
  revert q; dsimp only [am_sem]; split
  · intro q
    exact lv_i2b hx hb hdec rfl (hn _ _ _ _ _ q d0 H locs lsm hd0 hl hH hS hk1 hk2)
  · exact False.elim
set_option maxHeartbeats 4000000 in
theorem am_ss_i2c {CT : am_CT} {BT : Nat → am_N} {K : am_K} {v : Value} {a : List Nat} {nx : am_N} {ls st : List Value} {h : am_H} {n : Nat} {k : am_C} (hC : am_Cx p R s m meth c mr L D B d) (hok : am_okI mr pc len (.i2c, v, a) = true) (hdec : decode mr.2.1 pc = .ok (.i2c, len))
    (hCT : am_Sound l d CT)
    (hend : ∀ (pc : Nat) (v : Option Value) (h : am_H) (n : Nat) (k : am_C) (d0 : Drawn) (H : Heap) (locs : List Loc) (lsm : Array Slot), am_rets mr.2.2.2.2.2.1 v → K v h n → s.drawn.sameBut d0 lw_cs → am_HR s L D B h n H → va_S (fun q => B ≤ q) s.heap H locs → k.1 ≤ mr.2.2.2.2.1.1 → k.2 ≤ mr.2.2.2.2.1.2 → decode mr.2.1 pc = .ok (am_retI mr.2.2.2.2.2.1, 1) → W p l e R (s.setDrawn d0) m args below meth c H locs k.1 k.2 Q (F0 m pc lsm ((v.map (am_mv L)).toList)))
    (hn : ∀ ls st h n k, nx ls st h n k → am_At p l e R s m args below meth c Q mr L D B (pc + len) ls st h n k) (hB : ∀ b ls st h n k t, am_pc mr b = some t → BT b ls st h n k → am_At p l e R s m args below meth c Q mr L D B t ls st h n k) :
    am_sem CT am_dfs BT mr.2.2.2.2.1 mr.2.2.2.2.2.1 K (.i2c, v, a) nx ls st h n k → am_At p l e R s m args below meth c Q mr L D B pc ls st h n k := by
  intro q d0 H locs lsm hd0 hl hH hS hk1 hk2
  obtain ⟨hx, hb, hml, hown, hE, hnm, hRf, hRl, hRc, hRs⟩ := hC
  have hL := hE.1
  have hts : ∀ d0 : Drawn, ∀ w ∈ am_tbl, am_keep w = true → w.before args (s.setDrawn d0) = true := fun d0 w hw hk => (Cond.before_setDrawn args s d0 w).trans (hE.2.1 w hw hk args)
  have hlen : len = 1 := by simpa [am_okI] using hok
  subst hlen
  revert q; dsimp only [am_sem]; split
  · intro q
    exact lv_i2c hx hb hdec rfl (hn _ _ _ _ _ q d0 H locs lsm hd0 hl hH hS hk1 hk2)
  · exact False.elim
set_option maxHeartbeats 4000000 in
theorem am_ss_lcmp {CT : am_CT} {BT : Nat → am_N} {K : am_K} {v : Value} {a : List Nat} {nx : am_N} {ls st : List Value} {h : am_H} {n : Nat} {k : am_C} (hC : am_Cx p R s m meth c mr L D B d) (hok : am_okI mr pc len (.lcmp, v, a) = true) (hdec : decode mr.2.1 pc = .ok (.lcmp, len))
    (hCT : am_Sound l d CT)
    (hend : ∀ (pc : Nat) (v : Option Value) (h : am_H) (n : Nat) (k : am_C) (d0 : Drawn) (H : Heap) (locs : List Loc) (lsm : Array Slot), am_rets mr.2.2.2.2.2.1 v → K v h n → s.drawn.sameBut d0 lw_cs → am_HR s L D B h n H → va_S (fun q => B ≤ q) s.heap H locs → k.1 ≤ mr.2.2.2.2.1.1 → k.2 ≤ mr.2.2.2.2.1.2 → decode mr.2.1 pc = .ok (am_retI mr.2.2.2.2.2.1, 1) → W p l e R (s.setDrawn d0) m args below meth c H locs k.1 k.2 Q (F0 m pc lsm ((v.map (am_mv L)).toList)))
    (hn : ∀ ls st h n k, nx ls st h n k → am_At p l e R s m args below meth c Q mr L D B (pc + len) ls st h n k) (hB : ∀ b ls st h n k t, am_pc mr b = some t → BT b ls st h n k → am_At p l e R s m args below meth c Q mr L D B t ls st h n k) :
    am_sem CT am_dfs BT mr.2.2.2.2.1 mr.2.2.2.2.2.1 K (.lcmp, v, a) nx ls st h n k → am_At p l e R s m args below meth c Q mr L D B pc ls st h n k := by
  intro q d0 H locs lsm hd0 hl hH hS hk1 hk2
  obtain ⟨hx, hb, hml, hown, hE, hnm, hRf, hRl, hRc, hRs⟩ := hC
  have hL := hE.1
  have hts : ∀ d0 : Drawn, ∀ w ∈ am_tbl, am_keep w = true → w.before args (s.setDrawn d0) = true := fun d0 w hw hk => (Cond.before_setDrawn args s d0 w).trans (hE.2.1 w hw hk args)
  have hlen : len = 1 := by simpa [am_okI] using hok
  subst hlen
  revert q; dsimp only [am_sem]; split
  · intro q
    exact W.lcmp hx hb hdec (hn _ _ _ _ _ q d0 H locs lsm hd0 hl hH hS hk1 hk2)
  · exact False.elim
set_option maxHeartbeats 4000000 in
theorem am_ss_idiv {CT : am_CT} {BT : Nat → am_N} {K : am_K} {v : Value} {a : List Nat} {nx : am_N} {ls st : List Value} {h : am_H} {n : Nat} {k : am_C} (hC : am_Cx p R s m meth c mr L D B d) (hok : am_okI mr pc len (.idiv, v, a) = true) (hdec : decode mr.2.1 pc = .ok (.idiv, len))
    (hCT : am_Sound l d CT)
    (hend : ∀ (pc : Nat) (v : Option Value) (h : am_H) (n : Nat) (k : am_C) (d0 : Drawn) (H : Heap) (locs : List Loc) (lsm : Array Slot), am_rets mr.2.2.2.2.2.1 v → K v h n → s.drawn.sameBut d0 lw_cs → am_HR s L D B h n H → va_S (fun q => B ≤ q) s.heap H locs → k.1 ≤ mr.2.2.2.2.1.1 → k.2 ≤ mr.2.2.2.2.1.2 → decode mr.2.1 pc = .ok (am_retI mr.2.2.2.2.2.1, 1) → W p l e R (s.setDrawn d0) m args below meth c H locs k.1 k.2 Q (F0 m pc lsm ((v.map (am_mv L)).toList)))
    (hn : ∀ ls st h n k, nx ls st h n k → am_At p l e R s m args below meth c Q mr L D B (pc + len) ls st h n k) (hB : ∀ b ls st h n k t, am_pc mr b = some t → BT b ls st h n k → am_At p l e R s m args below meth c Q mr L D B t ls st h n k) :
    am_sem CT am_dfs BT mr.2.2.2.2.1 mr.2.2.2.2.2.1 K (.idiv, v, a) nx ls st h n k → am_At p l e R s m args below meth c Q mr L D B pc ls st h n k := by
  intro q d0 H locs lsm hd0 hl hH hS hk1 hk2
  obtain ⟨hx, hb, hml, hown, hE, hnm, hRf, hRl, hRc, hRs⟩ := hC
  have hL := hE.1
  have hts : ∀ d0 : Drawn, ∀ w ∈ am_tbl, am_keep w = true → w.before args (s.setDrawn d0) = true := fun d0 w hw hk => (Cond.before_setDrawn args s d0 w).trans (hE.2.1 w hw hk args)
  have hlen : len = 1 := by simpa [am_okI] using hok
  subst hlen
  revert q; dsimp only [am_sem]; split
  · intro q
    exact lv_idiv hx hb hdec q.1 (hn _ _ _ _ _ q.2 d0 H locs lsm hd0 hl hH hS hk1 hk2)
  · exact False.elim
set_option maxHeartbeats 4000000 in
theorem am_ss_irem {CT : am_CT} {BT : Nat → am_N} {K : am_K} {v : Value} {a : List Nat} {nx : am_N} {ls st : List Value} {h : am_H} {n : Nat} {k : am_C} (hC : am_Cx p R s m meth c mr L D B d) (hok : am_okI mr pc len (.irem, v, a) = true) (hdec : decode mr.2.1 pc = .ok (.irem, len))
    (hCT : am_Sound l d CT)
    (hend : ∀ (pc : Nat) (v : Option Value) (h : am_H) (n : Nat) (k : am_C) (d0 : Drawn) (H : Heap) (locs : List Loc) (lsm : Array Slot), am_rets mr.2.2.2.2.2.1 v → K v h n → s.drawn.sameBut d0 lw_cs → am_HR s L D B h n H → va_S (fun q => B ≤ q) s.heap H locs → k.1 ≤ mr.2.2.2.2.1.1 → k.2 ≤ mr.2.2.2.2.1.2 → decode mr.2.1 pc = .ok (am_retI mr.2.2.2.2.2.1, 1) → W p l e R (s.setDrawn d0) m args below meth c H locs k.1 k.2 Q (F0 m pc lsm ((v.map (am_mv L)).toList)))
    (hn : ∀ ls st h n k, nx ls st h n k → am_At p l e R s m args below meth c Q mr L D B (pc + len) ls st h n k) (hB : ∀ b ls st h n k t, am_pc mr b = some t → BT b ls st h n k → am_At p l e R s m args below meth c Q mr L D B t ls st h n k) :
    am_sem CT am_dfs BT mr.2.2.2.2.1 mr.2.2.2.2.2.1 K (.irem, v, a) nx ls st h n k → am_At p l e R s m args below meth c Q mr L D B pc ls st h n k := by
  intro q d0 H locs lsm hd0 hl hH hS hk1 hk2
  obtain ⟨hx, hb, hml, hown, hE, hnm, hRf, hRl, hRc, hRs⟩ := hC
  have hL := hE.1
  have hts : ∀ d0 : Drawn, ∀ w ∈ am_tbl, am_keep w = true → w.before args (s.setDrawn d0) = true := fun d0 w hw hk => (Cond.before_setDrawn args s d0 w).trans (hE.2.1 w hw hk args)
  have hlen : len = 1 := by simpa [am_okI] using hok
  subst hlen
  revert q; dsimp only [am_sem]; split
  · intro q
    exact lv_irem hx hb hdec q.1 (hn _ _ _ _ _ q.2 d0 H locs lsm hd0 hl hH hS hk1 hk2)
  · exact False.elim
set_option maxHeartbeats 4000000 in
theorem am_ss_ldiv {CT : am_CT} {BT : Nat → am_N} {K : am_K} {v : Value} {a : List Nat} {nx : am_N} {ls st : List Value} {h : am_H} {n : Nat} {k : am_C} (hC : am_Cx p R s m meth c mr L D B d) (hok : am_okI mr pc len (.ldiv, v, a) = true) (hdec : decode mr.2.1 pc = .ok (.ldiv, len))
    (hCT : am_Sound l d CT)
    (hend : ∀ (pc : Nat) (v : Option Value) (h : am_H) (n : Nat) (k : am_C) (d0 : Drawn) (H : Heap) (locs : List Loc) (lsm : Array Slot), am_rets mr.2.2.2.2.2.1 v → K v h n → s.drawn.sameBut d0 lw_cs → am_HR s L D B h n H → va_S (fun q => B ≤ q) s.heap H locs → k.1 ≤ mr.2.2.2.2.1.1 → k.2 ≤ mr.2.2.2.2.1.2 → decode mr.2.1 pc = .ok (am_retI mr.2.2.2.2.2.1, 1) → W p l e R (s.setDrawn d0) m args below meth c H locs k.1 k.2 Q (F0 m pc lsm ((v.map (am_mv L)).toList)))
    (hn : ∀ ls st h n k, nx ls st h n k → am_At p l e R s m args below meth c Q mr L D B (pc + len) ls st h n k) (hB : ∀ b ls st h n k t, am_pc mr b = some t → BT b ls st h n k → am_At p l e R s m args below meth c Q mr L D B t ls st h n k) :
    am_sem CT am_dfs BT mr.2.2.2.2.1 mr.2.2.2.2.2.1 K (.ldiv, v, a) nx ls st h n k → am_At p l e R s m args below meth c Q mr L D B pc ls st h n k := by
  intro q d0 H locs lsm hd0 hl hH hS hk1 hk2
  obtain ⟨hx, hb, hml, hown, hE, hnm, hRf, hRl, hRc, hRs⟩ := hC
  have hL := hE.1
  have hts : ∀ d0 : Drawn, ∀ w ∈ am_tbl, am_keep w = true → w.before args (s.setDrawn d0) = true := fun d0 w hw hk => (Cond.before_setDrawn args s d0 w).trans (hE.2.1 w hw hk args)
  have hlen : len = 1 := by simpa [am_okI] using hok
  subst hlen
  revert q; dsimp only [am_sem]; split
  · intro q
    exact lv_ldiv hx hb hdec q.1 (hn _ _ _ _ _ q.2 d0 H locs lsm hd0 hl hH hS hk1 hk2)
  · exact False.elim
set_option maxHeartbeats 4000000 in
theorem am_ss_lrem {CT : am_CT} {BT : Nat → am_N} {K : am_K} {v : Value} {a : List Nat} {nx : am_N} {ls st : List Value} {h : am_H} {n : Nat} {k : am_C} (hC : am_Cx p R s m meth c mr L D B d) (hok : am_okI mr pc len (.lrem, v, a) = true) (hdec : decode mr.2.1 pc = .ok (.lrem, len))
    (hCT : am_Sound l d CT)
    (hend : ∀ (pc : Nat) (v : Option Value) (h : am_H) (n : Nat) (k : am_C) (d0 : Drawn) (H : Heap) (locs : List Loc) (lsm : Array Slot), am_rets mr.2.2.2.2.2.1 v → K v h n → s.drawn.sameBut d0 lw_cs → am_HR s L D B h n H → va_S (fun q => B ≤ q) s.heap H locs → k.1 ≤ mr.2.2.2.2.1.1 → k.2 ≤ mr.2.2.2.2.1.2 → decode mr.2.1 pc = .ok (am_retI mr.2.2.2.2.2.1, 1) → W p l e R (s.setDrawn d0) m args below meth c H locs k.1 k.2 Q (F0 m pc lsm ((v.map (am_mv L)).toList)))
    (hn : ∀ ls st h n k, nx ls st h n k → am_At p l e R s m args below meth c Q mr L D B (pc + len) ls st h n k) (hB : ∀ b ls st h n k t, am_pc mr b = some t → BT b ls st h n k → am_At p l e R s m args below meth c Q mr L D B t ls st h n k) :
    am_sem CT am_dfs BT mr.2.2.2.2.1 mr.2.2.2.2.2.1 K (.lrem, v, a) nx ls st h n k → am_At p l e R s m args below meth c Q mr L D B pc ls st h n k := by
  intro q d0 H locs lsm hd0 hl hH hS hk1 hk2
  obtain ⟨hx, hb, hml, hown, hE, hnm, hRf, hRl, hRc, hRs⟩ := hC
  have hL := hE.1
  have hts : ∀ d0 : Drawn, ∀ w ∈ am_tbl, am_keep w = true → w.before args (s.setDrawn d0) = true := fun d0 w hw hk => (Cond.before_setDrawn args s d0 w).trans (hE.2.1 w hw hk args)
  have hlen : len = 1 := by simpa [am_okI] using hok
  subst hlen
  revert q; dsimp only [am_sem]; split
  · intro q
    exact lv_lrem hx hb hdec q.1 (hn _ _ _ _ _ q.2 d0 H locs lsm hd0 hl hH hS hk1 hk2)
  · exact False.elim
set_option maxHeartbeats 4000000 in
theorem am_ss_f2d {CT : am_CT} {BT : Nat → am_N} {K : am_K} {v : Value} {a : List Nat} {nx : am_N} {ls st : List Value} {h : am_H} {n : Nat} {k : am_C} (hC : am_Cx p R s m meth c mr L D B d) (hok : am_okI mr pc len (.f2d, v, a) = true) (hdec : decode mr.2.1 pc = .ok (.f2d, len))
    (hCT : am_Sound l d CT)
    (hend : ∀ (pc : Nat) (v : Option Value) (h : am_H) (n : Nat) (k : am_C) (d0 : Drawn) (H : Heap) (locs : List Loc) (lsm : Array Slot), am_rets mr.2.2.2.2.2.1 v → K v h n → s.drawn.sameBut d0 lw_cs → am_HR s L D B h n H → va_S (fun q => B ≤ q) s.heap H locs → k.1 ≤ mr.2.2.2.2.1.1 → k.2 ≤ mr.2.2.2.2.1.2 → decode mr.2.1 pc = .ok (am_retI mr.2.2.2.2.2.1, 1) → W p l e R (s.setDrawn d0) m args below meth c H locs k.1 k.2 Q (F0 m pc lsm ((v.map (am_mv L)).toList)))
    (hn : ∀ ls st h n k, nx ls st h n k → am_At p l e R s m args below meth c Q mr L D B (pc + len) ls st h n k) (hB : ∀ b ls st h n k t, am_pc mr b = some t → BT b ls st h n k → am_At p l e R s m args below meth c Q mr L D B t ls st h n k) :
    am_sem CT am_dfs BT mr.2.2.2.2.1 mr.2.2.2.2.2.1 K (.f2d, v, a) nx ls st h n k → am_At p l e R s m args below meth c Q mr L D B pc ls st h n k := by
  intro q d0 H locs lsm hd0 hl hH hS hk1 hk2
  obtain ⟨hx, hb, hml, hown, hE, hnm, hRf, hRl, hRc, hRs⟩ := hC
  have hL := hE.1
  have hts : ∀ d0 : Drawn, ∀ w ∈ am_tbl, am_keep w = true → w.before args (s.setDrawn d0) = true := fun d0 w hw hk => (Cond.before_setDrawn args s d0 w).trans (hE.2.1 w hw hk args)
  have hlen : len = 1 := by simpa [am_okI] using hok
  subst hlen
  revert q; dsimp only [am_sem]; split
  · intro q
    exact lv_f2d_any hd0 lw_bits hx hb hdec (fun r d1 hal hd1 => hn _ _ _ _ _ (q r hal) d1 H locs lsm hd1 hl hH hS hk1 hk2)
  · exact False.elim
set_option maxHeartbeats 4000000 in
theorem am_ss_d2f {CT : am_CT} {BT : Nat → am_N} {K : am_K} {v : Value} {a : List Nat} {nx : am_N} {ls st : List Value} {h : am_H} {n : Nat} {k : am_C} (hC : am_Cx p R s m meth c mr L D B d) (hok : am_okI mr pc len (.d2f, v, a) = true) (hdec : decode mr.2.1 pc = .ok (.d2f, len))
    (hCT : am_Sound l d CT)
    (hend : ∀ (pc : Nat) (v : Option Value) (h : am_H) (n : Nat) (k : am_C) (d0 : Drawn) (H : Heap) (locs : List Loc) (lsm : Array Slot), am_rets mr.2.2.2.2.2.1 v → K v h n → s.drawn.sameBut d0 lw_cs → am_HR s L D B h n H → va_S (fun q => B ≤ q) s.heap H locs → k.1 ≤ mr.2.2.2.2.1.1 → k.2 ≤ mr.2.2.2.2.1.2 → decode mr.2.1 pc = .ok (am_retI mr.2.2.2.2.2.1, 1) → W p l e R (s.setDrawn d0) m args below meth c H locs k.1 k.2 Q (F0 m pc lsm ((v.map (am_mv L)).toList)))
    (hn : ∀ ls st h n k, nx ls st h n k → am_At p l e R s m args below meth c Q mr L D B (pc + len) ls st h n k) (hB : ∀ b ls st h n k t, am_pc mr b = some t → BT b ls st h n k → am_At p l e R s m args below meth c Q mr L D B t ls st h n k) :
    am_sem CT am_dfs BT mr.2.2.2.2.1 mr.2.2.2.2.2.1 K (.d2f, v, a) nx ls st h n k → am_At p l e R s m args below meth c Q mr L D B pc ls st h n k := by
  intro q d0 H locs lsm hd0 hl hH hS hk1 hk2
  obtain ⟨hx, hb, hml, hown, hE, hnm, hRf, hRl, hRc, hRs⟩ := hC
  have hL := hE.1
  have hts : ∀ d0 : Drawn, ∀ w ∈ am_tbl, am_keep w = true → w.before args (s.setDrawn d0) = true := fun d0 w hw hk => (Cond.before_setDrawn args s d0 w).trans (hE.2.1 w hw hk args)
  have hlen : len = 1 := by simpa [am_okI] using hok
  subst hlen
  revert q; dsimp only [am_sem]; split
  · intro q
    exact lv_d2f_any hd0 lw_bits hx hb hdec (fun r d1 hal hd1 => hn _ _ _ _ _ (q r hal) d1 H locs lsm hd1 hl hH hS hk1 hk2)
  · exact False.elim
set_option maxHeartbeats 4000000 in
theorem am_ss_dadd {CT : am_CT} {BT : Nat → am_N} {K : am_K} {v : Value} {a : List Nat} {nx : am_N} {ls st : List Value} {h : am_H} {n : Nat} {k : am_C} (hC : am_Cx p R s m meth c mr L D B d) (hok : am_okI mr pc len (.dadd, v, a) = true) (hdec : decode mr.2.1 pc = .ok (.dadd, len))
    (hCT : am_Sound l d CT)
    (hend : ∀ (pc : Nat) (v : Option Value) (h : am_H) (n : Nat) (k : am_C) (d0 : Drawn) (H : Heap) (locs : List Loc) (lsm : Array Slot), am_rets mr.2.2.2.2.2.1 v → K v h n → s.drawn.sameBut d0 lw_cs → am_HR s L D B h n H → va_S (fun q => B ≤ q) s.heap H locs → k.1 ≤ mr.2.2.2.2.1.1 → k.2 ≤ mr.2.2.2.2.1.2 → decode mr.2.1 pc = .ok (am_retI mr.2.2.2.2.2.1, 1) → W p l e R (s.setDrawn d0) m args below meth c H locs k.1 k.2 Q (F0 m pc lsm ((v.map (am_mv L)).toList)))
    (hn : ∀ ls st h n k, nx ls st h n k → am_At p l e R s m args below meth c Q mr L D B (pc + len) ls st h n k) (hB : ∀ b ls st h n k t, am_pc mr b = some t → BT b ls st h n k → am_At p l e R s m args below meth c Q mr L D B t ls st h n k) :
    am_sem CT am_dfs BT mr.2.2.2.2.1 mr.2.2.2.2.2.1 K (.dadd, v, a) nx ls st h n k → am_At p l e R s m args below meth c Q mr L D B pc ls st h n k := by
  intro q d0 H locs lsm hd0 hl hH hS hk1 hk2
  obtain ⟨hx, hb, hml, hown, hE, hnm, hRf, hRl, hRc, hRs⟩ := hC
  have hL := hE.1
  have hts : ∀ d0 : Drawn, ∀ w ∈ am_tbl, am_keep w = true → w.before args (s.setDrawn d0) = true := fun d0 w hw hk => (Cond.before_setDrawn args s d0 w).trans (hE.2.1 w hw hk args)
  have hlen : len = 1 := by simpa [am_okI] using hok
  subst hlen
  revert q; dsimp only [am_sem]; split
  · intro q
    exact lv_dadd_any hd0 lw_bits hx hb hdec (fun r d1 hal hd1 => hn _ _ _ _ _ (q r hal) d1 H locs lsm hd1 hl hH hS hk1 hk2)
  · exact False.elim
set_option maxHeartbeats 4000000 in
theorem am_ss_dsub {CT : am_CT} {BT : Nat → am_N} {K : am_K} {v : Value} {a : List Nat} {nx : am_N} {ls st : List Value} {h : am_H} {n : Nat} {k : am_C} (hC : am_Cx p R s m meth c mr L D B d) (hok : am_okI mr pc len (.dsub, v, a) = true) (hdec : decode mr.2.1 pc = .ok (.dsub, len))
    (hCT : am_Sound l d CT)
    (hend : ∀ (pc : Nat) (v : Option Value) (h : am_H) (n : Nat) (k : am_C) (d0 : Drawn) (H : Heap) (locs : List Loc) (lsm : Array Slot), am_rets mr.2.2.2.2.2.1 v → K v h n → s.drawn.sameBut d0 lw_cs → am_HR s L D B h n H → va_S (fun q => B ≤ q) s.heap H locs → k.1 ≤ mr.2.2.2.2.1.1 → k.2 ≤ mr.2.2.2.2.1.2 → decode mr.2.1 pc = .ok (am_retI mr.2.2.2.2.2.1, 1) → W p l e R (s.setDrawn d0) m args below meth c H locs k.1 k.2 Q (F0 m pc lsm ((v.map (am_mv L)).toList)))
    (hn : ∀ ls st h n k, nx ls st h n k → am_At p l e R s m args below meth c Q mr L D B (pc + len) ls st h n k) (hB : ∀ b ls st h n k t, am_pc mr b = some t → BT b ls st h n k → am_At p l e R s m args below meth c Q mr L D B t ls st h n k) :
    am_sem CT am_dfs BT mr.2.2.2.2.1 mr.2.2.2.2.2.1 K (.dsub, v, a) nx ls st h n k → am_At p l e R s m args below meth c Q mr L D B pc ls st h n k := by
  intro q d0 H locs lsm hd0 hl hH hS hk1 hk2
  obtain ⟨hx, hb, hml, hown, hE, hnm, hRf, hRl, hRc, hRs⟩ := hC
  have hL := hE.1
  have hts : ∀ d0 : Drawn, ∀ w ∈ am_tbl, am_keep w = true → w.before args (s.setDrawn d0) = true := fun d0 w hw hk => (Cond.before_setDrawn args s d0 w).trans (hE.2.1 w hw hk args)
  have hlen : len = 1 := by simpa [am_okI] using hok
  subst hlen
  revert q; dsimp only [am_sem]; split
  · intro q
    exact lv_dsub_any hd0 lw_bits hx hb hdec (fun r d1 hal hd1 => hn _ _ _ _ _ (q r hal) d1 H locs lsm hd1 hl hH hS hk1 hk2)
  · exact False.elim
set_option maxHeartbeats 4000000 in
theorem am_ss_dmul {CT : am_CT} {BT : Nat → am_N} {K : am_K} {v : Value} {a : List Nat} {nx : am_N} {ls st : List Value} {h : am_H} {n : Nat} {k : am_C} (hC : am_Cx p R s m meth c mr L D B d) (hok : am_okI mr pc len (.dmul, v, a) = true) (hdec : decode mr.2.1 pc = .ok (.dmul, len))
    (hCT : am_Sound l d CT)
    (hend : ∀ (pc : Nat) (v : Option Value) (h : am_H) (n : Nat) (k : am_C) (d0 : Drawn) (H : Heap) (locs : List Loc) (lsm : Array Slot), am_rets mr.2.2.2.2.2.1 v → K v h n → s.drawn.sameBut d0 lw_cs → am_HR s L D B h n H → va_S (fun q => B ≤ q) s.heap H locs → k.1 ≤ mr.2.2.2.2.1.1 → k.2 ≤ mr.2.2.2.2.1.2 → decode mr.2.1 pc = .ok (am_retI mr.2.2.2.2.2.1, 1) → W p l e R (s.setDrawn d0) m args below meth c H locs k.1 k.2 Q (F0 m pc lsm ((v.map (am_mv L)).toList)))
    (hn : ∀ ls st h n k, nx ls st h n k → am_At p l e R s m args below meth c Q mr L D B (pc + len) ls st h n k) (hB : ∀ b ls st h n k t, am_pc mr b = some t → BT b ls st h n k → am_At p l e R s m args below meth c Q mr L D B t ls st h n k) :
    am_sem CT am_dfs BT mr.2.2.2.2.1 mr.2.2.2.2.2.1 K (.dmul, v, a) nx ls st h n k → am_At p l e R s m args below meth c Q mr L D B pc ls st h n k := by
  intro q d0 H locs lsm hd0 hl hH hS hk1 hk2
  obtain ⟨hx, hb, hml, hown, hE, hnm, hRf, hRl, hRc, hRs⟩ := hC
  have hL := hE.1
  have hts : ∀ d0 : Drawn, ∀ w ∈ am_tbl, am_keep w = true → w.before args (s.setDrawn d0) = true := fun d0 w hw hk => (Cond.before_setDrawn args s d0 w).trans (hE.2.1 w hw hk args)
  have hlen : len = 1 := by simpa [am_okI] using hok
  subst hlen
  revert q; dsimp only [am_sem]; split
  · intro q
    exact lv_dmul_any hd0 lw_bits hx hb hdec (fun r d1 hal hd1 => hn _ _ _ _ _ (q r hal) d1 H locs lsm hd1 hl hH hS hk1 hk2)
  · exact False.elim
set_option maxHeartbeats 4000000 in
theorem am_ss_ddiv {CT : am_CT} {BT : Nat → am_N} {K : am_K} {v : Value} {a : List Nat} {nx : am_N} {ls st : List Value} {h : am_H} {n : Nat} {k : am_C} (hC : am_Cx p R s m meth c mr L D B d) (hok : am_okI mr pc len (.ddiv, v, a) = true) (hdec : decode mr.2.1 pc = .ok (.ddiv, len))
    (hCT : am_Sound l d CT)
    (hend : ∀ (pc : Nat) (v : Option Value) (h : am_H) (n : Nat) (k : am_C) (d0 : Drawn) (H : Heap) (locs : List Loc) (lsm : Array Slot), am_rets mr.2.2.2.2.2.1 v → K v h n → s.drawn.sameBut d0 lw_cs → am_HR s L D B h n H → va_S (fun q => B ≤ q) s.heap H locs → k.1 ≤ mr.2.2.2.2.1.1 → k.2 ≤ mr.2.2.2.2.1.2 → decode mr.2.1 pc = .ok (am_retI mr.2.2.2.2.2.1, 1) → W p l e R (s.setDrawn d0) m args below meth c H locs k.1 k.2 Q (F0 m pc lsm ((v.map (am_mv L)).toList)))
    (hn : ∀ ls st h n k, nx ls st h n k → am_At p l e R s m args below meth c Q mr L D B (pc + len) ls st h n k) (hB : ∀ b ls st h n k t, am_pc mr b = some t → BT b ls st h n k → am_At p l e R s m args below meth c Q mr L D B t ls st h n k) :
    am_sem CT am_dfs BT mr.2.2.2.2.1 mr.2.2.2.2.2.1 K (.ddiv, v, a) nx ls st h n k → am_At p l e R s m args below meth c Q mr L D B pc ls st h n k := by
  intro q d0 H locs lsm hd0 hl hH hS hk1 hk2
  obtain ⟨hx, hb, hml, hown, hE, hnm, hRf, hRl, hRc, hRs⟩ := hC
  have hL := hE.1
  have hts : ∀ d0 : Drawn, ∀ w ∈ am_tbl, am_keep w = true → w.before args (s.setDrawn d0) = true := fun d0 w hw hk => (Cond.before_setDrawn args s d0 w).trans (hE.2.1 w hw hk args)
  have hlen : len = 1 := by simpa [am_okI] using hok
  subst hlen
  revert q; dsimp only [am_sem]; split
  · intro q
    exact lv_ddiv_any hd0 lw_bits hx hb hdec (fun r d1 hal hd1 => hn _ _ _ _ _ (q r hal) d1 H locs lsm hd1 hl hH hS hk1 hk2)
  · exact False.elim
set_option maxHeartbeats 4000000 in
theorem am_ss_dcmp {CT : am_CT} {BT : Nat → am_N} {K : am_K} {z} {v : Value} {a : List Nat} {nx : am_N} {ls st : List Value} {h : am_H} {n : Nat} {k : am_C} (hC : am_Cx p R s m meth c mr L D B d) (hok : am_okI mr pc len (.dcmp z, v, a) = true) (hdec : decode mr.2.1 pc = .ok (.dcmp z, len))
    (hCT : am_Sound l d CT)
    (hend : ∀ (pc : Nat) (v : Option Value) (h : am_H) (n : Nat) (k : am_C) (d0 : Drawn) (H : Heap) (locs : List Loc) (lsm : Array Slot), am_rets mr.2.2.2.2.2.1 v → K v h n → s.drawn.sameBut d0 lw_cs → am_HR s L D B h n H → va_S (fun q => B ≤ q) s.heap H locs → k.1 ≤ mr.2.2.2.2.1.1 → k.2 ≤ mr.2.2.2.2.1.2 → decode mr.2.1 pc = .ok (am_retI mr.2.2.2.2.2.1, 1) → W p l e R (s.setDrawn d0) m args below meth c H locs k.1 k.2 Q (F0 m pc lsm ((v.map (am_mv L)).toList)))
    (hn : ∀ ls st h n k, nx ls st h n k → am_At p l e R s m args below meth c Q mr L D B (pc + len) ls st h n k) (hB : ∀ b ls st h n k t, am_pc mr b = some t → BT b ls st h n k → am_At p l e R s m args below meth c Q mr L D B t ls st h n k) :
    am_sem CT am_dfs BT mr.2.2.2.2.1 mr.2.2.2.2.2.1 K (.dcmp z, v, a) nx ls st h n k → am_At p l e R s m args below meth c Q mr L D B pc ls st h n k := by
  intro q d0 H locs lsm hd0 hl hH hS hk1 hk2
  obtain ⟨hx, hb, hml, hown, hE, hnm, hRf, hRl, hRc, hRs⟩ := hC
  have hL := hE.1
  have hts : ∀ d0 : Drawn, ∀ w ∈ am_tbl, am_keep w = true → w.before args (s.setDrawn d0) = true := fun d0 w hw hk => (Cond.before_setDrawn args s d0 w).trans (hE.2.1 w hw hk args)
  have hlen : len = 1 := by simpa [am_okI] using hok
  subst hlen
  revert q; dsimp only [am_sem]; split
  · intro q
    exact lv_dcmp hx hb hdec (hn _ _ _ _ _ q d0 H locs lsm hd0 hl hH hS hk1 hk2)
  · exact False.elim
set_option maxHeartbeats 4000000 in
theorem am_ss_fcmp {CT : am_CT} {BT : Nat → am_N} {K : am_K} {z} {v : Value} {a : List Nat} {nx : am_N} {ls st : List Value} {h : am_H} {n : Nat} {k : am_C} (hC : am_Cx p R s m meth c mr L D B d) (hok : am_okI mr pc len (.fcmp z, v, a) = true) (hdec : decode mr.2.1 pc = .ok (.fcmp z, len))
    (hCT : am_Sound l d CT)
    (hend : ∀ (pc : Nat) (v : Option Value) (h : am_H) (n : Nat) (k : am_C) (d0 : Drawn) (H : Heap) (locs : List Loc) (lsm : Array Slot), am_rets mr.2.2.2.2.2.1 v → K v h n → s.drawn.sameBut d0 lw_cs → am_HR s L D B h n H → va_S (fun q => B ≤ q) s.heap H locs → k.1 ≤ mr.2.2.2.2.1.1 → k.2 ≤ mr.2.2.2.2.1.2 → decode mr.2.1 pc = .ok (am_retI mr.2.2.2.2.2.1, 1) → W p l e R (s.setDrawn d0) m args below meth c H locs k.1 k.2 Q (F0 m pc lsm ((v.map (am_mv L)).toList)))
    (hn : ∀ ls st h n k, nx ls st h n k → am_At p l e R s m args below meth c Q mr L D B (pc + len) ls st h n k) (hB : ∀ b ls st h n k t, am_pc mr b = some t → BT b ls st h n k → am_At p l e R s m args below meth c Q mr L D B t ls st h n k) :
    am_sem CT am_dfs BT mr.2.2.2.2.1 mr.2.2.2.2.2.1 K (.fcmp z, v, a) nx ls st h n k → am_At p l e R s m args below meth c Q mr L D B pc ls st h n k := by
  intro q d0 H locs lsm hd0 hl hH hS hk1 hk2
  obtain ⟨hx, hb, hml, hown, hE, hnm, hRf, hRl, hRc, hRs⟩ := hC
  have hL := hE.1
  have hts : ∀ d0 : Drawn, ∀ w ∈ am_tbl, am_keep w = true → w.before args (s.setDrawn d0) = true := fun d0 w hw hk => (Cond.before_setDrawn args s d0 w).trans (hE.2.1 w hw hk args)
  have hlen : len = 1 := by simpa [am_okI] using hok
  subst hlen
  revert q; dsimp only [am_sem]; split
  · intro q
    exact lv_fcmp hx hb hdec (hn _ _ _ _ _ q d0 H locs lsm hd0 hl hH hS hk1 hk2)
  · exact False.elim
set_option maxHeartbeats 4000000 in
theorem am_ss_goto {CT : am_CT} {BT : Nat → am_N} {K : am_K} {z} {v : Value} {a : List Nat} {nx : am_N} {ls st : List Value} {h : am_H} {n : Nat} {k : am_C} (hC : am_Cx p R s m meth c mr L D B d) (hok : am_okI mr pc len (.goto z, v, a) = true) (hdec : decode mr.2.1 pc = .ok (.goto z, len))
    (hCT : am_Sound l d CT)
    (hend : ∀ (pc : Nat) (v : Option Value) (h : am_H) (n : Nat) (k : am_C) (d0 : Drawn) (H : Heap) (locs : List Loc) (lsm : Array Slot), am_rets mr.2.2.2.2.2.1 v → K v h n → s.drawn.sameBut d0 lw_cs → am_HR s L D B h n H → va_S (fun q => B ≤ q) s.heap H locs → k.1 ≤ mr.2.2.2.2.1.1 → k.2 ≤ mr.2.2.2.2.1.2 → decode mr.2.1 pc = .ok (am_retI mr.2.2.2.2.2.1, 1) → W p l e R (s.setDrawn d0) m args below meth c H locs k.1 k.2 Q (F0 m pc lsm ((v.map (am_mv L)).toList)))
    (hn : ∀ ls st h n k, nx ls st h n k → am_At p l e R s m args below meth c Q mr L D B (pc + len) ls st h n k) (hB : ∀ b ls st h n k t, am_pc mr b = some t → BT b ls st h n k → am_At p l e R s m args below meth c Q mr L D B t ls st h n k) :
    am_sem CT am_dfs BT mr.2.2.2.2.1 mr.2.2.2.2.2.1 K (.goto z, v, a) nx ls st h n k → am_At p l e R s m args below meth c Q mr L D B pc ls st h n k := by
  intro q d0 H locs lsm hd0 hl hH hS hk1 hk2
  obtain ⟨hx, hb, hml, hown, hE, hnm, hRf, hRl, hRc, hRs⟩ := hC
  have hL := hE.1
  have hts : ∀ d0 : Drawn, ∀ w ∈ am_tbl, am_keep w = true → w.before args (s.setDrawn d0) = true := fun d0 w hw hk => (Cond.before_setDrawn args s d0 w).trans (hE.2.1 w hw hk args)
  simp only [am_okI, Bool.and_eq_true, beq_iff_eq] at hok
  obtain ⟨hlen, h1⟩ := hok
  subst hlen
  obtain ⟨t, t1, t2⟩ := am_to_out h1
  exact lv_goto hx hb hdec t2 (hB _ _ _ _ _ _ t t1 q d0 H locs lsm hd0 hl hH hS hk1 hk2)
set_option maxHeartbeats 4000000 in
theorem am_ss_ifnonnull {CT : am_CT} {BT : Nat → am_N} {K : am_K} {z} {v : Value} {a : List Nat} {nx : am_N} {ls st : List Value} {h : am_H} {n : Nat} {k : am_C} (hC : am_Cx p R s m meth c mr L D B d) (hok : am_okI mr pc len (.ifnonnull z, v, a) = true) (hdec : decode mr.2.1 pc = .ok (.ifnonnull z, len))
    (hCT : am_Sound l d CT)
    (hend : ∀ (pc : Nat) (v : Option Value) (h : am_H) (n : Nat) (k : am_C) (d0 : Drawn) (H : Heap) (locs : List Loc) (lsm : Array Slot), am_rets mr.2.2.2.2.2.1 v → K v h n → s.drawn.sameBut d0 lw_cs → am_HR s L D B h n H → va_S (fun q => B ≤ q) s.heap H locs → k.1 ≤ mr.2.2.2.2.1.1 → k.2 ≤ mr.2.2.2.2.1.2 → decode mr.2.1 pc = .ok (am_retI mr.2.2.2.2.2.1, 1) → W p l e R (s.setDrawn d0) m args below meth c H locs k.1 k.2 Q (F0 m pc lsm ((v.map (am_mv L)).toList)))
    (hn : ∀ ls st h n k, nx ls st h n k → am_At p l e R s m args below meth c Q mr L D B (pc + len) ls st h n k) (hB : ∀ b ls st h n k t, am_pc mr b = some t → BT b ls st h n k → am_At p l e R s m args below meth c Q mr L D B t ls st h n k) :
    am_sem CT am_dfs BT mr.2.2.2.2.1 mr.2.2.2.2.2.1 K (.ifnonnull z, v, a) nx ls st h n k → am_At p l e R s m args below meth c Q mr L D B pc ls st h n k := by
  intro q d0 H locs lsm hd0 hl hH hS hk1 hk2
  obtain ⟨hx, hb, hml, hown, hE, hnm, hRf, hRl, hRc, hRs⟩ := hC
  have hL := hE.1
  have hts : ∀ d0 : Drawn, ∀ w ∈ am_tbl, am_keep w = true → w.before args (s.setDrawn d0) = true := fun d0 w hw hk => (Cond.before_setDrawn args s d0 w).trans (hE.2.1 w hw hk args)
  simp only [am_okI, Bool.and_eq_true, beq_iff_eq] at hok
  obtain ⟨hlen, h1⟩ := hok
  subst hlen
  revert q; dsimp only [am_sem]; split
  · intro q
    obtain ⟨t, t1, t2⟩ := am_to_out h1
    rename_i x r
    obtain ⟨f, hf⟩ := Option.isSome_iff_exists.mp q.1
    obtain ⟨x', cell, hx', -⟩ := (hH.2.2 x f hf).2
    exact am_s_ifnn hx hb hdec t2 ⟨x', hx'⟩ (hB _ _ _ _ _ _ t t1 q.2 d0 H locs lsm hd0 hl hH hS hk1 hk2)
  · exact False.elim
set_option maxHeartbeats 4000000 in
theorem am_ss_ifCond {CT : am_CT} {BT : Nat → am_N} {K : am_K} {cc z} {v : Value} {a : List Nat} {nx : am_N} {ls st : List Value} {h : am_H} {n : Nat} {k : am_C} (hC : am_Cx p R s m meth c mr L D B d) (hok : am_okI mr pc len (.ifCond cc z, v, a) = true) (hdec : decode mr.2.1 pc = .ok (.ifCond cc z, len))
    (hCT : am_Sound l d CT)
    (hend : ∀ (pc : Nat) (v : Option Value) (h : am_H) (n : Nat) (k : am_C) (d0 : Drawn) (H : Heap) (locs : List Loc) (lsm : Array Slot), am_rets mr.2.2.2.2.2.1 v → K v h n → s.drawn.sameBut d0 lw_cs → am_HR s L D B h n H → va_S (fun q => B ≤ q) s.heap H locs → k.1 ≤ mr.2.2.2.2.1.1 → k.2 ≤ mr.2.2.2.2.1.2 → decode mr.2.1 pc = .ok (am_retI mr.2.2.2.2.2.1, 1) → W p l e R (s.setDrawn d0) m args below meth c H locs k.1 k.2 Q (F0 m pc lsm ((v.map (am_mv L)).toList)))
    (hn : ∀ ls st h n k, nx ls st h n k → am_At p l e R s m args below meth c Q mr L D B (pc + len) ls st h n k) (hB : ∀ b ls st h n k t, am_pc mr b = some t → BT b ls st h n k → am_At p l e R s m args below meth c Q mr L D B t ls st h n k) :
    am_sem CT am_dfs BT mr.2.2.2.2.1 mr.2.2.2.2.2.1 K (.ifCond cc z, v, a) nx ls st h n k → am_At p l e R s m args below meth c Q mr L D B pc ls st h n k := by
  intro q d0 H locs lsm hd0 hl hH hS hk1 hk2
  obtain ⟨hx, hb, hml, hown, hE, hnm, hRf, hRl, hRc, hRs⟩ := hC
  have hL := hE.1
  have hts : ∀ d0 : Drawn, ∀ w ∈ am_tbl, am_keep w = true → w.before args (s.setDrawn d0) = true := fun d0 w hw hk => (Cond.before_setDrawn args s d0 w).trans (hE.2.1 w hw hk args)
  simp only [am_okI, Bool.and_eq_true, beq_iff_eq] at hok
  obtain ⟨⟨hlen, h1⟩, h2⟩ := hok
  subst hlen
  obtain ⟨t, t1, t2⟩ := am_to_out h1
  obtain ⟨u, u1, u2⟩ := am_to_out h2
  have u2 : u = pc + 3 := by omega
  subst u2
  revert q; dsimp only [am_sem]; split
  · intro q
    cases cc
    · exact lv_if_eq hx hb hdec t2 (fun z => hB _ _ _ _ _ _ t t1 (q.1 z) d0 H locs lsm hd0 hl hH hS hk1 hk2) (fun z => hB _ _ _ _ _ _ _ u1 (q.2 z) d0 H locs lsm hd0 hl hH hS hk1 hk2)
    · exact lv_if_ne hx hb hdec t2 (fun z => hB _ _ _ _ _ _ t t1 (q.1 z) d0 H locs lsm hd0 hl hH hS hk1 hk2) (fun z => hB _ _ _ _ _ _ _ u1 (q.2 (fun g => g z)) d0 H locs lsm hd0 hl hH hS hk1 hk2)
    · exact lv_if_lt hx hb hdec t2 (fun z => hB _ _ _ _ _ _ t t1 (q.1 z) d0 H locs lsm hd0 hl hH hS hk1 hk2) (fun z => hB _ _ _ _ _ _ _ u1 (q.2 z) d0 H locs lsm hd0 hl hH hS hk1 hk2)
    · exact lv_if_ge hx hb hdec t2 (fun z => hB _ _ _ _ _ _ t t1 (q.1 z) d0 H locs lsm hd0 hl hH hS hk1 hk2) (fun z => hB _ _ _ _ _ _ _ u1 (q.2 z) d0 H locs lsm hd0 hl hH hS hk1 hk2)
    · exact lv_if_gt hx hb hdec t2 (fun z => hB _ _ _ _ _ _ t t1 (q.1 z) d0 H locs lsm hd0 hl hH hS hk1 hk2) (fun z => hB _ _ _ _ _ _ _ u1 (q.2 z) d0 H locs lsm hd0 hl hH hS hk1 hk2)
    · exact lv_if_le hx hb hdec t2 (fun z => hB _ _ _ _ _ _ t t1 (q.1 z) d0 H locs lsm hd0 hl hH hS hk1 hk2) (fun z => hB _ _ _ _ _ _ _ u1 (q.2 z) d0 H locs lsm hd0 hl hH hS hk1 hk2)
  · exact False.elim
set_option maxHeartbeats 4000000 in
theorem am_ss_if_icmp {CT : am_CT} {BT : Nat → am_N} {K : am_K} {cc z} {v : Value} {a : List Nat} {nx : am_N} {ls st : List Value} {h : am_H} {n : Nat} {k : am_C} (hC : am_Cx p R s m meth c mr L D B d) (hok : am_okI mr pc len (.if_icmp cc z, v, a) = true) (hdec : decode mr.2.1 pc = .ok (.if_icmp cc z, len))
    (hCT : am_Sound l d CT)
    (hend : ∀ (pc : Nat) (v : Option Value) (h : am_H) (n : Nat) (k : am_C) (d0 : Drawn) (H : Heap) (locs : List Loc) (lsm : Array Slot), am_rets mr.2.2.2.2.2.1 v → K v h n → s.drawn.sameBut d0 lw_cs → am_HR s L D B h n H → va_S (fun q => B ≤ q) s.heap H locs → k.1 ≤ mr.2.2.2.2.1.1 → k.2 ≤ mr.2.2.2.2.1.2 → decode mr.2.1 pc = .ok (am_retI mr.2.2.2.2.2.1, 1) → W p l e R (s.setDrawn d0) m args below meth c H locs k.1 k.2 Q (F0 m pc lsm ((v.map (am_mv L)).toList)))
    (hn : ∀ ls st h n k, nx ls st h n k → am_At p l e R s m args below meth c Q mr L D B (pc + len) ls st h n k) (hB : ∀ b ls st h n k t, am_pc mr b = some t → BT b ls st h n k → am_At p l e R s m args below meth c Q mr L D B t ls st h n k) :
    am_sem CT am_dfs BT mr.2.2.2.2.1 mr.2.2.2.2.2.1 K (.if_icmp cc z, v, a) nx ls st h n k → am_At p l e R s m args below meth c Q mr L D B pc ls st h n k := by
  intro q d0 H locs lsm hd0 hl hH hS hk1 hk2
  obtain ⟨hx, hb, hml, hown, hE, hnm, hRf, hRl, hRc, hRs⟩ := hC
  have hL := hE.1
  have hts : ∀ d0 : Drawn, ∀ w ∈ am_tbl, am_keep w = true → w.before args (s.setDrawn d0) = true := fun d0 w hw hk => (Cond.before_setDrawn args s d0 w).trans (hE.2.1 w hw hk args)
  simp only [am_okI, Bool.and_eq_true, beq_iff_eq] at hok
  obtain ⟨⟨hlen, h1⟩, h2⟩ := hok
  subst hlen
  obtain ⟨t, t1, t2⟩ := am_to_out h1
  obtain ⟨u, u1, u2⟩ := am_to_out h2
  have u2 : u = pc + 3 := by omega
  subst u2
  revert q; dsimp only [am_sem]; split
  · intro q
    cases cc
    · exact lv_icmp_eq hx hb hdec t2 (fun z => hB _ _ _ _ _ _ t t1 (q.1 z) d0 H locs lsm hd0 hl hH hS hk1 hk2) (fun z => hB _ _ _ _ _ _ _ u1 (q.2 z) d0 H locs lsm hd0 hl hH hS hk1 hk2)
    · exact lv_icmp_ne hx hb hdec t2 (fun z => hB _ _ _ _ _ _ t t1 (q.1 z) d0 H locs lsm hd0 hl hH hS hk1 hk2) (fun z => hB _ _ _ _ _ _ _ u1 (q.2 (fun g => g z)) d0 H locs lsm hd0 hl hH hS hk1 hk2)
    · exact lv_icmp_lt hx hb hdec t2 (fun z => hB _ _ _ _ _ _ t t1 (q.1 z) d0 H locs lsm hd0 hl hH hS hk1 hk2) (fun z => hB _ _ _ _ _ _ _ u1 (q.2 z) d0 H locs lsm hd0 hl hH hS hk1 hk2)
    · exact lv_icmp_ge hx hb hdec t2 (fun z => hB _ _ _ _ _ _ t t1 (q.1 z) d0 H locs lsm hd0 hl hH hS hk1 hk2) (fun z => hB _ _ _ _ _ _ _ u1 (q.2 z) d0 H locs lsm hd0 hl hH hS hk1 hk2)
    · exact lv_icmp_gt hx hb hdec t2 (fun z => hB _ _ _ _ _ _ t t1 (q.1 z) d0 H locs lsm hd0 hl hH hS hk1 hk2) (fun z => hB _ _ _ _ _ _ _ u1 (q.2 z) d0 H locs lsm hd0 hl hH hS hk1 hk2)
    · exact lv_icmp_le hx hb hdec t2 (fun z => hB _ _ _ _ _ _ t t1 (q.1 z) d0 H locs lsm hd0 hl hH hS hk1 hk2) (fun z => hB _ _ _ _ _ _ _ u1 (q.2 z) d0 H locs lsm hd0 hl hH hS hk1 hk2)
  · exact False.elim
set_option maxHeartbeats 4000000 in
theorem am_ss_tableswitch {CT : am_CT} {BT : Nat → am_N} {K : am_K} {z lo hi offs} {v : Value} {a : List Nat} {nx : am_N} {ls st : List Value} {h : am_H} {n : Nat} {k : am_C} (hC : am_Cx p R s m meth c mr L D B d) (hok : am_okI mr pc len (.tableswitch z lo hi offs, v, a) = true) (hdec : decode mr.2.1 pc = .ok (.tableswitch z lo hi offs, len))
    (hCT : am_Sound l d CT)
    (hend : ∀ (pc : Nat) (v : Option Value) (h : am_H) (n : Nat) (k : am_C) (d0 : Drawn) (H : Heap) (locs : List Loc) (lsm : Array Slot), am_rets mr.2.2.2.2.2.1 v → K v h n → s.drawn.sameBut d0 lw_cs → am_HR s L D B h n H → va_S (fun q => B ≤ q) s.heap H locs → k.1 ≤ mr.2.2.2.2.1.1 → k.2 ≤ mr.2.2.2.2.1.2 → decode mr.2.1 pc = .ok (am_retI mr.2.2.2.2.2.1, 1) → W p l e R (s.setDrawn d0) m args below meth c H locs k.1 k.2 Q (F0 m pc lsm ((v.map (am_mv L)).toList)))
    (hn : ∀ ls st h n k, nx ls st h n k → am_At p l e R s m args below meth c Q mr L D B (pc + len) ls st h n k) (hB : ∀ b ls st h n k t, am_pc mr b = some t → BT b ls st h n k → am_At p l e R s m args below meth c Q mr L D B t ls st h n k) :
    am_sem CT am_dfs BT mr.2.2.2.2.1 mr.2.2.2.2.2.1 K (.tableswitch z lo hi offs, v, a) nx ls st h n k → am_At p l e R s m args below meth c Q mr L D B pc ls st h n k := by
  intro q d0 H locs lsm hd0 hl hH hS hk1 hk2
  obtain ⟨hx, hb, hml, hown, hE, hnm, hRf, hRl, hRc, hRs⟩ := hC
  have hL := hE.1
  have hts : ∀ d0 : Drawn, ∀ w ∈ am_tbl, am_keep w = true → w.before args (s.setDrawn d0) = true := fun d0 w hw hk => (Cond.before_setDrawn args s d0 w).trans (hE.2.1 w hw hk args)
  revert q; dsimp only [am_sem]; split
  · intro q
    exact am_s_table (v := .null) hx hb hdec hok q (fun b t ht hb => hB _ _ _ _ _ _ t ht hb d0 H locs lsm hd0 hl hH hS hk1 hk2)
  · exact False.elim
set_option maxHeartbeats 4000000 in
theorem am_ss_lookupswitch {CT : am_CT} {BT : Nat → am_N} {K : am_K} {z ps} {v : Value} {a : List Nat} {nx : am_N} {ls st : List Value} {h : am_H} {n : Nat} {k : am_C} (hC : am_Cx p R s m meth c mr L D B d) (hok : am_okI mr pc len (.lookupswitch z ps, v, a) = true) (hdec : decode mr.2.1 pc = .ok (.lookupswitch z ps, len))
    (hCT : am_Sound l d CT)
    (hend : ∀ (pc : Nat) (v : Option Value) (h : am_H) (n : Nat) (k : am_C) (d0 : Drawn) (H : Heap) (locs : List Loc) (lsm : Array Slot), am_rets mr.2.2.2.2.2.1 v → K v h n → s.drawn.sameBut d0 lw_cs → am_HR s L D B h n H → va_S (fun q => B ≤ q) s.heap H locs → k.1 ≤ mr.2.2.2.2.1.1 → k.2 ≤ mr.2.2.2.2.1.2 → decode mr.2.1 pc = .ok (am_retI mr.2.2.2.2.2.1, 1) → W p l e R (s.setDrawn d0) m args below meth c H locs k.1 k.2 Q (F0 m pc lsm ((v.map (am_mv L)).toList)))
    (hn : ∀ ls st h n k, nx ls st h n k → am_At p l e R s m args below meth c Q mr L D B (pc + len) ls st h n k) (hB : ∀ b ls st h n k t, am_pc mr b = some t → BT b ls st h n k → am_At p l e R s m args below meth c Q mr L D B t ls st h n k) :
    am_sem CT am_dfs BT mr.2.2.2.2.1 mr.2.2.2.2.2.1 K (.lookupswitch z ps, v, a) nx ls st h n k → am_At p l e R s m args below meth c Q mr L D B pc ls st h n k := by
  intro q d0 H locs lsm hd0 hl hH hS hk1 hk2
  obtain ⟨hx, hb, hml, hown, hE, hnm, hRf, hRl, hRc, hRs⟩ := hC
  have hL := hE.1
  have hts : ∀ d0 : Drawn, ∀ w ∈ am_tbl, am_keep w = true → w.before args (s.setDrawn d0) = true := fun d0 w hw hk => (Cond.before_setDrawn args s d0 w).trans (hE.2.1 w hw hk args)
  revert q; dsimp only [am_sem]; split
  · intro q
    exact am_s_look hx hb hdec hok q (fun b t ht hb => hB _ _ _ _ _ _ t ht hb d0 H locs lsm hd0 hl hH hS hk1 hk2)
  · exact False.elim
set_option maxHeartbeats 4000000 in
theorem am_ss_return_ {CT : am_CT} {BT : Nat → am_N} {K : am_K} {v : Value} {a : List Nat} {nx : am_N} {ls st : List Value} {h : am_H} {n : Nat} {k : am_C} (hC : am_Cx p R s m meth c mr L D B d) (hok : am_okI mr pc len (.return_, v, a) = true) (hdec : decode mr.2.1 pc = .ok (.return_, len))
    (hCT : am_Sound l d CT)
    (hend : ∀ (pc : Nat) (v : Option Value) (h : am_H) (n : Nat) (k : am_C) (d0 : Drawn) (H : Heap) (locs : List Loc) (lsm : Array Slot), am_rets mr.2.2.2.2.2.1 v → K v h n → s.drawn.sameBut d0 lw_cs → am_HR s L D B h n H → va_S (fun q => B ≤ q) s.heap H locs → k.1 ≤ mr.2.2.2.2.1.1 → k.2 ≤ mr.2.2.2.2.1.2 → decode mr.2.1 pc = .ok (am_retI mr.2.2.2.2.2.1, 1) → W p l e R (s.setDrawn d0) m args below meth c H locs k.1 k.2 Q (F0 m pc lsm ((v.map (am_mv L)).toList)))
    (hn : ∀ ls st h n k, nx ls st h n k → am_At p l e R s m args below meth c Q mr L D B (pc + len) ls st h n k) (hB : ∀ b ls st h n k t, am_pc mr b = some t → BT b ls st h n k → am_At p l e R s m args below meth c Q mr L D B t ls st h n k) :
    am_sem CT am_dfs BT mr.2.2.2.2.1 mr.2.2.2.2.2.1 K (.return_, v, a) nx ls st h n k → am_At p l e R s m args below meth c Q mr L D B pc ls st h n k := by
  intro q d0 H locs lsm hd0 hl hH hS hk1 hk2
  obtain ⟨hx, hb, hml, hown, hE, hnm, hRf, hRl, hRc, hRs⟩ := hC
  have hL := hE.1
  have hts : ∀ d0 : Drawn, ∀ w ∈ am_tbl, am_keep w = true → w.before args (s.setDrawn d0) = true := fun d0 w hw hk => (Cond.before_setDrawn args s d0 w).trans (hE.2.1 w hw hk args)
  have hlen : len = 1 := by simpa [am_okI] using hok
  subst hlen
  revert q; dsimp only [am_sem]; split
  · intro q
    exact hend pc none h n k d0 H locs lsm q.1 q.2 hd0 hH hS hk1 hk2 (by rw [hdec, q.1]; rfl)
  · exact False.elim
set_option maxHeartbeats 4000000 in
theorem am_ss_ireturn {CT : am_CT} {BT : Nat → am_N} {K : am_K} {v : Value} {a : List Nat} {nx : am_N} {ls st : List Value} {h : am_H} {n : Nat} {k : am_C} (hC : am_Cx p R s m meth c mr L D B d) (hok : am_okI mr pc len (.ireturn, v, a) = true) (hdec : decode mr.2.1 pc = .ok (.ireturn, len))
    (hCT : am_Sound l d CT)
    (hend : ∀ (pc : Nat) (v : Option Value) (h : am_H) (n : Nat) (k : am_C) (d0 : Drawn) (H : Heap) (locs : List Loc) (lsm : Array Slot), am_rets mr.2.2.2.2.2.1 v → K v h n → s.drawn.sameBut d0 lw_cs → am_HR s L D B h n H → va_S (fun q => B ≤ q) s.heap H locs → k.1 ≤ mr.2.2.2.2.1.1 → k.2 ≤ mr.2.2.2.2.1.2 → decode mr.2.1 pc = .ok (am_retI mr.2.2.2.2.2.1, 1) → W p l e R (s.setDrawn d0) m args below meth c H locs k.1 k.2 Q (F0 m pc lsm ((v.map (am_mv L)).toList)))
    (hn : ∀ ls st h n k, nx ls st h n k → am_At p l e R s m args below meth c Q mr L D B (pc + len) ls st h n k) (hB : ∀ b ls st h n k t, am_pc mr b = some t → BT b ls st h n k → am_At p l e R s m args below meth c Q mr L D B t ls st h n k) :
    am_sem CT am_dfs BT mr.2.2.2.2.1 mr.2.2.2.2.2.1 K (.ireturn, v, a) nx ls st h n k → am_At p l e R s m args below meth c Q mr L D B pc ls st h n k := by
  intro q d0 H locs lsm hd0 hl hH hS hk1 hk2
  obtain ⟨hx, hb, hml, hown, hE, hnm, hRf, hRl, hRc, hRs⟩ := hC
  have hL := hE.1
  have hts : ∀ d0 : Drawn, ∀ w ∈ am_tbl, am_keep w = true → w.before args (s.setDrawn d0) = true := fun d0 w hw hk => (Cond.before_setDrawn args s d0 w).trans (hE.2.1 w hw hk args)
  have hlen : len = 1 := by simpa [am_okI] using hok
  subst hlen
  revert q; dsimp only [am_sem]; split
  · intro q
    rename_i x
    exact hend pc (some (.int x)) h n k d0 H locs lsm q.1 q.2 hd0 hH hS hk1 hk2 (by rw [hdec, am_rt_retI q.1])
  · exact False.elim
set_option maxHeartbeats 4000000 in
theorem am_ss_lreturn {CT : am_CT} {BT : Nat → am_N} {K : am_K} {v : Value} {a : List Nat} {nx : am_N} {ls st : List Value} {h : am_H} {n : Nat} {k : am_C} (hC : am_Cx p R s m meth c mr L D B d) (hok : am_okI mr pc len (.lreturn, v, a) = true) (hdec : decode mr.2.1 pc = .ok (.lreturn, len))
    (hCT : am_Sound l d CT)
    (hend : ∀ (pc : Nat) (v : Option Value) (h : am_H) (n : Nat) (k : am_C) (d0 : Drawn) (H : Heap) (locs : List Loc) (lsm : Array Slot), am_rets mr.2.2.2.2.2.1 v → K v h n → s.drawn.sameBut d0 lw_cs → am_HR s L D B h n H → va_S (fun q => B ≤ q) s.heap H locs → k.1 ≤ mr.2.2.2.2.1.1 → k.2 ≤ mr.2.2.2.2.1.2 → decode mr.2.1 pc = .ok (am_retI mr.2.2.2.2.2.1, 1) → W p l e R (s.setDrawn d0) m args below meth c H locs k.1 k.2 Q (F0 m pc lsm ((v.map (am_mv L)).toList)))
    (hn : ∀ ls st h n k, nx ls st h n k → am_At p l e R s m args below meth c Q mr L D B (pc + len) ls st h n k) (hB : ∀ b ls st h n k t, am_pc mr b = some t → BT b ls st h n k → am_At p l e R s m args below meth c Q mr L D B t ls st h n k) :
    am_sem CT am_dfs BT mr.2.2.2.2.1 mr.2.2.2.2.2.1 K (.lreturn, v, a) nx ls st h n k → am_At p l e R s m args below meth c Q mr L D B pc ls st h n k := by
  intro q d0 H locs lsm hd0 hl hH hS hk1 hk2
  obtain ⟨hx, hb, hml, hown, hE, hnm, hRf, hRl, hRc, hRs⟩ := hC
  have hL := hE.1
  have hts : ∀ d0 : Drawn, ∀ w ∈ am_tbl, am_keep w = true → w.before args (s.setDrawn d0) = true := fun d0 w hw hk => (Cond.before_setDrawn args s d0 w).trans (hE.2.1 w hw hk args)
  have hlen : len = 1 := by simpa [am_okI] using hok
  subst hlen
  revert q; dsimp only [am_sem]; split
  · intro q
    exact hend pc (some (.long _)) h n k d0 H locs lsm q.1 q.2 hd0 hH hS hk1 hk2 (by rw [hdec, q.1]; rfl)
  · exact False.elim
set_option maxHeartbeats 4000000 in
theorem am_ss_dreturn {CT : am_CT} {BT : Nat → am_N} {K : am_K} {v : Value} {a : List Nat} {nx : am_N} {ls st : List Value} {h : am_H} {n : Nat} {k : am_C} (hC : am_Cx p R s m meth c mr L D B d) (hok : am_okI mr pc len (.dreturn, v, a) = true) (hdec : decode mr.2.1 pc = .ok (.dreturn, len))
    (hCT : am_Sound l d CT)
    (hend : ∀ (pc : Nat) (v : Option Value) (h : am_H) (n : Nat) (k : am_C) (d0 : Drawn) (H : Heap) (locs : List Loc) (lsm : Array Slot), am_rets mr.2.2.2.2.2.1 v → K v h n → s.drawn.sameBut d0 lw_cs → am_HR s L D B h n H → va_S (fun q => B ≤ q) s.heap H locs → k.1 ≤ mr.2.2.2.2.1.1 → k.2 ≤ mr.2.2.2.2.1.2 → decode mr.2.1 pc = .ok (am_retI mr.2.2.2.2.2.1, 1) → W p l e R (s.setDrawn d0) m args below meth c H locs k.1 k.2 Q (F0 m pc lsm ((v.map (am_mv L)).toList)))
    (hn : ∀ ls st h n k, nx ls st h n k → am_At p l e R s m args below meth c Q mr L D B (pc + len) ls st h n k) (hB : ∀ b ls st h n k t, am_pc mr b = some t → BT b ls st h n k → am_At p l e R s m args below meth c Q mr L D B t ls st h n k) :
    am_sem CT am_dfs BT mr.2.2.2.2.1 mr.2.2.2.2.2.1 K (.dreturn, v, a) nx ls st h n k → am_At p l e R s m args below meth c Q mr L D B pc ls st h n k := by
  intro q d0 H locs lsm hd0 hl hH hS hk1 hk2
  obtain ⟨hx, hb, hml, hown, hE, hnm, hRf, hRl, hRc, hRs⟩ := hC
  have hL := hE.1
  have hts : ∀ d0 : Drawn, ∀ w ∈ am_tbl, am_keep w = true → w.before args (s.setDrawn d0) = true := fun d0 w hw hk => (Cond.before_setDrawn args s d0 w).trans (hE.2.1 w hw hk args)
  have hlen : len = 1 := by simpa [am_okI] using hok
  subst hlen
  revert q; dsimp only [am_sem]; split
  · intro q
    exact hend pc (some (.double _)) h n k d0 H locs lsm q.1 q.2 hd0 hH hS hk1 hk2 (by rw [hdec, q.1]; rfl)
  · exact False.elim
set_option maxHeartbeats 4000000 in
theorem am_ss_areturn {CT : am_CT} {BT : Nat → am_N} {K : am_K} {v : Value} {a : List Nat} {nx : am_N} {ls st : List Value} {h : am_H} {n : Nat} {k : am_C} (hC : am_Cx p R s m meth c mr L D B d) (hok : am_okI mr pc len (.areturn, v, a) = true) (hdec : decode mr.2.1 pc = .ok (.areturn, len))
    (hCT : am_Sound l d CT)
    (hend : ∀ (pc : Nat) (v : Option Value) (h : am_H) (n : Nat) (k : am_C) (d0 : Drawn) (H : Heap) (locs : List Loc) (lsm : Array Slot), am_rets mr.2.2.2.2.2.1 v → K v h n → s.drawn.sameBut d0 lw_cs → am_HR s L D B h n H → va_S (fun q => B ≤ q) s.heap H locs → k.1 ≤ mr.2.2.2.2.1.1 → k.2 ≤ mr.2.2.2.2.1.2 → decode mr.2.1 pc = .ok (am_retI mr.2.2.2.2.2.1, 1) → W p l e R (s.setDrawn d0) m args below meth c H locs k.1 k.2 Q (F0 m pc lsm ((v.map (am_mv L)).toList)))
    (hn : ∀ ls st h n k, nx ls st h n k → am_At p l e R s m args below meth c Q mr L D B (pc + len) ls st h n k) (hB : ∀ b ls st h n k t, am_pc mr b = some t → BT b ls st h n k → am_At p l e R s m args below meth c Q mr L D B t ls st h n k) :
    am_sem CT am_dfs BT mr.2.2.2.2.1 mr.2.2.2.2.2.1 K (.areturn, v, a) nx ls st h n k → am_At p l e R s m args below meth c Q mr L D B pc ls st h n k := by
  intro q d0 H locs lsm hd0 hl hH hS hk1 hk2
  obtain ⟨hx, hb, hml, hown, hE, hnm, hRf, hRl, hRc, hRs⟩ := hC
  have hL := hE.1
  have hts : ∀ d0 : Drawn, ∀ w ∈ am_tbl, am_keep w = true → w.before args (s.setDrawn d0) = true := fun d0 w hw hk => (Cond.before_setDrawn args s d0 w).trans (hE.2.1 w hw hk args)
  have hlen : len = 1 := by simpa [am_okI] using hok
  subst hlen
  revert q; dsimp only [am_sem]; split
  · intro q
    exact hend pc (some (.ref _)) h n k d0 H locs lsm q.1 q.2 hd0 hH hS hk1 hk2 (by rw [hdec, q.1]; rfl)
  · exact False.elim
set_option maxHeartbeats 4000000 in
theorem am_ss_getfield {CT : am_CT} {BT : Nat → am_N} {K : am_K} {z} {v : Value} {a : List Nat} {nx : am_N} {ls st : List Value} {h : am_H} {n : Nat} {k : am_C} (hC : am_Cx p R s m meth c mr L D B d) (hok : am_okI mr pc len (.getfield z, v, a) = true) (hdec : decode mr.2.1 pc = .ok (.getfield z, len))
    (hCT : am_Sound l d CT)
    (hend : ∀ (pc : Nat) (v : Option Value) (h : am_H) (n : Nat) (k : am_C) (d0 : Drawn) (H : Heap) (locs : List Loc) (lsm : Array Slot), am_rets mr.2.2.2.2.2.1 v → K v h n → s.drawn.sameBut d0 lw_cs → am_HR s L D B h n H → va_S (fun q => B ≤ q) s.heap H locs → k.1 ≤ mr.2.2.2.2.1.1 → k.2 ≤ mr.2.2.2.2.1.2 → decode mr.2.1 pc = .ok (am_retI mr.2.2.2.2.2.1, 1) → W p l e R (s.setDrawn d0) m args below meth c H locs k.1 k.2 Q (F0 m pc lsm ((v.map (am_mv L)).toList)))
    (hn : ∀ ls st h n k, nx ls st h n k → am_At p l e R s m args below meth c Q mr L D B (pc + len) ls st h n k) (hB : ∀ b ls st h n k t, am_pc mr b = some t → BT b ls st h n k → am_At p l e R s m args below meth c Q mr L D B t ls st h n k) :
    am_sem CT am_dfs BT mr.2.2.2.2.1 mr.2.2.2.2.2.1 K (.getfield z, v, a) nx ls st h n k → am_At p l e R s m args below meth c Q mr L D B pc ls st h n k := by
  intro q d0 H locs lsm hd0 hl hH hS hk1 hk2
  obtain ⟨hx, hb, hml, hown, hE, hnm, hRf, hRl, hRc, hRs⟩ := hC
  have hL := hE.1
  have hts : ∀ d0 : Drawn, ∀ w ∈ am_tbl, am_keep w = true → w.before args (s.setDrawn d0) = true := fun d0 w hw hk => (Cond.before_setDrawn args s d0 w).trans (hE.2.1 w hw hk args)
  simp only [am_okI, Bool.and_eq_true, beq_iff_eq, decide_eq_true_eq] at hok
  obtain ⟨⟨⟨hlen, h1⟩, h2⟩, h3⟩ := hok
  subst hlen
  revert q; dsimp only [am_sem]; split
  · intro q
    rename_i x r
    obtain ⟨fs, hfs, q⟩ := am_oa_out q
    revert q; split
    · intro q
      rename_i w hw
      refine am_s_getf hE hx hb hown hH h1 h2 ?_ hfs hw q.1 hdec (hn _ _ _ _ _ q.2 d0 H locs lsm hd0 hl hH hS hk1 hk2)
      by_cases z0 : am_x (.getfield z, v, a) 3 = 0
      · rw [if_pos z0] at h3; exact Or.inl (am_W_use (hts d0) h3)
      · rw [if_neg z0] at h3; exact Or.inr (am_W_use (hts d0) h3)
    · exact False.elim
  · exact False.elim
set_option maxHeartbeats 4000000 in
theorem am_ss_putfield {CT : am_CT} {BT : Nat → am_N} {K : am_K} {z} {v : Value} {a : List Nat} {nx : am_N} {ls st : List Value} {h : am_H} {n : Nat} {k : am_C} (hC : am_Cx p R s m meth c mr L D B d) (hok : am_okI mr pc len (.putfield z, v, a) = true) (hdec : decode mr.2.1 pc = .ok (.putfield z, len))
    (hCT : am_Sound l d CT)
    (hend : ∀ (pc : Nat) (v : Option Value) (h : am_H) (n : Nat) (k : am_C) (d0 : Drawn) (H : Heap) (locs : List Loc) (lsm : Array Slot), am_rets mr.2.2.2.2.2.1 v → K v h n → s.drawn.sameBut d0 lw_cs → am_HR s L D B h n H → va_S (fun q => B ≤ q) s.heap H locs → k.1 ≤ mr.2.2.2.2.1.1 → k.2 ≤ mr.2.2.2.2.1.2 → decode mr.2.1 pc = .ok (am_retI mr.2.2.2.2.2.1, 1) → W p l e R (s.setDrawn d0) m args below meth c H locs k.1 k.2 Q (F0 m pc lsm ((v.map (am_mv L)).toList)))
    (hn : ∀ ls st h n k, nx ls st h n k → am_At p l e R s m args below meth c Q mr L D B (pc + len) ls st h n k) (hB : ∀ b ls st h n k t, am_pc mr b = some t → BT b ls st h n k → am_At p l e R s m args below meth c Q mr L D B t ls st h n k) :
    am_sem CT am_dfs BT mr.2.2.2.2.1 mr.2.2.2.2.2.1 K (.putfield z, v, a) nx ls st h n k → am_At p l e R s m args below meth c Q mr L D B pc ls st h n k := by
  intro q d0 H locs lsm hd0 hl hH hS hk1 hk2
  obtain ⟨hx, hb, hml, hown, hE, hnm, hRf, hRl, hRc, hRs⟩ := hC
  have hL := hE.1
  have hts : ∀ d0 : Drawn, ∀ w ∈ am_tbl, am_keep w = true → w.before args (s.setDrawn d0) = true := fun d0 w hw hk => (Cond.before_setDrawn args s d0 w).trans (hE.2.1 w hw hk args)
  simp only [am_okI, Bool.and_eq_true, beq_iff_eq, decide_eq_true_eq] at hok
  obtain ⟨⟨⟨⟨⟨hlen, h1⟩, h2⟩, h3⟩, h4⟩, h5⟩ := hok
  subst hlen
  revert q; dsimp only [am_sem]; split
  · intro q
    rename_i w x r
    obtain ⟨fs, hfs, h64, hokv, q⟩ := am_oa_out q
    revert q; split
    · intro q
      rename_i w0 hw
      refine am_s_putf hE hx hb hown hnm hH hS h1 h2 ?_ hfs h64 hw q.1 (by rw [← h3] at hokv; exact hokv) hdec (fun H1 locs1 hH1 hS1 => hn _ _ _ _ _ q.2 d0 H1 locs1 lsm hd0 hl hH1 hS1 hk1 hk2)
      have h5 : ((vwCl.getD (am_x (.putfield z, v, a) 0) am_cdf).2.1 (am_x (.putfield z, v, a) 1)).2.2.2 = false ∨ ((mr.1.name = "<init>" ∧ ((vwCl.getD (am_x (.putfield z, v, a) 0) am_cdf).2.1 (am_x (.putfield z, v, a) 1)).1 = mr.1.cls) ∧ am_x (.putfield z, v, a) 4 = 0) := by
        rw [Bool.or_eq_true, Bool.and_eq_true, Bool.and_eq_true, decide_eq_true_eq, decide_eq_true_eq, decide_eq_true_eq] at h5
        rcases h5 with h5 | h5
        · exact Or.inl (by simp only [Bool.not_eq_true'] at h5; exact h5)
        · exact Or.inr ⟨⟨h5.1.1, h5.1.2⟩, h5.2⟩
      by_cases z0 : am_x (.putfield z, v, a) 4 = 0
      · rw [if_pos z0] at h4
        exact Or.inl ⟨am_W_use (hts d0) h4, h5.imp id (fun q => q.1)⟩
      · rw [if_neg z0] at h4
        exact Or.inr ⟨am_W_use (hts d0) h4, h5.resolve_right (fun q => z0 q.2)⟩
    · exact False.elim
  · exact False.elim
set_option maxHeartbeats 4000000 in
theorem am_ss_new {CT : am_CT} {BT : Nat → am_N} {K : am_K} {z} {v : Value} {a : List Nat} {nx : am_N} {ls st : List Value} {h : am_H} {n : Nat} {k : am_C} (hC : am_Cx p R s m meth c mr L D B d) (hok : am_okI mr pc len (.new z, v, a) = true) (hdec : decode mr.2.1 pc = .ok (.new z, len))
    (hCT : am_Sound l d CT)
    (hend : ∀ (pc : Nat) (v : Option Value) (h : am_H) (n : Nat) (k : am_C) (d0 : Drawn) (H : Heap) (locs : List Loc) (lsm : Array Slot), am_rets mr.2.2.2.2.2.1 v → K v h n → s.drawn.sameBut d0 lw_cs → am_HR s L D B h n H → va_S (fun q => B ≤ q) s.heap H locs → k.1 ≤ mr.2.2.2.2.1.1 → k.2 ≤ mr.2.2.2.2.1.2 → decode mr.2.1 pc = .ok (am_retI mr.2.2.2.2.2.1, 1) → W p l e R (s.setDrawn d0) m args below meth c H locs k.1 k.2 Q (F0 m pc lsm ((v.map (am_mv L)).toList)))
    (hn : ∀ ls st h n k, nx ls st h n k → am_At p l e R s m args below meth c Q mr L D B (pc + len) ls st h n k) (hB : ∀ b ls st h n k t, am_pc mr b = some t → BT b ls st h n k → am_At p l e R s m args below meth c Q mr L D B t ls st h n k) :
    am_sem CT am_dfs BT mr.2.2.2.2.1 mr.2.2.2.2.2.1 K (.new z, v, a) nx ls st h n k → am_At p l e R s m args below meth c Q mr L D B pc ls st h n k := by
  intro q d0 H locs lsm hd0 hl hH hS hk1 hk2
  obtain ⟨hx, hb, hml, hown, hE, hnm, hRf, hRl, hRc, hRs⟩ := hC
  have hL := hE.1
  have hts : ∀ d0 : Drawn, ∀ w ∈ am_tbl, am_keep w = true → w.before args (s.setDrawn d0) = true := fun d0 w hw hk => (Cond.before_setDrawn args s d0 w).trans (hE.2.1 w hw hk args)
  simp only [am_okI, Bool.and_eq_true, beq_iff_eq, decide_eq_true_eq] at hok
  obtain ⟨⟨⟨⟨⟨hlen, h1⟩, h2⟩, h3⟩, h4⟩, h5⟩ := hok
  subst hlen
  revert q; dsimp only [am_sem]; intro q
  exact am_s_new hE hx hb hown (hts d0) hH hS h1 h2 (am_W_use (hts d0) h3) (am_W_use (hts d0) h4) (am_W_use (hts d0) h5) (Nat.le_trans q.1 hRc) (Nat.le_trans q.2.1 hRs) hdec (fun H1 hH1 hS1 => hn _ _ _ _ _ q.2.2 d0 H1 locs lsm hd0 hl hH1 hS1 q.1 q.2.1)
set_option maxHeartbeats 4000000 in
theorem am_ss_newarray {CT : am_CT} {BT : Nat → am_N} {K : am_K} {z} {v : Value} {a : List Nat} {nx : am_N} {ls st : List Value} {h : am_H} {n : Nat} {k : am_C} (hC : am_Cx p R s m meth c mr L D B d) (hok : am_okI mr pc len (.newarray z, v, a) = true) (hdec : decode mr.2.1 pc = .ok (.newarray z, len))
    (hCT : am_Sound l d CT)
    (hend : ∀ (pc : Nat) (v : Option Value) (h : am_H) (n : Nat) (k : am_C) (d0 : Drawn) (H : Heap) (locs : List Loc) (lsm : Array Slot), am_rets mr.2.2.2.2.2.1 v → K v h n → s.drawn.sameBut d0 lw_cs → am_HR s L D B h n H → va_S (fun q => B ≤ q) s.heap H locs → k.1 ≤ mr.2.2.2.2.1.1 → k.2 ≤ mr.2.2.2.2.1.2 → decode mr.2.1 pc = .ok (am_retI mr.2.2.2.2.2.1, 1) → W p l e R (s.setDrawn d0) m args below meth c H locs k.1 k.2 Q (F0 m pc lsm ((v.map (am_mv L)).toList)))
    (hn : ∀ ls st h n k, nx ls st h n k → am_At p l e R s m args below meth c Q mr L D B (pc + len) ls st h n k) (hB : ∀ b ls st h n k t, am_pc mr b = some t → BT b ls st h n k → am_At p l e R s m args below meth c Q mr L D B t ls st h n k) :
    am_sem CT am_dfs BT mr.2.2.2.2.1 mr.2.2.2.2.2.1 K (.newarray z, v, a) nx ls st h n k → am_At p l e R s m args below meth c Q mr L D B pc ls st h n k := by
  intro q d0 H locs lsm hd0 hl hH hS hk1 hk2
  obtain ⟨hx, hb, hml, hown, hE, hnm, hRf, hRl, hRc, hRs⟩ := hC
  have hL := hE.1
  have hts : ∀ d0 : Drawn, ∀ w ∈ am_tbl, am_keep w = true → w.before args (s.setDrawn d0) = true := fun d0 w hw hk => (Cond.before_setDrawn args s d0 w).trans (hE.2.1 w hw hk args)
  simp only [am_okI, Bool.and_eq_true, beq_iff_eq, decide_eq_true_eq] at hok
  obtain ⟨⟨⟨hlen, h1⟩, h2⟩, h3⟩ := hok
  subst hlen
  revert q; dsimp only [am_sem]; split
  · intro q
    exact am_s_newa hE hx hb hH hS h1 h2 (am_W_use (hts d0) h3) q.1 q.2.1 (Nat.le_trans q.2.2.1 hRc) (Nat.le_trans q.2.2.2.1 hRs) hdec (fun H1 hH1 hS1 => hn _ _ _ _ _ q.2.2.2.2 d0 H1 locs lsm hd0 hl hH1 hS1 q.2.2.1 q.2.2.2.1)
  · exact False.elim
set_option maxHeartbeats 4000000 in
theorem am_ss_anewarray {CT : am_CT} {BT : Nat → am_N} {K : am_K} {z} {v : Value} {a : List Nat} {nx : am_N} {ls st : List Value} {h : am_H} {n : Nat} {k : am_C} (hC : am_Cx p R s m meth c mr L D B d) (hok : am_okI mr pc len (.anewarray z, v, a) = true) (hdec : decode mr.2.1 pc = .ok (.anewarray z, len))
    (hCT : am_Sound l d CT)
    (hend : ∀ (pc : Nat) (v : Option Value) (h : am_H) (n : Nat) (k : am_C) (d0 : Drawn) (H : Heap) (locs : List Loc) (lsm : Array Slot), am_rets mr.2.2.2.2.2.1 v → K v h n → s.drawn.sameBut d0 lw_cs → am_HR s L D B h n H → va_S (fun q => B ≤ q) s.heap H locs → k.1 ≤ mr.2.2.2.2.1.1 → k.2 ≤ mr.2.2.2.2.1.2 → decode mr.2.1 pc = .ok (am_retI mr.2.2.2.2.2.1, 1) → W p l e R (s.setDrawn d0) m args below meth c H locs k.1 k.2 Q (F0 m pc lsm ((v.map (am_mv L)).toList)))
    (hn : ∀ ls st h n k, nx ls st h n k → am_At p l e R s m args below meth c Q mr L D B (pc + len) ls st h n k) (hB : ∀ b ls st h n k t, am_pc mr b = some t → BT b ls st h n k → am_At p l e R s m args below meth c Q mr L D B t ls st h n k) :
    am_sem CT am_dfs BT mr.2.2.2.2.1 mr.2.2.2.2.2.1 K (.anewarray z, v, a) nx ls st h n k → am_At p l e R s m args below meth c Q mr L D B pc ls st h n k := by
  intro q d0 H locs lsm hd0 hl hH hS hk1 hk2
  obtain ⟨hx, hb, hml, hown, hE, hnm, hRf, hRl, hRc, hRs⟩ := hC
  have hL := hE.1
  have hts : ∀ d0 : Drawn, ∀ w ∈ am_tbl, am_keep w = true → w.before args (s.setDrawn d0) = true := fun d0 w hw hk => (Cond.before_setDrawn args s d0 w).trans (hE.2.1 w hw hk args)
  simp only [am_okI, Bool.and_eq_true, beq_iff_eq, decide_eq_true_eq] at hok
  obtain ⟨⟨hlen, h1⟩, h3⟩ := hok
  subst hlen
  revert q; dsimp only [am_sem]; split
  · intro q
    revert h3; split
    · intro h3
      rename_i C hC
      rw [Bool.and_eq_true] at h3
      obtain ⟨f, hf, qf⟩ := q.2.2.2.2
      exact am_s_anew hE hx hb hown hH hS hC (am_W_use (hts d0) h3.1) (am_W_use (hts d0) h3.2) q.1 q.2.1 (Nat.le_trans q.2.2.1 hRc) (Nat.le_trans q.2.2.2.1 hRs) hdec hf (fun H1 hH1 hS1 => hn _ _ _ _ _ qf d0 H1 locs lsm hd0 hl hH1 hS1 q.2.2.1 q.2.2.2.1)
    · exact fun h => by cases h
  · exact False.elim
set_option maxHeartbeats 4000000 in
theorem am_ss_multianewarray {CT : am_CT} {BT : Nat → am_N} {K : am_K} {z dm} {v : Value} {a : List Nat} {nx : am_N} {ls st : List Value} {h : am_H} {n : Nat} {k : am_C} (hC : am_Cx p R s m meth c mr L D B d) (hok : am_okI mr pc len (.multianewarray z dm, v, a) = true) (hdec : decode mr.2.1 pc = .ok (.multianewarray z dm, len))
    (hCT : am_Sound l d CT)
    (hend : ∀ (pc : Nat) (v : Option Value) (h : am_H) (n : Nat) (k : am_C) (d0 : Drawn) (H : Heap) (locs : List Loc) (lsm : Array Slot), am_rets mr.2.2.2.2.2.1 v → K v h n → s.drawn.sameBut d0 lw_cs → am_HR s L D B h n H → va_S (fun q => B ≤ q) s.heap H locs → k.1 ≤ mr.2.2.2.2.1.1 → k.2 ≤ mr.2.2.2.2.1.2 → decode mr.2.1 pc = .ok (am_retI mr.2.2.2.2.2.1, 1) → W p l e R (s.setDrawn d0) m args below meth c H locs k.1 k.2 Q (F0 m pc lsm ((v.map (am_mv L)).toList)))
    (hn : ∀ ls st h n k, nx ls st h n k → am_At p l e R s m args below meth c Q mr L D B (pc + len) ls st h n k) (hB : ∀ b ls st h n k t, am_pc mr b = some t → BT b ls st h n k → am_At p l e R s m args below meth c Q mr L D B t ls st h n k) :
    am_sem CT am_dfs BT mr.2.2.2.2.1 mr.2.2.2.2.2.1 K (.multianewarray z dm, v, a) nx ls st h n k → am_At p l e R s m args below meth c Q mr L D B pc ls st h n k := by
  intro q d0 H locs lsm hd0 hl hH hS hk1 hk2
  obtain ⟨hx, hb, hml, hown, hE, hnm, hRf, hRl, hRc, hRs⟩ := hC
  have hL := hE.1
  have hts : ∀ d0 : Drawn, ∀ w ∈ am_tbl, am_keep w = true → w.before args (s.setDrawn d0) = true := fun d0 w hw hk => (Cond.before_setDrawn args s d0 w).trans (hE.2.1 w hw hk args)
  simp only [am_okI, Bool.and_eq_true, beq_iff_eq, decide_eq_true_eq] at hok
  obtain ⟨⟨⟨⟨⟨⟨⟨hlen, h1⟩, h2⟩, h7⟩, h3⟩, h4⟩, h5⟩, h6⟩ := hok
  subst hlen; subst h1
  revert q; dsimp only [am_sem]; split
  · intro q
    exact am_s_multi hE hx hb hown hH hS h2 h7 h3 (am_W_use (hts d0) h4) (am_W_use (hts d0) h5) (am_W_use (hts d0) h6) q.1 q.2.1 q.2.2.1 q.2.2.2.1 (Nat.le_trans q.2.2.2.2.1 hRc) (Nat.le_trans q.2.2.2.2.2.1 hRs) hdec (fun H1 hH1 hS1 => hn _ _ _ _ _ q.2.2.2.2.2.2 d0 H1 locs lsm hd0 hl hH1 hS1 q.2.2.2.2.1 q.2.2.2.2.2.1)
  · exact False.elim
set_option maxHeartbeats 4000000 in
theorem am_ss_arraylength {CT : am_CT} {BT : Nat → am_N} {K : am_K} {v : Value} {a : List Nat} {nx : am_N} {ls st : List Value} {h : am_H} {n : Nat} {k : am_C} (hC : am_Cx p R s m meth c mr L D B d) (hok : am_okI mr pc len (.arraylength, v, a) = true) (hdec : decode mr.2.1 pc = .ok (.arraylength, len))
    (hCT : am_Sound l d CT)
    (hend : ∀ (pc : Nat) (v : Option Value) (h : am_H) (n : Nat) (k : am_C) (d0 : Drawn) (H : Heap) (locs : List Loc) (lsm : Array Slot), am_rets mr.2.2.2.2.2.1 v → K v h n → s.drawn.sameBut d0 lw_cs → am_HR s L D B h n H → va_S (fun q => B ≤ q) s.heap H locs → k.1 ≤ mr.2.2.2.2.1.1 → k.2 ≤ mr.2.2.2.2.1.2 → decode mr.2.1 pc = .ok (am_retI mr.2.2.2.2.2.1, 1) → W p l e R (s.setDrawn d0) m args below meth c H locs k.1 k.2 Q (F0 m pc lsm ((v.map (am_mv L)).toList)))
    (hn : ∀ ls st h n k, nx ls st h n k → am_At p l e R s m args below meth c Q mr L D B (pc + len) ls st h n k) (hB : ∀ b ls st h n k t, am_pc mr b = some t → BT b ls st h n k → am_At p l e R s m args below meth c Q mr L D B t ls st h n k) :
    am_sem CT am_dfs BT mr.2.2.2.2.1 mr.2.2.2.2.2.1 K (.arraylength, v, a) nx ls st h n k → am_At p l e R s m args below meth c Q mr L D B pc ls st h n k := by
  intro q d0 H locs lsm hd0 hl hH hS hk1 hk2
  obtain ⟨hx, hb, hml, hown, hE, hnm, hRf, hRl, hRc, hRs⟩ := hC
  have hL := hE.1
  have hts : ∀ d0 : Drawn, ∀ w ∈ am_tbl, am_keep w = true → w.before args (s.setDrawn d0) = true := fun d0 w hw hk => (Cond.before_setDrawn args s d0 w).trans (hE.2.1 w hw hk args)
  have hlen : len = 1 := by simpa [am_okI] using hok
  subst hlen
  revert q; dsimp only [am_sem]; split
  · intro q
    rename_i x r
    obtain ⟨t, n0, y, hfs, q⟩ := am_an_out q
    obtain ⟨-, a', cell, hLa, hcell, g1, g2, g3, g4, -⟩ := hH.2.2 x _ hfs
    have hq := hn _ _ _ _ _ q d0 H locs lsm hd0 hl hH hS hk1 hk2
    show W p l e R (s.setDrawn d0) m args below meth c H locs k.1 k.2 Q (F0 m pc lsm (L x :: r.map (am_mv L)))
    rw [hLa]
    exact W.alen (s := s.setDrawn d0) hx hb hcell g1 g4 rfl rfl hdec hq
  · exact False.elim
set_option maxHeartbeats 4000000 in
theorem am_ss_iaload {CT : am_CT} {BT : Nat → am_N} {K : am_K} {v : Value} {a : List Nat} {nx : am_N} {ls st : List Value} {h : am_H} {n : Nat} {k : am_C} (hC : am_Cx p R s m meth c mr L D B d) (hok : am_okI mr pc len (.iaload, v, a) = true) (hdec : decode mr.2.1 pc = .ok (.iaload, len))
    (hCT : am_Sound l d CT)
    (hend : ∀ (pc : Nat) (v : Option Value) (h : am_H) (n : Nat) (k : am_C) (d0 : Drawn) (H : Heap) (locs : List Loc) (lsm : Array Slot), am_rets mr.2.2.2.2.2.1 v → K v h n → s.drawn.sameBut d0 lw_cs → am_HR s L D B h n H → va_S (fun q => B ≤ q) s.heap H locs → k.1 ≤ mr.2.2.2.2.1.1 → k.2 ≤ mr.2.2.2.2.1.2 → decode mr.2.1 pc = .ok (am_retI mr.2.2.2.2.2.1, 1) → W p l e R (s.setDrawn d0) m args below meth c H locs k.1 k.2 Q (F0 m pc lsm ((v.map (am_mv L)).toList)))
    (hn : ∀ ls st h n k, nx ls st h n k → am_At p l e R s m args below meth c Q mr L D B (pc + len) ls st h n k) (hB : ∀ b ls st h n k t, am_pc mr b = some t → BT b ls st h n k → am_At p l e R s m args below meth c Q mr L D B t ls st h n k) :
    am_sem CT am_dfs BT mr.2.2.2.2.1 mr.2.2.2.2.2.1 K (.iaload, v, a) nx ls st h n k → am_At p l e R s m args below meth c Q mr L D B pc ls st h n k := by
  intro q d0 H locs lsm hd0 hl hH hS hk1 hk2
  obtain ⟨hx, hb, hml, hown, hE, hnm, hRf, hRl, hRc, hRs⟩ := hC
  have hL := hE.1
  have hts : ∀ d0 : Drawn, ∀ w ∈ am_tbl, am_keep w = true → w.before args (s.setDrawn d0) = true := fun d0 w hw hk => (Cond.before_setDrawn args s d0 w).trans (hE.2.1 w hw hk args)
  have hlen : len = 1 := by simpa [am_okI] using hok
  subst hlen
  revert q; dsimp only [am_sem]; split
  · intro q
    rename_i j x r
    obtain ⟨n0, f, hfs, hj, q⟩ := am_ia_out q
    obtain ⟨-, a', cell, hLa, hcell, g1, g2, g3, g4, g5, -⟩ := hH.2.2 x _ hfs
    have hq := hn _ _ _ _ _ q d0 H locs lsm hd0 hl hH hS hk1 hk2
    show W p l e R (s.setDrawn d0) m args below meth c H locs k.1 k.2 Q (F0 m pc lsm (.int j :: L x :: r.map (am_mv L)))
    rw [hLa]
    exact W.iald (s := s.setDrawn d0) hx hb hcell g1 g2 (fun z => z.elim hj.1 (fun z => by have := hj.2; have g3 : n0 ≤ cell.slots.size := g3; omega)) (g5 _ hj.2) rfl rfl hdec hq
  · exact False.elim
set_option maxHeartbeats 4000000 in
theorem am_ss_laload {CT : am_CT} {BT : Nat → am_N} {K : am_K} {v : Value} {a : List Nat} {nx : am_N} {ls st : List Value} {h : am_H} {n : Nat} {k : am_C} (hC : am_Cx p R s m meth c mr L D B d) (hok : am_okI mr pc len (.laload, v, a) = true) (hdec : decode mr.2.1 pc = .ok (.laload, len))
    (hCT : am_Sound l d CT)
    (hend : ∀ (pc : Nat) (v : Option Value) (h : am_H) (n : Nat) (k : am_C) (d0 : Drawn) (H : Heap) (locs : List Loc) (lsm : Array Slot), am_rets mr.2.2.2.2.2.1 v → K v h n → s.drawn.sameBut d0 lw_cs → am_HR s L D B h n H → va_S (fun q => B ≤ q) s.heap H locs → k.1 ≤ mr.2.2.2.2.1.1 → k.2 ≤ mr.2.2.2.2.1.2 → decode mr.2.1 pc = .ok (am_retI mr.2.2.2.2.2.1, 1) → W p l e R (s.setDrawn d0) m args below meth c H locs k.1 k.2 Q (F0 m pc lsm ((v.map (am_mv L)).toList)))
    (hn : ∀ ls st h n k, nx ls st h n k → am_At p l e R s m args below meth c Q mr L D B (pc + len) ls st h n k) (hB : ∀ b ls st h n k t, am_pc mr b = some t → BT b ls st h n k → am_At p l e R s m args below meth c Q mr L D B t ls st h n k) :
    am_sem CT am_dfs BT mr.2.2.2.2.1 mr.2.2.2.2.2.1 K (.laload, v, a) nx ls st h n k → am_At p l e R s m args below meth c Q mr L D B pc ls st h n k := by
  intro q d0 H locs lsm hd0 hl hH hS hk1 hk2
  obtain ⟨hx, hb, hml, hown, hE, hnm, hRf, hRl, hRc, hRs⟩ := hC
  have hL := hE.1
  have hts : ∀ d0 : Drawn, ∀ w ∈ am_tbl, am_keep w = true → w.before args (s.setDrawn d0) = true := fun d0 w hw hk => (Cond.before_setDrawn args s d0 w).trans (hE.2.1 w hw hk args)
  have hlen : len = 1 := by simpa [am_okI] using hok
  subst hlen
  revert q; dsimp only [am_sem]; split
  · intro q
    rename_i j x r
    obtain ⟨n0, f, hfs, hj, q⟩ := am_la_out q
    obtain ⟨-, a', cell, hLa, hcell, g1, g2, g3, g4, g5, -⟩ := hH.2.2 x _ hfs
    have hq := hn _ _ _ _ _ q d0 H locs lsm hd0 hl hH hS hk1 hk2
    show W p l e R (s.setDrawn d0) m args below meth c H locs k.1 k.2 Q (F0 m pc lsm (.int j :: L x :: r.map (am_mv L)))
    rw [hLa]
    exact W.lald (s := s.setDrawn d0) hx hb hcell g1 g2 (fun z => z.elim hj.1 (fun z => by have := hj.2; have g3 : n0 ≤ cell.slots.size := g3; omega)) (g5 _ hj.2) rfl rfl hdec hq
  · exact False.elim
set_option maxHeartbeats 4000000 in
theorem am_ss_daload {CT : am_CT} {BT : Nat → am_N} {K : am_K} {v : Value} {a : List Nat} {nx : am_N} {ls st : List Value} {h : am_H} {n : Nat} {k : am_C} (hC : am_Cx p R s m meth c mr L D B d) (hok : am_okI mr pc len (.daload, v, a) = true) (hdec : decode mr.2.1 pc = .ok (.daload, len))
    (hCT : am_Sound l d CT)
    (hend : ∀ (pc : Nat) (v : Option Value) (h : am_H) (n : Nat) (k : am_C) (d0 : Drawn) (H : Heap) (locs : List Loc) (lsm : Array Slot), am_rets mr.2.2.2.2.2.1 v → K v h n → s.drawn.sameBut d0 lw_cs → am_HR s L D B h n H → va_S (fun q => B ≤ q) s.heap H locs → k.1 ≤ mr.2.2.2.2.1.1 → k.2 ≤ mr.2.2.2.2.1.2 → decode mr.2.1 pc = .ok (am_retI mr.2.2.2.2.2.1, 1) → W p l e R (s.setDrawn d0) m args below meth c H locs k.1 k.2 Q (F0 m pc lsm ((v.map (am_mv L)).toList)))
    (hn : ∀ ls st h n k, nx ls st h n k → am_At p l e R s m args below meth c Q mr L D B (pc + len) ls st h n k) (hB : ∀ b ls st h n k t, am_pc mr b = some t → BT b ls st h n k → am_At p l e R s m args below meth c Q mr L D B t ls st h n k) :
    am_sem CT am_dfs BT mr.2.2.2.2.1 mr.2.2.2.2.2.1 K (.daload, v, a) nx ls st h n k → am_At p l e R s m args below meth c Q mr L D B pc ls st h n k := by
  intro q d0 H locs lsm hd0 hl hH hS hk1 hk2
  obtain ⟨hx, hb, hml, hown, hE, hnm, hRf, hRl, hRc, hRs⟩ := hC
  have hL := hE.1
  have hts : ∀ d0 : Drawn, ∀ w ∈ am_tbl, am_keep w = true → w.before args (s.setDrawn d0) = true := fun d0 w hw hk => (Cond.before_setDrawn args s d0 w).trans (hE.2.1 w hw hk args)
  have hlen : len = 1 := by simpa [am_okI] using hok
  subst hlen
  revert q; dsimp only [am_sem]; split
  · intro q
    rename_i j x r
    obtain ⟨n0, f, hfs, hj, q⟩ := am_da_out q
    obtain ⟨-, a', cell, hLa, hcell, g1, g2, g3, g4, g5, -⟩ := hH.2.2 x _ hfs
    have hq := hn _ _ _ _ _ q d0 H locs lsm hd0 hl hH hS hk1 hk2
    show W p l e R (s.setDrawn d0) m args below meth c H locs k.1 k.2 Q (F0 m pc lsm (.int j :: L x :: r.map (am_mv L)))
    rw [hLa]
    exact W.dald (s := s.setDrawn d0) hx hb hcell g1 g2 (fun z => z.elim hj.1 (fun z => by have := hj.2; have g3 : n0 ≤ cell.slots.size := g3; omega)) (g5 _ hj.2) rfl rfl hdec hq
  · exact False.elim
set_option maxHeartbeats 4000000 in
theorem am_ss_baload {CT : am_CT} {BT : Nat → am_N} {K : am_K} {v : Value} {a : List Nat} {nx : am_N} {ls st : List Value} {h : am_H} {n : Nat} {k : am_C} (hC : am_Cx p R s m meth c mr L D B d) (hok : am_okI mr pc len (.baload, v, a) = true) (hdec : decode mr.2.1 pc = .ok (.baload, len))
    (hCT : am_Sound l d CT)
    (hend : ∀ (pc : Nat) (v : Option Value) (h : am_H) (n : Nat) (k : am_C) (d0 : Drawn) (H : Heap) (locs : List Loc) (lsm : Array Slot), am_rets mr.2.2.2.2.2.1 v → K v h n → s.drawn.sameBut d0 lw_cs → am_HR s L D B h n H → va_S (fun q => B ≤ q) s.heap H locs → k.1 ≤ mr.2.2.2.2.1.1 → k.2 ≤ mr.2.2.2.2.1.2 → decode mr.2.1 pc = .ok (am_retI mr.2.2.2.2.2.1, 1) → W p l e R (s.setDrawn d0) m args below meth c H locs k.1 k.2 Q (F0 m pc lsm ((v.map (am_mv L)).toList)))
    (hn : ∀ ls st h n k, nx ls st h n k → am_At p l e R s m args below meth c Q mr L D B (pc + len) ls st h n k) (hB : ∀ b ls st h n k t, am_pc mr b = some t → BT b ls st h n k → am_At p l e R s m args below meth c Q mr L D B t ls st h n k) :
    am_sem CT am_dfs BT mr.2.2.2.2.1 mr.2.2.2.2.2.1 K (.baload, v, a) nx ls st h n k → am_At p l e R s m args below meth c Q mr L D B pc ls st h n k := by
  intro q d0 H locs lsm hd0 hl hH hS hk1 hk2
  obtain ⟨hx, hb, hml, hown, hE, hnm, hRf, hRl, hRc, hRs⟩ := hC
  have hL := hE.1
  have hts : ∀ d0 : Drawn, ∀ w ∈ am_tbl, am_keep w = true → w.before args (s.setDrawn d0) = true := fun d0 w hw hk => (Cond.before_setDrawn args s d0 w).trans (hE.2.1 w hw hk args)
  simp only [am_okI, Bool.and_eq_true, Bool.or_eq_true, beq_iff_eq] at hok
  obtain ⟨hlen, ht⟩ := hok
  subst hlen
  revert q; dsimp only [am_sem]; split
  · intro q
    rename_i j x r
    obtain ⟨n0, f, hfs, hj, q⟩ := am_ia_out q
    obtain ⟨-, a', cell, hLa, hcell, g1, g2, g3, g4, g5, -⟩ := hH.2.2 x _ hfs
    have g1 : s.isArrayOf cell (am_ty (am_x (.baload, v, a) 0)) := g1
    have hq := hn _ _ _ _ _ q d0 H locs lsm hd0 hl hH hS hk1 hk2
    show W p l e R (s.setDrawn d0) m args below meth c H locs k.1 k.2 Q (F0 m pc lsm (.int j :: L x :: r.map (am_mv L)))
    rw [hLa]
    rcases ht with ht | ht
    · rw [ht] at g1
      exact W.zald (s := s.setDrawn d0) hx hb hcell g1 g2 (fun z => z.elim hj.1 (fun z => by have := hj.2; have g3 : n0 ≤ cell.slots.size := g3; omega)) (g5 _ hj.2) rfl rfl hdec hq
    · rw [ht] at g1
      exact W.bald (s := s.setDrawn d0) hx hb hcell g1 g2 (fun z => z.elim hj.1 (fun z => by have := hj.2; have g3 : n0 ≤ cell.slots.size := g3; omega)) (g5 _ hj.2) rfl rfl hdec hq
  · exact False.elim
set_option maxHeartbeats 4000000 in
theorem am_ss_aaload {CT : am_CT} {BT : Nat → am_N} {K : am_K} {v : Value} {a : List Nat} {nx : am_N} {ls st : List Value} {h : am_H} {n : Nat} {k : am_C} (hC : am_Cx p R s m meth c mr L D B d) (hok : am_okI mr pc len (.aaload, v, a) = true) (hdec : decode mr.2.1 pc = .ok (.aaload, len))
    (hCT : am_Sound l d CT)
    (hend : ∀ (pc : Nat) (v : Option Value) (h : am_H) (n : Nat) (k : am_C) (d0 : Drawn) (H : Heap) (locs : List Loc) (lsm : Array Slot), am_rets mr.2.2.2.2.2.1 v → K v h n → s.drawn.sameBut d0 lw_cs → am_HR s L D B h n H → va_S (fun q => B ≤ q) s.heap H locs → k.1 ≤ mr.2.2.2.2.1.1 → k.2 ≤ mr.2.2.2.2.1.2 → decode mr.2.1 pc = .ok (am_retI mr.2.2.2.2.2.1, 1) → W p l e R (s.setDrawn d0) m args below meth c H locs k.1 k.2 Q (F0 m pc lsm ((v.map (am_mv L)).toList)))
    (hn : ∀ ls st h n k, nx ls st h n k → am_At p l e R s m args below meth c Q mr L D B (pc + len) ls st h n k) (hB : ∀ b ls st h n k t, am_pc mr b = some t → BT b ls st h n k → am_At p l e R s m args below meth c Q mr L D B t ls st h n k) :
    am_sem CT am_dfs BT mr.2.2.2.2.1 mr.2.2.2.2.2.1 K (.aaload, v, a) nx ls st h n k → am_At p l e R s m args below meth c Q mr L D B pc ls st h n k := by
  intro q d0 H locs lsm hd0 hl hH hS hk1 hk2
  obtain ⟨hx, hb, hml, hown, hE, hnm, hRf, hRl, hRc, hRs⟩ := hC
  have hL := hE.1
  have hts : ∀ d0 : Drawn, ∀ w ∈ am_tbl, am_keep w = true → w.before args (s.setDrawn d0) = true := fun d0 w hw hk => (Cond.before_setDrawn args s d0 w).trans (hE.2.1 w hw hk args)
  simp only [am_okI, Bool.and_eq_true, beq_iff_eq] at hok
  obtain ⟨hlen, ht⟩ := hok
  subst hlen
  revert q; dsimp only [am_sem]; split
  · intro q
    rename_i j x r
    obtain ⟨n0, f, hfs, hj, q⟩ := am_qa_out q
    obtain ⟨-, a', cell, hLa, hcell, g1, g2, g3, g4, g5, -⟩ := hH.2.2 x _ hfs
    have hq := hn _ _ _ _ _ q d0 H locs lsm hd0 hl hH hS hk1 hk2
    show W p l e R (s.setDrawn d0) m args below meth c H locs k.1 k.2 Q (F0 m pc lsm (.int j :: L x :: r.map (am_mv L)))
    rw [hLa]
    exact W.aald (s := s.setDrawn d0) hx hb hcell g1 ht g2 (fun z => z.elim hj.1 (fun z => by have := hj.2; have g3 : n0 ≤ cell.slots.size := g3; omega)) (g5 _ hj.2) rfl rfl hdec hq
  · exact False.elim
set_option maxHeartbeats 4000000 in
theorem am_ss_iastore {CT : am_CT} {BT : Nat → am_N} {K : am_K} {v : Value} {a : List Nat} {nx : am_N} {ls st : List Value} {h : am_H} {n : Nat} {k : am_C} (hC : am_Cx p R s m meth c mr L D B d) (hok : am_okI mr pc len (.iastore, v, a) = true) (hdec : decode mr.2.1 pc = .ok (.iastore, len))
    (hCT : am_Sound l d CT)
    (hend : ∀ (pc : Nat) (v : Option Value) (h : am_H) (n : Nat) (k : am_C) (d0 : Drawn) (H : Heap) (locs : List Loc) (lsm : Array Slot), am_rets mr.2.2.2.2.2.1 v → K v h n → s.drawn.sameBut d0 lw_cs → am_HR s L D B h n H → va_S (fun q => B ≤ q) s.heap H locs → k.1 ≤ mr.2.2.2.2.1.1 → k.2 ≤ mr.2.2.2.2.1.2 → decode mr.2.1 pc = .ok (am_retI mr.2.2.2.2.2.1, 1) → W p l e R (s.setDrawn d0) m args below meth c H locs k.1 k.2 Q (F0 m pc lsm ((v.map (am_mv L)).toList)))
    (hn : ∀ ls st h n k, nx ls st h n k → am_At p l e R s m args below meth c Q mr L D B (pc + len) ls st h n k) (hB : ∀ b ls st h n k t, am_pc mr b = some t → BT b ls st h n k → am_At p l e R s m args below meth c Q mr L D B t ls st h n k) :
    am_sem CT am_dfs BT mr.2.2.2.2.1 mr.2.2.2.2.2.1 K (.iastore, v, a) nx ls st h n k → am_At p l e R s m args below meth c Q mr L D B pc ls st h n k := by
  intro q d0 H locs lsm hd0 hl hH hS hk1 hk2
  obtain ⟨hx, hb, hml, hown, hE, hnm, hRf, hRl, hRc, hRs⟩ := hC
  have hL := hE.1
  have hts : ∀ d0 : Drawn, ∀ w ∈ am_tbl, am_keep w = true → w.before args (s.setDrawn d0) = true := fun d0 w hw hk => (Cond.before_setDrawn args s d0 w).trans (hE.2.1 w hw hk args)
  have hlen : len = 1 := by simpa [am_okI] using hok
  subst hlen
  revert q; dsimp only [am_sem]; split
  · intro q
    rename_i w j x r
    obtain ⟨n0, f, hfs, h64, hj, q⟩ := am_ia_out q
    obtain ⟨-, a', cell, hLa, hcell, hA⟩ := hH.2.2 x _ hfs
    obtain ⟨g1, g2, g3, -⟩ := id hA
    show W p l e R (s.setDrawn d0) m args below meth c H locs k.1 k.2 Q (F0 m pc lsm (_ :: .int j :: L x :: r.map (am_mv L)))
    rw [hLa]
    refine W.iast (s := s.setDrawn d0) hx hb hcell g1 g2 (fun z => z.elim hj.1 (fun z => by have := hj.2; have g3 : n0 ≤ cell.slots.size := g3; omega)) rfl rfl hdec (fun H1 e1 e2 e3 => ?_)
    obtain ⟨hH1, hS1⟩ := am_s_stored (w := .int w) (x' := am_xi (va_up f j.toNatClampNeg w)) hE hH hS h64 hfs hLa hA hj.2 (fun i _ => by
      simp only [am_el, va_up]
      by_cases z : i = j.toNatClampNeg <;> simp [z]) e1 e2 e3
    exact hn _ _ _ _ _ q d0 H1 _ lsm hd0 hl hH1 hS1 hk1 hk2
  · exact False.elim
set_option maxHeartbeats 4000000 in
theorem am_ss_lastore {CT : am_CT} {BT : Nat → am_N} {K : am_K} {v : Value} {a : List Nat} {nx : am_N} {ls st : List Value} {h : am_H} {n : Nat} {k : am_C} (hC : am_Cx p R s m meth c mr L D B d) (hok : am_okI mr pc len (.lastore, v, a) = true) (hdec : decode mr.2.1 pc = .ok (.lastore, len))
    (hCT : am_Sound l d CT)
    (hend : ∀ (pc : Nat) (v : Option Value) (h : am_H) (n : Nat) (k : am_C) (d0 : Drawn) (H : Heap) (locs : List Loc) (lsm : Array Slot), am_rets mr.2.2.2.2.2.1 v → K v h n → s.drawn.sameBut d0 lw_cs → am_HR s L D B h n H → va_S (fun q => B ≤ q) s.heap H locs → k.1 ≤ mr.2.2.2.2.1.1 → k.2 ≤ mr.2.2.2.2.1.2 → decode mr.2.1 pc = .ok (am_retI mr.2.2.2.2.2.1, 1) → W p l e R (s.setDrawn d0) m args below meth c H locs k.1 k.2 Q (F0 m pc lsm ((v.map (am_mv L)).toList)))
    (hn : ∀ ls st h n k, nx ls st h n k → am_At p l e R s m args below meth c Q mr L D B (pc + len) ls st h n k) (hB : ∀ b ls st h n k t, am_pc mr b = some t → BT b ls st h n k → am_At p l e R s m args below meth c Q mr L D B t ls st h n k) :
    am_sem CT am_dfs BT mr.2.2.2.2.1 mr.2.2.2.2.2.1 K (.lastore, v, a) nx ls st h n k → am_At p l e R s m args below meth c Q mr L D B pc ls st h n k := by
  intro q d0 H locs lsm hd0 hl hH hS hk1 hk2
  obtain ⟨hx, hb, hml, hown, hE, hnm, hRf, hRl, hRc, hRs⟩ := hC
  have hL := hE.1
  have hts : ∀ d0 : Drawn, ∀ w ∈ am_tbl, am_keep w = true → w.before args (s.setDrawn d0) = true := fun d0 w hw hk => (Cond.before_setDrawn args s d0 w).trans (hE.2.1 w hw hk args)
  have hlen : len = 1 := by simpa [am_okI] using hok
  subst hlen
  revert q; dsimp only [am_sem]; split
  · intro q
    rename_i w j x r
    obtain ⟨n0, f, hfs, h64, hj, q⟩ := am_la_out q
    obtain ⟨-, a', cell, hLa, hcell, hA⟩ := hH.2.2 x _ hfs
    obtain ⟨g1, g2, g3, -⟩ := id hA
    show W p l e R (s.setDrawn d0) m args below meth c H locs k.1 k.2 Q (F0 m pc lsm (_ :: .int j :: L x :: r.map (am_mv L)))
    rw [hLa]
    refine W.last (s := s.setDrawn d0) hx hb hcell g1 g2 (fun z => z.elim hj.1 (fun z => by have := hj.2; have g3 : n0 ≤ cell.slots.size := g3; omega)) rfl rfl hdec (fun H1 e1 e2 e3 => ?_)
    obtain ⟨hH1, hS1⟩ := am_s_stored (w := .long w) (x' := am_xl (va_up f j.toNatClampNeg w)) hE hH hS h64 hfs hLa hA hj.2 (fun i _ => by
      simp only [am_el, va_up]
      by_cases z : i = j.toNatClampNeg <;> simp [z]) e1 e2 e3
    exact hn _ _ _ _ _ q d0 H1 _ lsm hd0 hl hH1 hS1 hk1 hk2
  · exact False.elim
set_option maxHeartbeats 4000000 in
theorem am_ss_dastore {CT : am_CT} {BT : Nat → am_N} {K : am_K} {v : Value} {a : List Nat} {nx : am_N} {ls st : List Value} {h : am_H} {n : Nat} {k : am_C} (hC : am_Cx p R s m meth c mr L D B d) (hok : am_okI mr pc len (.dastore, v, a) = true) (hdec : decode mr.2.1 pc = .ok (.dastore, len))
    (hCT : am_Sound l d CT)
    (hend : ∀ (pc : Nat) (v : Option Value) (h : am_H) (n : Nat) (k : am_C) (d0 : Drawn) (H : Heap) (locs : List Loc) (lsm : Array Slot), am_rets mr.2.2.2.2.2.1 v → K v h n → s.drawn.sameBut d0 lw_cs → am_HR s L D B h n H → va_S (fun q => B ≤ q) s.heap H locs → k.1 ≤ mr.2.2.2.2.1.1 → k.2 ≤ mr.2.2.2.2.1.2 → decode mr.2.1 pc = .ok (am_retI mr.2.2.2.2.2.1, 1) → W p l e R (s.setDrawn d0) m args below meth c H locs k.1 k.2 Q (F0 m pc lsm ((v.map (am_mv L)).toList)))
    (hn : ∀ ls st h n k, nx ls st h n k → am_At p l e R s m args below meth c Q mr L D B (pc + len) ls st h n k) (hB : ∀ b ls st h n k t, am_pc mr b = some t → BT b ls st h n k → am_At p l e R s m args below meth c Q mr L D B t ls st h n k) :
    am_sem CT am_dfs BT mr.2.2.2.2.1 mr.2.2.2.2.2.1 K (.dastore, v, a) nx ls st h n k → am_At p l e R s m args below meth c Q mr L D B pc ls st h n k := by
  intro q d0 H locs lsm hd0 hl hH hS hk1 hk2
  obtain ⟨hx, hb, hml, hown, hE, hnm, hRf, hRl, hRc, hRs⟩ := hC
  have hL := hE.1
  have hts : ∀ d0 : Drawn, ∀ w ∈ am_tbl, am_keep w = true → w.before args (s.setDrawn d0) = true := fun d0 w hw hk => (Cond.before_setDrawn args s d0 w).trans (hE.2.1 w hw hk args)
  have hlen : len = 1 := by simpa [am_okI] using hok
  subst hlen
  revert q; dsimp only [am_sem]; split
  · intro q
    rename_i w j x r
    obtain ⟨n0, f, hfs, h64, hj, q⟩ := am_da_out q
    obtain ⟨-, a', cell, hLa, hcell, hA⟩ := hH.2.2 x _ hfs
    obtain ⟨g1, g2, g3, -⟩ := id hA
    show W p l e R (s.setDrawn d0) m args below meth c H locs k.1 k.2 Q (F0 m pc lsm (_ :: .int j :: L x :: r.map (am_mv L)))
    rw [hLa]
    refine W.dast (s := s.setDrawn d0) hx hb hcell g1 g2 (fun z => z.elim hj.1 (fun z => by have := hj.2; have g3 : n0 ≤ cell.slots.size := g3; omega)) rfl rfl hdec (fun H1 e1 e2 e3 => ?_)
    obtain ⟨hH1, hS1⟩ := am_s_stored (w := .double w) (x' := am_xd (va_up f j.toNatClampNeg w)) hE hH hS h64 hfs hLa hA hj.2 (fun i _ => by
      simp only [am_el, va_up]
      by_cases z : i = j.toNatClampNeg <;> simp [z]) e1 e2 e3
    exact hn _ _ _ _ _ q d0 H1 _ lsm hd0 hl hH1 hS1 hk1 hk2
  · exact False.elim
set_option maxHeartbeats 4000000 in
theorem am_ss_bastore {CT : am_CT} {BT : Nat → am_N} {K : am_K} {v : Value} {a : List Nat} {nx : am_N} {ls st : List Value} {h : am_H} {n : Nat} {k : am_C} (hC : am_Cx p R s m meth c mr L D B d) (hok : am_okI mr pc len (.bastore, v, a) = true) (hdec : decode mr.2.1 pc = .ok (.bastore, len))
    (hCT : am_Sound l d CT)
    (hend : ∀ (pc : Nat) (v : Option Value) (h : am_H) (n : Nat) (k : am_C) (d0 : Drawn) (H : Heap) (locs : List Loc) (lsm : Array Slot), am_rets mr.2.2.2.2.2.1 v → K v h n → s.drawn.sameBut d0 lw_cs → am_HR s L D B h n H → va_S (fun q => B ≤ q) s.heap H locs → k.1 ≤ mr.2.2.2.2.1.1 → k.2 ≤ mr.2.2.2.2.1.2 → decode mr.2.1 pc = .ok (am_retI mr.2.2.2.2.2.1, 1) → W p l e R (s.setDrawn d0) m args below meth c H locs k.1 k.2 Q (F0 m pc lsm ((v.map (am_mv L)).toList)))
    (hn : ∀ ls st h n k, nx ls st h n k → am_At p l e R s m args below meth c Q mr L D B (pc + len) ls st h n k) (hB : ∀ b ls st h n k t, am_pc mr b = some t → BT b ls st h n k → am_At p l e R s m args below meth c Q mr L D B t ls st h n k) :
    am_sem CT am_dfs BT mr.2.2.2.2.1 mr.2.2.2.2.2.1 K (.bastore, v, a) nx ls st h n k → am_At p l e R s m args below meth c Q mr L D B pc ls st h n k := by
  intro q d0 H locs lsm hd0 hl hH hS hk1 hk2
  obtain ⟨hx, hb, hml, hown, hE, hnm, hRf, hRl, hRc, hRs⟩ := hC
  have hL := hE.1
  have hts : ∀ d0 : Drawn, ∀ w ∈ am_tbl, am_keep w = true → w.before args (s.setDrawn d0) = true := fun d0 w hw hk => (Cond.before_setDrawn args s d0 w).trans (hE.2.1 w hw hk args)
  simp only [am_okI, Bool.and_eq_true, Bool.or_eq_true, beq_iff_eq] at hok
  obtain ⟨hlen, ht⟩ := hok
  subst hlen
  revert q; dsimp only [am_sem]; split
  · intro q
    rename_i w j x r
    obtain ⟨n0, f, hfs, h64, hj, hw, q⟩ := am_ia_out q
    obtain ⟨-, a', cell, hLa, hcell, hA⟩ := hH.2.2 x _ hfs
    obtain ⟨g1, g2, g3, -⟩ := id hA
    have g1 : s.isArrayOf cell (am_ty (am_x (.bastore, v, a) 0)) := g1
    have g3 : n0 ≤ cell.slots.size := g3
    show W p l e R (s.setDrawn d0) m args below meth c H locs k.1 k.2 Q (F0 m pc lsm (_ :: .int j :: L x :: r.map (am_mv L)))
    rw [hLa]
    have fin : ∀ (H1 : Heap), H1[a']? = some (cell.setSlot j.toNatClampNeg (am_mv L (.int (if am_x (.bastore, v, a) 0 = 3 then w else w.toInt8.toInt32)))) → H1.size = H.size → (∀ q, q ≠ a' → H1[q]? = H[q]?) → W p l e R (s.setDrawn d0) m args below meth c H1 (locs ++ [⟨a', j.toNatClampNeg⟩]) k.1 k.2 Q (F0 m (pc + 1) lsm (r.map (am_mv L))) := fun H1 e1 e2 e3 => by
      obtain ⟨hH1, hS1⟩ := am_s_stored (w := .int (if am_x (.bastore, v, a) 0 = 3 then w else w.toInt8.toInt32)) (x' := am_xi (va_up f j.toNatClampNeg (if am_x (.bastore, v, a) 0 = 3 then w else w.toInt8.toInt32))) hE hH hS h64 hfs hLa hA hj.2 (fun i _ => by
        simp only [am_el, va_up]
        by_cases z : i = j.toNatClampNeg <;> simp [z]) e1 e2 e3
      exact hn _ _ _ _ _ q d0 H1 _ lsm hd0 hl hH1 hS1 hk1 hk2
    rcases ht with ht | ht
    · rw [ht] at g1 hw fin
      refine W.zast (s := s.setDrawn d0) hx hb hcell g1 g2 (fun z => z.elim hj.1 (fun z => by have := hj.2; omega)) rfl rfl hdec (fun H1 e1 e2 e3 => fin H1 ?_ e2 e3)
      rw [if_pos rfl, e1]
      rcases hw rfl with hw | hw <;> subst hw <;> rfl
    · rw [ht] at g1 fin
      refine W.bast (s := s.setDrawn d0) hx hb hcell g1 g2 (fun z => z.elim hj.1 (fun z => by have := hj.2; omega)) rfl rfl hdec (fun H1 e1 e2 e3 => fin H1 ?_ e2 e3)
      rw [if_neg (by decide), e1]
      rfl
  · exact False.elim
set_option maxHeartbeats 4000000 in
theorem am_ss_aastore {CT : am_CT} {BT : Nat → am_N} {K : am_K} {v : Value} {a : List Nat} {nx : am_N} {ls st : List Value} {h : am_H} {n : Nat} {k : am_C} (hC : am_Cx p R s m meth c mr L D B d) (hok : am_okI mr pc len (.aastore, v, a) = true) (hdec : decode mr.2.1 pc = .ok (.aastore, len))
    (hCT : am_Sound l d CT)
    (hend : ∀ (pc : Nat) (v : Option Value) (h : am_H) (n : Nat) (k : am_C) (d0 : Drawn) (H : Heap) (locs : List Loc) (lsm : Array Slot), am_rets mr.2.2.2.2.2.1 v → K v h n → s.drawn.sameBut d0 lw_cs → am_HR s L D B h n H → va_S (fun q => B ≤ q) s.heap H locs → k.1 ≤ mr.2.2.2.2.1.1 → k.2 ≤ mr.2.2.2.2.1.2 → decode mr.2.1 pc = .ok (am_retI mr.2.2.2.2.2.1, 1) → W p l e R (s.setDrawn d0) m args below meth c H locs k.1 k.2 Q (F0 m pc lsm ((v.map (am_mv L)).toList)))
    (hn : ∀ ls st h n k, nx ls st h n k → am_At p l e R s m args below meth c Q mr L D B (pc + len) ls st h n k) (hB : ∀ b ls st h n k t, am_pc mr b = some t → BT b ls st h n k → am_At p l e R s m args below meth c Q mr L D B t ls st h n k) :
    am_sem CT am_dfs BT mr.2.2.2.2.1 mr.2.2.2.2.2.1 K (.aastore, v, a) nx ls st h n k → am_At p l e R s m args below meth c Q mr L D B pc ls st h n k := by
  intro q d0 H locs lsm hd0 hl hH hS hk1 hk2
  obtain ⟨hx, hb, hml, hown, hE, hnm, hRf, hRl, hRc, hRs⟩ := hC
  have hL := hE.1
  have hts : ∀ d0 : Drawn, ∀ w ∈ am_tbl, am_keep w = true → w.before args (s.setDrawn d0) = true := fun d0 w hw hk => (Cond.before_setDrawn args s d0 w).trans (hE.2.1 w hw hk args)
  simp only [am_okI, Bool.and_eq_true, beq_iff_eq, decide_eq_true_eq] at hok
  obtain ⟨⟨hlen, h1⟩, h2⟩ := hok
  subst hlen
  revert q; dsimp only [am_sem]; split
  · intro q
    rename_i w j x r
    obtain ⟨n0, f, hfs, h64, hj, q⟩ := am_qa_out q
    obtain ⟨fs, hws, q⟩ := am_oa_out q
    obtain ⟨-, a', cell, hLa, hcell, hA⟩ := hH.2.2 x _ hfs
    obtain ⟨g1, g2, g3, g4, g5, g6, g7⟩ := id hA
    obtain ⟨-, w', cv, hLw, hcv, rr, hrr, hcls, hvm, hnst, -, -⟩ := hH.2.2 w _ hws
    have er : rr = vwCl.getD (am_x (.aastore, v, a) 1) am_cdf := Option.some.inj (hrr.symm.trans (am_cls_get _ h1))
    subst er
    obtain ⟨kA, comp, k1, k2, k3⟩ := g7 _ h2 h64
    have hcl := (hE.2.2.1.1 _ _ hrr).2
    have hcomp : comp = D.1 (am_x (.aastore, v, a) 1) := Option.some.inj (k3.symm.trans hcl.1)
    subst hcomp
    obtain ⟨kC, hkC, -⟩ := hcl.2
    show W p l e R (s.setDrawn d0) m args below meth c H locs k.1 k.2 Q (F0 m pc lsm (L w :: .int j :: L x :: r.map (am_mv L)))
    rw [hLa, hLw]
    refine W.aast (s := s.setDrawn d0) hx hb hcell g1.1 g2 k1 k2 rfl hkC ⟨hj.1, by have := hj.2; have g3 : n0 ≤ cell.slots.size := g3; omega⟩ hcv (fun q h => by rw [h] at hnst; cases hnst) (by rw [hcls]; exact hkC) (by rw [hcls]; exact va_assign hcl) rfl rfl hdec (fun H1 e1 e2 e3 => ?_)
    rw [← hLw] at e1
    obtain ⟨hH1, hS1⟩ := am_s_stored (w := .ref w) (x' := am_xq (va_up f j.toNatClampNeg (some w))) hE hH hS h64 hfs hLa hA hj.2 (fun i _ => by
      simp only [am_el, va_up]
      by_cases z : i = j.toNatClampNeg <;> simp [z, va_rf]) e1 e2 e3
    exact hn _ _ _ _ _ q d0 H1 _ lsm hd0 hl hH1 hS1 hk1 hk2
  · exact False.elim
set_option maxHeartbeats 4000000 in
theorem am_ss_checkcast {CT : am_CT} {BT : Nat → am_N} {K : am_K} {z} {v : Value} {a : List Nat} {nx : am_N} {ls st : List Value} {h : am_H} {n : Nat} {k : am_C} (hC : am_Cx p R s m meth c mr L D B d) (hok : am_okI mr pc len (.checkcast z, v, a) = true) (hdec : decode mr.2.1 pc = .ok (.checkcast z, len))
    (hCT : am_Sound l d CT)
    (hend : ∀ (pc : Nat) (v : Option Value) (h : am_H) (n : Nat) (k : am_C) (d0 : Drawn) (H : Heap) (locs : List Loc) (lsm : Array Slot), am_rets mr.2.2.2.2.2.1 v → K v h n → s.drawn.sameBut d0 lw_cs → am_HR s L D B h n H → va_S (fun q => B ≤ q) s.heap H locs → k.1 ≤ mr.2.2.2.2.1.1 → k.2 ≤ mr.2.2.2.2.1.2 → decode mr.2.1 pc = .ok (am_retI mr.2.2.2.2.2.1, 1) → W p l e R (s.setDrawn d0) m args below meth c H locs k.1 k.2 Q (F0 m pc lsm ((v.map (am_mv L)).toList)))
    (hn : ∀ ls st h n k, nx ls st h n k → am_At p l e R s m args below meth c Q mr L D B (pc + len) ls st h n k) (hB : ∀ b ls st h n k t, am_pc mr b = some t → BT b ls st h n k → am_At p l e R s m args below meth c Q mr L D B t ls st h n k) :
    am_sem CT am_dfs BT mr.2.2.2.2.1 mr.2.2.2.2.2.1 K (.checkcast z, v, a) nx ls st h n k → am_At p l e R s m args below meth c Q mr L D B pc ls st h n k := by
  intro q d0 H locs lsm hd0 hl hH hS hk1 hk2
  obtain ⟨hx, hb, hml, hown, hE, hnm, hRf, hRl, hRc, hRs⟩ := hC
  have hL := hE.1
  have hts : ∀ d0 : Drawn, ∀ w ∈ am_tbl, am_keep w = true → w.before args (s.setDrawn d0) = true := fun d0 w hw hk => (Cond.before_setDrawn args s d0 w).trans (hE.2.1 w hw hk args)
  simp only [am_okI, Bool.and_eq_true, beq_iff_eq] at hok
  obtain ⟨hlen, h1⟩ := hok
  subst hlen
  revert q; dsimp only [am_sem]; split
  · intro q
    rename_i x r
    obtain ⟨n0, f, hfs, h64, q⟩ := am_ia_out q
    obtain ⟨-, a', cell, hLa, hcell, g1, g2, g3, g4, g5, g6, g7⟩ := hH.2.2 x _ hfs
    have hnm : s.vm.findClass "[B" = some cell.cls := (g6 h64).2.2
    have hq := hn _ _ _ _ _ q d0 H locs lsm hd0 hl hH hS hk1 hk2
    have hq : W p l e R (s.setDrawn d0) m args below meth c H locs k.1 k.2 Q (F0 m (pc + 3) lsm (L x :: r.map (am_mv L))) := hq
    show W p l e R (s.setDrawn d0) m args below meth c H locs k.1 k.2 Q (F0 m pc lsm (L x :: r.map (am_mv L)))
    rw [hLa] at hq ⊢
    intro T hT X
    obtain ⟨vm', X', st'⟩ := X.checkcastYes hx hown (am_W_use (hts d0) h1) (by rw [hT]; exact hcell) (by rw [(g6 h64).1]; rfl) hnm (va_asg _ _) (g := F0 m pc lsm (.ref a' :: r.map (am_mv L))) rfl rfl (by rw [hb]; exact hdec)
    obtain ⟨t, a1, b1⟩ := hq (T.setVm vm') hT X'
    exact ⟨t, st' t a1, b1⟩
  · exact False.elim
set_option maxHeartbeats 4000000 in
theorem am_ss_invokestatic {CT : am_CT} {BT : Nat → am_N} {K : am_K} {z} {v : Value} {a : List Nat} {nx : am_N} {ls st : List Value} {h : am_H} {n : Nat} {k : am_C} (hC : am_Cx p R s m meth c mr L D B d) (hok : am_okI mr pc len (.invokestatic z, v, a) = true) (hdec : decode mr.2.1 pc = .ok (.invokestatic z, len))
    (hCT : am_Sound l d CT)
    (hend : ∀ (pc : Nat) (v : Option Value) (h : am_H) (n : Nat) (k : am_C) (d0 : Drawn) (H : Heap) (locs : List Loc) (lsm : Array Slot), am_rets mr.2.2.2.2.2.1 v → K v h n → s.drawn.sameBut d0 lw_cs → am_HR s L D B h n H → va_S (fun q => B ≤ q) s.heap H locs → k.1 ≤ mr.2.2.2.2.1.1 → k.2 ≤ mr.2.2.2.2.1.2 → decode mr.2.1 pc = .ok (am_retI mr.2.2.2.2.2.1, 1) → W p l e R (s.setDrawn d0) m args below meth c H locs k.1 k.2 Q (F0 m pc lsm ((v.map (am_mv L)).toList)))
    (hn : ∀ ls st h n k, nx ls st h n k → am_At p l e R s m args below meth c Q mr L D B (pc + len) ls st h n k) (hB : ∀ b ls st h n k t, am_pc mr b = some t → BT b ls st h n k → am_At p l e R s m args below meth c Q mr L D B t ls st h n k) :
    am_sem CT am_dfs BT mr.2.2.2.2.1 mr.2.2.2.2.2.1 K (.invokestatic z, v, a) nx ls st h n k → am_At p l e R s m args below meth c Q mr L D B pc ls st h n k := by
  intro q d0 H locs lsm hd0 hl hH hS hk1 hk2
  obtain ⟨hx, hb, hml, hown, hE, hnm, hRf, hRl, hRc, hRs⟩ := hC
  have hL := hE.1
  have hts : ∀ d0 : Drawn, ∀ w ∈ am_tbl, am_keep w = true → w.before args (s.setDrawn d0) = true := fun d0 w hw hk => (Cond.before_setDrawn args s d0 w).trans (hE.2.1 w hw hk args)
  simp only [am_okI, Bool.and_eq_true, beq_iff_eq] at hok
  obtain ⟨hlen, hok⟩ := hok
  subst hlen
  revert q; dsimp only [am_sem]
  split
  · rename_i k8
    rw [k8] at hok
    simp only [Bool.and_eq_true, Bool.or_eq_true, beq_iff_eq] at hok
    obtain ⟨⟨⟨⟨ht, w6⟩, w7⟩, w8⟩, w9⟩ := hok
    split
    · intro q
      rename_i kk dp dd sp aa r
      obtain ⟨h1, h2, h3, hr, q⟩ := q
      obtain ⟨n0, f, hfa, q⟩ := am_ia_out q
      obtain ⟨n1, g, hfd, h64, h4, h5, hfit, q⟩ := am_ia_out q
      have hsum := am_mv_sum hL r
      have hw5 : nativeFrameWords "java/lang/System" "arraycopy" 5 ≤ 40 := by decide
      exact am_s_copy hE hx hb (hml.trans hl.1.symm) hown hH hS (am_W_use (hts d0) w6) (am_W_use (hts d0) w7) (am_W_use (hts d0) w8) (am_W_use (hts d0) w9) ht hfa hfd h64 h1 h2 h3 h4 h5 hfit (by omega) (by omega) hdec (fun H1 locs1 hH1 hS1 => hn _ _ _ _ _ q d0 H1 locs1 lsm hd0 hl hH1 hS1 hk1 hk2)
    · exact False.elim
  · rename_i n8
    split
    · rename_i k9
      rw [k9] at hok
      simp only [Bool.and_eq_true] at hok
      obtain ⟨⟨⟨w6, w7⟩, w8⟩, w9⟩ := hok
      split
      · intro q
        rename_i x r
        have hsum := am_mv_sum hL r
        exact vn_f2i (s := s.setDrawn d0) hx hb (hml.trans hl.1.symm) hown (am_W_use (hts d0) w6) (am_W_use (hts d0) w7) (am_W_use (hts d0) w8) (am_W_use (hts d0) w9) (by omega) (by have := q.1; omega) hdec (hn _ _ _ _ _ q.2 d0 H locs lsm hd0 hl hH hS hk1 hk2)
      · exact False.elim
    · rename_i n9
      intro q
      obtain ⟨as, r, est, elen, hr, hb0⟩ := am_pop_out q
      rw [List.append_nil] at hb0
      obtain ⟨hF, l1, l2⟩ := am_b0_out hb0 hk1 hk2
      have hsum := am_mv_sum hL r
      have hstk : st.map (am_mv L) = (as.map (am_mv L)).reverse ++ r.map (am_mv L) := by rw [est]; simp
      rw [hstk]
      revert hok; split
      · rename_i k0
        intro hok
        simp only [Bool.and_eq_true, decide_eq_true_eq] at hok
        obtain ⟨⟨⟨⟨w0, w6⟩, w7⟩, w8⟩, w9⟩ := hok
        obtain ⟨e1, e2, e3, e4, e5⟩ := am_okC_out w0
        rw [← e1, ← e2] at hF
        rw [← e1] at l1
        rw [← e2] at l2
        refine am_callD hd0 (va_runS_D (s := s.setDrawn d0) (Ts := []) ⟨hx, hb, hml, hown, fun _ h => by cases h⟩ (hCT _ _ _ _ _ hF L D B) ⟨am_callB hE hRf hRl e3 e4 e5 (am_W_mem w9) (am_W_use (hts d0) w8) (am_W_use (hts d0) w6), (am_W_use (hts d0) w7)⟩ (am_pre (s := s) hE hH hS) rfl (by rw [List.length_map]; exact elen) hl.1 rfl (lv_room (by omega)) hdec ⟨Nat.le_trans l1 hRc, Nat.le_trans l2 hRs⟩) hS (fun vv h' n' H1 locs1 d1 hrt hK hH1 hS1 hd1 => ?_)
        have := hn _ _ _ _ _ hK d1 H1 locs1 lsm hd1 hl hH1 hS1 l1 l2
        rw [← am_psh_map] at this
        exact this
      · rename_i k0
        intro hok
        simp only [Bool.and_eq_true, decide_eq_true_eq] at hok
        obtain ⟨⟨⟨⟨w0, w6⟩, w7⟩, w8⟩, w9⟩ := hok
        obtain ⟨e1, e2, e3, e4, e5⟩ := am_okC_out w0
        rw [← e1, ← e2] at hF
        rw [← e1] at l1
        rw [← e2] at l2
        refine am_callD hd0 (va_runSN_D (s := s.setDrawn d0) (Ts := []) ⟨hx, hb, hml, hown, fun _ h => by cases h⟩ (hCT _ _ _ _ _ hF L D B) ⟨am_callN hE hRf hRl e3 e4 e5 (am_W_mem w9) (am_W_use (hts d0) w8) (am_W_use (hts d0) w6), (am_W_use (hts d0) w7), trivial⟩ (am_pre (s := s) hE hH hS) rfl (by rw [List.length_map]; exact elen) hl.1 rfl (lv_room (by omega)) hdec ⟨Nat.le_trans l1 hRc, Nat.le_trans l2 hRs⟩) hS (fun vv h' n' H1 locs1 d1 hrt hK hH1 hS1 hd1 => ?_)
        have := hn _ _ _ _ _ hK d1 H1 locs1 lsm hd1 hl hH1 hS1 l1 l2
        rw [← am_psh_map] at this
        exact this
      · rename_i k8
        exact absurd k8 n8
      · rename_i k9
        exact absurd k9 n9
      · exact fun h => by cases h
set_option maxHeartbeats 4000000 in
theorem am_ss_invokevirtual {CT : am_CT} {BT : Nat → am_N} {K : am_K} {z} {v : Value} {a : List Nat} {nx : am_N} {ls st : List Value} {h : am_H} {n : Nat} {k : am_C} (hC : am_Cx p R s m meth c mr L D B d) (hok : am_okI mr pc len (.invokevirtual z, v, a) = true) (hdec : decode mr.2.1 pc = .ok (.invokevirtual z, len))
    (hCT : am_Sound l d CT)
    (hend : ∀ (pc : Nat) (v : Option Value) (h : am_H) (n : Nat) (k : am_C) (d0 : Drawn) (H : Heap) (locs : List Loc) (lsm : Array Slot), am_rets mr.2.2.2.2.2.1 v → K v h n → s.drawn.sameBut d0 lw_cs → am_HR s L D B h n H → va_S (fun q => B ≤ q) s.heap H locs → k.1 ≤ mr.2.2.2.2.1.1 → k.2 ≤ mr.2.2.2.2.1.2 → decode mr.2.1 pc = .ok (am_retI mr.2.2.2.2.2.1, 1) → W p l e R (s.setDrawn d0) m args below meth c H locs k.1 k.2 Q (F0 m pc lsm ((v.map (am_mv L)).toList)))
    (hn : ∀ ls st h n k, nx ls st h n k → am_At p l e R s m args below meth c Q mr L D B (pc + len) ls st h n k) (hB : ∀ b ls st h n k t, am_pc mr b = some t → BT b ls st h n k → am_At p l e R s m args below meth c Q mr L D B t ls st h n k) :
    am_sem CT am_dfs BT mr.2.2.2.2.1 mr.2.2.2.2.2.1 K (.invokevirtual z, v, a) nx ls st h n k → am_At p l e R s m args below meth c Q mr L D B pc ls st h n k := by
  intro q d0 H locs lsm hd0 hl hH hS hk1 hk2
  obtain ⟨hx, hb, hml, hown, hE, hnm, hRf, hRl, hRc, hRs⟩ := hC
  have hL := hE.1
  have hts : ∀ d0 : Drawn, ∀ w ∈ am_tbl, am_keep w = true → w.before args (s.setDrawn d0) = true := fun d0 w hw hk => (Cond.before_setDrawn args s d0 w).trans (hE.2.1 w hw hk args)
  simp only [am_okI, Bool.and_eq_true, beq_iff_eq] at hok
  obtain ⟨hlen, hok⟩ := hok
  subst hlen
  revert q; dsimp only [am_sem]
  split
  · rename_i k10
    rw [k10] at hok
    simp only [Bool.and_eq_true] at hok
    obtain ⟨⟨⟨⟨⟨w6, w7⟩, w8⟩, w9⟩, w10⟩, w11⟩ := hok
    split
    · intro q
      rename_i aa r
      obtain ⟨hr, q⟩ := q
      obtain ⟨n0, f, hfa, h64, q1, q2, hfit, q⟩ := am_ia_out q
      have hsum := am_mv_sum hL r
      exact am_s_clone hE hx hb (hml.trans hl.1.symm) hown hH hS (am_W_use (hts d0) w6) (am_W_use (hts d0) w7) (am_W_use (hts d0) w8) (am_W_use (hts d0) w9) (am_W_use (hts d0) w10) (am_W_use (hts d0) w11) hfa h64 hfit (by omega) (by omega) (Nat.le_trans q1 hRc) (Nat.le_trans q2 hRs) hdec (fun H1 hH1 hS1 => hn _ _ _ _ _ q d0 H1 locs lsm hd0 hl hH1 hS1 q1 q2)
    · exact False.elim
  · rename_i n10
    intro q
    obtain ⟨as, r, est, elen, q⟩ := am_pop_out q
    rw [List.append_nil] at q
    revert q; split
    · intro q
      rename_i a0 r0
      obtain ⟨fs, hfs, hr, hb0⟩ := am_oa_out q
      obtain ⟨hF, l1, l2⟩ := am_b0_out hb0 hk1 hk2
      have hsum := am_mv_sum hL r0
      obtain ⟨-, a', cell0, hLa, -⟩ := hH.2.2 a0 _ hfs
      have hstk : st.map (am_mv L) = (as.map (am_mv L)).reverse ++ .ref a' :: r0.map (am_mv L) := by rw [est]; simp [am_mv, hLa]
      rw [hstk]
      revert hok; split
      · rename_i k0
        intro hok
        simp only [Bool.and_eq_true, decide_eq_true_eq] at hok
        obtain ⟨⟨⟨⟨⟨⟨w0, h14⟩, w6⟩, w7⟩, w8⟩, w9⟩, w10⟩ := hok
        obtain ⟨e1, e2, e3, e4, e5⟩ := am_okC_out w0
        rw [← e1, ← e2] at hF
        rw [← e1] at l1
        rw [← e2] at l2
        have hr : r0.length ≤ 8 := by rw [k0] at hr; exact hr
        refine am_callD hd0 (am_runV16 (s := s.setDrawn d0) (Ts := []) ⟨hx, hb, hml, hown, fun _ h => by cases h⟩ (hCT _ _ _ _ _ hF L D B) ⟨am_callB hE hRf hRl e3 e4 e5 (am_W_mem w10) (am_W_use (hts d0) w9) (am_W_use (hts d0) w6), (am_W_use (hts d0) w7), (am_W_use (hts d0) w8)⟩ (by have := am_ml (am_x (.invokevirtual z, v, a) 0); show 16 + (_ + 11) + 60 * d ≤ R.locals; omega) (am_preV hE hH hS h14 hfs hLa) rfl (by rw [List.length_map]; exact elen) hl.1 rfl (am_room16 (by omega)) hdec ⟨Nat.le_trans l1 hRc, Nat.le_trans l2 hRs⟩) hS (fun vv h' n' H1 locs1 d1 hrt hK hH1 hS1 hd1 => ?_)
        have := hn _ _ _ _ _ hK d1 H1 locs1 lsm hd1 hl hH1 hS1 l1 l2
        rw [← am_psh_map] at this
        exact this
      · rename_i k0
        intro hok
        simp only [Bool.and_eq_true, decide_eq_true_eq] at hok
        obtain ⟨⟨⟨⟨⟨⟨w0, h14⟩, w6⟩, w7⟩, w8⟩, w9⟩, w10⟩ := hok
        obtain ⟨e1, e2, e3, e4, e5⟩ := am_okC_out w0
        rw [← e1, ← e2] at hF
        rw [← e1] at l1
        rw [← e2] at l2
        have hr : r0.length ≤ 4 := by rw [k0] at hr; exact hr
        refine am_callD hd0 (va_runVN_D (s := s.setDrawn d0) (Ts := []) ⟨hx, hb, hml, hown, fun _ h => by cases h⟩ (hCT _ _ _ _ _ hF L D B) ⟨am_callN hE hRf hRl e3 e4 e5 (am_W_mem w10) (am_W_use (hts d0) w9) (am_W_use (hts d0) w6), (am_W_use (hts d0) w7), (am_W_use (hts d0) w8)⟩ (am_preV hE hH hS h14 hfs hLa) rfl (by rw [List.length_map]; exact elen) hl.1 rfl (lv_room (by omega)) hdec ⟨Nat.le_trans l1 hRc, Nat.le_trans l2 hRs⟩) hS (fun vv h' n' H1 locs1 d1 hrt hK hH1 hS1 hd1 => ?_)
        have := hn _ _ _ _ _ hK d1 H1 locs1 lsm hd1 hl hH1 hS1 l1 l2
        rw [← am_psh_map] at this
        exact this
      · rename_i k0
        intro hok
        simp only [Bool.and_eq_true, decide_eq_true_eq] at hok
        obtain ⟨⟨⟨⟨⟨w0, h14⟩, wx⟩, w10⟩, w11⟩, w12⟩ := hok
        have hr : r0.length ≤ 4 := by rw [k0] at hr; exact hr
        obtain ⟨e1, e2, e3, e4, e5⟩ := am_okC_out w0
        rw [← e1, ← e2] at hF
        rw [← e1] at l1
        rw [← e2] at l2
        revert wx; split
        · rename_i xa xb x hx6
          intro wx
          simp only [Bool.and_eq_true] at wx
          obtain ⟨⟨⟨⟨⟨⟨w6, w7⟩, w8⟩, w9⟩, wm⟩, wn⟩, wc⟩ := wx
          revert wc; split
          · rename_i x' b' n'' r' hx13
            intro wc
            simp only [Bool.and_eq_true, decide_eq_true_eq] at wc
            obtain ⟨wc1, wc2⟩ := wc
            subst wc1
            obtain ⟨b1, b2, b3, b4, b5, b6⟩ := am_back (d0 := d0) hE hRf hRl e3 (am_W_mem w12)
            have hdecl : va_Decl (s.setDrawn d0) ⟨x'.cls, x'.name, x'.desc⟩ := va_Decl.of (am_W_use (hts d0) w8) (am_W_use (hts d0) wc2)
            refine am_callD hd0 (va_runU_D (s := s.setDrawn d0) (Ts := []) ⟨hx, hb, hml, hown, fun _ h => by cases h⟩ (hCT _ _ _ _ _ hF L D B) ⟨⟨b1, b2, b3, b4, b5, b6⟩, (Cond.before_setDrawn args s d0 _).trans (hE.2.1 _ (am_W_mem w12).1 (am_W_mem w12).2 args), am_W_use (hts d0) w11, am_noMH_out wm, am_np_out wn, am_W_use (hts d0) w6, am_W_use (hts d0) w7, hdecl, am_W_use (hts d0) w9, am_W_use (hts d0) w10⟩ (am_preV hE hH hS h14 hfs hLa) rfl (by rw [List.length_map]; exact elen) hl.1 rfl (lv_room (by omega)) hdec ⟨Nat.le_trans l1 hRc, Nat.le_trans l2 hRs⟩) hS (fun vv h' n' H1 locs1 d1 hrt hK hH1 hS1 hd1 => ?_)
            have := hn _ _ _ _ _ hK d1 H1 locs1 lsm hd1 hl hH1 hS1 l1 l2
            rw [← am_psh_map] at this
            exact this
          · exact fun h => by cases h
        · exact fun h => by cases h
      · rename_i k10
        exact absurd k10 n10
      · exact fun h => by cases h
    · exact False.elim
set_option maxHeartbeats 4000000 in
theorem am_ss_invokespecial {CT : am_CT} {BT : Nat → am_N} {K : am_K} {z} {v : Value} {a : List Nat} {nx : am_N} {ls st : List Value} {h : am_H} {n : Nat} {k : am_C} (hC : am_Cx p R s m meth c mr L D B d) (hok : am_okI mr pc len (.invokespecial z, v, a) = true) (hdec : decode mr.2.1 pc = .ok (.invokespecial z, len))
    (hCT : am_Sound l d CT)
    (hend : ∀ (pc : Nat) (v : Option Value) (h : am_H) (n : Nat) (k : am_C) (d0 : Drawn) (H : Heap) (locs : List Loc) (lsm : Array Slot), am_rets mr.2.2.2.2.2.1 v → K v h n → s.drawn.sameBut d0 lw_cs → am_HR s L D B h n H → va_S (fun q => B ≤ q) s.heap H locs → k.1 ≤ mr.2.2.2.2.1.1 → k.2 ≤ mr.2.2.2.2.1.2 → decode mr.2.1 pc = .ok (am_retI mr.2.2.2.2.2.1, 1) → W p l e R (s.setDrawn d0) m args below meth c H locs k.1 k.2 Q (F0 m pc lsm ((v.map (am_mv L)).toList)))
    (hn : ∀ ls st h n k, nx ls st h n k → am_At p l e R s m args below meth c Q mr L D B (pc + len) ls st h n k) (hB : ∀ b ls st h n k t, am_pc mr b = some t → BT b ls st h n k → am_At p l e R s m args below meth c Q mr L D B t ls st h n k) :
    am_sem CT am_dfs BT mr.2.2.2.2.1 mr.2.2.2.2.2.1 K (.invokespecial z, v, a) nx ls st h n k → am_At p l e R s m args below meth c Q mr L D B pc ls st h n k := by
  intro q d0 H locs lsm hd0 hl hH hS hk1 hk2
  obtain ⟨hx, hb, hml, hown, hE, hnm, hRf, hRl, hRc, hRs⟩ := hC
  have hL := hE.1
  have hts : ∀ d0 : Drawn, ∀ w ∈ am_tbl, am_keep w = true → w.before args (s.setDrawn d0) = true := fun d0 w hw hk => (Cond.before_setDrawn args s d0 w).trans (hE.2.1 w hw hk args)
  simp only [am_okI, Bool.and_eq_true, beq_iff_eq] at hok
  obtain ⟨hlen, hok⟩ := hok
  subst hlen
  revert q; dsimp only [am_sem]
  split
  · rename_i k11
    rw [k11] at hok
    simp only [Bool.and_eq_true] at hok
    obtain ⟨⟨w6, w7⟩, w8⟩ := hok
    split
    · intro q
      rename_i aa r
      obtain ⟨hr, hs, q⟩ := q
      have hsum := am_mv_sum hL r
      obtain ⟨ff, hff⟩ := Option.isSome_iff_exists.mp hs
      obtain ⟨-, a', cell0, hLa, -⟩ := hH.2.2 aa _ hff
      have hq := hn _ _ _ _ _ q d0 H locs lsm hd0 hl hH hS hk1 hk2
      show W p l e R (s.setDrawn d0) m args below meth c H locs k.1 k.2 Q (F0 m pc lsm (L aa :: r.map (am_mv L)))
      rw [hLa]
      exact W.objInit (s := s.setDrawn d0) hx hb hown (am_W_use (hts d0) w6) (am_W_use (hts d0) w7) (am_W_use (hts d0) w8) rfl (hl.1.trans hml.symm) rfl hdec (by omega) (by show 2 * 0 + _ + 12 ≤ _; omega) hq
    · exact False.elim
  · rename_i n11
    intro q
    obtain ⟨as, r, est, elen, q⟩ := am_pop_out q
    rw [List.append_nil] at q
    revert q; split
    · intro q
      rename_i a0 r0
      obtain ⟨fs, hfs, hr, hb0⟩ := am_oa_out q
      obtain ⟨hF, l1, l2⟩ := am_b0_out hb0 hk1 hk2
      have hsum := am_mv_sum hL r0
      obtain ⟨-, a', cell0, hLa, -⟩ := hH.2.2 a0 _ hfs
      have hstk : st.map (am_mv L) = (as.map (am_mv L)).reverse ++ .ref a' :: r0.map (am_mv L) := by rw [est]; simp [am_mv, hLa]
      rw [hstk]
      revert hok; split
      · rename_i k0
        intro hok
        simp only [Bool.and_eq_true, decide_eq_true_eq] at hok
        obtain ⟨⟨⟨⟨⟨⟨⟨w0, h14⟩, hnm1⟩, hret⟩, w6⟩, w7⟩, w8⟩, w9⟩ := hok
        obtain ⟨e1, e2, e3, e4, e5⟩ := am_okC_out w0
        rw [← e1, ← e2] at hF
        rw [← e1] at l1
        rw [← e2] at l2
        refine am_callD hd0 (va_runI_D (s := s.setDrawn d0) (Ts := []) ⟨hx, hb, hml, hown, fun _ h => by cases h⟩ (hCT _ _ _ _ _ hF L D B) ⟨by have := am_callB hE hRf hRl e3 e4 e5 (am_W_mem w9) (am_W_use (hts d0) w8) (am_W_use (hts d0) w6); rw [hret] at this; exact this, hnm1, (am_W_use (hts d0) w7)⟩ (am_preS hE hH hS hLa) rfl (by rw [List.length_map]; exact elen) hl.1 rfl (lv_room (by omega)) hdec ⟨Nat.le_trans l1 hRc, Nat.le_trans l2 hRs⟩) hS (fun vv h' n' H1 locs1 d1 hrt hK hH1 hS1 hd1 => ?_)
        have := hn _ _ _ _ _ hK d1 H1 locs1 lsm hd1 hl hH1 hS1 l1 l2
        rw [← am_psh_map] at this
        exact this
      · rename_i k0
        intro hok
        simp only [Bool.and_eq_true, decide_eq_true_eq] at hok
        obtain ⟨⟨⟨⟨⟨⟨⟨w0, h14⟩, hnm1⟩, hret⟩, w6⟩, w7⟩, w8⟩, w9⟩ := hok
        obtain ⟨e1, e2, e3, e4, e5⟩ := am_okC_out w0
        rw [← e1, ← e2] at hF
        rw [← e1] at l1
        rw [← e2] at l2
        refine am_callD hd0 (va_runIN_D (s := s.setDrawn d0) (Ts := []) ⟨hx, hb, hml, hown, fun _ h => by cases h⟩ (hCT _ _ _ _ _ hF L D B) ⟨by have := am_callN hE hRf hRl e3 e4 e5 (am_W_mem w9) (am_W_use (hts d0) w8) (am_W_use (hts d0) w6); rw [hret] at this; exact this, hnm1, (am_W_use (hts d0) w7)⟩ (am_preS hE hH hS hLa) rfl (by rw [List.length_map]; exact elen) hl.1 rfl (lv_room (by omega)) hdec ⟨Nat.le_trans l1 hRc, Nat.le_trans l2 hRs⟩) hS (fun vv h' n' H1 locs1 d1 hrt hK hH1 hS1 hd1 => ?_)
        have := hn _ _ _ _ _ hK d1 H1 locs1 lsm hd1 hl hH1 hS1 l1 l2
        rw [← am_psh_map] at this
        exact this
      · rename_i k0
        intro hok
        simp only [Bool.and_eq_true, decide_eq_true_eq] at hok
        obtain ⟨⟨⟨⟨⟨⟨⟨⟨w0, h14⟩, hnm1⟩, w6⟩, w7⟩, w8⟩, w9⟩, w10⟩, w11⟩ := hok
        obtain ⟨e1, e2, e3, e4, e5⟩ := am_okC_out w0
        obtain ⟨b1, b2, b3, b4, b5, b6⟩ := am_back (d0 := d0) hE hRf hRl e3 (am_W_mem w11)
        rw [← e1, ← e2] at hF
        rw [← e1] at l1
        rw [← e2] at l2
        refine am_callD hd0 (va_runSU_D (s := s.setDrawn d0) (Ts := []) (hE.2.2.1.1 _ _ (am_cls_get _ h14)).2 ⟨hx, hb, hml, hown, fun _ h => by cases h⟩ (hCT _ _ _ _ _ hF L D B) ⟨⟨b1, b2, b3, b4, b5, b6⟩, am_W_use (hts d0) w6, am_W_use (hts d0) w7, am_W_use (hts d0) w8, am_W_use (hts d0) w9, am_W_use (hts d0) w10, (Cond.before_setDrawn args s d0 _).trans (hE.2.1 _ (am_W_mem w11).1 (am_W_mem w11).2 args), hnm1, e5⟩ (am_preV hE hH hS h14 hfs hLa) rfl (by rw [List.length_map]; exact elen) hl.1 rfl (lv_room (by omega)) hdec ⟨Nat.le_trans l1 hRc, Nat.le_trans l2 hRs⟩) hS (fun vv h' n' H1 locs1 d1 hrt hK hH1 hS1 hd1 => ?_)
        have := hn _ _ _ _ _ hK d1 H1 locs1 lsm hd1 hl hH1 hS1 l1 l2
        rw [← am_psh_map] at this
        exact this
      · rename_i k11
        exact absurd k11 n11
      · exact fun h => by cases h
    · exact False.elim
set_option maxHeartbeats 4000000 in
theorem am_sem_sound {CT : am_CT} {BT : Nat → am_N} {K : am_K} {i : am_AI} {nx : am_N} {ls st : List Value} {h : am_H} {n : Nat} {k : am_C} (hC : am_Cx p R s m meth c mr L D B d) (hnop : ¬ i.1 = .nop) (hok : am_okI mr pc len i = true) (hdec : decode mr.2.1 pc = .ok (i.1, len))
    (hCT : am_Sound l d CT)
    (hend : ∀ (pc : Nat) (v : Option Value) (h : am_H) (n : Nat) (k : am_C) (d0 : Drawn) (H : Heap) (locs : List Loc) (lsm : Array Slot), am_rets mr.2.2.2.2.2.1 v → K v h n → s.drawn.sameBut d0 lw_cs → am_HR s L D B h n H → va_S (fun q => B ≤ q) s.heap H locs → k.1 ≤ mr.2.2.2.2.1.1 → k.2 ≤ mr.2.2.2.2.1.2 → decode mr.2.1 pc = .ok (am_retI mr.2.2.2.2.2.1, 1) → W p l e R (s.setDrawn d0) m args below meth c H locs k.1 k.2 Q (F0 m pc lsm ((v.map (am_mv L)).toList)))
    (hn : ∀ ls st h n k, nx ls st h n k → am_At p l e R s m args below meth c Q mr L D B (pc + len) ls st h n k) (hB : ∀ b ls st h n k t, am_pc mr b = some t → BT b ls st h n k → am_At p l e R s m args below meth c Q mr L D B t ls st h n k) :
    am_sem CT am_dfs BT mr.2.2.2.2.1 mr.2.2.2.2.2.1 K i nx ls st h n k → am_At p l e R s m args below meth c Q mr L D B pc ls st h n k := by
  obtain ⟨ins, v, a⟩ := i
  cases ins
  case nop => exact absurd rfl hnop
  case aconst_null => exact am_ss_aconst_null hC hok hdec hCT hend hn hB
  case iconst z => exact am_ss_iconst hC hok hdec hCT hend hn hB
  case bipush z => exact am_ss_bipush hC hok hdec hCT hend hn hB
  case sipush z => exact am_ss_sipush hC hok hdec hCT hend hn hB
  case lconst z => exact am_ss_lconst hC hok hdec hCT hend hn hB
  case dconst z => exact am_ss_dconst hC hok hdec hCT hend hn hB
  case fconst z => exact am_ss_fconst hC hok hdec hCT hend hn hB
  case ldc z => exact am_ss_ldc hC hok hdec hCT hend hn hB
  case ldc_w z => exact am_ss_ldc_w hC hok hdec hCT hend hn hB
  case ldc2_w z => exact am_ss_ldc2_w hC hok hdec hCT hend hn hB
  case getstatic z => exact am_ss_getstatic hC hok hdec hCT hend hn hB
  case iload z => exact am_ss_iload hC hok hdec hCT hend hn hB
  case lload z => exact am_ss_lload hC hok hdec hCT hend hn hB
  case dload z => exact am_ss_dload hC hok hdec hCT hend hn hB
  case iload_n z => exact am_ss_iload_n hC hok hdec hCT hend hn hB
  case lload_n z => exact am_ss_lload_n hC hok hdec hCT hend hn hB
  case dload_n z => exact am_ss_dload_n hC hok hdec hCT hend hn hB
  case fload_n z => exact am_ss_fload_n hC hok hdec hCT hend hn hB
  case aload z => exact am_ss_aload hC hok hdec hCT hend hn hB
  case aload_n z => exact am_ss_aload_n hC hok hdec hCT hend hn hB
  case istore z => exact am_ss_istore hC hok hdec hCT hend hn hB
  case istore_n z => exact am_ss_istore_n hC hok hdec hCT hend hn hB
  case lstore z => exact am_ss_lstore hC hok hdec hCT hend hn hB
  case lstore_n z => exact am_ss_lstore_n hC hok hdec hCT hend hn hB
  case dstore z => exact am_ss_dstore hC hok hdec hCT hend hn hB
  case dstore_n z => exact am_ss_dstore_n hC hok hdec hCT hend hn hB
  case fstore_n z => exact am_ss_fstore_n hC hok hdec hCT hend hn hB
  case astore z => exact am_ss_astore hC hok hdec hCT hend hn hB
  case astore_n z => exact am_ss_astore_n hC hok hdec hCT hend hn hB
  case iinc z zz => exact am_ss_iinc hC hok hdec hCT hend hn hB
  case dup => exact am_ss_dup hC hok hdec hCT hend hn hB
  case dup_x1 => exact am_ss_dup_x1 hC hok hdec hCT hend hn hB
  case dup2 => exact am_ss_dup2 hC hok hdec hCT hend hn hB
  case pop => exact am_ss_pop hC hok hdec hCT hend hn hB
  case pop2 => exact am_ss_pop2 hC hok hdec hCT hend hn hB
  case iadd => exact am_ss_iadd hC hok hdec hCT hend hn hB
  case isub => exact am_ss_isub hC hok hdec hCT hend hn hB
  case imul => exact am_ss_imul hC hok hdec hCT hend hn hB
  case iand => exact am_ss_iand hC hok hdec hCT hend hn hB
  case ior => exact am_ss_ior hC hok hdec hCT hend hn hB
  case ishl => exact am_ss_ishl hC hok hdec hCT hend hn hB
  case ishr => exact am_ss_ishr hC hok hdec hCT hend hn hB
  case ineg => exact am_ss_ineg hC hok hdec hCT hend hn hB
  case ladd => exact am_ss_ladd hC hok hdec hCT hend hn hB
  case lsub => exact am_ss_lsub hC hok hdec hCT hend hn hB
  case lmul => exact am_ss_lmul hC hok hdec hCT hend hn hB
  case lneg => exact am_ss_lneg hC hok hdec hCT hend hn hB
  case i2d => exact am_ss_i2d hC hok hdec hCT hend hn hB
  case l2d => exact am_ss_l2d hC hok hdec hCT hend hn hB
  case l2f => exact am_ss_l2f hC hok hdec hCT hend hn hB
  case d2i => exact am_ss_d2i hC hok hdec hCT hend hn hB
  case d2l => exact am_ss_d2l hC hok hdec hCT hend hn hB
  case dneg => exact am_ss_dneg hC hok hdec hCT hend hn hB
  case fneg => exact am_ss_fneg hC hok hdec hCT hend hn hB
  case i2l => exact am_ss_i2l hC hok hdec hCT hend hn hB
  case l2i => exact am_ss_l2i hC hok hdec hCT hend hn hB
  case i2b => exact am_ss_i2b hC hok hdec hCT hend hn hB
  case i2c => exact am_ss_i2c hC hok hdec hCT hend hn hB
  case lcmp => exact am_ss_lcmp hC hok hdec hCT hend hn hB
  case idiv => exact am_ss_idiv hC hok hdec hCT hend hn hB
  case irem => exact am_ss_irem hC hok hdec hCT hend hn hB
  case ldiv => exact am_ss_ldiv hC hok hdec hCT hend hn hB
  case lrem => exact am_ss_lrem hC hok hdec hCT hend hn hB
  case f2d => exact am_ss_f2d hC hok hdec hCT hend hn hB
  case d2f => exact am_ss_d2f hC hok hdec hCT hend hn hB
  case dadd => exact am_ss_dadd hC hok hdec hCT hend hn hB
  case dsub => exact am_ss_dsub hC hok hdec hCT hend hn hB
  case dmul => exact am_ss_dmul hC hok hdec hCT hend hn hB
  case ddiv => exact am_ss_ddiv hC hok hdec hCT hend hn hB
  case dcmp z => exact am_ss_dcmp hC hok hdec hCT hend hn hB
  case fcmp z => exact am_ss_fcmp hC hok hdec hCT hend hn hB
  case goto z => exact am_ss_goto hC hok hdec hCT hend hn hB
  case ifnonnull z => exact am_ss_ifnonnull hC hok hdec hCT hend hn hB
  case ifCond cc z => exact am_ss_ifCond hC hok hdec hCT hend hn hB
  case if_icmp cc z => exact am_ss_if_icmp hC hok hdec hCT hend hn hB
  case tableswitch z lo hi offs => exact am_ss_tableswitch hC hok hdec hCT hend hn hB
  case lookupswitch z ps => exact am_ss_lookupswitch hC hok hdec hCT hend hn hB
  case return_ => exact am_ss_return_ hC hok hdec hCT hend hn hB
  case ireturn => exact am_ss_ireturn hC hok hdec hCT hend hn hB
  case lreturn => exact am_ss_lreturn hC hok hdec hCT hend hn hB
  case dreturn => exact am_ss_dreturn hC hok hdec hCT hend hn hB
  case areturn => exact am_ss_areturn hC hok hdec hCT hend hn hB
  case getfield z => exact am_ss_getfield hC hok hdec hCT hend hn hB
  case putfield z => exact am_ss_putfield hC hok hdec hCT hend hn hB
  case new z => exact am_ss_new hC hok hdec hCT hend hn hB
  case newarray z => exact am_ss_newarray hC hok hdec hCT hend hn hB
  case anewarray z => exact am_ss_anewarray hC hok hdec hCT hend hn hB
  case multianewarray z dm => exact am_ss_multianewarray hC hok hdec hCT hend hn hB
  case arraylength => exact am_ss_arraylength hC hok hdec hCT hend hn hB
  case iaload => exact am_ss_iaload hC hok hdec hCT hend hn hB
  case laload => exact am_ss_laload hC hok hdec hCT hend hn hB
  case daload => exact am_ss_daload hC hok hdec hCT hend hn hB
  case baload => exact am_ss_baload hC hok hdec hCT hend hn hB
  case aaload => exact am_ss_aaload hC hok hdec hCT hend hn hB
  case iastore => exact am_ss_iastore hC hok hdec hCT hend hn hB
  case lastore => exact am_ss_lastore hC hok hdec hCT hend hn hB
  case dastore => exact am_ss_dastore hC hok hdec hCT hend hn hB
  case bastore => exact am_ss_bastore hC hok hdec hCT hend hn hB
  case aastore => exact am_ss_aastore hC hok hdec hCT hend hn hB
  case checkcast z => exact am_ss_checkcast hC hok hdec hCT hend hn hB
  case invokestatic z => exact am_ss_invokestatic hC hok hdec hCT hend hn hB
  case invokevirtual z => exact am_ss_invokevirtual hC hok hdec hCT hend hn hB
  case invokespecial z => exact am_ss_invokespecial hC hok hdec hCT hend hn hB
  all_goals exact False.elim
end AMS
