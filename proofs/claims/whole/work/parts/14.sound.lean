theorem am_b0_out {k : am_C} {mc ms : Nat} {Bd : am_C} {F : am_C → Prop} (q : am_b0 k mc ms Bd F) (h1 : k.1 ≤ Bd.1) (h2 : k.2 ≤ Bd.2) : F (k.1 + mc, k.2 + ms) ∧ k.1 + mc ≤ Bd.1 ∧ k.2 + ms ≤ Bd.2 := by
  by_cases z : mc = 0 ∧ ms = 0
  · have := q.1 z
    obtain ⟨rfl, rfl⟩ := z
    exact ⟨this, h1, h2⟩
  · have := q.2 z
    exact ⟨this.2.2, this.1, this.2.1⟩
def am_retI (rt : Nat) : Instr := match rt with
  | 0 => .return_
  | 3 => .lreturn
  | 4 => .dreturn
  | 5 => .areturn
  | _ => .ireturn
theorem am_rt_retI {rt : Nat} {x : Int32} (h : am_rt rt x) : am_retI rt = .ireturn := by
  unfold am_rt at h
  split at h <;> first | rfl | exact False.elim h
theorem am_psh_map {L : Nat → Value} (v : Option Value) (r : List Value) : (v.map (am_mv L)).toList ++ r.map (am_mv L) = (am_psh v r).map (am_mv L) := by cases v <;> rfl
section AMS
variable {p : Program} {l : Launch} {e : Env} {R : Room} {s : State} {m : MethodId} {args : Array Value} {below : List Frame} {meth : Method} {c : Code} {Q : State → Prop} {mr : am_Rec} {L : Nat → Value} {D : va_G} {B d : Nat} {H : Heap} {locs : List Loc} {cells slots : Nat} {pc len : Nat} {lsm : Array Slot} {rest : List Value} {d0 : Drawn}
def am_Cx (p : Program) (R : Room) (s : State) (m : MethodId) (meth : Method) (c : Code) (mr : am_Rec) (L : Nat → Value) (D : va_G) (B d : Nat) : Prop :=
  p.tables.exec = Jvm.exec ∧ c.code = mr.2.1 ∧ c.maxLocals = mr.2.2.1 ∧ s.vm.findClass mr.1.cls = some m.cls ∧ am_E L D B s s.heap ∧ meth.name = mr.1.name ∧ d + 1 ≤ R.frames ∧ 60 * (d + 1) ≤ R.locals ∧ mr.2.2.2.2.1.1 ≤ R.cells ∧ mr.2.2.2.2.1.2 ≤ R.slots
def am_At (p : Program) (l : Launch) (e : Env) (R : Room) (s : State) (m : MethodId) (args : Array Value) (below : List Frame) (meth : Method) (c : Code) (Q : State → Prop) (mr : am_Rec) (L : Nat → Value) (D : va_G) (B pc : Nat) : am_N := fun ls st h n k => ∀ (d0 : Drawn) (H : Heap) (locs : List Loc) (lsm : Array Slot), s.drawn.sameBut d0 lw_cs → am_LR L mr.2.2.1 ls lsm → am_HR s L D B h n H → va_S (fun q => B ≤ q) s.heap H locs → k.1 ≤ mr.2.2.2.2.1.1 → k.2 ≤ mr.2.2.2.2.1.2 → W p l e R (s.setDrawn d0) m args below meth c H locs k.1 k.2 Q (F0 m pc lsm (st.map (am_mv L)))
set_option maxHeartbeats 40000000 in
theorem am_sem_sound {CT : am_CT} {BT : Nat → am_N} {K : am_K} {i : am_AI} {nx : am_N} {ls st : List Value} {h : am_H} {n : Nat} {k : am_C} (hC : am_Cx p R s m meth c mr L D B d) (hnop : ¬ i.1 = .nop) (hok : am_okI mr pc len i = true) (hdec : decode mr.2.1 pc = .ok (i.1, len))
    (hCT : am_Sound l d CT)
    (hend : ∀ (pc : Nat) (v : Option Value) (h : am_H) (n : Nat) (k : am_C) (d0 : Drawn) (H : Heap) (locs : List Loc) (lsm : Array Slot), am_rets mr.2.2.2.2.2.1 v → K v h n → s.drawn.sameBut d0 lw_cs → am_HR s L D B h n H → va_S (fun q => B ≤ q) s.heap H locs → k.1 ≤ mr.2.2.2.2.1.1 → k.2 ≤ mr.2.2.2.2.1.2 → decode mr.2.1 pc = .ok (am_retI mr.2.2.2.2.2.1, 1) → W p l e R (s.setDrawn d0) m args below meth c H locs k.1 k.2 Q (F0 m pc lsm ((v.map (am_mv L)).toList)))
    (hn : ∀ ls st h n k, nx ls st h n k → am_At p l e R s m args below meth c Q mr L D B (pc + len) ls st h n k) (hB : ∀ b ls st h n k t, am_pc mr b = some t → BT b ls st h n k → am_At p l e R s m args below meth c Q mr L D B t ls st h n k) :
    am_sem CT am_dfs BT mr.2.2.2.2.1 mr.2.2.2.2.2.1 K i nx ls st h n k → am_At p l e R s m args below meth c Q mr L D B pc ls st h n k := by
  intro q d0 H locs lsm hd0 hl hH hS hk1 hk2
  obtain ⟨hx, hb, hml, hown, hE, hnm, hRf, hRl, hRc, hRs⟩ := hC
  have hL := hE.1
  have hts : ∀ d0 : Drawn, ∀ w ∈ am_tbl, am_keep w = true → w.before args (s.setDrawn d0) = true := fun d0 w hw hk => (Cond.before_setDrawn args s d0 w).trans (hE.2.1 w hw hk args)
  obtain ⟨ins, v, a⟩ := i
  cases ins

  case nop => exact absurd rfl hnop
  case aconst_null =>
    have hlen : len = 1 := by simpa [am_okI] using hok
    subst hlen
    exact lv_null hx hb hdec (hn _ _ _ _ _ q d0 H locs lsm hd0 hl hH hS hk1 hk2)
  case iconst z =>
    simp only [am_okI, Bool.and_eq_true, beq_iff_eq, decide_eq_true_eq] at hok
    obtain ⟨hlen, hv⟩ := hok
    subst hlen; subst hv
    exact lv_iconst hx hb hdec rfl (hn _ _ _ _ _ q d0 H locs lsm hd0 hl hH hS hk1 hk2)
  case bipush z =>
    simp only [am_okI, Bool.and_eq_true, beq_iff_eq, decide_eq_true_eq] at hok
    obtain ⟨hlen, hv⟩ := hok
    subst hlen; subst hv
    exact lv_bipush hx hb hdec rfl (hn _ _ _ _ _ q d0 H locs lsm hd0 hl hH hS hk1 hk2)
  case sipush z =>
    simp only [am_okI, Bool.and_eq_true, beq_iff_eq, decide_eq_true_eq] at hok
    obtain ⟨hlen, hv⟩ := hok
    subst hlen; subst hv
    exact lv_sipush hx hb hdec rfl (hn _ _ _ _ _ q d0 H locs lsm hd0 hl hH hS hk1 hk2)
  case lconst z =>
    simp only [am_okI, Bool.and_eq_true, beq_iff_eq, decide_eq_true_eq] at hok
    obtain ⟨hlen, hv⟩ := hok
    subst hlen; subst hv
    exact lv_lconst hx hb hdec rfl (hn _ _ _ _ _ q d0 H locs lsm hd0 hl hH hS hk1 hk2)
  case dconst z =>
    simp only [am_okI, Bool.and_eq_true, Bool.or_eq_true, beq_iff_eq, decide_eq_true_eq] at hok
    obtain ⟨hlen, ⟨hz, hv⟩ | ⟨hz, hv⟩⟩ := hok
    · subst hlen; subst hz; subst hv
      exact lv_dconst0 hx hb hdec (hn _ _ _ _ _ q d0 H locs lsm hd0 hl hH hS hk1 hk2)
    · subst hlen; subst hz; subst hv
      exact lv_dconst1 hx hb hdec (hn _ _ _ _ _ q d0 H locs lsm hd0 hl hH hS hk1 hk2)
  case fconst z =>
    simp only [am_okI, Bool.and_eq_true, beq_iff_eq, decide_eq_true_eq] at hok
    obtain ⟨⟨hlen, hz⟩, hv⟩ := hok
    subst hlen; subst hz; subst hv
    exact lv_fconst0 hx hb hdec (hn _ _ _ _ _ q d0 H locs lsm hd0 hl hH hS hk1 hk2)
  case ldc z =>
    refine am_s_ldc hE hx hb hown (hts d0) hok hdec fun hlen => ?_
    subst hlen
    exact hn _ _ _ _ _ q d0 H locs lsm hd0 hl hH hS hk1 hk2
  case ldc_w z =>
    refine am_s_ldc_w hE hx hb hown (hts d0) hok hdec fun hlen => ?_
    subst hlen
    exact hn _ _ _ _ _ q d0 H locs lsm hd0 hl hH hS hk1 hk2
  case ldc2_w z =>
    simp only [am_okI, Bool.and_eq_true, beq_iff_eq] at hok
    obtain ⟨hlen, hok⟩ := hok
    subst hlen
    cases v <;> first | (simp at hok; done) | skip
    · exact lv_ldc2 hx hb hown (am_W_use (hts d0) hok) hdec (hn _ _ _ _ _ q d0 H locs lsm hd0 hl hH hS hk1 hk2)
    · exact lv_ldc2d hx hb hown (am_W_use (hts d0) hok) hdec (hn _ _ _ _ _ q d0 H locs lsm hd0 hl hH hS hk1 hk2)
  case getstatic z =>
    refine am_s_gets hE hx hb hown (hts d0) hS hok hdec fun hlen => ?_
    subst hlen
    exact hn _ _ _ _ _ q d0 H locs lsm hd0 hl hH hS hk1 hk2
  case iload z =>
    have hlen : len = 2 := by simpa [am_okI] using hok
    subst hlen
    obtain ⟨x, e, q⟩ := am_I_out q
    exact lv_iload hx hb hdec (hl.get e (by simp [am_U])) (hn _ _ _ _ _ q d0 H locs lsm hd0 hl hH hS hk1 hk2)
  case lload z =>
    have hlen : len = 2 := by simpa [am_okI] using hok
    subst hlen
    obtain ⟨x, e, q⟩ := am_L_out q
    exact lv_lload hx hb hdec (hl.get e (by simp [am_U])) (hn _ _ _ _ _ q d0 H locs lsm hd0 hl hH hS hk1 hk2)
  case dload z =>
    have hlen : len = 2 := by simpa [am_okI] using hok
    subst hlen
    obtain ⟨x, e, q⟩ := am_D_out q
    exact lv_dload hx hb hdec (hl.get e (by simp [am_U])) (hn _ _ _ _ _ q d0 H locs lsm hd0 hl hH hS hk1 hk2)
  case iload_n z =>
    have hlen : len = 1 := by simpa [am_okI] using hok
    subst hlen
    obtain ⟨x, e, q⟩ := am_I_out q
    exact lv_iload_n hx hb hdec rfl (hl.get e (by simp [am_U])) (hn _ _ _ _ _ q d0 H locs lsm hd0 hl hH hS hk1 hk2)
  case lload_n z =>
    have hlen : len = 1 := by simpa [am_okI] using hok
    subst hlen
    obtain ⟨x, e, q⟩ := am_L_out q
    exact lv_lload_n hx hb hdec rfl (hl.get e (by simp [am_U])) (hn _ _ _ _ _ q d0 H locs lsm hd0 hl hH hS hk1 hk2)
  case dload_n z =>
    have hlen : len = 1 := by simpa [am_okI] using hok
    subst hlen
    obtain ⟨x, e, q⟩ := am_D_out q
    exact lv_dload_n hx hb hdec rfl (hl.get e (by simp [am_U])) (hn _ _ _ _ _ q d0 H locs lsm hd0 hl hH hS hk1 hk2)
  case fload_n z =>
    have hlen : len = 1 := by simpa [am_okI] using hok
    subst hlen
    obtain ⟨x, e, q⟩ := am_F_out q
    exact lv_fload_n hx hb hdec rfl (hl.get e (by simp [am_U])) (hn _ _ _ _ _ q d0 H locs lsm hd0 hl hH hS hk1 hk2)
  case aload z =>
    have hlen : len = 2 := by simpa [am_okI] using hok
    subst hlen
    obtain ⟨x, e, q⟩ | ⟨e, q⟩ := am_R_out q
    · have hg := hl.get e (by simp [am_U])
      have q := hn _ _ _ _ _ q d0 H locs lsm hd0 hl hH hS hk1 hk2
      revert hg q
      simp only [List.map_cons, am_mv]
      rcases hL.2.2 x with ⟨x', hx'⟩ | hx'
      · rw [hx']
        exact fun hg q => lv_aload hx hb hdec hg q
      · rw [hx']
        exact fun hg q => lv_aloadN hx hb hdec hg q
    · exact lv_aloadN hx hb hdec (hl.get e (by simp [am_U])) (hn _ _ _ _ _ q d0 H locs lsm hd0 hl hH hS hk1 hk2)
  case aload_n z =>
    have hlen : len = 1 := by simpa [am_okI] using hok
    subst hlen
    obtain ⟨x, e, q⟩ | ⟨e, q⟩ := am_R_out q
    · have hg := hl.get e (by simp [am_U])
      have q := hn _ _ _ _ _ q d0 H locs lsm hd0 hl hH hS hk1 hk2
      revert hg q
      simp only [List.map_cons, am_mv]
      rcases hL.2.2 x with ⟨x', hx'⟩ | hx'
      · rw [hx']
        exact fun hg q => lv_aload_n hx hb hdec rfl hg q
      · rw [hx']
        exact fun hg q => lv_aload_nN hx hb hdec rfl hg q
    · exact lv_aload_nN hx hb hdec rfl (hl.get e (by simp [am_U])) (hn _ _ _ _ _ q d0 H locs lsm hd0 hl hH hS hk1 hk2)
  case istore z =>
    simp only [am_okI, Bool.and_eq_true, beq_iff_eq, decide_eq_true_eq] at hok
    obtain ⟨hlen, hlt⟩ := hok
    subst hlen
    revert q; dsimp only [am_sem]; split
    · intro q
      exact lv_istore hx hb hdec hl.has hlt rfl (fun ls' h' => hn _ _ _ _ _ q d0 H locs ls' hd0 (am_LR.set1 hL h') hH hS hk1 hk2)
    · exact False.elim
  case istore_n z =>
    simp only [am_okI, Bool.and_eq_true, beq_iff_eq, decide_eq_true_eq] at hok
    obtain ⟨hlen, hlt⟩ := hok
    subst hlen
    revert q; dsimp only [am_sem]; split
    · intro q
      exact lv_istore_n hx hb hdec rfl hl.has hlt rfl (fun ls' h' => hn _ _ _ _ _ q d0 H locs ls' hd0 (am_LR.set1 hL h') hH hS hk1 hk2)
    · exact False.elim
  case lstore z =>
    simp only [am_okI, Bool.and_eq_true, beq_iff_eq, decide_eq_true_eq] at hok
    obtain ⟨hlen, hlt⟩ := hok
    subst hlen
    revert q; dsimp only [am_sem]; split
    · intro q
      exact lv_lstore hx hb hdec hl.has hlt rfl (fun ls' h' => hn _ _ _ _ _ q d0 H locs ls' hd0 (am_LR.set2 hL h') hH hS hk1 hk2)
    · exact False.elim
  case lstore_n z =>
    simp only [am_okI, Bool.and_eq_true, beq_iff_eq, decide_eq_true_eq] at hok
    obtain ⟨hlen, hlt⟩ := hok
    subst hlen
    revert q; dsimp only [am_sem]; split
    · intro q
      exact lv_lstore_n hx hb hdec rfl hl.has hlt rfl (fun ls' h' => hn _ _ _ _ _ q d0 H locs ls' hd0 (am_LR.set2 hL h') hH hS hk1 hk2)
    · exact False.elim
  case dstore z =>
    simp only [am_okI, Bool.and_eq_true, beq_iff_eq, decide_eq_true_eq] at hok
    obtain ⟨hlen, hlt⟩ := hok
    subst hlen
    revert q; dsimp only [am_sem]; split
    · intro q
      exact lv_dstore hx hb hdec hl.has hlt rfl (fun ls' h' => hn _ _ _ _ _ q d0 H locs ls' hd0 (am_LR.set2 hL h') hH hS hk1 hk2)
    · exact False.elim
  case dstore_n z =>
    simp only [am_okI, Bool.and_eq_true, beq_iff_eq, decide_eq_true_eq] at hok
    obtain ⟨hlen, hlt⟩ := hok
    subst hlen
    revert q; dsimp only [am_sem]; split
    · intro q
      exact lv_dstore_n hx hb hdec rfl hl.has hlt rfl (fun ls' h' => hn _ _ _ _ _ q d0 H locs ls' hd0 (am_LR.set2 hL h') hH hS hk1 hk2)
    · exact False.elim
  case fstore_n z =>
    simp only [am_okI, Bool.and_eq_true, beq_iff_eq, decide_eq_true_eq] at hok
    obtain ⟨hlen, hlt⟩ := hok
    subst hlen
    revert q; dsimp only [am_sem]; split
    · intro q
      exact lv_fstore_n hx hb hdec rfl hl.has hlt rfl (fun ls' h' => hn _ _ _ _ _ q d0 H locs ls' hd0 (am_LR.set1 hL h') hH hS hk1 hk2)
    · exact False.elim
  case astore z =>
    simp only [am_okI, Bool.and_eq_true, beq_iff_eq, decide_eq_true_eq] at hok
    obtain ⟨hlen, hlt⟩ := hok
    subst hlen
    revert q; dsimp only [am_sem]; split
    · intro q
      rename_i x r
      simp only [List.map_cons, am_mv]
      rcases hL.2.2 x with ⟨x', hx'⟩ | hx'
      · rw [hx']
        exact lv_astore hx hb hdec hl.has hlt rfl (fun ls' h' => hn _ _ _ _ _ q d0 H locs ls' hd0 (am_LR.set1 (v := .ref x) hL (by rw [show am_mv L (.ref x) = .ref x' from hx']; exact h')) hH hS hk1 hk2)
      · rw [hx']
        exact lv_astoreN hx hb hdec hl.has hlt rfl (fun ls' h' => hn _ _ _ _ _ q d0 H locs ls' hd0 (am_LR.set1 (v := .ref x) hL (by rw [show am_mv L (.ref x) = .null from hx']; exact h')) hH hS hk1 hk2)
    · exact False.elim
  case astore_n z =>
    simp only [am_okI, Bool.and_eq_true, beq_iff_eq, decide_eq_true_eq] at hok
    obtain ⟨hlen, hlt⟩ := hok
    subst hlen
    revert q; dsimp only [am_sem]; split
    · intro q
      rename_i x r
      simp only [List.map_cons, am_mv]
      rcases hL.2.2 x with ⟨x', hx'⟩ | hx'
      · rw [hx']
        exact lv_astore_n hx hb hdec rfl hl.has hlt rfl (fun ls' h' => hn _ _ _ _ _ q d0 H locs ls' hd0 (am_LR.set1 (v := .ref x) hL (by rw [show am_mv L (.ref x) = .ref x' from hx']; exact h')) hH hS hk1 hk2)
      · rw [hx']
        exact lv_astore_nN hx hb hdec rfl hl.has hlt rfl (fun ls' h' => hn _ _ _ _ _ q d0 H locs ls' hd0 (am_LR.set1 (v := .ref x) hL (by rw [show am_mv L (.ref x) = .null from hx']; exact h')) hH hS hk1 hk2)
    · exact False.elim
  case iinc z zz =>
    simp only [am_okI, Bool.and_eq_true, beq_iff_eq, decide_eq_true_eq] at hok
    obtain ⟨hlen, hlt⟩ := hok
    subst hlen
    obtain ⟨x, e, q⟩ := am_I_out q
    have hm : (z, am_mv L (.int x)) ∈ am_lv L ls := am_lv_mem.mpr ⟨.int x, by rw [← e]; exact am_lget_some ls z (by rw [e]; simp [am_U]), by simp [am_U], rfl⟩
    obtain ⟨j, hj⟩ := List.getElem?_of_mem hm
    exact lv_iinc hx hb hdec hl.has hj rfl hlt rfl (fun ls' h' => hn _ _ _ _ _ q d0 H locs ls' hd0 (am_LR.set1 hL h') hH hS hk1 hk2)
  case dup =>
    have hlen : len = 1 := by simpa [am_okI] using hok
    subst hlen
    revert q; dsimp only [am_sem]; split
    · intro q
      exact lv_dup hx hb hdec ((am_mv_cat hL _).trans q.1) (hn _ _ _ _ _ q.2 d0 H locs lsm hd0 hl hH hS hk1 hk2)
    · exact False.elim
  case dup_x1 =>
    have hlen : len = 1 := by simpa [am_okI] using hok
    subst hlen
    revert q; dsimp only [am_sem]; split
    · intro q
      exact lv_dup_x1 hx hb hdec ((am_mv_cat hL _).trans q.1) ((am_mv_cat hL _).trans q.2.1) (hn _ _ _ _ _ q.2.2 d0 H locs lsm hd0 hl hH hS hk1 hk2)
    · exact False.elim
  case dup2 =>
    have hlen : len = 1 := by simpa [am_okI] using hok
    subst hlen
    revert q; dsimp only [am_sem]; split
    · intro q
      exact lv_dup2_11 hx hb hdec ((am_mv_cat hL _).trans q.1) ((am_mv_cat hL _).trans q.2.1) (hn _ _ _ _ _ q.2.2 d0 H locs lsm hd0 hl hH hS hk1 hk2)
    · exact False.elim
  case pop =>
    have hlen : len = 1 := by simpa [am_okI] using hok
    subst hlen
    revert q; dsimp only [am_sem]; split
    · intro q
      exact lv_pop hx hb hdec ((am_mv_cat hL _).trans q.1) (hn _ _ _ _ _ q.2 d0 H locs lsm hd0 hl hH hS hk1 hk2)
    · exact False.elim
  case pop2 =>
    have hlen : len = 1 := by simpa [am_okI] using hok
    subst hlen
    revert q; dsimp only [am_sem]; split
    · intro q
      exact lv_pop2_2 hx hb hdec ((am_mv_cat hL _).trans q.1) (hn _ _ _ _ _ q.2 d0 H locs lsm hd0 hl hH hS hk1 hk2)
    · exact False.elim
  case iadd =>
    have hlen : len = 1 := by simpa [am_okI] using hok
    subst hlen
    revert q; dsimp only [am_sem]; split
    · intro q
      exact lv_iadd hx hb hdec (hn _ _ _ _ _ q d0 H locs lsm hd0 hl hH hS hk1 hk2)
    · exact False.elim
  case isub =>
    have hlen : len = 1 := by simpa [am_okI] using hok
    subst hlen
    revert q; dsimp only [am_sem]; split
    · intro q
      exact lv_isub hx hb hdec (hn _ _ _ _ _ q d0 H locs lsm hd0 hl hH hS hk1 hk2)
    · exact False.elim
  case imul =>
    have hlen : len = 1 := by simpa [am_okI] using hok
    subst hlen
    revert q; dsimp only [am_sem]; split
    · intro q
      exact lv_imul hx hb hdec (hn _ _ _ _ _ q d0 H locs lsm hd0 hl hH hS hk1 hk2)
    · exact False.elim
  case iand =>
    have hlen : len = 1 := by simpa [am_okI] using hok
    subst hlen
    revert q; dsimp only [am_sem]; split
    · intro q
      exact lv_iand hx hb hdec (hn _ _ _ _ _ q d0 H locs lsm hd0 hl hH hS hk1 hk2)
    · exact False.elim
  case ior =>
    have hlen : len = 1 := by simpa [am_okI] using hok
    subst hlen
    revert q; dsimp only [am_sem]; split
    · intro q
      exact lv_ior hx hb hdec (hn _ _ _ _ _ q d0 H locs lsm hd0 hl hH hS hk1 hk2)
    · exact False.elim
  case ishl =>
    have hlen : len = 1 := by simpa [am_okI] using hok
    subst hlen
    revert q; dsimp only [am_sem]; split
    · intro q
      exact lv_ishl hx hb hdec (hn _ _ _ _ _ q d0 H locs lsm hd0 hl hH hS hk1 hk2)
    · exact False.elim
  case ishr =>
    have hlen : len = 1 := by simpa [am_okI] using hok
    subst hlen
    revert q; dsimp only [am_sem]; split
    · intro q
      exact lv_ishr hx hb hdec (hn _ _ _ _ _ q d0 H locs lsm hd0 hl hH hS hk1 hk2)
    · exact False.elim
  case ineg =>
    have hlen : len = 1 := by simpa [am_okI] using hok
    subst hlen
    revert q; dsimp only [am_sem]; split
    · intro q
      exact lv_ineg hx hb hdec (hn _ _ _ _ _ q d0 H locs lsm hd0 hl hH hS hk1 hk2)
    · exact False.elim
  case ladd =>
    have hlen : len = 1 := by simpa [am_okI] using hok
    subst hlen
    revert q; dsimp only [am_sem]; split
    · intro q
      exact lv_ladd hx hb hdec (hn _ _ _ _ _ q d0 H locs lsm hd0 hl hH hS hk1 hk2)
    · exact False.elim
  case lsub =>
    have hlen : len = 1 := by simpa [am_okI] using hok
    subst hlen
    revert q; dsimp only [am_sem]; split
    · intro q
      exact lv_lsub hx hb hdec (hn _ _ _ _ _ q d0 H locs lsm hd0 hl hH hS hk1 hk2)
    · exact False.elim
  case lmul =>
    have hlen : len = 1 := by simpa [am_okI] using hok
    subst hlen
    revert q; dsimp only [am_sem]; split
    · intro q
      exact lv_lmul hx hb hdec (hn _ _ _ _ _ q d0 H locs lsm hd0 hl hH hS hk1 hk2)
    · exact False.elim
  case lneg =>
    have hlen : len = 1 := by simpa [am_okI] using hok
    subst hlen
    revert q; dsimp only [am_sem]; split
    · intro q
      exact lv_lneg hx hb hdec (hn _ _ _ _ _ q d0 H locs lsm hd0 hl hH hS hk1 hk2)
    · exact False.elim
  case i2d =>
    have hlen : len = 1 := by simpa [am_okI] using hok
    subst hlen
    revert q; dsimp only [am_sem]; split
    · intro q
      exact lv_i2d hx hb hdec (hn _ _ _ _ _ q d0 H locs lsm hd0 hl hH hS hk1 hk2)
    · exact False.elim
  case l2d =>
    have hlen : len = 1 := by simpa [am_okI] using hok
    subst hlen
    revert q; dsimp only [am_sem]; split
    · intro q
      exact lv_l2d hx hb hdec (hn _ _ _ _ _ q d0 H locs lsm hd0 hl hH hS hk1 hk2)
    · exact False.elim
  case l2f =>
    have hlen : len = 1 := by simpa [am_okI] using hok
    subst hlen
    revert q; dsimp only [am_sem]; split
    · intro q
      exact lv_l2f hx hb hdec (hn _ _ _ _ _ q d0 H locs lsm hd0 hl hH hS hk1 hk2)
    · exact False.elim
  case d2i =>
    have hlen : len = 1 := by simpa [am_okI] using hok
    subst hlen
    revert q; dsimp only [am_sem]; split
    · intro q
      exact lv_d2i hx hb hdec (hn _ _ _ _ _ q d0 H locs lsm hd0 hl hH hS hk1 hk2)
    · exact False.elim
  case d2l =>
    have hlen : len = 1 := by simpa [am_okI] using hok
    subst hlen
    revert q; dsimp only [am_sem]; split
    · intro q
      exact lv_d2l hx hb hdec (hn _ _ _ _ _ q d0 H locs lsm hd0 hl hH hS hk1 hk2)
    · exact False.elim
  case dneg =>
    have hlen : len = 1 := by simpa [am_okI] using hok
    subst hlen
    revert q; dsimp only [am_sem]; split
    · intro q
      exact lv_dneg hx hb hdec (hn _ _ _ _ _ q d0 H locs lsm hd0 hl hH hS hk1 hk2)
    · exact False.elim
  case fneg =>
    have hlen : len = 1 := by simpa [am_okI] using hok
    subst hlen
    revert q; dsimp only [am_sem]; split
    · intro q
      exact lv_fneg hx hb hdec (hn _ _ _ _ _ q d0 H locs lsm hd0 hl hH hS hk1 hk2)
    · exact False.elim
  case i2l =>
    have hlen : len = 1 := by simpa [am_okI] using hok
    subst hlen
    revert q; dsimp only [am_sem]; split
    · intro q
      exact lv_i2l hx hb hdec rfl (hn _ _ _ _ _ q d0 H locs lsm hd0 hl hH hS hk1 hk2)
    · exact False.elim
  case l2i =>
    have hlen : len = 1 := by simpa [am_okI] using hok
    subst hlen
    revert q; dsimp only [am_sem]; split
    · intro q
      exact lv_l2i hx hb hdec rfl (hn _ _ _ _ _ q d0 H locs lsm hd0 hl hH hS hk1 hk2)
    · exact False.elim
  case i2b =>
    have hlen : len = 1 := by simpa [am_okI] using hok
    subst hlen
    revert q; dsimp only [am_sem]; split
    · intro q
      exact lv_i2b hx hb hdec rfl (hn _ _ _ _ _ q d0 H locs lsm hd0 hl hH hS hk1 hk2)
    · exact False.elim
  case i2c =>
    have hlen : len = 1 := by simpa [am_okI] using hok
    subst hlen
    revert q; dsimp only [am_sem]; split
    · intro q
      exact lv_i2c hx hb hdec rfl (hn _ _ _ _ _ q d0 H locs lsm hd0 hl hH hS hk1 hk2)
    · exact False.elim
  case lcmp =>
    have hlen : len = 1 := by simpa [am_okI] using hok
    subst hlen
    revert q; dsimp only [am_sem]; split
    · intro q
      exact W.lcmp hx hb hdec (hn _ _ _ _ _ q d0 H locs lsm hd0 hl hH hS hk1 hk2)
    · exact False.elim
  case idiv =>
    have hlen : len = 1 := by simpa [am_okI] using hok
    subst hlen
    revert q; dsimp only [am_sem]; split
    · intro q
      exact lv_idiv hx hb hdec q.1 (hn _ _ _ _ _ q.2 d0 H locs lsm hd0 hl hH hS hk1 hk2)
    · exact False.elim
  case irem =>
    have hlen : len = 1 := by simpa [am_okI] using hok
    subst hlen
    revert q; dsimp only [am_sem]; split
    · intro q
      exact lv_irem hx hb hdec q.1 (hn _ _ _ _ _ q.2 d0 H locs lsm hd0 hl hH hS hk1 hk2)
    · exact False.elim
  case ldiv =>
    have hlen : len = 1 := by simpa [am_okI] using hok
    subst hlen
    revert q; dsimp only [am_sem]; split
    · intro q
      exact lv_ldiv hx hb hdec q.1 (hn _ _ _ _ _ q.2 d0 H locs lsm hd0 hl hH hS hk1 hk2)
    · exact False.elim
  case lrem =>
    have hlen : len = 1 := by simpa [am_okI] using hok
    subst hlen
    revert q; dsimp only [am_sem]; split
    · intro q
      exact lv_lrem hx hb hdec q.1 (hn _ _ _ _ _ q.2 d0 H locs lsm hd0 hl hH hS hk1 hk2)
    · exact False.elim
  case f2d =>
    have hlen : len = 1 := by simpa [am_okI] using hok
    subst hlen
    revert q; dsimp only [am_sem]; split
    · intro q
      exact lv_f2d_any hd0 lw_bits hx hb hdec (fun r d1 hal hd1 => hn _ _ _ _ _ (q r hal) d1 H locs lsm hd1 hl hH hS hk1 hk2)
    · exact False.elim
  case d2f =>
    have hlen : len = 1 := by simpa [am_okI] using hok
    subst hlen
    revert q; dsimp only [am_sem]; split
    · intro q
      exact lv_d2f_any hd0 lw_bits hx hb hdec (fun r d1 hal hd1 => hn _ _ _ _ _ (q r hal) d1 H locs lsm hd1 hl hH hS hk1 hk2)
    · exact False.elim
  case dadd =>
    have hlen : len = 1 := by simpa [am_okI] using hok
    subst hlen
    revert q; dsimp only [am_sem]; split
    · intro q
      exact lv_dadd_any hd0 lw_bits hx hb hdec (fun r d1 hal hd1 => hn _ _ _ _ _ (q r hal) d1 H locs lsm hd1 hl hH hS hk1 hk2)
    · exact False.elim
  case dsub =>
    have hlen : len = 1 := by simpa [am_okI] using hok
    subst hlen
    revert q; dsimp only [am_sem]; split
    · intro q
      exact lv_dsub_any hd0 lw_bits hx hb hdec (fun r d1 hal hd1 => hn _ _ _ _ _ (q r hal) d1 H locs lsm hd1 hl hH hS hk1 hk2)
    · exact False.elim
  case dmul =>
    have hlen : len = 1 := by simpa [am_okI] using hok
    subst hlen
    revert q; dsimp only [am_sem]; split
    · intro q
      exact lv_dmul_any hd0 lw_bits hx hb hdec (fun r d1 hal hd1 => hn _ _ _ _ _ (q r hal) d1 H locs lsm hd1 hl hH hS hk1 hk2)
    · exact False.elim
  case ddiv =>
    have hlen : len = 1 := by simpa [am_okI] using hok
    subst hlen
    revert q; dsimp only [am_sem]; split
    · intro q
      exact lv_ddiv_any hd0 lw_bits hx hb hdec (fun r d1 hal hd1 => hn _ _ _ _ _ (q r hal) d1 H locs lsm hd1 hl hH hS hk1 hk2)
    · exact False.elim
  case dcmp z =>
    have hlen : len = 1 := by simpa [am_okI] using hok
    subst hlen
    revert q; dsimp only [am_sem]; split
    · intro q
      exact lv_dcmp hx hb hdec (hn _ _ _ _ _ q d0 H locs lsm hd0 hl hH hS hk1 hk2)
    · exact False.elim
  case fcmp z =>
    have hlen : len = 1 := by simpa [am_okI] using hok
    subst hlen
    revert q; dsimp only [am_sem]; split
    · intro q
      exact lv_fcmp hx hb hdec (hn _ _ _ _ _ q d0 H locs lsm hd0 hl hH hS hk1 hk2)
    · exact False.elim
  case goto z =>
    simp only [am_okI, Bool.and_eq_true, beq_iff_eq] at hok
    obtain ⟨hlen, h1⟩ := hok
    subst hlen
    obtain ⟨t, t1, t2⟩ := am_to_out h1
    exact lv_goto hx hb hdec t2 (hB _ _ _ _ _ _ t t1 q d0 H locs lsm hd0 hl hH hS hk1 hk2)
  case ifnonnull z =>
    simp only [am_okI, Bool.and_eq_true, beq_iff_eq] at hok
    obtain ⟨hlen, h1⟩ := hok
    subst hlen
    revert q; dsimp only [am_sem]; split
    · intro q
      obtain ⟨t, t1, t2⟩ := am_to_out h1
      rename_i x r
      obtain ⟨f, hf⟩ := Option.isSome_iff_exists.mp q.1
      obtain ⟨x', cell, hx', -⟩ := (hH.2.2 x f hf).2
      exact am_s_ifnn hx hb hdec t2 ⟨x', hx'⟩ (hB _ _ _ _ _ _ t t1 q.2 d0 H locs lsm hd0 hl hH hS hk1 hk2)
    · exact False.elim
  case ifCond cc z =>
    simp only [am_okI, Bool.and_eq_true, beq_iff_eq] at hok
    obtain ⟨⟨hlen, h1⟩, h2⟩ := hok
    subst hlen
    obtain ⟨t, t1, t2⟩ := am_to_out h1
    obtain ⟨u, u1, u2⟩ := am_to_out h2
    have u2 : u = pc + 3 := by omega
    subst u2
    revert q; dsimp only [am_sem]; split
    · intro q
      cases cc
      · exact lv_if_eq hx hb hdec t2 (fun z => hB _ _ _ _ _ _ t t1 (q.1 z) d0 H locs lsm hd0 hl hH hS hk1 hk2) (fun z => hB _ _ _ _ _ _ _ u1 (q.2 z) d0 H locs lsm hd0 hl hH hS hk1 hk2)
      · exact lv_if_ne hx hb hdec t2 (fun z => hB _ _ _ _ _ _ t t1 (q.1 z) d0 H locs lsm hd0 hl hH hS hk1 hk2) (fun z => hB _ _ _ _ _ _ _ u1 (q.2 z) d0 H locs lsm hd0 hl hH hS hk1 hk2)
      · exact lv_if_lt hx hb hdec t2 (fun z => hB _ _ _ _ _ _ t t1 (q.1 z) d0 H locs lsm hd0 hl hH hS hk1 hk2) (fun z => hB _ _ _ _ _ _ _ u1 (q.2 z) d0 H locs lsm hd0 hl hH hS hk1 hk2)
      · exact lv_if_ge hx hb hdec t2 (fun z => hB _ _ _ _ _ _ t t1 (q.1 z) d0 H locs lsm hd0 hl hH hS hk1 hk2) (fun z => hB _ _ _ _ _ _ _ u1 (q.2 z) d0 H locs lsm hd0 hl hH hS hk1 hk2)
      · exact lv_if_gt hx hb hdec t2 (fun z => hB _ _ _ _ _ _ t t1 (q.1 z) d0 H locs lsm hd0 hl hH hS hk1 hk2) (fun z => hB _ _ _ _ _ _ _ u1 (q.2 z) d0 H locs lsm hd0 hl hH hS hk1 hk2)
      · exact lv_if_le hx hb hdec t2 (fun z => hB _ _ _ _ _ _ t t1 (q.1 z) d0 H locs lsm hd0 hl hH hS hk1 hk2) (fun z => hB _ _ _ _ _ _ _ u1 (q.2 z) d0 H locs lsm hd0 hl hH hS hk1 hk2)
    · exact False.elim
  case if_icmp cc z =>
    simp only [am_okI, Bool.and_eq_true, beq_iff_eq] at hok
    obtain ⟨⟨hlen, h1⟩, h2⟩ := hok
    subst hlen
    obtain ⟨t, t1, t2⟩ := am_to_out h1
    obtain ⟨u, u1, u2⟩ := am_to_out h2
    have u2 : u = pc + 3 := by omega
    subst u2
    revert q; dsimp only [am_sem]; split
    · intro q
      cases cc
      · exact lv_icmp_eq hx hb hdec t2 (fun z => hB _ _ _ _ _ _ t t1 (q.1 z) d0 H locs lsm hd0 hl hH hS hk1 hk2) (fun z => hB _ _ _ _ _ _ _ u1 (q.2 z) d0 H locs lsm hd0 hl hH hS hk1 hk2)
      · exact lv_icmp_ne hx hb hdec t2 (fun z => hB _ _ _ _ _ _ t t1 (q.1 z) d0 H locs lsm hd0 hl hH hS hk1 hk2) (fun z => hB _ _ _ _ _ _ _ u1 (q.2 z) d0 H locs lsm hd0 hl hH hS hk1 hk2)
      · exact lv_icmp_lt hx hb hdec t2 (fun z => hB _ _ _ _ _ _ t t1 (q.1 z) d0 H locs lsm hd0 hl hH hS hk1 hk2) (fun z => hB _ _ _ _ _ _ _ u1 (q.2 z) d0 H locs lsm hd0 hl hH hS hk1 hk2)
      · exact lv_icmp_ge hx hb hdec t2 (fun z => hB _ _ _ _ _ _ t t1 (q.1 z) d0 H locs lsm hd0 hl hH hS hk1 hk2) (fun z => hB _ _ _ _ _ _ _ u1 (q.2 z) d0 H locs lsm hd0 hl hH hS hk1 hk2)
      · exact lv_icmp_gt hx hb hdec t2 (fun z => hB _ _ _ _ _ _ t t1 (q.1 z) d0 H locs lsm hd0 hl hH hS hk1 hk2) (fun z => hB _ _ _ _ _ _ _ u1 (q.2 z) d0 H locs lsm hd0 hl hH hS hk1 hk2)
      · exact lv_icmp_le hx hb hdec t2 (fun z => hB _ _ _ _ _ _ t t1 (q.1 z) d0 H locs lsm hd0 hl hH hS hk1 hk2) (fun z => hB _ _ _ _ _ _ _ u1 (q.2 z) d0 H locs lsm hd0 hl hH hS hk1 hk2)
    · exact False.elim
  case tableswitch z lo hi offs =>
    revert q; dsimp only [am_sem]; split
    · intro q
      exact am_s_table hx hb hdec hok q (fun b t ht hb => hB _ _ _ _ _ _ t ht hb d0 H locs lsm hd0 hl hH hS hk1 hk2)
    · exact False.elim
  case lookupswitch z ps =>
    revert q; dsimp only [am_sem]; split
    · intro q
      exact am_s_look hx hb hdec hok q (fun b t ht hb => hB _ _ _ _ _ _ t ht hb d0 H locs lsm hd0 hl hH hS hk1 hk2)
    · exact False.elim
  case return_ =>
    have hlen : len = 1 := by simpa [am_okI] using hok
    subst hlen
    revert q; dsimp only [am_sem]; split
    · intro q
      exact hend pc none h n k d0 H locs lsm q.1 q.2 hd0 hH hS hk1 hk2 (by rw [hdec, q.1]; rfl)
    · exact False.elim
  case ireturn =>
    have hlen : len = 1 := by simpa [am_okI] using hok
    subst hlen
    revert q; dsimp only [am_sem]; split
    · intro q
      exact hend pc _ h n k d0 H locs lsm q.1 q.2 hd0 hH hS hk1 hk2 (by rw [hdec, am_rt_retI q.1])
    · exact False.elim
  case lreturn =>
    have hlen : len = 1 := by simpa [am_okI] using hok
    subst hlen
    revert q; dsimp only [am_sem]; split
    · intro q
      exact hend pc (some (.long _)) h n k d0 H locs lsm q.1 q.2 hd0 hH hS hk1 hk2 (by rw [hdec, q.1]; rfl)
    · exact False.elim
  case dreturn =>
    have hlen : len = 1 := by simpa [am_okI] using hok
    subst hlen
    revert q; dsimp only [am_sem]; split
    · intro q
      exact hend pc (some (.double _)) h n k d0 H locs lsm q.1 q.2 hd0 hH hS hk1 hk2 (by rw [hdec, q.1]; rfl)
    · exact False.elim
  case areturn =>
    have hlen : len = 1 := by simpa [am_okI] using hok
    subst hlen
    revert q; dsimp only [am_sem]; split
    · intro q
      exact hend pc (some (.ref _)) h n k d0 H locs lsm q.1 q.2 hd0 hH hS hk1 hk2 (by rw [hdec, q.1]; rfl)
    · exact False.elim
  case getfield z =>
    simp only [am_okI, Bool.and_eq_true, beq_iff_eq, decide_eq_true_eq] at hok
    obtain ⟨⟨⟨hlen, h1⟩, h2⟩, h3⟩ := hok
    subst hlen
    revert q; dsimp only [am_sem]; split
    · intro q
      rename_i x r
      obtain ⟨fs, hfs, q⟩ := am_oa_out q
      revert q; split
      · intro q
        rename_i w hw
        refine am_s_getf hE hx hb hown hH h1 h2 ?_ hfs hw q.1 hdec (hn _ _ _ _ _ q.2 d0 H locs lsm hd0 hl hH hS hk1 hk2)
        by_cases z0 : am_x (.getfield z, v, a) 3 = 0
        · rw [if_pos z0] at h3; exact Or.inl (am_W_use (hts d0) h3)
        · rw [if_neg z0] at h3; exact Or.inr (am_W_use (hts d0) h3)
      · exact False.elim
    · exact False.elim
  case putfield z =>
    simp only [am_okI, Bool.and_eq_true, beq_iff_eq, decide_eq_true_eq] at hok
    obtain ⟨⟨⟨⟨⟨hlen, h1⟩, h2⟩, h3⟩, h4⟩, h5⟩ := hok
    subst hlen
    revert q; dsimp only [am_sem]; split
    · intro q
      rename_i w x r
      obtain ⟨fs, hfs, h64, hokv, q⟩ := am_oa_out q
      revert q; split
      · intro q
        rename_i w0 hw
        refine am_s_putf hE hx hb hown hnm hH hS h1 h2 ?_ hfs h64 hw q.1 (by rw [← h3] at hokv; exact hokv) hdec (fun H1 locs1 hH1 hS1 => hn _ _ _ _ _ q.2 d0 H1 locs1 lsm hd0 hl hH1 hS1 hk1 hk2)
        have h5 : ((vwCl.getD (am_x (.putfield z, v, a) 0) am_cdf).2.1 (am_x (.putfield z, v, a) 1)).2.2.2 = false ∨ ((mr.1.name = "<init>" ∧ ((vwCl.getD (am_x (.putfield z, v, a) 0) am_cdf).2.1 (am_x (.putfield z, v, a) 1)).1 = mr.1.cls) ∧ am_x (.putfield z, v, a) 4 = 0) := by
          rw [Bool.or_eq_true, Bool.and_eq_true, Bool.and_eq_true, decide_eq_true_eq, decide_eq_true_eq, decide_eq_true_eq] at h5
          rcases h5 with h5 | h5
          · exact Or.inl (by simpa using h5)
          · exact Or.inr ⟨⟨h5.1.1, h5.1.2⟩, h5.2⟩
        by_cases z0 : am_x (.putfield z, v, a) 4 = 0
        · rw [if_pos z0] at h4
          exact Or.inl ⟨am_W_use (hts d0) h4, h5.imp id (fun q => q.1)⟩
        · rw [if_neg z0] at h4
          exact Or.inr ⟨am_W_use (hts d0) h4, h5.resolve_right (fun q => z0 q.2)⟩
      · exact False.elim
    · exact False.elim
  case new z =>
    simp only [am_okI, Bool.and_eq_true, beq_iff_eq, decide_eq_true_eq] at hok
    obtain ⟨⟨⟨⟨⟨hlen, h1⟩, h2⟩, h3⟩, h4⟩, h5⟩ := hok
    subst hlen
    revert q; dsimp only [am_sem]; intro q
    exact am_s_new hE hx hb hown (hts d0) hH hS h1 h2 (am_W_use (hts d0) h3) (am_W_use (hts d0) h4) (am_W_use (hts d0) h5) (Nat.le_trans q.1 hRc) (Nat.le_trans q.2.1 hRs) hdec (fun H1 hH1 hS1 => hn _ _ _ _ _ q.2.2 d0 H1 locs lsm hd0 hl hH1 hS1 q.1 q.2.1)
  case newarray z =>
    simp only [am_okI, Bool.and_eq_true, beq_iff_eq, decide_eq_true_eq] at hok
    obtain ⟨⟨⟨hlen, h1⟩, h2⟩, h3⟩ := hok
    subst hlen
    revert q; dsimp only [am_sem]; split
    · intro q
      exact am_s_newa hE hx hb hH hS h1 h2 (am_W_use (hts d0) h3) q.1 q.2.1 (Nat.le_trans q.2.2.1 hRc) (Nat.le_trans q.2.2.2.1 hRs) hdec (fun H1 hH1 hS1 => hn _ _ _ _ _ q.2.2.2.2 d0 H1 locs lsm hd0 hl hH1 hS1 q.2.2.1 q.2.2.2.1)
    · exact False.elim
  case anewarray z =>
    simp only [am_okI, Bool.and_eq_true, beq_iff_eq, decide_eq_true_eq] at hok
    obtain ⟨⟨hlen, h1⟩, h3⟩ := hok
    subst hlen
    revert q; dsimp only [am_sem]; split
    · intro q
      revert h3; split
      · intro h3
        rename_i C hC
        rw [Bool.and_eq_true] at h3
        exact am_s_anew hE hx hb hown hH hS hC (am_W_use (hts d0) h3.1) (am_W_use (hts d0) h3.2) q.1 q.2.1 (Nat.le_trans q.2.2.1 hRc) (Nat.le_trans q.2.2.2.1 hRs) hdec (fun H1 hH1 hS1 => hn _ _ _ _ _ q.2.2.2.2 d0 H1 locs lsm hd0 hl hH1 hS1 q.2.2.1 q.2.2.2.1)
      · exact fun h => by cases h
    · exact False.elim
  case multianewarray z dm =>
    simp only [am_okI, Bool.and_eq_true, beq_iff_eq, decide_eq_true_eq] at hok
    obtain ⟨⟨⟨⟨⟨⟨⟨hlen, h1⟩, h2⟩, h7⟩, h3⟩, h4⟩, h5⟩, h6⟩ := hok
    subst hlen; subst h1
    revert q; dsimp only [am_sem]; split
    · intro q
      exact am_s_multi hE hx hb hown hH hS h2 h7 h3 (am_W_use (hts d0) h4) (am_W_use (hts d0) h5) (am_W_use (hts d0) h6) q.1 q.2.1 q.2.2.1 q.2.2.2.1 (Nat.le_trans q.2.2.2.2.1 hRc) (Nat.le_trans q.2.2.2.2.2.1 hRs) hdec (fun H1 hH1 hS1 => hn _ _ _ _ _ q.2.2.2.2.2.2 d0 H1 locs lsm hd0 hl hH1 hS1 q.2.2.2.2.1 q.2.2.2.2.2.1)
    · exact False.elim
  case arraylength =>
    have hlen : len = 1 := by simpa [am_okI] using hok
    subst hlen
    revert q; dsimp only [am_sem]; split
    · intro q
      rename_i x r
      obtain ⟨t, n0, y, hfs, q⟩ := am_an_out q
      obtain ⟨-, a', cell, hLa, hcell, g1, g2, g3, g4, -⟩ := hH.2.2 x _ hfs
      have hq := hn _ _ _ _ _ q d0 H locs lsm hd0 hl hH hS hk1 hk2
      show W p l e R (s.setDrawn d0) m args below meth c H locs k.1 k.2 Q (F0 m pc lsm (L x :: r.map (am_mv L)))
      rw [hLa]
      exact W.alen hx hb hcell g1 g4 rfl rfl hdec hq
    · exact False.elim
  case iaload =>
    have hlen : len = 1 := by simpa [am_okI] using hok
    subst hlen
    revert q; dsimp only [am_sem]; split
    · intro q
      rename_i j x r
      obtain ⟨n0, f, hfs, hj, q⟩ := am_ia_out q
      obtain ⟨-, a', cell, hLa, hcell, g1, g2, g3, g4, g5, -⟩ := hH.2.2 x _ hfs
      have hq := hn _ _ _ _ _ q d0 H locs lsm hd0 hl hH hS hk1 hk2
      show W p l e R (s.setDrawn d0) m args below meth c H locs k.1 k.2 Q (F0 m pc lsm (.int j :: L x :: r.map (am_mv L)))
      rw [hLa]
      exact W.iald hx hb hcell g1 g2 (fun z => z.elim hj.1 (fun z => by have := hj.2; have g3 : n0 ≤ cell.slots.size := g3; omega)) (g5 _ hj.2) rfl rfl hdec hq
    · exact False.elim
  case laload =>
    have hlen : len = 1 := by simpa [am_okI] using hok
    subst hlen
    revert q; dsimp only [am_sem]; split
    · intro q
      rename_i j x r
      obtain ⟨n0, f, hfs, hj, q⟩ := am_la_out q
      obtain ⟨-, a', cell, hLa, hcell, g1, g2, g3, g4, g5, -⟩ := hH.2.2 x _ hfs
      have hq := hn _ _ _ _ _ q d0 H locs lsm hd0 hl hH hS hk1 hk2
      show W p l e R (s.setDrawn d0) m args below meth c H locs k.1 k.2 Q (F0 m pc lsm (.int j :: L x :: r.map (am_mv L)))
      rw [hLa]
      exact W.lald hx hb hcell g1 g2 (fun z => z.elim hj.1 (fun z => by have := hj.2; have g3 : n0 ≤ cell.slots.size := g3; omega)) (g5 _ hj.2) rfl rfl hdec hq
    · exact False.elim
  case daload =>
    have hlen : len = 1 := by simpa [am_okI] using hok
    subst hlen
    revert q; dsimp only [am_sem]; split
    · intro q
      rename_i j x r
      obtain ⟨n0, f, hfs, hj, q⟩ := am_da_out q
      obtain ⟨-, a', cell, hLa, hcell, g1, g2, g3, g4, g5, -⟩ := hH.2.2 x _ hfs
      have hq := hn _ _ _ _ _ q d0 H locs lsm hd0 hl hH hS hk1 hk2
      show W p l e R (s.setDrawn d0) m args below meth c H locs k.1 k.2 Q (F0 m pc lsm (.int j :: L x :: r.map (am_mv L)))
      rw [hLa]
      exact W.dald hx hb hcell g1 g2 (fun z => z.elim hj.1 (fun z => by have := hj.2; have g3 : n0 ≤ cell.slots.size := g3; omega)) (g5 _ hj.2) rfl rfl hdec hq
    · exact False.elim
  case baload =>
    simp only [am_okI, Bool.and_eq_true, Bool.or_eq_true, beq_iff_eq] at hok
    obtain ⟨hlen, ht⟩ := hok
    subst hlen
    revert q; dsimp only [am_sem]; split
    · intro q
      rename_i j x r
      obtain ⟨n0, f, hfs, hj, q⟩ := am_ia_out q
      obtain ⟨-, a', cell, hLa, hcell, g1, g2, g3, g4, g5, -⟩ := hH.2.2 x _ hfs
      have g1 : s.isArrayOf cell (am_ty (am_x (.baload, v, a) 0)) := g1
      have hq := hn _ _ _ _ _ q d0 H locs lsm hd0 hl hH hS hk1 hk2
      show W p l e R (s.setDrawn d0) m args below meth c H locs k.1 k.2 Q (F0 m pc lsm (.int j :: L x :: r.map (am_mv L)))
      rw [hLa]
      rcases ht with ht | ht
      · rw [ht] at g1
        exact W.zald hx hb hcell g1 g2 (fun z => z.elim hj.1 (fun z => by have := hj.2; have g3 : n0 ≤ cell.slots.size := g3; omega)) (g5 _ hj.2) rfl rfl hdec hq
      · rw [ht] at g1
        exact W.bald hx hb hcell g1 g2 (fun z => z.elim hj.1 (fun z => by have := hj.2; have g3 : n0 ≤ cell.slots.size := g3; omega)) (g5 _ hj.2) rfl rfl hdec hq
    · exact False.elim
  case aaload =>
    simp only [am_okI, Bool.and_eq_true, beq_iff_eq] at hok
    obtain ⟨hlen, ht⟩ := hok
    subst hlen
    revert q; dsimp only [am_sem]; split
    · intro q
      rename_i j x r
      obtain ⟨n0, f, hfs, hj, q⟩ := am_qa_out q
      obtain ⟨-, a', cell, hLa, hcell, g1, g2, g3, g4, g5, -⟩ := hH.2.2 x _ hfs
      have hq := hn _ _ _ _ _ q d0 H locs lsm hd0 hl hH hS hk1 hk2
      show W p l e R (s.setDrawn d0) m args below meth c H locs k.1 k.2 Q (F0 m pc lsm (.int j :: L x :: r.map (am_mv L)))
      rw [hLa]
      exact W.aald hx hb hcell g1 ht g2 (fun z => z.elim hj.1 (fun z => by have := hj.2; have g3 : n0 ≤ cell.slots.size := g3; omega)) (g5 _ hj.2) rfl rfl hdec hq
    · exact False.elim
  case iastore =>
    have hlen : len = 1 := by simpa [am_okI] using hok
    subst hlen
    revert q; dsimp only [am_sem]; split
    · intro q
      rename_i w j x r
      obtain ⟨n0, f, hfs, h64, hj, q⟩ := am_ia_out q
      obtain ⟨-, a', cell, hLa, hcell, hA⟩ := hH.2.2 x _ hfs
      obtain ⟨g1, g2, g3, -⟩ := id hA
      show W p l e R (s.setDrawn d0) m args below meth c H locs k.1 k.2 Q (F0 m pc lsm (_ :: .int j :: L x :: r.map (am_mv L)))
      rw [hLa]
      refine W.iast hx hb hcell g1 g2 (fun z => z.elim hj.1 (fun z => by have := hj.2; have g3 : n0 ≤ cell.slots.size := g3; omega)) rfl rfl hdec (fun H1 e1 e2 e3 => ?_)
      obtain ⟨hH1, hS1⟩ := am_s_stored hE hH hS h64 hfs hLa hA hj.2 (fun i _ => by
        show am_el _ i = _
        simp only [am_el, va_up]
        by_cases z : i = j.toNatClampNeg <;> simp [z]) e1 e2 e3
      exact hn _ _ _ _ _ q d0 H1 _ lsm hd0 hl hH1 hS1 hk1 hk2
    · exact False.elim
  case lastore =>
    have hlen : len = 1 := by simpa [am_okI] using hok
    subst hlen
    revert q; dsimp only [am_sem]; split
    · intro q
      rename_i w j x r
      obtain ⟨n0, f, hfs, h64, hj, q⟩ := am_la_out q
      obtain ⟨-, a', cell, hLa, hcell, hA⟩ := hH.2.2 x _ hfs
      obtain ⟨g1, g2, g3, -⟩ := id hA
      show W p l e R (s.setDrawn d0) m args below meth c H locs k.1 k.2 Q (F0 m pc lsm (_ :: .int j :: L x :: r.map (am_mv L)))
      rw [hLa]
      refine W.last hx hb hcell g1 g2 (fun z => z.elim hj.1 (fun z => by have := hj.2; have g3 : n0 ≤ cell.slots.size := g3; omega)) rfl rfl hdec (fun H1 e1 e2 e3 => ?_)
      obtain ⟨hH1, hS1⟩ := am_s_stored hE hH hS h64 hfs hLa hA hj.2 (fun i _ => by
        show am_el _ i = _
        simp only [am_el, va_up]
        by_cases z : i = j.toNatClampNeg <;> simp [z]) e1 e2 e3
      exact hn _ _ _ _ _ q d0 H1 _ lsm hd0 hl hH1 hS1 hk1 hk2
    · exact False.elim
  case dastore =>
    have hlen : len = 1 := by simpa [am_okI] using hok
    subst hlen
    revert q; dsimp only [am_sem]; split
    · intro q
      rename_i w j x r
      obtain ⟨n0, f, hfs, h64, hj, q⟩ := am_da_out q
      obtain ⟨-, a', cell, hLa, hcell, hA⟩ := hH.2.2 x _ hfs
      obtain ⟨g1, g2, g3, -⟩ := id hA
      show W p l e R (s.setDrawn d0) m args below meth c H locs k.1 k.2 Q (F0 m pc lsm (_ :: .int j :: L x :: r.map (am_mv L)))
      rw [hLa]
      refine W.dast hx hb hcell g1 g2 (fun z => z.elim hj.1 (fun z => by have := hj.2; have g3 : n0 ≤ cell.slots.size := g3; omega)) rfl rfl hdec (fun H1 e1 e2 e3 => ?_)
      obtain ⟨hH1, hS1⟩ := am_s_stored hE hH hS h64 hfs hLa hA hj.2 (fun i _ => by
        show am_el _ i = _
        simp only [am_el, va_up]
        by_cases z : i = j.toNatClampNeg <;> simp [z]) e1 e2 e3
      exact hn _ _ _ _ _ q d0 H1 _ lsm hd0 hl hH1 hS1 hk1 hk2
    · exact False.elim
  case bastore =>
    simp only [am_okI, Bool.and_eq_true, Bool.or_eq_true, beq_iff_eq] at hok
    obtain ⟨hlen, ht⟩ := hok
    subst hlen
    revert q; dsimp only [am_sem]; split
    · intro q
      rename_i w j x r
      obtain ⟨n0, f, hfs, h64, hj, hw, q⟩ := am_ia_out q
      obtain ⟨-, a', cell, hLa, hcell, hA⟩ := hH.2.2 x _ hfs
      obtain ⟨g1, g2, g3, -⟩ := id hA
      have g1 : s.isArrayOf cell (am_ty (am_x (.bastore, v, a) 0)) := g1
      have g3 : n0 ≤ cell.slots.size := g3
      show W p l e R (s.setDrawn d0) m args below meth c H locs k.1 k.2 Q (F0 m pc lsm (_ :: .int j :: L x :: r.map (am_mv L)))
      rw [hLa]
      have fin : ∀ (H1 : Heap), H1[a']? = some (cell.setSlot j.toNatClampNeg (am_mv L (.int (if am_x (.bastore, v, a) 0 = 3 then w else w.toInt8.toInt32)))) → H1.size = H.size → (∀ q, q ≠ a' → H1[q]? = H[q]?) → W p l e R (s.setDrawn d0) m args below meth c H1 (locs ++ [⟨a', j.toNatClampNeg⟩]) k.1 k.2 Q (F0 m (pc + 1) lsm (r.map (am_mv L))) := fun H1 e1 e2 e3 => by
        obtain ⟨hH1, hS1⟩ := am_s_stored hE hH hS h64 hfs hLa hA hj.2 (fun i _ => by
          show am_el _ i = _
          simp only [am_el, va_up]
          by_cases z : i = j.toNatClampNeg <;> simp [z]) e1 e2 e3
        exact hn _ _ _ _ _ q d0 H1 _ lsm hd0 hl hH1 hS1 hk1 hk2
      rcases ht with ht | ht
      · rw [ht] at g1 hw fin
        refine W.zast hx hb hcell g1 g2 (fun z => z.elim hj.1 (fun z => by have := hj.2; omega)) rfl rfl hdec (fun H1 e1 e2 e3 => fin H1 ?_ e2 e3)
        rw [if_pos rfl, e1]
        rcases hw rfl with hw | hw <;> subst hw <;> rfl
      · rw [ht] at g1 fin
        refine W.bast hx hb hcell g1 g2 (fun z => z.elim hj.1 (fun z => by have := hj.2; omega)) rfl rfl hdec (fun H1 e1 e2 e3 => fin H1 ?_ e2 e3)
        rw [if_neg (by decide), e1]
        rfl
    · exact False.elim
  case aastore =>
    simp only [am_okI, Bool.and_eq_true, beq_iff_eq, decide_eq_true_eq] at hok
    obtain ⟨⟨hlen, h1⟩, h2⟩ := hok
    subst hlen
    revert q; dsimp only [am_sem]; split
    · intro q
      rename_i w j x r
      obtain ⟨n0, f, hfs, h64, hj, q⟩ := am_qa_out q
      obtain ⟨fs, hws, q⟩ := am_oa_out q
      obtain ⟨-, a', cell, hLa, hcell, hA⟩ := hH.2.2 x _ hfs
      obtain ⟨g1, g2, g3, g4, g5, g6, g7⟩ := id hA
      obtain ⟨-, w', cv, hLw, hcv, rr, hrr, hcls, hvm, hnst, -, -⟩ := hH.2.2 w _ hws
      have er : rr = vwCl.getD (am_x (.aastore, v, a) 1) am_cdf := Option.some.inj (hrr.symm.trans (am_cls_get _ h1))
      subst er
      obtain ⟨kA, comp, k1, k2, k3⟩ := g7 _ h2 h64
      have hcl := (hE.2.2.1.1 _ _ hrr).2
      have hcomp : comp = D.1 (am_x (.aastore, v, a) 1) := Option.some.inj (k3.symm.trans hcl.1)
      subst hcomp
      obtain ⟨kC, hkC, -⟩ := hcl.2
      show W p l e R (s.setDrawn d0) m args below meth c H locs k.1 k.2 Q (F0 m pc lsm (L w :: .int j :: L x :: r.map (am_mv L)))
      rw [hLa, hLw]
      refine W.aast (s := s.setDrawn d0) hx hb hcell g1.1 g2 k1 k2 rfl hkC ⟨hj.1, by have := hj.2; have g3 : n0 ≤ cell.slots.size := g3; omega⟩ hcv (fun q h => by rw [h] at hnst; cases hnst) (by rw [hcls]; exact hkC) (by rw [hcls]; exact va_assign hcl) rfl rfl hdec (fun H1 e1 e2 e3 => ?_)
      rw [← hLw] at e1
      obtain ⟨hH1, hS1⟩ := am_s_stored (w := .ref w) (x' := am_xq (va_up f j.toNatClampNeg (some w))) hE hH hS h64 hfs hLa hA hj.2 (fun i _ => by
        simp only [am_el, va_up]
        by_cases z : i = j.toNatClampNeg <;> simp [z, va_rf]) e1 e2 e3
      exact hn _ _ _ _ _ q d0 H1 _ lsm hd0 hl hH1 hS1 hk1 hk2
    · exact False.elim
  case checkcast z =>
    simp only [am_okI, Bool.and_eq_true, beq_iff_eq] at hok
    obtain ⟨hlen, h1⟩ := hok
    subst hlen
    revert q; dsimp only [am_sem]; split
    · intro q
      rename_i x r
      obtain ⟨n0, f, hfs, h64, q⟩ := am_ia_out q
      obtain ⟨-, a', cell, hLa, hcell, g1, g2, g3, g4, g5, g6, g7⟩ := hH.2.2 x _ hfs
      have hnm : s.vm.findClass "[B" = some cell.cls := (g6 h64).2.2
      have hq := hn _ _ _ _ _ q d0 H locs lsm hd0 hl hH hS hk1 hk2
      have hq : W p l e R (s.setDrawn d0) m args below meth c H locs k.1 k.2 Q (F0 m (pc + 3) lsm (L x :: r.map (am_mv L))) := hq
      show W p l e R (s.setDrawn d0) m args below meth c H locs k.1 k.2 Q (F0 m pc lsm (L x :: r.map (am_mv L)))
      rw [hLa] at hq ⊢
      intro T hT X
      obtain ⟨vm', X', st'⟩ := X.checkcastYes hx hown (am_W_use (hts d0) h1) (by rw [hT]; exact hcell) (by rw [(g6 h64).1]; rfl) hnm (va_asg _ _) (g := F0 m pc lsm (.ref a' :: r.map (am_mv L))) rfl rfl (by rw [hb]; exact hdec)
      obtain ⟨t, a1, b1⟩ := hq (T.setVm vm') hT X'
      exact ⟨t, st' t a1, b1⟩
    · exact False.elim
  case invokestatic z =>
    simp only [am_okI, Bool.and_eq_true, beq_iff_eq] at hok
    obtain ⟨hlen, hok⟩ := hok
    subst hlen
    revert q; dsimp only [am_sem]
    split
    · rename_i k8
      rw [k8] at hok
      simp only [Bool.and_eq_true, Bool.or_eq_true, beq_iff_eq] at hok
      obtain ⟨⟨⟨⟨ht, w6⟩, w7⟩, w8⟩, w9⟩ := hok
      split
      · intro q
        rename_i kk dp dd sp aa r
        obtain ⟨h1, h2, h3, hr, q⟩ := q
        obtain ⟨n0, f, hfa, q⟩ := am_ia_out q
        obtain ⟨n1, g, hfd, h64, h4, h5, hfit, q⟩ := am_ia_out q
        have hsum := am_mv_sum hL r
        have hw5 : nativeFrameWords "java/lang/System" "arraycopy" 5 ≤ 40 := by decide
        exact am_s_copy hE hx hb (hml.trans hl.1.symm) hown hH hS (am_W_use (hts d0) w6) (am_W_use (hts d0) w7) (am_W_use (hts d0) w8) (am_W_use (hts d0) w9) ht hfa hfd h64 h1 h2 h3 h4 h5 hfit (by omega) (by omega) hdec (fun H1 locs1 hH1 hS1 => hn _ _ _ _ _ q d0 H1 locs1 lsm hd0 hl hH1 hS1 hk1 hk2)
      · exact False.elim
    · rename_i n8
      split
      · rename_i k9
        rw [k9] at hok
        simp only [Bool.and_eq_true] at hok
        obtain ⟨⟨⟨w6, w7⟩, w8⟩, w9⟩ := hok
        split
        · intro q
          rename_i x r
          have hsum := am_mv_sum hL r
          exact vn_f2i (s := s.setDrawn d0) hx hb (hml.trans hl.1.symm) hown (am_W_use (hts d0) w6) (am_W_use (hts d0) w7) (am_W_use (hts d0) w8) (am_W_use (hts d0) w9) (by omega) (by have := q.1; omega) hdec (hn _ _ _ _ _ q.2 d0 H locs lsm hd0 hl hH hS hk1 hk2)
        · exact False.elim
      · rename_i n9
        intro q
        obtain ⟨as, r, est, elen, hr, hb0⟩ := am_pop_out q
        rw [List.append_nil] at hb0
        obtain ⟨hF, l1, l2⟩ := am_b0_out hb0 hk1 hk2
        have hsum := am_mv_sum hL r
        have hstk : st.map (am_mv L) = (as.map (am_mv L)).reverse ++ r.map (am_mv L) := by rw [est]; simp
        rw [hstk]
        revert hok; split
        · rename_i k0
          intro hok
          simp only [Bool.and_eq_true, decide_eq_true_eq] at hok
          obtain ⟨⟨⟨⟨w0, w6⟩, w7⟩, w8⟩, w9⟩ := hok
          obtain ⟨e1, e2, e3, e4, e5⟩ := am_okC_out w0
          rw [← e1, ← e2] at hF
          rw [← e1] at l1
          rw [← e2] at l2
          refine am_callD hd0 (va_runS_D (s := s.setDrawn d0) (Ts := []) ⟨hx, hb, hml, hown, fun _ h => by cases h⟩ (hCT _ _ _ _ _ hF L D B) ⟨am_callB hE hRf hRl e3 e4 e5 (am_W_mem w9) (am_W_use (hts d0) w8) (am_W_use (hts d0) w6), (am_W_use (hts d0) w7)⟩ (am_pre (s := s) hE hH hS) rfl (by rw [List.length_map]; exact elen) hl.1 rfl (lv_room (by omega)) hdec ⟨Nat.le_trans l1 hRc, Nat.le_trans l2 hRs⟩) hS (fun vv h' n' H1 locs1 d1 hrt hK hH1 hS1 hd1 => ?_)
          have := hn _ _ _ _ _ hK d1 H1 locs1 lsm hd1 hl hH1 hS1 l1 l2
          rw [← am_psh_map] at this
          exact this
        · rename_i k0
          intro hok
          simp only [Bool.and_eq_true, decide_eq_true_eq] at hok
          obtain ⟨⟨⟨⟨w0, w6⟩, w7⟩, w8⟩, w9⟩ := hok
          obtain ⟨e1, e2, e3, e4, e5⟩ := am_okC_out w0
          rw [← e1, ← e2] at hF
          rw [← e1] at l1
          rw [← e2] at l2
          refine am_callD hd0 (va_runSN_D (s := s.setDrawn d0) (Ts := []) ⟨hx, hb, hml, hown, fun _ h => by cases h⟩ (hCT _ _ _ _ _ hF L D B) ⟨am_callN hE hRf hRl e3 e4 e5 (am_W_mem w9) (am_W_use (hts d0) w8) (am_W_use (hts d0) w6), (am_W_use (hts d0) w7), trivial⟩ (am_pre (s := s) hE hH hS) rfl (by rw [List.length_map]; exact elen) hl.1 rfl (lv_room (by omega)) hdec ⟨Nat.le_trans l1 hRc, Nat.le_trans l2 hRs⟩) hS (fun vv h' n' H1 locs1 d1 hrt hK hH1 hS1 hd1 => ?_)
          have := hn _ _ _ _ _ hK d1 H1 locs1 lsm hd1 hl hH1 hS1 l1 l2
          rw [← am_psh_map] at this
          exact this
        · rename_i k8
          exact absurd k8 n8
        · rename_i k9
          exact absurd k9 n9
        · exact fun h => by cases h
  case invokevirtual z =>
    simp only [am_okI, Bool.and_eq_true, beq_iff_eq] at hok
    obtain ⟨hlen, hok⟩ := hok
    subst hlen
    revert q; dsimp only [am_sem]
    split
    · rename_i k10
      rw [k10] at hok
      simp only [Bool.and_eq_true] at hok
      obtain ⟨⟨⟨⟨⟨w6, w7⟩, w8⟩, w9⟩, w10⟩, w11⟩ := hok
      split
      · intro q
        rename_i aa r
        obtain ⟨hr, q⟩ := q
        obtain ⟨n0, f, hfa, h64, q1, q2, hfit, q⟩ := am_ia_out q
        have hsum := am_mv_sum hL r
        exact am_s_clone hE hx hb (hml.trans hl.1.symm) hown hH hS (am_W_use (hts d0) w6) (am_W_use (hts d0) w7) (am_W_use (hts d0) w8) (am_W_use (hts d0) w9) (am_W_use (hts d0) w10) (am_W_use (hts d0) w11) hfa h64 hfit (by omega) (by omega) (Nat.le_trans q1 hRc) (Nat.le_trans q2 hRs) hdec (fun H1 hH1 hS1 => hn _ _ _ _ _ q d0 H1 locs lsm hd0 hl hH1 hS1 q1 q2)
      · exact False.elim
    · rename_i n10
      intro q
      obtain ⟨as, r, est, elen, q⟩ := am_pop_out q
      rw [List.append_nil] at q
      revert q; split
      · intro q
        rename_i a0 r0
        obtain ⟨fs, hfs, hr, hb0⟩ := am_oa_out q
        obtain ⟨hF, l1, l2⟩ := am_b0_out hb0 hk1 hk2
        have hsum := am_mv_sum hL r0
        obtain ⟨-, a', cell0, hLa, -⟩ := hH.2.2 a0 _ hfs
        have hstk : st.map (am_mv L) = (as.map (am_mv L)).reverse ++ .ref a' :: r0.map (am_mv L) := by rw [est]; simp [am_mv, hLa]
        rw [hstk]
        revert hok; split
        · rename_i k0
          intro hok
          simp only [Bool.and_eq_true, decide_eq_true_eq] at hok
          obtain ⟨⟨⟨⟨⟨⟨w0, h14⟩, w6⟩, w7⟩, w8⟩, w9⟩, w10⟩ := hok
          obtain ⟨e1, e2, e3, e4, e5⟩ := am_okC_out w0
          rw [← e1, ← e2] at hF
          rw [← e1] at l1
          rw [← e2] at l2
          refine am_callD hd0 (va_runV_D (s := s.setDrawn d0) (Ts := []) ⟨hx, hb, hml, hown, fun _ h => by cases h⟩ (hCT _ _ _ _ _ hF L D B) ⟨am_callB hE hRf hRl e3 e4 e5 (am_W_mem w10) (am_W_use (hts d0) w9) (am_W_use (hts d0) w6), (am_W_use (hts d0) w7), (am_W_use (hts d0) w8)⟩ (am_preV hE hH hS h14 hfs hLa) rfl (by rw [List.length_map]; exact elen) hl.1 rfl (lv_room (by omega)) hdec ⟨Nat.le_trans l1 hRc, Nat.le_trans l2 hRs⟩) hS (fun vv h' n' H1 locs1 d1 hrt hK hH1 hS1 hd1 => ?_)
          have := hn _ _ _ _ _ hK d1 H1 locs1 lsm hd1 hl hH1 hS1 l1 l2
          rw [← am_psh_map] at this
          exact this
        · rename_i k0
          intro hok
          simp only [Bool.and_eq_true, decide_eq_true_eq] at hok
          obtain ⟨⟨⟨⟨⟨⟨w0, h14⟩, w6⟩, w7⟩, w8⟩, w9⟩, w10⟩ := hok
          obtain ⟨e1, e2, e3, e4, e5⟩ := am_okC_out w0
          rw [← e1, ← e2] at hF
          rw [← e1] at l1
          rw [← e2] at l2
          refine am_callD hd0 (va_runVN_D (s := s.setDrawn d0) (Ts := []) ⟨hx, hb, hml, hown, fun _ h => by cases h⟩ (hCT _ _ _ _ _ hF L D B) ⟨am_callN hE hRf hRl e3 e4 e5 (am_W_mem w10) (am_W_use (hts d0) w9) (am_W_use (hts d0) w6), (am_W_use (hts d0) w7), (am_W_use (hts d0) w8)⟩ (am_preV hE hH hS h14 hfs hLa) rfl (by rw [List.length_map]; exact elen) hl.1 rfl (lv_room (by omega)) hdec ⟨Nat.le_trans l1 hRc, Nat.le_trans l2 hRs⟩) hS (fun vv h' n' H1 locs1 d1 hrt hK hH1 hS1 hd1 => ?_)
          have := hn _ _ _ _ _ hK d1 H1 locs1 lsm hd1 hl hH1 hS1 l1 l2
          rw [← am_psh_map] at this
          exact this
        · rename_i k0
          intro hok
          simp only [Bool.and_eq_true, decide_eq_true_eq] at hok
          obtain ⟨⟨⟨⟨⟨w0, h14⟩, wx⟩, w10⟩, w11⟩, w12⟩ := hok
          obtain ⟨e1, e2, e3, e4, e5⟩ := am_okC_out w0
          rw [← e1, ← e2] at hF
          rw [← e1] at l1
          rw [← e2] at l2
          revert wx; split
          · rename_i xa xb x hx6
            intro wx
            simp only [Bool.and_eq_true] at wx
            obtain ⟨⟨⟨⟨⟨⟨w6, w7⟩, w8⟩, w9⟩, wm⟩, wn⟩, wc⟩ := wx
            revert wc; split
            · rename_i x' b' n'' r' hx13
              intro wc
              simp only [Bool.and_eq_true, decide_eq_true_eq] at wc
              obtain ⟨wc1, wc2⟩ := wc
              subst wc1
              obtain ⟨b1, b2, b3, b4, b5, b6⟩ := am_back (d0 := d0) hE hRf hRl e3 (am_W_mem w12)
              have hdecl : va_Decl (s.setDrawn d0) ⟨x'.cls, x'.name, x'.desc⟩ := va_Decl.of (am_W_use (hts d0) w8) (am_W_use (hts d0) wc2)
              refine am_callD hd0 (va_runU_D (s := s.setDrawn d0) (Ts := []) ⟨hx, hb, hml, hown, fun _ h => by cases h⟩ (hCT _ _ _ _ _ hF L D B) ⟨⟨b1, b2, b3, b4, b5, b6⟩, (Cond.before_setDrawn args s d0 _).trans (hE.2.1 _ (am_W_mem w12).1 (am_W_mem w12).2 args), am_W_use (hts d0) w11, am_noMH_out wm, am_np_out wn, am_W_use (hts d0) w6, am_W_use (hts d0) w7, hdecl, am_W_use (hts d0) w9, am_W_use (hts d0) w10⟩ (am_preV hE hH hS h14 hfs hLa) rfl (by rw [List.length_map]; exact elen) hl.1 rfl (lv_room (by omega)) hdec ⟨Nat.le_trans l1 hRc, Nat.le_trans l2 hRs⟩) hS (fun vv h' n' H1 locs1 d1 hrt hK hH1 hS1 hd1 => ?_)
              have := hn _ _ _ _ _ hK d1 H1 locs1 lsm hd1 hl hH1 hS1 l1 l2
              rw [← am_psh_map] at this
              exact this
            · exact fun h => by cases h
          · exact fun h => by cases h
        · rename_i k10
          exact absurd k10 n10
        · exact fun h => by cases h
      · exact False.elim
  case invokespecial z =>
    simp only [am_okI, Bool.and_eq_true, beq_iff_eq] at hok
    obtain ⟨hlen, hok⟩ := hok
    subst hlen
    revert q; dsimp only [am_sem]
    split
    · rename_i k11
      rw [k11] at hok
      simp only [Bool.and_eq_true] at hok
      obtain ⟨⟨w6, w7⟩, w8⟩ := hok
      split
      · intro q
        rename_i aa r
        obtain ⟨hr, hs, q⟩ := q
        have hsum := am_mv_sum hL r
        obtain ⟨ff, hff⟩ := Option.isSome_iff_exists.mp hs
        obtain ⟨-, a', cell0, hLa, -⟩ := hH.2.2 aa _ hff
        have hq := hn _ _ _ _ _ q d0 H locs lsm hd0 hl hH hS hk1 hk2
        show W p l e R (s.setDrawn d0) m args below meth c H locs k.1 k.2 Q (F0 m pc lsm (L aa :: r.map (am_mv L)))
        rw [hLa]
        exact W.objInit (s := s.setDrawn d0) hx hb hown (am_W_use (hts d0) w6) (am_W_use (hts d0) w7) (am_W_use (hts d0) w8) rfl (hl.1.trans hml.symm) rfl hdec (by omega) (by show 2 * 0 + _ + 12 ≤ _; omega) hq
      · exact False.elim
    · rename_i n11
      intro q
      obtain ⟨as, r, est, elen, q⟩ := am_pop_out q
      rw [List.append_nil] at q
      revert q; split
      · intro q
        rename_i a0 r0
        obtain ⟨fs, hfs, hr, hb0⟩ := am_oa_out q
        obtain ⟨hF, l1, l2⟩ := am_b0_out hb0 hk1 hk2
        have hsum := am_mv_sum hL r0
        obtain ⟨-, a', cell0, hLa, -⟩ := hH.2.2 a0 _ hfs
        have hstk : st.map (am_mv L) = (as.map (am_mv L)).reverse ++ .ref a' :: r0.map (am_mv L) := by rw [est]; simp [am_mv, hLa]
        rw [hstk]
        revert hok; split
        · rename_i k0
          intro hok
          simp only [Bool.and_eq_true, decide_eq_true_eq] at hok
          obtain ⟨⟨⟨⟨⟨⟨⟨w0, h14⟩, hnm1⟩, hret⟩, w6⟩, w7⟩, w8⟩, w9⟩ := hok
          obtain ⟨e1, e2, e3, e4, e5⟩ := am_okC_out w0
          rw [← e1, ← e2] at hF
          rw [← e1] at l1
          rw [← e2] at l2
          refine am_callD hd0 (va_runI_D (s := s.setDrawn d0) (Ts := []) ⟨hx, hb, hml, hown, fun _ h => by cases h⟩ (hCT _ _ _ _ _ hF L D B) ⟨by have := am_callB hE hRf hRl e3 e4 e5 (am_W_mem w9) (am_W_use (hts d0) w8) (am_W_use (hts d0) w6); rw [hret] at this; exact this, hnm1, (am_W_use (hts d0) w7)⟩ (am_preS hE hH hS hLa) rfl (by rw [List.length_map]; exact elen) hl.1 rfl (lv_room (by omega)) hdec ⟨Nat.le_trans l1 hRc, Nat.le_trans l2 hRs⟩) hS (fun vv h' n' H1 locs1 d1 hrt hK hH1 hS1 hd1 => ?_)
          have := hn _ _ _ _ _ hK d1 H1 locs1 lsm hd1 hl hH1 hS1 l1 l2
          rw [← am_psh_map] at this
          exact this
        · rename_i k0
          intro hok
          simp only [Bool.and_eq_true, decide_eq_true_eq] at hok
          obtain ⟨⟨⟨⟨⟨⟨⟨w0, h14⟩, hnm1⟩, hret⟩, w6⟩, w7⟩, w8⟩, w9⟩ := hok
          obtain ⟨e1, e2, e3, e4, e5⟩ := am_okC_out w0
          rw [← e1, ← e2] at hF
          rw [← e1] at l1
          rw [← e2] at l2
          refine am_callD hd0 (va_runIN_D (s := s.setDrawn d0) (Ts := []) ⟨hx, hb, hml, hown, fun _ h => by cases h⟩ (hCT _ _ _ _ _ hF L D B) ⟨by have := am_callN hE hRf hRl e3 e4 e5 (am_W_mem w9) (am_W_use (hts d0) w8) (am_W_use (hts d0) w6); rw [hret] at this; exact this, hnm1, (am_W_use (hts d0) w7)⟩ (am_preS hE hH hS hLa) rfl (by rw [List.length_map]; exact elen) hl.1 rfl (lv_room (by omega)) hdec ⟨Nat.le_trans l1 hRc, Nat.le_trans l2 hRs⟩) hS (fun vv h' n' H1 locs1 d1 hrt hK hH1 hS1 hd1 => ?_)
          have := hn _ _ _ _ _ hK d1 H1 locs1 lsm hd1 hl hH1 hS1 l1 l2
          rw [← am_psh_map] at this
          exact this
        · rename_i k0
          intro hok
          simp only [Bool.and_eq_true, decide_eq_true_eq] at hok
          obtain ⟨⟨⟨⟨⟨⟨⟨⟨w0, h14⟩, hnm1⟩, w6⟩, w7⟩, w8⟩, w9⟩, w10⟩, w11⟩ := hok
          obtain ⟨e1, e2, e3, e4, e5⟩ := am_okC_out w0
          obtain ⟨b1, b2, b3, b4, b5, b6⟩ := am_back (d0 := d0) hE hRf hRl e3 (am_W_mem w11)
          rw [← e1, ← e2] at hF
          rw [← e1] at l1
          rw [← e2] at l2
          refine am_callD hd0 (va_runSU_D (s := s.setDrawn d0) (Ts := []) (hE.2.2.1.1 _ _ (am_cls_get _ h14)).2 ⟨hx, hb, hml, hown, fun _ h => by cases h⟩ (hCT _ _ _ _ _ hF L D B) ⟨⟨b1, b2, b3, b4, b5, b6⟩, am_W_use (hts d0) w6, am_W_use (hts d0) w7, am_W_use (hts d0) w8, am_W_use (hts d0) w9, am_W_use (hts d0) w10, (Cond.before_setDrawn args s d0 _).trans (hE.2.1 _ (am_W_mem w11).1 (am_W_mem w11).2 args), hnm1, e5⟩ (am_preV hE hH hS h14 hfs hLa) rfl (by rw [List.length_map]; exact elen) hl.1 rfl (lv_room (by omega)) hdec ⟨Nat.le_trans l1 hRc, Nat.le_trans l2 hRs⟩) hS (fun vv h' n' H1 locs1 d1 hrt hK hH1 hS1 hd1 => ?_)
          have := hn _ _ _ _ _ hK d1 H1 locs1 lsm hd1 hl hH1 hS1 l1 l2
          rw [← am_psh_map] at this
          exact this
        · rename_i k11
          exact absurd k11 n11
        · exact fun h => by cases h
      · exact False.elim
  all_goals exact False.elim q
end AMS
