/-! one instruction of the abstract machine is an instruction of the machine -/
theorem am_I_out {v : Value} {f : Int32 → Prop} (q : am_I v f) : ∃ x, v = .int x ∧ f x := by
  cases v <;> first | exact ⟨_, rfl, q⟩ | exact False.elim q
theorem am_L_out {v : Value} {f : Int64 → Prop} (q : am_L v f) : ∃ x, v = .long x ∧ f x := by
  cases v <;> first | exact ⟨_, rfl, q⟩ | exact False.elim q
theorem am_D_out {v : Value} {f : UInt64 → Prop} (q : am_D v f) : ∃ x, v = .double x ∧ f x := by
  cases v <;> first | exact ⟨_, rfl, q⟩ | exact False.elim q
theorem am_F_out {v : Value} {f : UInt32 → Prop} (q : am_F v f) : ∃ x, v = .float x ∧ f x := by
  cases v <;> first | exact ⟨_, rfl, q⟩ | exact False.elim q
theorem am_R_out {v : Value} {f : Value → Prop} (q : am_R v f) : (∃ x, v = .ref x ∧ f (.ref x)) ∨ (v = .null ∧ f .null) := by
  cases v <;> first | exact Or.inr ⟨rfl, q⟩ | exact Or.inl ⟨_, rfl, q⟩ | exact False.elim q
theorem am_to_out {m : am_Rec} {pc : Nat} {off : Int} {b : Nat} (h : am_to m pc off b = true) : ∃ t, am_pc m b = some t ∧ (pc : Int) + off = (t : Int) := by
  unfold am_to at h
  cases e : am_pc m b with
  | none => rw [e] at h; cases h
  | some t => rw [e] at h; exact ⟨t, rfl, by simpa using h⟩
theorem am_W_use {i : am_AI} {k : Nat} {w : Jvm.Cond} {args : Array Value} {s : State} (hts : ∀ w ∈ am_tbl, am_keep w = true → w.before args s = true) (h : am_W i k w = true) : w.before args s = true := by
  unfold am_W at h
  rw [Bool.and_eq_true, decide_eq_true_eq] at h
  exact hts w (List.mem_of_getElem? h.1) h.2
section AMS
variable {p : Program} {l : Launch} {e : Env} {R : Room} {s : State} {m : MethodId} {args : Array Value} {below : List Frame} {meth : Method} {c : Code} {Q : State → Prop} {mr : am_Rec} {L : Nat → Value} {D : va_G} {B d : Nat} {H : Heap} {locs : List Loc} {cells slots : Nat} {pc len : Nat} {lsm : Array Slot} {rest : List Value} {d0 : Drawn}
theorem am_s_ldcs (hE : am_E L D B s s.heap) (hx : p.tables.exec = Jvm.exec) (hb : c.code = mr.2.1) (hown : s.vm.findClass mr.1.cls = some m.cls) {k j : Nat} {v : Value} (hok : (match am_strs[j]? with
      | some e => decide (e.1 = am_ow mr) && decide (e.2.1 = k) && decide (v = .ref e.2.2.2)
      | none => false) = true) : ∃ (tx : String) (q : Nat), am_mv L v = .ref q ∧ vk_R mr.1.cls k tx q (s.setDrawn d0) := by
  cases e : am_strs[j]? with
  | none => rw [e] at hok; cases hok
  | some x =>
    rw [e] at hok
    simp only [Bool.and_eq_true, decide_eq_true_eq] at hok
    obtain ⟨⟨h1, h2⟩, h3⟩ := hok
    obtain ⟨q, q1, q2⟩ := hE.2.2.2.1 x (List.mem_of_getElem? e)
    refine ⟨x.2.2.1, q, by rw [h3]; exact q1, ?_⟩
    rw [h1, h2] at q2
    exact vk_R.same (u := s) rfl q2
theorem am_s_ldc (hE : am_E L D B s s.heap) (hx : p.tables.exec = Jvm.exec) (hb : c.code = mr.2.1) (hown : s.vm.findClass mr.1.cls = some m.cls) (hts : ∀ w ∈ am_tbl, am_keep w = true → w.before args (s.setDrawn d0) = true) {k : Nat} {v : Value} {a : List Nat} (hok : am_okI mr pc len (.ldc k, v, a) = true) (hdec : decode mr.2.1 pc = .ok (.ldc k, len)) (kk : len = 2 → W p l e R (s.setDrawn d0) m args below meth c H locs cells slots Q (F0 m (pc + len) lsm (am_mv L v :: rest))) : W p l e R (s.setDrawn d0) m args below meth c H locs cells slots Q (F0 m pc lsm rest) := by
  simp only [am_okI, Bool.and_eq_true, beq_iff_eq] at hok
  obtain ⟨hlen, hok⟩ := hok
  subst hlen
  have kk := kk rfl
  split at hok
  · exact lv_ldc hx hb hown (am_W_use hts hok) hdec kk
  · obtain ⟨tx, q, q1, q2⟩ := am_s_ldcs (d0 := d0) hE hx hb hown hok
    rw [q1] at kk
    exact va_ldcS hx hb hown q2 hdec kk
theorem am_s_ldc_w (hE : am_E L D B s s.heap) (hx : p.tables.exec = Jvm.exec) (hb : c.code = mr.2.1) (hown : s.vm.findClass mr.1.cls = some m.cls) (hts : ∀ w ∈ am_tbl, am_keep w = true → w.before args (s.setDrawn d0) = true) {k : Nat} {v : Value} {a : List Nat} (hok : am_okI mr pc len (.ldc_w k, v, a) = true) (hdec : decode mr.2.1 pc = .ok (.ldc_w k, len)) (kk : len = 3 → W p l e R (s.setDrawn d0) m args below meth c H locs cells slots Q (F0 m (pc + len) lsm (am_mv L v :: rest))) : W p l e R (s.setDrawn d0) m args below meth c H locs cells slots Q (F0 m pc lsm rest) := by
  simp only [am_okI, Bool.and_eq_true, beq_iff_eq] at hok
  obtain ⟨hlen, hok⟩ := hok
  subst hlen
  have kk := kk rfl
  split at hok
  · exact lv_ldcw hx hb hown (am_W_use hts hok) hdec kk
  · obtain ⟨tx, q, q1, hZ⟩ := am_s_ldcs (d0 := d0) hE hx hb hown hok
    rw [q1] at kk
    intro T hT X
    obtain ⟨t, a1, b1⟩ := kk T hT X
    refine ⟨t, ?_, b1⟩
    obtain ⟨k0, cf, i0, a', hk, hcf, hcp, -, hr, hev'⟩ := Cond.stringRef_spec (args := #[]) (s := s.setDrawn d0) (first := s.setDrawn d0) (o := none) (idx := []) hown hZ.1
    cases hZ.2.symm.trans hev'
    obtain ⟨k', hk', he⟩ := X.warmed.alike.2.2 _ _ hk
    have hr' : k'.resolved[k]? = some (some (.string q)) := by
      rcases X.warmed.entry hk hk' k with h | ⟨h, -⟩
      · rw [h]; exact hr
      · rw [hr] at h; cases h
    have hdg : decode c.code pc = .ok (.ldc_w k, 3) := by rw [hb]; exact hdec
    jvm_step X.here [hx, hdg, ldc_w.wp_string (e := e) (s := T) (f := F0 m pc lsm rest) X.here.top hk' (by rw [he]; exact hcf) hcp hr']
    exact a1
theorem am_s_gets (hE : am_E L D B s s.heap) (hx : p.tables.exec = Jvm.exec) (hb : c.code = mr.2.1) (hown : s.vm.findClass mr.1.cls = some m.cls) (hts : ∀ w ∈ am_tbl, am_keep w = true → w.before args (s.setDrawn d0) = true) (hS : va_S (fun q => B ≤ q) s.heap H locs) {k : Nat} {v : Value} {a : List Nat} (hok : am_okI mr pc len (.getstatic k, v, a) = true) (hdec : decode mr.2.1 pc = .ok (.getstatic k, len)) (kk : len = 3 → W p l e R (s.setDrawn d0) m args below meth c H locs cells slots Q (F0 m (pc + len) lsm (am_mv L v :: rest))) : W p l e R (s.setDrawn d0) m args below meth c H locs cells slots Q (F0 m pc lsm rest) := by
  simp only [am_okI, Bool.and_eq_true, beq_iff_eq] at hok
  obtain ⟨hlen, hok⟩ := hok
  subst hlen
  have kk := kk rfl
  cases e : am_stat[am_x (.getstatic k, v, a) 1]? with
  | none => rw [e] at hok; cases hok
  | some x =>
    rw [e] at hok
    simp only [Bool.and_eq_true, decide_eq_true_eq] at hok
    obtain ⟨hw, hv⟩ := hok
    have hZ := hE.2.2.2.2 x (List.mem_of_getElem? e)
    rw [← hv] at hZ
    exact va_gets (s := s.setDrawn d0) hx hb hZ hS hown (am_W_use hts hw) (fun _ h => h) hdec kk
theorem am_s_ifnn (hx : p.tables.exec = Jvm.exec) (hb : c.code = mr.2.1) {x : Value} {off : Int} {t : Nat} (hdec : decode mr.2.1 pc = .ok (.ifnonnull off, 3)) (ht : (pc : Int) + off = (t : Int)) (hx' : ∃ x', x = .ref x') (k : W p l e R s m args below meth c H locs cells slots Q (F0 m t lsm rest)) : W p l e R s m args below meth c H locs cells slots Q (F0 m pc lsm (x :: rest)) := by
  obtain ⟨x', rfl⟩ := hx'
  exact lv_ifnonnull hx hb hdec ht k
theorem am_tos_get {m : am_Rec} {pc : Nat} : ∀ {os : List Int} {ts : List Nat}, am_tos m pc os ts = true → os.length = ts.length ∧ ∀ (i : Nat) (o : Int), os[i]? = some o → ∃ b, ts[i]? = some b ∧ am_to m pc o b = true
  | [], [], _ => ⟨rfl, fun i o h => by simp at h⟩
  | [], _ :: _, h => by cases h
  | _ :: _, [], h => by cases h
  | o :: os, t :: ts, h => by
    unfold am_tos at h
    rw [Bool.and_eq_true] at h
    obtain ⟨e, f⟩ := am_tos_get h.2
    refine ⟨by simp [e], fun i o' hi => ?_⟩
    cases i with
    | zero =>
      have hi : some o = some o' := hi
      cases hi
      exact ⟨t, rfl, h.1⟩
    | succ i => exact f i o' hi
theorem am_sw_out {x : Int32} {P : Nat → Prop} {dd : Nat} : ∀ {ts : List Nat} {k : Int32}, -1000 ≤ k.toInt → k.toInt + ts.length ≤ 2000 → am_sw x P dd k ts → ((x.toInt < k.toInt ∨ k.toInt + ts.length ≤ x.toInt) ∧ P dd) ∨ ∃ (i : Nat) (b : Nat), x.toInt = k.toInt + i ∧ ts[i]? = some b ∧ P b
  | [], k, _, _, q => Or.inl ⟨by simp only [List.length_nil]; omega, q⟩
  | t :: ts, k, h1, h2, q => by
    by_cases e : x = k
    · exact Or.inr ⟨0, t, by rw [e]; simp, rfl, q.1 e⟩
    · have hk : (k + 1).toInt = k.toInt + 1 := by
        rw [Int32.toInt_add, show (1 : Int32).toInt = 1 from rfl]
        simp only [List.length_cons] at h2
        apply Int.bmod_eq_of_le <;> omega
      have hne : x.toInt ≠ k.toInt := fun z => e (Int32.toInt_inj.mp z)
      simp only [List.length_cons] at h2 ⊢
      rcases am_sw_out (ts := ts) (k := k + 1) (by omega) (by rw [hk]; omega) (q.2 e) with ⟨g, g2⟩ | ⟨i, b, g1, g2, g3⟩
      · refine Or.inl ⟨?_, g2⟩
        rw [hk] at g
        omega
      · refine Or.inr ⟨i + 1, b, ?_, g2, g3⟩
        rw [g1, hk]
        push_cast
        omega
theorem am_s_table (hx : p.tables.exec = Jvm.exec) (hb : c.code = mr.2.1) {z lo hi : Int} {offs : Array Int} {v : Value} {a : List Nat} {x lw : Int32} {P : Nat → Prop} (hdec : decode mr.2.1 pc = .ok (.tableswitch z lo hi offs, len)) (hok : am_okI mr pc len (.tableswitch z lo hi offs, .int lw, a) = true) (q : am_sw x P (am_x (.tableswitch z lo hi offs, .int lw, a) 0) lw (a.drop 1)) (kk : ∀ (b t : Nat), am_pc mr b = some t → P b → W p l e R s m args below meth c H locs cells slots Q (F0 m t lsm rest)) : W p l e R s m args below meth c H locs cells slots Q (F0 m pc lsm (.int x :: rest)) := by
  simp only [am_okI, Bool.and_eq_true, decide_eq_true_eq] at hok
  obtain ⟨⟨⟨⟨⟨h1, h2⟩, h3⟩, h4⟩, h5⟩, h6⟩ := hok
  obtain ⟨t6, g6⟩ := am_tos_get h6
  have hsz : offs.toList.length = offs.size := Array.length_toList
  rcases am_sw_out (by omega) (by omega) q with ⟨g, g2⟩ | ⟨i, b, e1, e2, e3⟩
  · obtain ⟨t, t1, t2⟩ := am_to_out h5
    exact lv_tableOut hx hb hdec (by omega) t2 (kk _ t t1 g2)
  · have hi : i < (a.drop 1).length := (List.getElem?_eq_some_iff.mp e2).1
    obtain ⟨o, ho⟩ : ∃ o, offs.toList[i]? = some o := ⟨offs.toList[i]'(by omega), List.getElem?_eq_getElem (by omega)⟩
    obtain ⟨b', hb', hb2⟩ := g6 i o ho
    have hbb : b' = b := Option.some.inj (hb'.symm.trans e2)
    subst hbb
    obtain ⟨t, t1, t2⟩ := am_to_out hb2
    refine lv_tableIn hx hb hdec (by omega) (by omega) (off := o) ?_ t2 (kk _ t t1 e3)
    rw [show (x.toInt - lo).toNat = i by omega, ← Array.getElem?_toList]
    exact ho
theorem am_sl_out {x : Int32} {P : Nat → Prop} {z : Int} {d1 : Nat} (hm : am_Rec) (pc : Nat) : ∀ {ps : List (Int × Int)} {ts : List Nat}, am_tos hm pc (ps.map (·.2)) ts = true → (ps.all (fun q => decide (-1000 ≤ q.1) && decide (q.1 ≤ 1000))) = true → am_to hm pc z d1 = true → am_sl x P d1 ps ts → ∃ b, am_to hm pc (Op.lookupswitch.offset ps z x.toInt) b = true ∧ P b
  | [], ts, h, h2, h3, q => by
    cases ts with
    | nil => exact ⟨d1, h3, q⟩
    | cons t ts => cases h
  | r :: ps, [], h, h2, h3, q => by cases h
  | r :: ps, t :: ts, h, h2, h3, q => by
    have h : (am_to hm pc r.2 t && am_tos hm pc (ps.map (·.2)) ts) = true := h
    rw [Bool.and_eq_true] at h
    rw [List.all_cons, Bool.and_eq_true, Bool.and_eq_true, decide_eq_true_eq, decide_eq_true_eq] at h2
    have hr : (Int32.ofInt r.1).toInt = r.1 := by
      rw [Int32.toInt_ofInt]
      have hz : Int32.size = 4294967296 := rfl
      rw [hz]
      apply Int.bmod_eq_of_le <;> omega
    by_cases e : x = Int32.ofInt r.1
    · refine ⟨t, ?_, q.1 e⟩
      have e2 : x.toInt = r.1 := by rw [e, hr]
      have : Op.lookupswitch.offset (r :: ps) z x.toInt = r.2 := by
        simp [Op.lookupswitch.offset, e2]
      rw [this]
      exact h.1
    · obtain ⟨b, hb1, hb2⟩ := am_sl_out hm pc h.2 h2.2 h3 (q.2 e)
      refine ⟨b, ?_, hb2⟩
      have e2 : x.toInt ≠ r.1 := fun z => e (Int32.toInt_inj.mp (by rw [hr]; exact z))
      have : Op.lookupswitch.offset (r :: ps) z x.toInt = Op.lookupswitch.offset ps z x.toInt := by
        simp [Op.lookupswitch.offset, Ne.symm e2]
      rw [this]
      exact hb1
theorem am_s_look (hx : p.tables.exec = Jvm.exec) (hb : c.code = mr.2.1) {z : Int} {ps : Array (Int × Int)} {v : Value} {a : List Nat} {x : Int32} {P : Nat → Prop} (hdec : decode mr.2.1 pc = .ok (.lookupswitch z ps, len)) (hok : am_okI mr pc len (.lookupswitch z ps, v, a) = true) (q : am_sl x P (am_x (.lookupswitch z ps, v, a) 0) ps.toList (a.drop 1)) (kk : ∀ (b t : Nat), am_pc mr b = some t → P b → W p l e R s m args below meth c H locs cells slots Q (F0 m t lsm rest)) : W p l e R s m args below meth c H locs cells slots Q (F0 m pc lsm (.int x :: rest)) := by
  simp only [am_okI, Bool.and_eq_true] at hok
  obtain ⟨⟨⟨h1, h2⟩, h3⟩, h4⟩ := hok
  obtain ⟨b, b1, b2⟩ := am_sl_out mr pc h4 h2 h3 q
  obtain ⟨t, t1, t2⟩ := am_to_out b1
  exact lv_lookup hx hb hdec h1 rfl t2 (kk b t t1 b2)
end AMS
