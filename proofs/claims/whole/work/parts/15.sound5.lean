/-! the methods: every call that the abstract machine grants is a call of the machine's -/
def am_blk (m : am_Rec) (b : Nat) : List am_AI := (m.2.2.2.2.2.2.getD b (0, [])).2
def am_me (m : am_Rec) : am_Me := (am_blk m, m.2.2.2.2.1, m.2.2.2.2.2.1)
def am_CL : Nat → am_CT := am_CL0 (fun q => am_me (am_rec q)) (fun q => (am_rec q).2.2.1) am_dfs
theorem am_CL_mono (d : Nat) : am_mono (am_CL d) := am_CL0_mono _ _ _ d
theorem am_pc_blk {m : am_Rec} {b t : Nat} (h : am_pc m b = some t) : (t, am_blk m b) ∈ m.2.2.2.2.2.2 := by
  unfold am_pc at h
  cases e : m.2.2.2.2.2.2[b]? with
  | none => rw [e] at h; cases h
  | some x =>
    rw [e] at h
    have h : x.1 = t := Option.some.inj h
    have : am_blk m b = x.2 := by unfold am_blk; rw [List.getD_eq_getElem?_getD, e]; rfl
    rw [this, ← h]
    exact List.mem_of_getElem? e
theorem am_args_lv {L : Nat → Value} {B : Nat} (hL : am_Lg L B) : ∀ (as : List Value) (k i : Nat) (v : Value), (am_args as)[i]? = some v → v ≠ am_U → (k + i, am_mv L v) ∈ lv_args k (as.map (am_mv L))
  | [], k, i, v, h, _ => by simp [am_args] at h
  | a :: as, k, i, v, h, hu => by
    rw [List.map_cons]
    unfold am_args at h
    unfold lv_args
    rw [am_mv_cat hL]
    by_cases c2 : a.category = 2
    · rw [if_pos c2] at h ⊢
      match i, h with
      | 0, h =>
        have h : some a = some v := h
        cases h
        exact List.mem_cons_self
      | 1, h =>
        have h : some am_U = some v := h
        exact absurd (Option.some.inj h).symm hu
      | i + 2, h =>
        have h : (am_args as)[i]? = some v := h
        have := am_args_lv hL as (k + 2) i v h hu
        rw [show k + (i + 2) = k + 2 + i by omega]
        exact List.mem_cons_of_mem _ this
    · rw [if_neg c2] at h ⊢
      match i, h with
      | 0, h =>
        have h : some a = some v := h
        cases h
        exact List.mem_cons_self
      | i + 1, h =>
        have h : (am_args as)[i]? = some v := h
        have := am_args_lv hL as (k + 1) i v h hu
        rw [show k + (i + 1) = k + 1 + i by omega]
        exact List.mem_cons_of_mem _ this
theorem am_args_len {L : Nat → Value} {B : Nat} (hL : am_Lg L B) : ∀ as : List Value, (lg_sl (as.map (am_mv L))).length = (am_args as).length
  | [] => rfl
  | a :: as => by
    have := am_args_len hL as
    unfold lg_sl at this ⊢
    unfold am_args
    rw [List.map_cons, List.flatMap_cons, List.length_append, this, am_mv_cat hL]
    by_cases c2 : a.category = 2
    · rw [if_pos c2, if_pos c2]
      simp only [List.length_cons, List.length_nil]
      omega
    · rw [if_neg c2, if_neg c2]
      simp only [List.length_cons, List.length_nil]
      omega
theorem am_entry {L : Nat → Value} {B : Nat} (hL : am_Lg L B) {as : List Value} {n : Nat} (h : (am_args as).length ≤ n) : am_LR L n (am_pad (am_args as) n) ((lg_sl (as.map (am_mv L)) ++ List.replicate (n - (lg_sl (as.map (am_mv L))).length) Slot.unset).toArray) := by
  have hv := lv_entry (as.map (am_mv L)) (n := n) (by rw [am_args_len hL]; exact h)
  refine ⟨hv.1, hv.2.1, fun i v hi hu => ?_⟩
  unfold am_pad at hi
  by_cases g : i < (am_args as).length
  · rw [List.getElem?_append_left g] at hi
    have := am_args_lv hL as 0 i v hi hu
    rw [Nat.zero_add] at this
    exact hv.2.2 _ this
  · rw [List.getElem?_append_right (by omega), List.getElem?_replicate] at hi
    split at hi
    · cases hi
      exact absurd rfl hu
    · cases hi
section AMS5
variable {p : Program} {l : Launch} {e : Env} {R : Room} {s : State} {m : MethodId} {args : Array Value} {below : List Frame} {meth : Method} {c : Code} {Q : State → Prop} {mr : am_Rec} {L : Nat → Value} {D : va_G} {B d : Nat}
theorem am_ex_sound {CT : am_CT} {BT : Nat → am_N} {K : am_K} (hC : am_Cx p R s m meth c mr L D B d) (hCT : am_Sound l d CT)
    (hend : ∀ (pc : Nat) (v : Option Value) (h : am_H) (n : Nat) (k : am_C) (d0 : Drawn) (H : Heap) (locs : List Loc) (lsm : Array Slot), am_rets mr.2.2.2.2.2.1 v → K v h n → s.drawn.sameBut d0 lw_cs → am_HR s L D B h n H → va_S (fun q => B ≤ q) s.heap H locs → k.1 ≤ mr.2.2.2.2.1.1 → k.2 ≤ mr.2.2.2.2.1.2 → decode mr.2.1 pc = .ok (am_retI mr.2.2.2.2.2.1, 1) → W p l e R (s.setDrawn d0) m args below meth c H locs k.1 k.2 Q (F0 m pc lsm ((v.map (am_mv L)).toList)))
    (hB : ∀ b ls st h n k t, am_pc mr b = some t → BT b ls st h n k → am_At p l e R s m args below meth c Q mr L D B t ls st h n k) :
    ∀ (is : List am_AI) (pc : Nat) (ls st : List Value) (h : am_H) (n : Nat) (k : am_C), am_okL mr pc is = true → am_ex CT am_dfs BT mr.2.2.2.2.1 mr.2.2.2.2.2.1 K is ls st h n k → am_At p l e R s m args below meth c Q mr L D B pc ls st h n k
  | [], _, _, _, _, _, _, _, q => False.elim q
  | i :: is, pc, ls, st, h, n, k, hok, q => by
    unfold am_okL at hok
    by_cases hnop : i.1 = .nop
    · rw [if_pos hnop] at hok
      obtain ⟨t, t1, t2⟩ := am_to_out hok
      obtain rfl : t = pc := by omega
      obtain ⟨ins, v, a⟩ := i
      cases hnop
      exact hB _ _ _ _ _ _ _ t1 q
    · rw [if_neg hnop] at hok
      cases hd : decode mr.2.1 pc with
      | error x => rw [hd] at hok; cases hok
      | ok x =>
        obtain ⟨j, len⟩ := x
        rw [hd] at hok
        simp only [Bool.and_eq_true, decide_eq_true_eq] at hok
        obtain ⟨⟨h1, h2⟩, h3⟩ := hok
        subst h1
        exact am_sem_sound hC hnop h2 hd hCT hend (fun ls st h n k q => am_ex_sound hC hCT hend hB is (pc + len) ls st h n k h3 q) hB q
theorem am_LF_sound {CT : am_CT} {K : am_K} (hC : am_Cx p R s m meth c mr L D B d) (hCT : am_Sound l d CT) (hM : am_okM mr = true)
    (hend : ∀ (pc : Nat) (v : Option Value) (h : am_H) (n : Nat) (k : am_C) (d0 : Drawn) (H : Heap) (locs : List Loc) (lsm : Array Slot), am_rets mr.2.2.2.2.2.1 v → K v h n → s.drawn.sameBut d0 lw_cs → am_HR s L D B h n H → va_S (fun q => B ≤ q) s.heap H locs → k.1 ≤ mr.2.2.2.2.1.1 → k.2 ≤ mr.2.2.2.2.1.2 → decode mr.2.1 pc = .ok (am_retI mr.2.2.2.2.2.1, 1) → W p l e R (s.setDrawn d0) m args below meth c H locs k.1 k.2 Q (F0 m pc lsm ((v.map (am_mv L)).toList)))
    {x : am_St} (q : am_LF CT am_dfs (am_me mr) K x) : ∀ t, am_pc mr x.1 = some t → am_At p l e R s m args below meth c Q mr L D B t x.2.1 x.2.2.1 x.2.2.2.1 x.2.2.2.2.1 x.2.2.2.2.2 := by
  refine q (fun x => ∀ t, am_pc mr x.1 = some t → am_At p l e R s m args below meth c Q mr L D B t x.2.1 x.2.2.1 x.2.2.2.1 x.2.2.2.2.1 x.2.2.2.2.2) fun y hy t ht => ?_
  unfold am_okM at hM
  rw [Bool.and_eq_true] at hM
  have hok := List.all_eq_true.mp hM.2 _ (am_pc_blk ht)
  exact am_ex_sound hC hCT hend (fun b ls st h n k t' ht' q' => q' t' ht') _ t _ _ _ _ _ hok hy
end AMS5
theorem am_MetD_ofF {cs : List Choice} {l : Launch} {y : MethodName} {ws ws' : List Jvm.Cond} {rm : Room} {Pc : Array Value → State → Prop} {Qc : Array Value → State → Outcome → State → Prop} {mc ms : Nat} {free : Addr → Prop} {cc : ByteArray} {maxL : Nat} {ret : Option FieldType}
    (hy : plainFor y = true) (hw : ws = Jvm.Cond.code y cc maxL ret :: ws')
    (body : ∀ p e s m args below meth c s₁, BodyLoose p l y (headSpec ws rm) cc maxL ret e s m args below meth c s₁ → c.maxLocals = maxL → Pc args s → s.drawn.sameBut s.drawn cs →
      W p l e (headSpec ws rm).room (s.setDrawn s.drawn) m args below meth c s.heap [] 0 0 (MQD cs below Qc args s mc ms free) (entryFrame m args maxL)) : MetD cs l y ws rm Pc Qc mc ms free := by
  refine MetFree.of_bodySF (code := cc) (maxLocals := maxL) (ret := ret) hy ?_ ?_
  · intro args s m h hn
    obtain ⟨meth, c, h1, h2, h3, h4, h5, h6, -, -⟩ := Cond.code_spec hn (atoms_spec (ws := ws) h _ (by rw [hw]; exact List.mem_cons_self))
    exact ⟨meth, c, h1, h2, h3, h4, h5, h6⟩
  · intro p e s m args below meth c s₁ B hml hP _
    have hh0 : s₁.heap = s.heap := by rw [B.state]; rfl
    have X0 : Stand p l e (headSpec ws rm).room (s.setDrawn s.drawn) m args below meth c s₁ [] 0 0 := Stand.of_body B
    obtain ⟨t, a1, d, hd, o, b1, b2, b3, b4⟩ := body p e s m args below meth c s₁ B hml hP (Drawn.sameBut.refl _ _) s₁ hh0 X0
    exact ⟨t, o, a1, b1, b2, d, hd, b3, b4⟩
theorem am_ret_int {rt : Nat} {ret : Option FieldType} {x : Int32} (h : am_rtc ret = rt) (hr : am_rt rt x) : ∃ ty, ret = some ty ∧ narrow ty (.int x) = .int x := by
  cases ret with
  | none => subst h; exact False.elim hr
  | some ty =>
    refine ⟨ty, rfl, ?_⟩
    subst h
    cases ty <;> first | exact False.elim hr | rfl | skip
    · have hr : x.toInt8.toInt32 = x := hr
      rw [← hr]; exact pk_nb x
    · have hr : (x.toUInt32 % 65536).toInt32 = x := hr
      rw [← hr]; exact pk_nc x
    · rcases hr with hr | hr <;> subst hr <;> rfl
/-- THE SOUNDNESS OF CALLS: a contract for each, at every depth -/
theorem am_sound (l : Launch) (hpf : ∀ q, plainFor (am_rec q).1 = true) : ∀ d, am_Sound l d (am_CL d)
  | 0 => fun _ _ _ _ _ q => False.elim q
  | d + 1 => by
    intro q as h n K hq L D B
    obtain ⟨hlen, hq⟩ := hq
    refine am_MetD_ofF (cc := (am_rec q).2.1) (maxL := (am_rec q).2.2.1) (ret := (am_rec q).2.2.2.1) (hpf q) rfl ?_
    intro p e s m args below meth c s₁ Bd hml hv hd0
    obtain ⟨rfl, hE, hH⟩ := hv
    have hM := am_ok_all q
    have hM2 := hM
    unfold am_okM am_okB at hM2
    simp only [Bool.and_eq_true, decide_eq_true_eq] at hM2
    obtain ⟨⟨⟨hp0, hrt⟩, hrt9⟩, -⟩ := hM2
    have hC : am_Cx p (headSpec [am_code (am_rec q)] (am_rm (d + 1) q)).room s m meth c (am_rec q) L D B d := ⟨Bd.exec, Bd.bytes, hml, findClass_of_methodNamed Bd.named, hE, fun q => (name_of_methodNamed Bd.named Bd.method).1.trans q, Nat.le_refl _, Nat.le_refl _, Nat.le_refl _, Nat.le_refl _⟩
    have hat := am_LF_sound (Q := MQD lw_cs below (am_Qc L D B (am_rec q).2.2.2.2.2.1 K) (as.map (am_mv L)).toArray s (am_rec q).2.2.2.2.1.1 (am_rec q).2.2.2.2.1.2 (fun x => B ≤ x)) (args := (as.map (am_mv L)).toArray) (below := below) (p := p) (l := l) (e := e) hC (am_sound l hpf d) hM (K := K) ?_ hq 0 hp0
    · rw [lg_entry_eq]
      exact hat s.drawn s.heap [] _ hd0 (am_entry hE.1 hlen) hH va_S.rf (Nat.zero_le _) (Nat.zero_le _)
    · intro pc v h' n' k d1 H locs lsm hr hK hd1 hH1 hS1 hk1 hk2 hdec
      have hx := Bd.exec
      have hb := Bd.bytes
      have hret := Bd.returns
      have hlocks := Bd.notSynchronized
      have hqc : ∀ (t : State), t.heap = H → (s.setDrawn d1).WarmedH t.vm → am_Qc L D B (am_rec q).2.2.2.2.2.1 K (as.map (am_mv L)).toArray (s.setDrawn d1) (.returned (v.map (am_mv L))) t := fun t ht hW =>
        ⟨⟨v, h', n', rfl, hr, hK, by rw [ht]; exact hH1.moved (U := t) hW.alike⟩, hS1.F (s := s.setDrawn d1) ht⟩
      refine W.endD hd1 (W.widen hk1 hk2 ?_)
      cases v with
      | none =>
        have hr : (am_rec q).2.2.2.2.2.1 = 0 := hr
        rw [hr] at hdec hrt
        have hn : (am_rec q).2.2.2.1 = none := by
          cases hz : (am_rec q).2.2.2.1 with
          | none => rfl
          | some ty => rw [hz] at hrt; cases ty <;> cases hrt
        exact W.vret hx hb (hret.trans hn) hqc hS1.2.2 hdec
      | some w =>
        cases w with
        | int x =>
          obtain ⟨ty, g1, g2⟩ := am_ret_int hrt hr
          rw [am_rt_retI hr] at hdec
          exact W.zret hx hb (hret.trans g1) g2 hqc hS1.2.2 hdec
        | long x =>
          have hr : (am_rec q).2.2.2.2.2.1 = 3 := hr
          rw [hr] at hdec hrt
          have hn : (am_rec q).2.2.2.1 = some .long := by
            cases hz : (am_rec q).2.2.2.1 with
            | none => rw [hz] at hrt; cases hrt
            | some ty => rw [hz] at hrt; cases ty <;> first | rfl | cases hrt
          exact W.lret hx hb (hret.trans hn) hqc hS1.2.2 hdec
        | double x =>
          have hr : (am_rec q).2.2.2.2.2.1 = 4 := hr
          rw [hr] at hdec hrt
          have hn : (am_rec q).2.2.2.1 = some .double := by
            cases hz : (am_rec q).2.2.2.1 with
            | none => rw [hz] at hrt; cases hrt
            | some ty => rw [hz] at hrt; cases ty <;> first | rfl | cases hrt
          exact W.dret hx hb (hret.trans hn) hqc hS1.2.2 hdec
        | float x => exact False.elim hr
        | retAddr x => exact False.elim hr
        | null =>
          have hr : (am_rec q).2.2.2.2.2.1 = 5 := hr
          rw [hr] at hdec hrt
          obtain ⟨rt, hn, hrf⟩ : ∃ rt, (am_rec q).2.2.2.1 = some rt ∧ ((∃ n, rt = .object n) ∨ ∃ t, rt = .array t) := by
            cases hz : (am_rec q).2.2.2.1 with
            | none => rw [hz] at hrt; cases hrt
            | some ty => rw [hz] at hrt; cases ty <;> first | exact ⟨_, rfl, Or.inl ⟨_, rfl⟩⟩ | exact ⟨_, rfl, Or.inr ⟨_, rfl⟩⟩ | cases hrt
          exact W.aret hx hb (hret.trans hn) hrf (Or.inl rfl) hqc hS1.2.2 hdec
        | ref a =>
          have hr : (am_rec q).2.2.2.2.2.1 = 5 := hr
          rw [hr] at hdec hrt
          obtain ⟨rt, hn, hrf⟩ : ∃ rt, (am_rec q).2.2.2.1 = some rt ∧ ((∃ n, rt = .object n) ∨ ∃ t, rt = .array t) := by
            cases hz : (am_rec q).2.2.2.1 with
            | none => rw [hz] at hrt; cases hrt
            | some ty => rw [hz] at hrt; cases ty <;> first | exact ⟨_, rfl, Or.inl ⟨_, rfl⟩⟩ | exact ⟨_, rfl, Or.inr ⟨_, rfl⟩⟩ | cases hrt
          have hv : L a = .null ∨ ∃ a', L a = .ref a' := (hE.1.2.2 a).symm
          exact W.aret hx hb (hret.trans hn) hrf hv hqc hS1.2.2 hdec
