theorem am_W_mem {i : am_AI} {k : Nat} {w : Jvm.Cond} (h : am_W i k w = true) : w ∈ am_tbl ∧ am_keep w = true := by
  unfold am_W at h
  rw [Bool.and_eq_true, decide_eq_true_eq] at h
  exact ⟨List.mem_of_getElem? h.1, h.2⟩
theorem am_np_out {y : MethodName} {n : Nat} (h : am_np y n = true) : ∀ sig, parseMethodDescriptor y.desc = some sig → n = sig.parameters.length := by
  intro sig hs
  unfold am_np at h
  rw [decide_eq_true_eq, hs] at h
  exact (Option.some.inj h).symm
theorem am_noMH_out {y : String} (h : am_noMH y = true) : y ≠ "java/lang/invoke/MethodHandle" ∧ y ≠ "java/lang/invoke/VarHandle" := by
  unfold am_noMH at h
  rw [Bool.and_eq_true, decide_eq_true_eq, decide_eq_true_eq] at h
  exact h
theorem am_okC_out {i : am_AI} (h : am_okC i = true) : (am_rec (am_x i 0)).2.2.2.2.1.1 = am_x i 2 ∧ (am_rec (am_x i 0)).2.2.2.2.1.2 = am_x i 3 ∧ (am_rec (am_x i 0)).2.2.1 ≤ 41 ∧ ((am_rec (am_x i 0)).1.cls ≠ "java/lang/invoke/MethodHandle" ∧ (am_rec (am_x i 0)).1.cls ≠ "java/lang/invoke/VarHandle") ∧ ∀ sig, parseMethodDescriptor (am_rec (am_x i 0)).1.desc = some sig → am_x i 1 = sig.parameters.length := by
  unfold am_okC at h
  simp only [Bool.and_eq_true, decide_eq_true_eq] at h
  obtain ⟨⟨⟨⟨h1, h2⟩, h3⟩, h4⟩, h5⟩ := h
  exact ⟨by rw [h2], by rw [h2], h3, am_noMH_out h4, am_np_out h5⟩
section AMH
variable {p : Program} {l : Launch} {e : Env} {R : Room} {s : State} {m : MethodId} {args : Array Value} {below : List Frame} {meth : Method} {c : Code} {Q : State → Prop} {mr : am_Rec} {L : Nat → Value} {D : va_G} {B d : Nat} {H : Heap} {locs : List Loc} {cells slots : Nat} {pc len : Nat} {lsm : Array Slot} {rest : List Value} {d0 : Drawn} {h : am_H} {n : Nat}
theorem am_back {q : Nat} (hE : am_E L D B s s.heap) (hRf : d + 1 ≤ R.frames) (hRl : 60 * (d + 1) ≤ R.locals) (h41 : (am_rec q).2.2.1 ≤ 41) (hw : am_code (am_rec q) ∈ am_tbl ∧ am_keep (am_code (am_rec q)) = true) : (am_rm d q).cells = (am_rec q).2.2.2.2.1.1 ∧ (am_rm d q).slots = (am_rec q).2.2.2.2.1.2 ∧ (am_rm d q).frames + 1 ≤ R.frames ∧ 8 + ((am_rec q).2.2.1 + 11) + (am_rm d q).locals ≤ R.locals ∧ (∀ w ∈ [am_code (am_rec q)], ∀ (a' : Array Value) (U : State), (s.setDrawn d0).WarmedH U.vm → w.before a' U = true) ∧ Jvm.Cond.code (am_rec q).1 (am_rec q).2.1 (am_rec q).2.2.1 (am_rec q).2.2.2.1 ∈ [am_code (am_rec q)] := by
  refine ⟨rfl, rfl, hRf, by show 8 + ((am_rec q).2.2.1 + 11) + 60 * d ≤ R.locals; omega, fun w hw' a' U hW => ?_, List.mem_cons_self⟩
  rw [List.mem_singleton.mp hw']
  exact am_code_ok hE hw.1 hw.2 hW a'
theorem am_callB {q idx n : Nat} {own : String} (hE : am_E L D B s s.heap) (hRf : d + 1 ≤ R.frames) (hRl : 60 * (d + 1) ≤ R.locals) (h41 : (am_rec q).2.2.1 ≤ 41) (hMH : (am_rec q).1.cls ≠ "java/lang/invoke/MethodHandle" ∧ (am_rec q).1.cls ≠ "java/lang/invoke/VarHandle") (hnp : ∀ sig, parseMethodDescriptor (am_rec q).1.desc = some sig → n = sig.parameters.length) (hw : am_code (am_rec q) ∈ am_tbl ∧ am_keep (am_code (am_rec q)) = true) (hini : (Jvm.Cond.initialized (am_rec q).1.cls).before args (s.setDrawn d0) = true) (hlink : (Jvm.Cond.methodLink own idx (am_rec q).1).before args (s.setDrawn d0) = true) : CallB R (s.setDrawn d0) args own idx (am_rec q).1 (am_rec q).2.1 (am_rec q).2.2.1 (am_rec q).2.2.2.1 [am_code (am_rec q)] (am_rm d q) (am_rec q).2.2.2.2.1.1 (am_rec q).2.2.2.2.1.2 n := by
  obtain ⟨a1, a2, a3, a4, a5, a6⟩ := am_back (d0 := d0) hE hRf hRl h41 hw
  exact ⟨a1, a2, a3, a4, a5, a6, (Cond.before_setDrawn args s d0 _).trans (hE.2.1 _ hw.1 hw.2 args), hini, hMH, hnp, hlink⟩
theorem am_callN {q idx n : Nat} {own : String} (hE : am_E L D B s s.heap) (hRf : d + 1 ≤ R.frames) (hRl : 60 * (d + 1) ≤ R.locals) (h41 : (am_rec q).2.2.1 ≤ 41) (hMH : (am_rec q).1.cls ≠ "java/lang/invoke/MethodHandle" ∧ (am_rec q).1.cls ≠ "java/lang/invoke/VarHandle") (hnp : ∀ sig, parseMethodDescriptor (am_rec q).1.desc = some sig → n = sig.parameters.length) (hw : am_code (am_rec q) ∈ am_tbl ∧ am_keep (am_code (am_rec q)) = true) (hini : (Jvm.Cond.initialized (am_rec q).1.cls).before args (s.setDrawn d0) = true) (hlink : (Jvm.Cond.methodLinkNest own idx (am_rec q).1 "MetricStore").before args (s.setDrawn d0) = true) : va_CN R (s.setDrawn d0) args own idx (am_rec q).1 "MetricStore" (am_rec q).2.1 (am_rec q).2.2.1 (am_rec q).2.2.2.1 [am_code (am_rec q)] (am_rm d q) (am_rec q).2.2.2.2.1.1 (am_rec q).2.2.2.2.1.2 n := by
  obtain ⟨a1, a2, a3, a4, a5, a6⟩ := am_back (d0 := d0) hE hRf hRl h41 hw
  exact ⟨⟨a1, a2, a3, a4, a5, a6⟩, (Cond.before_setDrawn args s d0 _).trans (hE.2.1 _ hw.1 hw.2 args), hini, hMH, hnp, hlink⟩
theorem am_ml_all : (am_tab.all fun l => l.all fun m => decide (m.2.2.1 ≤ 21)) = true := by decide +kernel
theorem am_ml (q : Nat) : (am_rec q).2.2.1 ≤ 21 := by
  have key : ∀ (l : List am_Rec), (l.all fun m => decide (m.2.2.1 ≤ 21)) = true → ∀ j, (l.getD j r_Law_law).2.2.1 ≤ 21 := by
    intro l hl j
    rcases Nat.lt_or_ge j l.length with h | h
    · rw [List.getD_eq_getElem?_getD, List.getElem?_eq_getElem h]
      exact of_decide_eq_true (List.all_eq_true.mp hl _ (List.getElem_mem h))
    · rw [List.getD_eq_getElem?_getD, List.getElem?_eq_none h]
      exact Nat.le_of_ble_eq_true rfl
  refine key _ ?_ _
  rcases Nat.lt_or_ge (q / 32) am_tab.length with h | h
  · rw [List.getD_eq_getElem?_getD, List.getElem?_eq_getElem h]
    exact List.all_eq_true.mp am_ml_all _ (List.getElem_mem h)
  · rw [List.getD_eq_getElem?_getD, List.getElem?_eq_none h]
    rfl
/-- a virtual call with more of the stack below it -/
theorem am_runV16 {y : MethodName} {bytes cc : ByteArray} {maxL nL mc ms n index : Nat} {ret : Option FieldType} {ws : List Jvm.Cond} {rm : Room} {Pc : Array Value → State → Prop} {Qc : Array Value → State → Outcome → State → Prop} {free : Addr → Prop} {Ts : List Jvm.Cond} {own C : String} {b : Addr} {As rest : List Value} {g : JFrame} {cs : List Choice} (S : CallFix p m c cc nL s args Ts own) (hM : MetD cs l y ws rm Pc Qc mc ms free) (cw : CallW R s args own C index y bytes maxL ret ws rm mc ms n) (hlo : 16 + (maxL + 11) + rm.locals ≤ R.locals) (hp : PreV s H C b Pc As)
    (hg : g.method = m) (hn : As.length = n) (hsize : g.locals.size = nL) (hstack : g.stack = As.reverse ++ .ref b :: rest) (hW : 2 * g.monitorRoom + (rest.map fun v => v.category).sum ≤ 16) (hdg : decode cc g.pc = .ok (.invokevirtual index, 3)) (hf : cells + mc ≤ R.cells ∧ slots + ms ≤ R.slots) :
    va_RunD cs p l e R s m args below meth c H locs cells slots mc ms g rest (Qc (Value.ref b :: As).toArray) (free) := by
  obtain ⟨⟨hrc, hrs, hfr, -, hws, hcw, hcode, hini, hy, hlen, hl⟩, hin, hse⟩ := cw
  have hK : BackD cs l R p e below s args y 3 16 (PreOf R mc ms Pc) (PostOf Qc mc ms free) := back_of_D (bytes := bytes) (maxL := maxL) (ret := ret) hM hp.1 hrc hrs hfr hlo hws hcw (fun a' U hW => word_at hW (Or.inl (by first | rfl | simp [Jvm.Cond.onTables, Jvm.Cond.keeps, Jvm.Cond.steady])) hini)
  obtain ⟨hx, hb, hml, ho, -⟩ := S
  obtain ⟨-, ⟨cellB, hcB, hoB, hclB⟩, hPc⟩ := hp
  intro T hT X
  obtain ⟨v, vm₁, ⟨U', l2, c2, s2⟩, d', hd', hW₁, X', ⟨g', mk, t, L', e1, e2, hq, h1, hL, h2, h3⟩, st⟩ := callV_D X hx (C := C) (bytes := bytes) (maxL := maxL) (ret := ret) ho hl hin hse hcode hy hK (by rw [hT]; exact hcB) hoB hclB hg (hsize.trans hml.symm) (argsL := As) (rest := rest) (fun sig h => hn.trans (hlen sig h)) hstack hW (by rw [hb]; exact hdg) (fun vm₁ hW₁ => ⟨hf.1, hf.2, hPc (T.setVm vm₁) hT hW₁⟩)
  dsimp only [Pt.U, Pt.locs, Pt.cells, Pt.slots] at X' e1 e2 h1 h2 h3 st
  subst h1; subst h2; subst h3
  exact ⟨v, ((T.setVm vm₁).setDrawn d').calling g' mk (Value.ref b :: As).toArray, t, U', L', d', hd', hT, X', hL, e1, e2, hq, st⟩
theorem am_room16 {st : List Value} {m : MethodId} {pc : Nat} {ls : Array Slot} {rest : List Value} (h : (st.map fun v => v.category).sum ≤ 16) : 2 * (F0 m pc ls rest).monitorRoom + (st.map fun v => v.category).sum ≤ 16 := by
  show 2 * 0 + _ ≤ 16
  omega
/-- the receiver, and what a contract asks of the start -/
theorem am_preV (hE : am_E L D B s s.heap) (hH : am_HR s L D B h n H) (hS : va_S (fun q => B ≤ q) s.heap H locs) {a a' ci : Nat} {fs : List Value} {as : List Value} (hci : ci < 14) (hfs : h a = some (.inr (ci, fs))) (hLa : L a = .ref a') : PreV (s.setDrawn d0) H (vwCl.getD ci am_cdf).1 a' (am_Pc L D B (.ref a :: as) h n) (as.map (am_mv L)) := by
  obtain ⟨-, a2, cell, hLa2, hcell, r, hr, hcls, hvm, hnst, -, -⟩ := hH.2.2 a _ hfs
  have ea : a2 = a' := Value.ref.inj (hLa2.symm.trans hLa)
  subst ea
  have er : r = vwCl.getD ci am_cdf := Option.some.inj (hr.symm.trans (am_cls_get ci hci))
  subst er
  obtain ⟨b1, b2⟩ := am_pre (s := s) hE hH hS (as := .ref a :: as)
  refine ⟨b1, ⟨cell, hcell, hnst, by rw [hcls]; exact (hE.2.2.1.1 _ _ hr).2.1⟩, fun U hU hW => ?_⟩
  have := b2 U hU hW
  rw [List.map_cons, show am_mv L (.ref a) = .ref a2 from hLa] at this
  exact this
theorem am_preS (hE : am_E L D B s s.heap) (hH : am_HR s L D B h n H) (hS : va_S (fun q => B ≤ q) s.heap H locs) {a a' : Nat} {as : List Value} (hLa : L a = .ref a') : PreS (s.setDrawn d0) H (am_Pc L D B (.ref a :: as) h n) (.ref a' :: as.map (am_mv L)) := by
  obtain ⟨b1, b2⟩ := am_pre (s := s) hE hH hS (as := .ref a :: as)
  refine ⟨b1, fun U hU hW => ?_⟩
  have := b2 U hU hW
  rw [List.map_cons, show am_mv L (.ref a) = .ref a' from hLa] at this
  exact this
theorem am_s_multi (hE : am_E L D B s s.heap) (hx : p.tables.exec = Jvm.exec) (hb : c.code = mr.2.1) (hown : s.vm.findClass mr.1.cls = some m.cls) (hH : am_HR s L D B h n H) (hS : va_S (fun q => B ≤ q) s.heap H locs) {to ti idx : Nat} {x k : Int32} (hti : ti < 2) (hto : 5 ≤ to) (hty : am_ty to = .array (am_ty ti)) (hw : (Jvm.Cond.classLink mr.1.cls idx ("[" ++ (FieldType.array (am_ty ti)).toString)).before args (s.setDrawn d0) = true) (hw2 : (Jvm.Cond.arrayOver (.array (am_ty ti))).before args (s.setDrawn d0) = true) (hw3 : (Jvm.Cond.arrayClass (am_ty ti)).before args (s.setDrawn d0) = true) (hx0 : ¬ x < 0) (hk0 : ¬ k < 0) (hx1 : x.toNatClampNeg ≤ 4096) (hk1 : k.toNatClampNeg ≤ 4096) (hc1 : cells + (1 + x.toNatClampNeg) ≤ R.cells) (hc2 : slots + (x.toNatClampNeg + x.toNatClampNeg * k.toNatClampNeg) ≤ R.slots) (hdec : decode mr.2.1 pc = .ok (.multianewarray idx 2, 4))
    (kk : ∀ (H1 : Heap), am_HR s L D B (fun b => if b = n then some (am_ar to x.toNatClampNeg (am_xq fun j => some (n + 1 + j))) else if n < b ∧ b < n + 1 + x.toNatClampNeg then some (am_ar ti k.toNatClampNeg (am_z ti)) else h b) (n + 1 + x.toNatClampNeg) H1 → va_S (fun q => B ≤ q) s.heap H1 locs → W p l e R (s.setDrawn d0) m args below meth c H1 locs (cells + (1 + x.toNatClampNeg)) (slots + (x.toNatClampNeg + x.toNatClampNeg * k.toNatClampNeg)) Q (F0 m (pc + 4) lsm (L n :: rest))) : W p l e R (s.setDrawn d0) m args below meth c H locs cells slots Q (F0 m pc lsm (.int k :: .int x :: rest)) := by
  have hL := hE.1
  have htop := hH.top hL
  rw [htop] at kk
  have hcb : componentBytes (am_ty ti) ≤ 8 := by rcases (show ti = 0 ∨ ti = 1 by omega) with rfl | rfl <;> decide
  have hdf : fits (am_ty ti) (defaultValue (am_ty ti)) = true := by rcases (show ti = 0 ∨ ti = 1 by omega) with rfl | rfl <;> rfl
  have hdd : (defaultValue (am_ty ti)).isDefault = true := by rcases (show ti = 0 ∨ ti = 1 by omega) with rfl | rfl <;> rfl
  intro T hT Xs
  obtain ⟨vm₁, cA, comp, hWm, fA, fC, hO, hI, X', step⟩ := Stand.multianewarray2F Xs hx hown hw hw2 hw3 (g := F0 m pc lsm (.int k :: .int x :: rest)) rfl (by rw [hb]; exact hdec) rfl hx0 hk0 (by omega) (Nat.le_trans (Nat.mul_le_mul hk1 hcb) (Nat.le_of_ble_eq_true rfl)) (by omega) hdf hdd hc1 hc2
  generalize hF : Jvm.Free.Multi.fill (T.setVm vm₁) cA comp x.toNatClampNeg k.toNatClampNeg (defaultValue (am_ty ti)) x.toNatClampNeg = F at X' step
  have hTh : (T.setVm vm₁).heap = H := hT
  obtain ⟨f1, f2, -, -⟩ := Jvm.Free.Multi.fill_facts (T.setVm vm₁) cA comp x.toNatClampNeg k.toNatClampNeg (defaultValue (am_ty ti)) x.toNatClampNeg
  rw [hF, hTh] at f1 f2
  have hold : ∀ y : Nat, y < H.size → F.heap[y]? = H[y]? := fun y hy => by
    have := Jvm.Free.Multi.fill_old (T.setVm vm₁) cA comp x.toNatClampNeg k.toNatClampNeg (defaultValue (am_ty ti)) (a := y) (by rw [hTh]; exact hy) x.toNatClampNeg
    rw [hF, hTh] at this
    exact this
  have hrow : ∀ j : Nat, j < x.toNatClampNeg → F.heap[H.size + 1 + j]? = some (Jvm.Free.Multi.innerC comp k.toNatClampNeg (defaultValue (am_ty ti))) := fun j hj => by
    have := Jvm.Free.Multi.fill_inner (T.setVm vm₁) cA comp x.toNatClampNeg k.toNatClampNeg (defaultValue (am_ty ti)) x.toNatClampNeg j hj
    rw [hF, hTh] at this
    exact this
  obtain ⟨o1, o2, o3⟩ := Jvm.Free.Multi.outerC_facts cA x.toNatClampNeg H.size x.toNatClampNeg
  have os := fun (j : Nat) (hj : j < x.toNatClampNeg) => Jvm.Free.Multi.outerC_slot cA x.toNatClampNeg H.size x.toNatClampNeg j hj
  have hz : ∀ j, am_mv L (am_el (am_z ti) j) = defaultValue (am_ty ti) := fun j => by rcases (show ti = 0 ∨ ti = 1 by omega) with rfl | rfl <;> rfl
  have h64 := hH.1
  have hsz := hH.2.1
  have hinn : ∀ j, j < x.toNatClampNeg → am_at s L D (n + 1 + j) (am_ar ti k.toNatClampNeg (am_z ti)) F.heap := fun j hj => by
    refine ⟨H.size + 1 + j, _, (hL.1 _ (by omega)).trans (congrArg Value.ref (show (B + (n + 1 + j - 64) : Nat) = H.size + 1 + j by omega)), hrow j hj, (hI _ _).1, (hI _ _).2, by simp [Jvm.Free.Multi.innerC], by simp [Jvm.Free.Multi.innerC], fun i hi => ?_, fun _ => ⟨rfl, by simp [Jvm.Free.Multi.innerC], fC⟩, fun C hC => ?_⟩
    · rw [hz i]
      simp [Jvm.Free.Multi.innerC, hi]
    · exact absurd hC (by rcases (show ti = 0 ∨ ti = 1 by omega) with rfl | rfl <;> exact fun h => (by cases h))
  have hout : am_at s L D n (am_ar to x.toNatClampNeg (am_xq fun j => some (n + 1 + j))) F.heap := by
    refine ⟨H.size, _, htop, f2, by rw [hty]; exact (hO _ _ _).1, (hO _ _ _).2, Nat.le_of_eq o3.symm, by rw [o3], fun i hi => ?_, fun _ => ⟨o2, o3, by rw [hty, o1]; exact fA⟩, fun C hC => by rw [hty] at hC; cases hC⟩
    have hi : i < x.toNatClampNeg := hi
    rw [os i hi, if_pos hi]
    show some (Value.ref (H.size + 1 + i)) = some (L (n + 1 + i))
    rw [hL.1 _ (by omega), hsz]
    exact congrArg (fun q : Nat => some (Value.ref q)) (show (B + (n - 64) + 1 + i : Nat) = B + (n + 1 + i - 64) by omega)
  have hn64 : 64 ≤ n := hH.1
  obtain ⟨t, a1, b1⟩ := kk F.heap ⟨by omega, by rw [f1]; omega, fun b f hb' => by
    dsimp only at hb'
    by_cases e1 : b = n
    · subst e1
      rw [if_pos rfl] at hb'
      cases hb'
      exact ⟨by omega, hout⟩
    · rw [if_neg e1] at hb'
      by_cases e2 : n < b ∧ b < n + 1 + x.toNatClampNeg
      · rw [if_pos e2] at hb'
        cases hb'
        obtain ⟨j, rfl⟩ : ∃ j, b = n + 1 + j := ⟨b - (n + 1), by omega⟩
        exact ⟨⟨e2.2, by omega⟩, hinn j (by omega)⟩
      · rw [if_neg e2] at hb'
        obtain ⟨g1, g2⟩ := hH.2.2 _ _ hb'
        refine ⟨by omega, g2.kept fun a' ha' => hold a' ?_⟩
        rcases Nat.lt_or_ge b 64 with g | g
        · have this : a' < B := hL.2.1 b g g1.2 a' ha'
          omega
        · rw [hL.1 b g] at ha'
          have this : B + (b - 64) = a' := Value.ref.inj ha'
          omega⟩ ⟨by rw [f1]; have := hS.1; omega, fun y g1 g2 => (hold y (Nat.lt_of_lt_of_le g1 hS.1)).trans (hS.2.1 y g1 g2), hS.2.2⟩ F rfl (by
      rw [show cells + (1 + x.toNatClampNeg) = cells + 1 + x.toNatClampNeg by omega, show slots + (x.toNatClampNeg + x.toNatClampNeg * k.toNatClampNeg) = slots + x.toNatClampNeg + x.toNatClampNeg * k.toNatClampNeg by omega]
      exact X')
  refine ⟨t, step t ?_, b1⟩
  have e : T.heap.size = H.size := by rw [hT]
  rw [e]
  exact a1
end AMH
