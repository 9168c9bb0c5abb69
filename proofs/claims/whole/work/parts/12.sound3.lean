section AMG
variable {p : Program} {l : Launch} {e : Env} {R : Room} {s : State} {m : MethodId} {args : Array Value} {below : List Frame} {meth : Method} {c : Code} {Q : State → Prop} {mr : am_Rec} {L : Nat → Value} {D : va_G} {B d : Nat} {H : Heap} {locs : List Loc} {cells slots : Nat} {pc len : Nat} {lsm : Array Slot} {rest : List Value} {d0 : Drawn} {h : am_H} {n : Nat}
theorem am_nn {z : Int32} (hz : ¬ z < 0) : z.toInt = (z.toNatClampNeg : Int) := by
  have hz0 : (0 : Int) ≤ z.toInt := by
    have := Int32.not_lt.mp hz
    simpa using Int32.le_iff_toInt_le.mp this
  show z.toInt = ((z.toInt.toNat : Nat) : Int)
  omega
theorem am_s_copy (hE : am_E L D B s s.heap) (hx : p.tables.exec = Jvm.exec) (hb : c.code = mr.2.1) (hml : c.maxLocals = lsm.size) (hown : s.vm.findClass mr.1.cls = some m.cls) (hH : am_HR s L D B h n H) (hS : va_S (fun q => B ≤ q) s.heap H locs) {idx : Nat} (hlink : (Jvm.Cond.methodLink mr.1.cls idx arraycopyName).before args (s.setDrawn d0) = true) (hnat : (Jvm.Cond.native arraycopyName).before args (s.setDrawn d0) = true) (hstat : (Jvm.Cond.static arraycopyName).before args (s.setDrawn d0) = true) (hini : (Jvm.Cond.initialized "java/lang/System").before args (s.setDrawn d0) = true)
    {a b t n0 n1 : Nat} {f g : Nat → Int32} {sp dp k : Int32} (ht : t = 0 ∨ t = 4) (ha : h a = some (.inl (t, n0, .inl f))) (hd : h b = some (.inl (t, n1, .inl g))) (hb64 : 64 ≤ b) (h1 : ¬ sp < 0) (h2 : ¬ dp < 0) (h3 : ¬ k < 0) (h4 : sp.toNatClampNeg + k.toNatClampNeg ≤ n0) (h5 : dp.toNatClampNeg + k.toNatClampNeg ≤ n1) (hfit : t = 4 → ∀ j, j < k.toNatClampNeg → (f (sp.toNatClampNeg + j)).toInt8.toInt32 = f (sp.toNatClampNeg + j))
    (hframes : 1 ≤ R.frames) (hlocals : (rest.map fun v => v.category).sum + (nativeFrameWords "java/lang/System" "arraycopy" 5 + 11) ≤ R.locals) (hdec : decode mr.2.1 pc = .ok (.invokestatic idx, 3))
    (kk : ∀ (H1 : Heap) (locs1 : List Loc), am_HR s L D B (am_up h b (am_ar t n1 (am_xi (am_cp f g sp.toNatClampNeg dp.toNatClampNeg k.toNatClampNeg)))) n H1 → va_S (fun q => B ≤ q) s.heap H1 locs1 → W p l e R (s.setDrawn d0) m args below meth c H1 locs1 cells slots Q (F0 m (pc + 3) lsm rest)) : W p l e R (s.setDrawn d0) m args below meth c H locs cells slots Q (F0 m pc lsm (.int k :: .int dp :: L b :: .int sp :: L a :: rest)) := by
  have hL := hE.1
  obtain ⟨-, a0, cs, hLa, hcs, s1, s2, s3, s4, s5, s6, s7⟩ := hH.2.2 a _ ha
  obtain ⟨-, b0, cd, hLb, hcd, hAd⟩ := hH.2.2 b _ hd
  obtain ⟨r1, r2, r3, r4, r5, r6, r7⟩ := id hAd
  have s1 : s.isArrayOf cs (am_ty t) := s1
  have r1 : s.isArrayOf cd (am_ty t) := r1
  have s3 : n0 ≤ cs.slots.size := s3
  have s5 : ∀ j, j < n0 → cs.slots[j]? = some (.int (f j)) := s5
  have r5 : ∀ j, j < n1 → cd.slots[j]? = some (.int (g j)) := r5
  have r6 := r6 hb64
  have r62 : cd.slots.size = n1 := r6.2.1
  have eb : b0 = B + (b - 64) := by
    have := hL.1 b hb64
    rw [hLb] at this
    exact Value.ref.inj this
  rw [hLa, hLb]
  obtain ⟨so, k0, hk0, cm0, hkk0⟩ := s1
  obtain ⟨ro, k1, hk1, cm1, hkk1⟩ := r1
  have hgd : ∀ i, i < k.toNatClampNeg → cs.slots.getD (sp.toNatClampNeg + i) .null = .int (f (sp.toNatClampNeg + i)) := fun i hi => by
    rw [Array.getD_eq_getD_getElem?, s5 _ (by omega)]
    rfl
  intro T hT X
  obtain ⟨vm', X', step⟩ := X.arraycopy hx hown hlink hnat hstat hini (src := a0) (dst := b0) (cs := cs) (cd := cd) (srcPos := sp) (destPos := dp) (n := k) (by rw [hT]; exact hcs) (by rw [hT]; exact hcd)
    so ro s2 r2 hk0 hk1 hkk0 hkk1 (by rcases ht with rfl | rfl <;> decide) h1 h2 h3
    (by rw [am_nn h1, am_nn h3]; omega)
    (by rw [am_nn h2, am_nn h3]; omega)
    (fun vm₁ _ i hi => by
      rw [hgd i hi]
      refine ⟨?_, trivial⟩
      rcases ht with rfl | rfl
      · rfl
      · rw [← hfit rfl i hi]; exact pk_fb _)
    (g := F0 m pc lsm (.int k :: .int dp :: .ref b0 :: .int sp :: .ref a0 :: rest)) rfl (by rw [hml]) (rest := rest) rfl (by rw [hb]; exact hdec) hframes (by show 2 * 0 + _ + _ ≤ _; omega)
  have hl : b0 < H.size := (Array.getElem?_eq_some_iff.mp hcd).1
  generalize hcc : copied cs cd sp dp k = cc at X' step
  have hheap : ((T.setVm vm').setCell b0 cc).heap = H.setIfInBounds b0 cc := by rw [← hT]; rfl
  have oq : ∀ q : Nat, q ≠ b0 → (H.setIfInBounds b0 cc)[q]? = H[q]? := fun q hq => by simp [Array.getElem?_setIfInBounds, Ne.symm hq]
  have hst : (cs.stretch sp.toNatClampNeg k.toNatClampNeg).length = k.toNatClampNeg := by simp [Cell.stretch]
  obtain ⟨f1, f2, f3, -, -⟩ := Cell.storeRun_facts cd dp.toNatClampNeg (cs.stretch sp.toNatClampNeg k.toNatClampNeg)
  have hcc1 : cc.cls = cd.cls := by rw [← hcc]; exact f1
  have hcc2 : cc.vm = cd.vm := by rw [← hcc]; exact f2
  have hcc3 : cc.slots.size = cd.slots.size := by rw [← hcc]; exact f3
  have hAt : am_atA s L b t n1 (am_xi (am_cp f g sp.toNatClampNeg dp.toNatClampNeg k.toNatClampNeg)) cc := by
    refine ⟨⟨by rw [hcc2]; exact ro, k1, by rw [hcc1]; exact hk1, cm1, hkk1⟩, by rw [hcc2]; exact r2, by rw [hcc3]; exact r3, by rw [hcc3]; exact r4, fun j hj => ?_, fun _ => ⟨by rw [hcc2]; exact r6.1, by rw [hcc3]; exact r62, by rw [hcc1]; exact r6.2.2⟩, fun C hC => by rw [hcc1]; exact r7 C hC⟩
    rw [← hcc]
    show (cd.storeRun dp.toNatClampNeg (cs.stretch sp.toNatClampNeg k.toNatClampNeg)).slots[j]? = some (.int (am_cp f g sp.toNatClampNeg dp.toNatClampNeg k.toNatClampNeg j))
    rw [Cell.storeRun_get cd dp.toNatClampNeg _ j (by rw [hst]; omega), hst]
    unfold am_cp
    by_cases hj2 : dp.toNatClampNeg ≤ j ∧ j < dp.toNatClampNeg + k.toNatClampNeg
    · rw [if_pos hj2, if_pos hj2]
      unfold Cell.stretch
      rw [List.getElem?_map, List.getElem?_range (by omega)]
      exact congrArg some (hgd _ (by omega))
    · rw [if_neg hj2, if_neg hj2]
      exact r5 j hj
  obtain ⟨t', a1, b1⟩ := kk _ _ (hH.put (e := am_ar t n1 (am_xi (am_cp f g sp.toNatClampNeg dp.toNatClampNeg k.toNatClampNeg))) hL hd hb64 (by simp) (fun x hx => oq x (by rw [eb]; exact hx)) ⟨b0, cc, hLb, by simp [Array.getElem?_setIfInBounds, hl], hAt⟩) ⟨by simp; exact hS.1, fun q g1 g2 => by
      rw [oq q (fun z => g2 (by show B ≤ q; omega))]
      exact hS.2.1 q g1 g2, fun q hq => by
      rcases List.mem_append.mp hq with h | h
      · exact hS.2.2 q h
      · obtain ⟨z, -, hz⟩ := List.mem_map.mp h
        rw [← hz]
        show B ≤ b0
        omega⟩ _ hheap X'
  exact ⟨t', step t' a1, b1⟩
theorem am_s_clone (hE : am_E L D B s s.heap) (hx : p.tables.exec = Jvm.exec) (hb : c.code = mr.2.1) (hml : c.maxLocals = lsm.size) (hown : s.vm.findClass mr.1.cls = some m.cls) (hH : am_HR s L D B h n H) (hS : va_S (fun q => B ≤ q) s.heap H locs) {idx : Nat} (hlink : (Jvm.Cond.methodLink mr.1.cls idx ⟨"[B", "clone", "()Ljava/lang/Object;"⟩).before args (s.setDrawn d0) = true) (hsame : (Jvm.Cond.sameMethod "[B" "java/lang/Object" "clone" "()Ljava/lang/Object;").before args (s.setDrawn d0) = true) (hnat : (Jvm.Cond.native ⟨"java/lang/Object", "clone", "()Ljava/lang/Object;"⟩).before args (s.setDrawn d0) = true) (hinst : (Jvm.Cond.instanceMethod ⟨"java/lang/Object", "clone", "()Ljava/lang/Object;"⟩).before args (s.setDrawn d0) = true) (hsel : (Jvm.Cond.selects "[B" ⟨"[B", "clone", "()Ljava/lang/Object;"⟩ ⟨"java/lang/Object", "clone", "()Ljava/lang/Object;"⟩).before args (s.setDrawn d0) = true) (hcl : (Jvm.Cond.castable "[B" "java/lang/Cloneable").before args (s.setDrawn d0) = true)
    {a n0 : Nat} {f : Nat → Int32} (ha : h a = some (.inl (4, n0, .inl f))) (h64 : 64 ≤ a) (hfit : ∀ j, j < n0 → (f j).toInt8.toInt32 = f j)
    (hframes : 1 ≤ R.frames) (hlocals : (rest.map fun v => v.category).sum + 14 ≤ R.locals) (hc1 : cells + 1 ≤ R.cells) (hc2 : slots + n0 ≤ R.slots) (hdec : decode mr.2.1 pc = .ok (.invokevirtual idx, 3))
    (kk : ∀ (H1 : Heap), am_HR s L D B (am_up h n (am_ar 4 n0 (am_xi f))) (n + 1) H1 → va_S (fun q => B ≤ q) s.heap H1 locs → W p l e R (s.setDrawn d0) m args below meth c H1 locs (cells + 1) (slots + n0) Q (F0 m (pc + 3) lsm (L n :: rest))) : W p l e R (s.setDrawn d0) m args below meth c H locs cells slots Q (F0 m pc lsm (L a :: rest)) := by
  have hL := hE.1
  have htop := hH.top hL
  obtain ⟨-, a0, cell, hLa, hcell, hA⟩ := hH.2.2 a _ ha
  obtain ⟨r1, r2, r3, r4, r5, r6, r7⟩ := id hA
  have r6 := r6 h64
  have hvm0 : cell.vm = .none := r6.1
  have hsz : cell.slots.size = n0 := r6.2.1
  have hnm : s.vm.findClass "[B" = some cell.cls := r6.2.2
  obtain ⟨ro, kA, hkA, comp, hkind⟩ := id r1
  have r5 : ∀ j, j < n0 → cell.slots[j]? = some (.int (f j)) := r5
  rw [hLa]
  obtain ⟨c0, t0', f1, f2, f3⟩ := Cond.castable_spec hcl
  cases hnm.symm.trans f1
  intro T hT X
  have hcellT : T.heap[a0]? = some cell := by rw [hT]; exact hcell
  obtain ⟨-, kA', hkA', comp', hkind'⟩ := State.isArrayOf_alike X.warmed.alike r1
  obtain ⟨vm', X', st⟩ := X.cloneArray hx hown hlink hsame hnat hinst hsel (a := a0) (cell := cell) hcellT (fun k h => by rw [hvm0] at h; cases h) (by rw [hvm0]; exact fun h => by cases h) hnm f2 f3
    (fun i v hv => by
      have hk' : T.vm.classes[cell.cls]? = some kA' := hkA'
      have hi : i < n0 := by rw [← hsz]; exact (Array.getElem?_eq_some_iff.mp hv).1
      rw [r5 i hi] at hv
      cases hv
      have : fits .byte (.int (f i)) = true := by rw [← hfit i hi]; exact pk_fb _
      have hkind' : kA'.kind = .array comp' .byte := hkind'
      simpa [State.fitsSlot, State.slotType?, hk', hkind'] using this)
    (g := F0 m pc lsm (.ref a0 :: rest)) rfl (by rw [hml]) rfl (by rw [hb]; exact hdec) hframes (by show 2 * 0 + _ + 14 ≤ _; omega) hc1 (by rw [hsz]; exact hc2) (hloader := Vm.clonesLoader_of_array hkA hkind)
  rw [hsz] at X'
  generalize hcc : ({ cls := cell.cls, slots := cell.slots } : Cell) = cc at X' st
  generalize hH1 : H.push cc = H1
  have z1 : H1.size = H.size + 1 := by rw [← hH1, Array.size_push]
  have e1 : H1[H.size]? = some cc := by rw [← hH1, Array.getElem?_push_size]
  have o1 : ∀ q : Nat, q < H.size → H1[q]? = H[q]? := fun q hq => by rw [← hH1, Array.getElem?_push, if_neg (Nat.ne_of_lt hq)]
  have h1 : cc.cls = cell.cls := by rw [← hcc]
  have h2 : cc.slots = cell.slots := by rw [← hcc]
  have h3 : cc.vm = .none := by rw [← hcc]
  rw [htop] at kk
  obtain ⟨t, b1, b2⟩ := kk H1 (hH.push hL z1 o1 ⟨H.size, cc, htop, e1, ⟨fun k q => (by rw [h3] at q; cases q), kA, by rw [h1]; exact hkA, comp, hkind⟩, (fun q => by rw [h3] at q; cases q), by rw [h2]; exact r3, by rw [h2]; exact r4, fun j hj => by rw [h2]; exact r5 j hj, fun _ => ⟨h3, by rw [h2]; exact hsz, by rw [h1]; exact r6.2.2⟩, fun C hC => (by cases hC)⟩) ⟨Nat.le_trans hS.1 (by omega), fun x g1 g2 => (o1 x (Nat.lt_of_lt_of_le g1 hS.1)).trans (hS.2.1 x g1 g2), hS.2.2⟩
    ((T.setVm vm').pushCell cc) (by rw [← hH1, ← hT]; rfl) X'
  refine ⟨t, st t ?_, b2⟩
  rw [hT]
  exact b1
/-- calls of depth d are sound: a contract for every call that the abstract machine grants -/
def am_rm (d q : Nat) : Room := { frames := d, cells := (am_rec q).2.2.2.2.1.1, slots := (am_rec q).2.2.2.2.1.2, locals := 60 * d }
def am_Qc (L : Nat → Value) (D : va_G) (B rt : Nat) (K : am_K) : Array Value → State → Outcome → State → Prop := fun _ st oc t => (∃ (v : Option Value) (h' : am_H) (n' : Nat), oc = .returned (v.map (am_mv L)) ∧ am_rets rt v ∧ K v h' n' ∧ am_HR t L D B h' n' t.heap) ∧ va_F (fun q => B ≤ q) st t
def am_Pc (L : Nat → Value) (D : va_G) (B : Nat) (as : List Value) (h : am_H) (n : Nat) : Array Value → State → Prop := va_Pc (as.map (am_mv L)) (fun U => am_E L D B U U.heap ∧ am_HR U L D B h n U.heap)
def am_Sound (l : Launch) (d : Nat) (CT : am_CT) : Prop := ∀ (q : Nat) (as : List Value) (h : am_H) (n : Nat) (K : am_K), CT q as h n K → ∀ (L : Nat → Value) (D : va_G) (B : Nat), MetD lw_cs l (am_rec q).1 [am_code (am_rec q)] (am_rm d q) (am_Pc L D B as h n) (am_Qc L D B (am_rec q).2.2.2.2.2.1 K) (am_rec q).2.2.2.2.1.1 (am_rec q).2.2.2.2.1.2 (fun q => B ≤ q)
theorem am_callD {K : am_K} {rt mc ms : Nat} {st0 : List Value} {aa : Array Value} (hd0 : s.drawn.sameBut d0 lw_cs) (hr : va_RunD lw_cs p l e R (s.setDrawn d0) m args below meth c H locs cells slots mc ms (F0 m pc lsm st0) rest (am_Qc L D B rt K aa) (fun q => B ≤ q)) (hS : va_S (fun q => B ≤ q) s.heap H locs)
    (kk : ∀ (v : Option Value) (h' : am_H) (n' : Nat) (H1 : Heap) (locs1 : List Loc) (d1 : Drawn), am_rets rt v → K v h' n' → am_HR s L D B h' n' H1 → va_S (fun q => B ≤ q) s.heap H1 locs1 → s.drawn.sameBut d1 lw_cs → W p l e R (s.setDrawn d1) m args below meth c H1 locs1 (cells + mc) (slots + ms) Q (F0 m (pc + 3) lsm ((v.map (am_mv L)).toList ++ rest))) : W p l e R (s.setDrawn d0) m args below meth c H locs cells slots Q (F0 m pc lsm st0) := by
  intro T hT X
  obtain ⟨v, st₀, t, T', L', d', hd', h0, X', hL, e1, e2, ⟨⟨v', h', n', hv, hrt, hK, hh⟩, hz, hk⟩, st⟩ := hr T hT X
  cases hv
  rw [h0] at hz hk
  have hal : t.vm.Alike s.vm := by rw [← e2]; exact X'.warmed.alike.symm
  obtain ⟨t2, a1, b1⟩ := kk v' h' n' T'.heap (locs ++ L') d' hrt hK (by rw [e1]; exact hh.moved hal) ⟨Nat.le_trans hS.1 (by rw [e1]; exact hz), fun q h1 h2 => by rw [e1, hk q (Nat.lt_of_lt_of_le h1 hS.1) h2]; exact hS.2.1 q h1 h2, fun q hq => by
      rcases List.mem_append.mp hq with h | h
      · exact hS.2.2 q h
      · exact hL q h⟩ (hd0.trans hd') T' rfl X'
  exact ⟨t2, st t2 a1, b1⟩
theorem am_pre (hE : am_E L D B s s.heap) (hH : am_HR s L D B h n H) (hS : va_S (fun q => B ≤ q) s.heap H locs) {as : List Value} : FrameBlind (am_Pc L D B as h n) ∧ ∀ U : State, U.heap = H → s.WarmedH U.vm → am_Pc L D B as h n (as.map (am_mv L)).toArray U := by
  refine ⟨fun a U g mk q => ?_, fun U hU hW => ⟨rfl, ?_, ?_⟩⟩
  · obtain ⟨q1, q2, q3⟩ := q
    exact ⟨q1, am_E.moved (s := U) (U := U.calling g mk a) (State.WarmedH.refl U) (fun _ _ _ => rfl) q2, q3.moved (U := U.calling g mk a) (Vm.Alike.refl U.vm)⟩
  · rw [hU]
    exact am_E.moved hW (fun q h1 h2 => hS.2.1 q h1 h2) hE
  · rw [hU]
    exact hH.moved hW.alike
theorem am_code_ok {q : Nat} {U : State} (hE : am_E L D B s s.heap) (hw : am_code (am_rec q) ∈ am_tbl) (hk : am_keep (am_code (am_rec q)) = true) (hW : s.WarmedH U.vm) (a' : Array Value) : (am_code (am_rec q)).before a' U = true := am_word hk hW (hE.2.1 _ hw hk #[])
end AMG
