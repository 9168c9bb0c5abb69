theorem am_oa_out {h : am_H} {a ci : Nat} {F : List Value → Prop} (q : am_oa h a ci F) : ∃ fs, h a = some (.inr (ci, fs)) ∧ F fs := by
  unfold am_oa at q; split at q
  · rename_i x y z e; exact ⟨_, by rw [e, q.1], q.2⟩
  · exact False.elim q
theorem am_ia_out {h : am_H} {a t : Nat} {F : Nat → (Nat → Int32) → Prop} (q : am_ia h a t F) : ∃ n f, h a = some (.inl (t, n, .inl f)) ∧ F n f := by
  unfold am_ia at q; split at q
  · rename_i x y z w e; exact ⟨_, _, by rw [e, q.1], q.2⟩
  · exact False.elim q
theorem am_la_out {h : am_H} {a t : Nat} {F : Nat → (Nat → Int64) → Prop} (q : am_la h a t F) : ∃ n f, h a = some (.inl (t, n, .inr (.inl f))) ∧ F n f := by
  unfold am_la at q; split at q
  · rename_i x y z w e; exact ⟨_, _, by rw [e, q.1], q.2⟩
  · exact False.elim q
theorem am_da_out {h : am_H} {a t : Nat} {F : Nat → (Nat → UInt64) → Prop} (q : am_da h a t F) : ∃ n f, h a = some (.inl (t, n, .inr (.inr (.inr (.inl f))))) ∧ F n f := by
  unfold am_da at q; split at q
  · rename_i x y z w e; exact ⟨_, _, by rw [e, q.1], q.2⟩
  · exact False.elim q
theorem am_qa_out {h : am_H} {a t : Nat} {F : Nat → (Nat → Option Nat) → Prop} (q : am_qa h a t F) : ∃ n f, h a = some (.inl (t, n, .inr (.inr (.inr (.inr f))))) ∧ F n f := by
  unfold am_qa at q; split at q
  · rename_i x y z w e; exact ⟨_, _, by rw [e, q.1], q.2⟩
  · exact False.elim q
theorem am_an_out {h : am_H} {a : Nat} {F : Nat → Prop} (q : am_an h a F) : ∃ t n x, h a = some (.inl (t, n, x)) ∧ F n := by
  unfold am_an at q; split at q
  · rename_i x y z e; exact ⟨_, _, _, e, q⟩
  · exact False.elim q
theorem am_pop_out {F : List Value → List Value → Prop} : ∀ {k : Nat} {acc st : List Value}, am_pop k acc st F → ∃ as r, st = as.reverse ++ r ∧ as.length = k ∧ F (as ++ acc) r
  | 0, acc, st, q => ⟨[], st, rfl, rfl, q⟩
  | k + 1, acc, [], q => False.elim q
  | k + 1, acc, v :: st, q => by
    obtain ⟨as, r, e1, e2, e3⟩ := am_pop_out (k := k) q
    refine ⟨as ++ [v], r, by rw [e1]; simp, by simp [e2], ?_⟩
    rw [List.append_assoc]
    exact e3
theorem am_okv_fit {L : Nat → Value} {B : Nat} (hL : am_Lg L B) {ty : FieldType} {v : Value} (h : am_okv (am_fk ty) v) : narrow ty (am_mv L v) = am_mv L v ∧ fits ty (am_mv L v) = true := by
  cases ty <;> cases v <;> first | exact False.elim h | exact ⟨rfl, rfl⟩ | skip
  all_goals first
    | (rcases h with h | h <;> subst h <;> exact ⟨rfl, rfl⟩)
    | (rename_i a; rcases hL.2.2 a with ⟨a', ha⟩ | ha <;> (rw [show am_mv L (.ref a) = L a from rfl, ha]; exact ⟨rfl, rfl⟩))
    | (rename_i b a; rcases hL.2.2 a with ⟨a', ha⟩ | ha <;> (rw [show am_mv L (.ref a) = L a from rfl, ha]; exact ⟨rfl, rfl⟩))
    | (rename_i x
       have h : x.toInt8.toInt32 = x := h
       rw [← h]
       exact ⟨pk_nb x, pk_fb x⟩)
theorem am_dflt_mv (L : Nat → Value) (ty : FieldType) : am_mv L (defaultValue ty) = defaultValue ty := by cases ty <;> rfl
section AMF
variable {p : Program} {l : Launch} {e : Env} {R : Room} {s : State} {m : MethodId} {args : Array Value} {below : List Frame} {meth : Method} {c : Code} {Q : State → Prop} {mr : am_Rec} {L : Nat → Value} {D : va_G} {B d : Nat} {H : Heap} {locs : List Loc} {cells slots : Nat} {pc len : Nat} {lsm : Array Slot} {rest : List Value} {d0 : Drawn} {h : am_H} {n : Nat}
theorem am_s_getf (hE : am_E L D B s s.heap) (hx : p.tables.exec = Jvm.exec) (hb : c.code = mr.2.1) (hown : s.vm.findClass mr.1.cls = some m.cls) (hH : am_HR s L D B h n H) {ci k0 idx a : Nat} {fs : List Value} {v : Value} (hci : ci < 14) (hk : k0 < (vwCl.getD ci am_cdf).2.2)
    (hlink : (Jvm.Cond.fieldLink mr.1.cls idx ((vwCl.getD ci am_cdf).2.1 k0).1 ((vwCl.getD ci am_cdf).2.1 k0).2.1 ((vwCl.getD ci am_cdf).2.1 k0).2.2.1).before args (s.setDrawn d0) = true ∨ (Jvm.Cond.fieldLinkNest mr.1.cls idx ((vwCl.getD ci am_cdf).2.1 k0).1 ((vwCl.getD ci am_cdf).2.1 k0).2.1 ((vwCl.getD ci am_cdf).2.1 k0).2.2.1 "MetricStore").before args (s.setDrawn d0) = true)
    (hfs : h a = some (.inr (ci, fs))) (hv : fs[k0]? = some v) (hu : v ≠ am_U) (hdec : decode mr.2.1 pc = .ok (.getfield idx, 3))
    (kk : W p l e R (s.setDrawn d0) m args below meth c H locs cells slots Q (F0 m (pc + 3) lsm (am_mv L v :: rest))) : W p l e R (s.setDrawn d0) m args below meth c H locs cells slots Q (F0 m pc lsm (L a :: rest)) := by
  obtain ⟨-, a', cell, hLa, hcell, r, hr, hcls, hvm, hnst, -, hsl⟩ := hH.2.2 a _ hfs
  rw [hLa]
  have er : r = vwCl.getD ci am_cdf := Option.some.inj (hr.symm.trans (am_cls_get ci hci))
  subst er
  obtain ⟨hS, hfc, kC, hkC, hkind⟩ := hE.2.2.1.1 ci _ hr
  obtain ⟨cf, kf, fi, f, hi, hsl'⟩ := hS k0 hk
  have hW := (am_cls_ok ci hci).1
  have hst := (u_facts (args := #[]) hfc hkC (u_lays (ws := u_ws (vwCl.getD ci am_cdf).1 (vwCl.getD ci am_cdf).2.1 (vwCl.getD ci am_cdf).2.2) (fun w hw => hE.2.1 w (hW w hw).1 (hW w hw).2 #[]) (fun _ h => h) hk) hi).1
  have hslot : cell.slots[f.slot]? = some (am_mv L v) := by rw [hsl']; exact hsl k0 v hk hv hu
  clear hW hsl hfc hkC hkind hS hr hcls
  generalize ((vwCl.getD ci am_cdf).2.1 k0).1 = n1 at *
  generalize ((vwCl.getD ci am_cdf).2.1 k0).2.1 = n2 at *
  generalize ((vwCl.getD ci am_cdf).2.1 k0).2.2.1 = n3 at *
  rcases hlink with hlink | hlink
  · exact W.getf (s := s.setDrawn d0) hx hb hown hlink hi hst hcell hvm hslot rfl rfl hdec kk
  · exact va_Wgetf (s := s.setDrawn d0) hx hb hown hlink hi hst hcell hvm hslot rfl rfl hdec kk
theorem am_apart (hE : am_E L D B s s.heap) {ci : Nat} (hci : ci < 14) : ∀ x y, x < (vwCl.getD ci am_cdf).2.2 → y < (vwCl.getD ci am_cdf).2.2 → x ≠ y → (D.2 ci) x ≠ (D.2 ci) y := by
  have hW := (am_cls_ok ci hci).1
  exact va_apart (args := #[]) (own := "") (Ts := u_ws (vwCl.getD ci am_cdf).1 (vwCl.getD ci am_cdf).2.1 (vwCl.getD ci am_cdf).2.2) (fun w hw => hE.2.1 w (hW w hw).1 (hW w hw).2 #[]) (fun _ h => h) (am_tyf ci) (am_cls_ok ci hci).2.1 (am_cls_ok ci hci).2.2.1 hE.2.2.1 (am_cls_get ci hci)
theorem am_atO_set (hE : am_E L D B s s.heap) {ci k0 a : Nat} {fs : List Value} {v w : Value} {cell : Cell} (hci : ci < 14) (hk : k0 < (vwCl.getD ci am_cdf).2.2) (hA : am_atO L D a ci fs cell) (hw : fs[k0]? = some w) (hwu : w ≠ am_U) : am_atO L D a ci (fs.set k0 v) (cell.setSlot (D.2 ci k0) (am_mv L v)) := by
  obtain ⟨r, hr, hcls, hvm, hnst, hown, hsl⟩ := hA
  have er : r = vwCl.getD ci am_cdf := Option.some.inj (hr.symm.trans (am_cls_get ci hci))
  subst er
  refine ⟨_, hr, hcls, hvm, hnst, hown, fun k v' hk' hv' hu' => ?_⟩
  have hlt : D.2 ci k0 < cell.slots.size := k2_hasslot (hsl k0 w hk hw hwu)
  by_cases e : k = k0
  · subst e
    rw [List.getElem?_set_self (List.getElem?_eq_some_iff.mp hw).1] at hv'
    cases hv'
    simp [Cell.setSlot, hlt]
  · rw [List.getElem?_set_ne (Ne.symm e)] at hv'
    have := am_apart hE hci k0 k hk hk' (Ne.symm e)
    simp only [Cell.setSlot, Array.getElem?_setIfInBounds, this, if_false]
    exact hsl k v' hk' hv' hu'
theorem am_s_putf (hE : am_E L D B s s.heap) (hx : p.tables.exec = Jvm.exec) (hb : c.code = mr.2.1) (hown : s.vm.findClass mr.1.cls = some m.cls) (hnm : mr.1.name = "<init>" → meth.name = "<init>") (hH : am_HR s L D B h n H) (hS : va_S (fun q => B ≤ q) s.heap H locs) {ci k0 idx a : Nat} {fs : List Value} {v w : Value} (hci : ci < 14) (hk : k0 < (vwCl.getD ci am_cdf).2.2)
    (hlink : ((Jvm.Cond.fieldLink mr.1.cls idx ((vwCl.getD ci am_cdf).2.1 k0).1 ((vwCl.getD ci am_cdf).2.1 k0).2.1 ((vwCl.getD ci am_cdf).2.1 k0).2.2.1).before args (s.setDrawn d0) = true ∧ (((vwCl.getD ci am_cdf).2.1 k0).2.2.2 = false ∨ (mr.1.name = "<init>" ∧ ((vwCl.getD ci am_cdf).2.1 k0).1 = mr.1.cls))) ∨ ((Jvm.Cond.fieldLinkNest mr.1.cls idx ((vwCl.getD ci am_cdf).2.1 k0).1 ((vwCl.getD ci am_cdf).2.1 k0).2.1 ((vwCl.getD ci am_cdf).2.1 k0).2.2.1 "MetricStore").before args (s.setDrawn d0) = true ∧ ((vwCl.getD ci am_cdf).2.1 k0).2.2.2 = false))
    (hfs : h a = some (.inr (ci, fs))) (ha : 64 ≤ a) (hw : fs[k0]? = some w) (hwu : w ≠ am_U) (hok : am_okv (am_fk (am_tyf ci k0)) v) (hdec : decode mr.2.1 pc = .ok (.putfield idx, 3))
    (kk : ∀ (H1 : Heap) (locs1 : List Loc), am_HR s L D B (am_up h a (am_ob ci (fs.set k0 v))) n H1 → va_S (fun q => B ≤ q) s.heap H1 locs1 → W p l e R (s.setDrawn d0) m args below meth c H1 locs1 cells slots Q (F0 m (pc + 3) lsm rest)) : W p l e R (s.setDrawn d0) m args below meth c H locs cells slots Q (F0 m pc lsm (am_mv L v :: L a :: rest)) := by
  have hL := hE.1
  obtain ⟨-, a', cell, hLa, hcell, hA⟩ := hH.2.2 a _ hfs
  have hA' := hA
  obtain ⟨r, hr, hcls, hvm, hnst, hnone, hsl⟩ := hA'
  have ea : a' = B + (a - 64) := by
    have := hL.1 a ha
    rw [hLa] at this
    exact Value.ref.inj this
  rw [hLa]
  have er : r = vwCl.getD ci am_cdf := Option.some.inj (hr.symm.trans (am_cls_get ci hci))
  subst er
  obtain ⟨hSl, hfc, kC, hkC, hkind⟩ := hE.2.2.1.1 ci _ hr
  obtain ⟨cf, kf, fi, f, hi, hsl'⟩ := hSl k0 hk
  have hW := (am_cls_ok ci hci).1
  have hts : ∀ w ∈ u_ws (vwCl.getD ci am_cdf).1 (vwCl.getD ci am_cdf).2.1 (vwCl.getD ci am_cdf).2.2, w.before #[] s = true := fun w hw => hE.2.1 w (hW w hw).1 (hW w hw).2 #[]
  have hlays := u_lays (ws := u_ws (vwCl.getD ci am_cdf).1 (vwCl.getD ci am_cdf).2.1 (vwCl.getD ci am_cdf).2.2) hts (fun _ h => h) hk
  have hst := (u_facts (args := #[]) hfc hkC hlays hi).1
  have hlay := hts _ (u_in_lay hk)
  obtain ⟨hn1, hf1⟩ := am_okv_fit hL hok
  have hlt : f.slot < cell.slots.size := by rw [hsl']; exact k2_hasslot (hsl k0 w hk hw hwu)
  have fin : ∀ H1 : Heap, H1[a']? = some (cell.setSlot f.slot (am_mv L v)) → H1.size = H.size → (∀ q, q ≠ a' → H1[q]? = H[q]?) → W p l e R (s.setDrawn d0) m args below meth c H1 (locs ++ [⟨a', f.slot⟩]) cells slots Q (F0 m (pc + 3) lsm rest) := by
    intro H1 e1 e2 e3
    refine kk H1 _ (hH.put hL hfs ha e2 (fun x hx => e3 x (by rw [ea]; exact hx)) ⟨a', _, hLa, e1, ?_⟩) (hS.put e2 e3 (by show B ≤ a'; omega))
    rw [hsl']
    exact am_atO_set hE hci hk hA hw hwu
  have nonfin : ((vwCl.getD ci am_cdf).2.1 k0).2.2.2 = false → k2_Sd s f cell.cls (am_mv L v) := fun hf => by
    unfold u_lay at hlay
    rw [if_neg (by rw [hf]; decide)] at hlay
    rw [hcls]
    exact u_store hfc hkC hkind hlay hi ((am_cls_ok ci hci).2.1 k0 hk) hn1 hf1
  have finl : ((vwCl.getD ci am_cdf).2.1 k0).2.2.2 = true → (((vwCl.getD ci am_cdf).2.1 k0).1 = mr.1.cls → m.cls = cf) ∧ (narrow f.type (am_mv L v) = am_mv L v ∧ s.fitsSlot cell.cls .none f.slot (am_mv L v) = true) := fun hff => by
    unfold u_lay at hlay
    rw [if_pos hff] at hlay
    refine ⟨fun hdecl => ?_, by rw [hcls]; exact u_fits hfc hkC hkind (Or.inr hlay) hi ((am_cls_ok ci hci).2.1 k0 hk) hn1 hf1⟩
    obtain ⟨_, _, c', _, _, _, -, -, hf', -, -, -, hown2, -⟩ := Cond.laysFinal_spec hlay
    have e1 : c' = cf := by have := hi.symm.trans hf'; simp at this; exact this.1.symm
    rw [hdecl] at hown2
    rw [← e1]; exact Option.some.inj (hown.symm.trans hown2)
  clear hW hsl hfc hkC hkind hSl hr hcls hts hlays hlay hA
  generalize ((vwCl.getD ci am_cdf).2.1 k0).1 = n1 at *
  generalize ((vwCl.getD ci am_cdf).2.1 k0).2.1 = n2 at *
  generalize ((vwCl.getD ci am_cdf).2.1 k0).2.2.1 = n3 at *
  generalize ((vwCl.getD ci am_cdf).2.1 k0).2.2.2 = n4 at *
  rcases hlink with ⟨hlink, hf⟩ | ⟨hlink, hf⟩
  · cases n4 with
    | false => exact W.putK (s := s.setDrawn d0) hx hb (f := f) ⟨hown, hlink, ⟨_, _, _, hi⟩, hst⟩ (nonfin rfl) hcell (hnone ha) hlt rfl rfl hdec fin
    | true =>
      obtain ⟨hin, hdecl⟩ := hf.resolve_left (by decide)
      obtain ⟨g1, g2⟩ := finl rfl
      exact W.putFinK (s := s.setDrawn d0) hx hb hown hlink hi hst (g1 hdecl) (hnm hin) g2 hcell (hnone ha) hlt rfl rfl hdec fin
  · exact va_WputK (s := s.setDrawn d0) hx hb hown hlink hi hst (nonfin hf) hcell (hnone ha) hlt rfl rfl hdec fin
theorem am_s_new (hE : am_E L D B s s.heap) (hx : p.tables.exec = Jvm.exec) (hb : c.code = mr.2.1) (hown : s.vm.findClass mr.1.cls = some m.cls) (hts : ∀ w ∈ am_tbl, am_keep w = true → w.before args (s.setDrawn d0) = true) (hH : am_HR s L D B h n H) (hS : va_S (fun q => B ≤ q) s.heap H locs) {ci idx N : Nat} (hci : ci < 14) (hN : (vwCl.getD ci am_cdf).2.2 = N) (h1 : (Jvm.Cond.classLink mr.1.cls idx (vwCl.getD ci am_cdf).1).before args (s.setDrawn d0) = true) (h2 : (Jvm.Cond.instantiable (vwCl.getD ci am_cdf).1 N).before args (s.setDrawn d0) = true) (h3 : (Jvm.Cond.initialized (vwCl.getD ci am_cdf).1).before args (s.setDrawn d0) = true) (hc1 : cells + 1 ≤ R.cells) (hc2 : slots + N ≤ R.slots) (hdec : decode mr.2.1 pc = .ok (.new idx, 3))
    (kk : ∀ (H1 : Heap), am_HR s L D B (am_up h n (am_ob ci (am_dfs ci))) (n + 1) H1 → va_S (fun q => B ≤ q) s.heap H1 locs → W p l e R (s.setDrawn d0) m args below meth c H1 locs (cells + 1) (slots + N) Q (F0 m (pc + 3) lsm (L n :: rest))) : W p l e R (s.setDrawn d0) m args below meth c H locs cells slots Q (F0 m pc lsm rest) := by
  have hL := hE.1
  have htop := hH.top hL
  have hr := am_cls_get ci hci
  have hKn := hE.2.2.1.1 ci _ hr
  have hW := (am_cls_ok ci hci).1
  refine W.newcK (s := s.setDrawn d0) hx hb hown h1 h2 h3 rfl hdec hc1 hc2 hKn.2.1 rfl fun H1 kC hkC e1 z1 o1 => ?_
  have hb1 := u_born (args := #[]) (am_tyf ci) (ws := u_ws (vwCl.getD ci am_cdf).1 (vwCl.getD ci am_cdf).2.1 (vwCl.getD ci am_cdf).2.2) (fun w hw => hE.2.1 w (hW w hw).1 (hW w hw).2 #[]) (fun _ h => h) hKn hkC e1 (am_cls_ok ci hci).2.1
  obtain ⟨cell, q1, q2, q3, q4⟩ := hb1
  have hsz := hH.2.1
  have h64 := hH.1
  rw [htop] at kk
  refine kk H1 (hH.push hL z1 o1 ⟨H.size, cell, htop, q1, _, hr, q2, by rw [q3]; exact fun h => (by cases h), by rw [q3]; rfl, fun _ => q3, fun k v hk hv hu => ?_⟩) ⟨Nat.le_trans hS.1 (by omega), fun x g1 g2 => (o1 x (Nat.lt_of_lt_of_le g1 hS.1)).trans (hS.2.1 x g1 g2), hS.2.2⟩
  have e5 := (am_cls_ok ci hci).2.2.2.2 k hk
  rw [List.getD_eq_getElem?_getD, hv] at e5
  have e5 : v = defaultValue (am_tyf ci k) := e5
  rw [q4 k hk, e5, am_dflt_mv]
theorem am_s_newa (hE : am_E L D B s s.heap) (hx : p.tables.exec = Jvm.exec) (hb : c.code = mr.2.1) (hH : am_HR s L D B h n H) (hS : va_S (fun q => B ≤ q) s.heap H locs) {at' : ArrayType} {t : Nat} {x : Int32} (ht : t < 5) (hty : newarray.typeOf at' = am_ty t) (hw : (Jvm.Cond.arrayClass (am_ty t)).before args (s.setDrawn d0) = true) (hx0 : ¬ x < 0) (hx1 : x.toNatClampNeg ≤ 4096) (hc1 : cells + 1 ≤ R.cells) (hc2 : slots + x.toNatClampNeg ≤ R.slots) (hdec : decode mr.2.1 pc = .ok (.newarray at', 2))
    (kk : ∀ (H1 : Heap), am_HR s L D B (am_up h n (am_ar t x.toNatClampNeg (am_z t))) (n + 1) H1 → va_S (fun q => B ≤ q) s.heap H1 locs → W p l e R (s.setDrawn d0) m args below meth c H1 locs (cells + 1) (slots + x.toNatClampNeg) Q (F0 m (pc + 2) lsm (L n :: rest))) : W p l e R (s.setDrawn d0) m args below meth c H locs cells slots Q (F0 m pc lsm (.int x :: rest)) := by
  have hL := hE.1
  have htop := hH.top hL
  rw [htop] at kk
  have hcb : componentBytes (newarray.typeOf at') ≤ 8 := by cases at' <;> simp [newarray.typeOf, componentBytes]
  refine va_newaK (s := s.setDrawn d0) hx hb (by rw [hty]; exact hw) rfl hdec rfl hx0 rfl (Nat.le_trans (Nat.mul_le_mul hx1 hcb) (Nat.le_of_ble_eq_true rfl)) hc1 hc2 rfl fun H1 cA e1 z1 o1 hAr hNm => ?_
  rw [hty] at e1 hAr hNm
  have hz : ∀ j, am_mv L (am_el (am_z t) j) = defaultValue (am_ty t) := fun j => by
    rcases (show t = 0 ∨ t = 1 ∨ t = 2 ∨ t = 3 ∨ t = 4 by omega) with rfl | rfl | rfl | rfl | rfl <;> rfl
  refine kk H1 (hH.push hL z1 o1 ⟨H.size, _, htop, e1, hAr _ _, (fun q => by cases q), Nat.le_of_eq (arrV_size _ _ _).symm, by rw [arrV_size], fun j hj => by rw [arrV_read _ _ hj]; exact congrArg some (hz j).symm, fun _ => ⟨rfl, arrV_size _ _ _, hNm⟩, fun C hC => ?_⟩) ⟨Nat.le_trans hS.1 (by omega), fun x g1 g2 => (o1 x (Nat.lt_of_lt_of_le g1 hS.1)).trans (hS.2.1 x g1 g2), hS.2.2⟩
  exact absurd hC (by rcases (show t = 0 ∨ t = 1 ∨ t = 2 ∨ t = 3 ∨ t = 4 by omega) with rfl | rfl | rfl | rfl | rfl <;> exact fun h => (by cases h))
theorem am_s_anew (hE : am_E L D B s s.heap) (hx : p.tables.exec = Jvm.exec) (hb : c.code = mr.2.1) (hown : s.vm.findClass mr.1.cls = some m.cls) (hH : am_HR s L D B h n H) (hS : va_S (fun q => B ≤ q) s.heap H locs) {t idx : Nat} {C : String} {x : Int32} (hty : am_ty t = .object C) (hw : (Jvm.Cond.classLink mr.1.cls idx C).before args (s.setDrawn d0) = true) (hw2 : (Jvm.Cond.arrayOver (.object C)).before args (s.setDrawn d0) = true) (hx0 : ¬ x < 0) (hx1 : x.toNatClampNeg ≤ 4096) (hc1 : cells + 1 ≤ R.cells) (hc2 : slots + x.toNatClampNeg ≤ R.slots) (hdec : decode mr.2.1 pc = .ok (.anewarray idx, 3))
    {f : Nat → Option Nat} (hf : ∀ j, j < x.toNatClampNeg → f j = none) (kk : ∀ (H1 : Heap), am_HR s L D B (am_up h n (am_ar t x.toNatClampNeg (am_xq f))) (n + 1) H1 → va_S (fun q => B ≤ q) s.heap H1 locs → W p l e R (s.setDrawn d0) m args below meth c H1 locs (cells + 1) (slots + x.toNatClampNeg) Q (F0 m (pc + 3) lsm (L n :: rest))) : W p l e R (s.setDrawn d0) m args below meth c H locs cells slots Q (F0 m pc lsm (.int x :: rest)) := by
  have hL := hE.1
  have htop := hH.top hL
  rw [htop] at kk
  refine W.anew (s := s.setDrawn d0) hx hb hown hw hw2 rfl hdec rfl hx0 (by omega) hc1 hc2 fun cA kA comp f1 f2 f3 f4 => ?_
  generalize hH1 : H.push ({ cls := cA, slots := Array.replicate x.toNatClampNeg .null, vm := .none } : Cell) = H1
  have z1 : H1.size = H.size + 1 := by rw [← hH1, Array.size_push]
  have e1 : H1[H.size]? = some (arrV cA x.toNatClampNeg (fun _ => .null)) := by rw [← hH1, Array.getElem?_push_size, ← arrV_new]
  have o1 : ∀ q : Nat, q < H.size → H1[q]? = H[q]? := fun q hq => by rw [← hH1, Array.getElem?_push, if_neg (Nat.ne_of_lt hq)]
  refine kk H1 (hH.push hL z1 o1 ⟨H.size, _, htop, e1, by rw [hty]; exact ⟨fun k h => (by cases h), kA, f2, comp, f3⟩, (fun q => by cases q), Nat.le_of_eq (arrV_size _ _ _).symm, by rw [arrV_size], fun j hj => by rw [arrV_read _ _ hj]; exact congrArg (fun q => some (am_mv L (va_rf q))) (hf j hj).symm, fun _ => ⟨rfl, arrV_size _ _ _, by rw [hty]; exact f1⟩, fun C' hC _ => ?_⟩) ⟨Nat.le_trans hS.1 (by omega), fun x g1 g2 => (o1 x (Nat.lt_of_lt_of_le g1 hS.1)).trans (hS.2.1 x g1 g2), hS.2.2⟩
  rw [hty] at hC
  cases hC
  exact ⟨kA, comp, f2, f3, f4⟩
theorem am_atA_set {a t k j : Nat} {x x' : am_X} {cell : Cell} {w : Value} (hA : am_atA s L a t k x cell) (hj : j < k) (hx : ∀ i, i < k → am_el x' i = if i = j then w else am_el x i) : am_atA s L a t k x' (cell.setSlot j (am_mv L w)) := by
  obtain ⟨g1, g2, g3, g4, g5, g6, g7⟩ := hA
  have hsz : (cell.setSlot j (am_mv L w)).slots.size = cell.slots.size := by simp [Cell.setSlot]
  refine ⟨g1, g2, by rw [hsz]; exact g3, by rw [hsz]; exact g4, fun i hi => ?_, fun q => ⟨(g6 q).1, by rw [hsz]; exact (g6 q).2.1, (g6 q).2.2⟩, g7⟩
  rw [hx i hi]
  by_cases e : i = j
  · subst e
    simp [Cell.setSlot, show i < cell.slots.size by omega]
  · simp only [Cell.setSlot, Array.getElem?_setIfInBounds, Ne.symm e, if_false, e]
    exact g5 i hi
/-- what a store into an own array leaves -/
theorem am_s_stored (hE : am_E L D B s s.heap) (hH : am_HR s L D B h n H) (hS : va_S (fun q => B ≤ q) s.heap H locs) {a a' t k j : Nat} {x x' : am_X} {cell : Cell} {w : Value} (ha : 64 ≤ a) (hfs : h a = some (.inl (t, k, x))) (hLa : L a = .ref a') (hA : am_atA s L a t k x cell) (hj : j < k) (hx : ∀ i, i < k → am_el x' i = if i = j then w else am_el x i) {H1 : Heap} (e1 : H1[a']? = some (cell.setSlot j (am_mv L w))) (e2 : H1.size = H.size) (e3 : ∀ q, q ≠ a' → H1[q]? = H[q]?) : am_HR s L D B (am_up h a (am_ar t k x')) n H1 ∧ va_S (fun q => B ≤ q) s.heap H1 (locs ++ [⟨a', j⟩]) := by
  have hL := hE.1
  have ea : a' = B + (a - 64) := by
    have := hL.1 a ha
    rw [hLa] at this
    exact Value.ref.inj this
  exact ⟨hH.put hL hfs ha e2 (fun x hx => e3 x (by rw [ea]; exact hx)) ⟨a', _, hLa, e1, am_atA_set hA hj hx⟩, hS.put e2 e3 (by show B ≤ a'; omega)⟩
end AMF
