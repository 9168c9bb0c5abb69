/-! what the abstract state says of the machine's: values by a map of addresses, locals, heap, what holds all the time -/
def am_mv (L : Nat → Value) : Value → Value
  | .ref a => L a
  | v => v
/-- own objects from B on, in order; constants below B; one place (of a static nobody looks into) may be null -/
def am_Lg (L : Nat → Value) (B : Nat) : Prop := (∀ a : Nat, 64 ≤ a → L a = .ref (B + (a - 64))) ∧ (∀ a : Nat, a < 64 → a ≠ 42 → ∀ a' : Nat, L a = .ref a' → a' < B) ∧ ∀ a : Nat, (∃ a' : Nat, L a = .ref a') ∨ L a = .null
theorem am_mv_cat {L : Nat → Value} {B : Nat} (hL : am_Lg L B) (v : Value) : (am_mv L v).category = v.category := by
  cases v <;> try rfl
  rename_i a
  rcases hL.2.2 a with ⟨a', h⟩ | h <;> (show (L a).category = 1; rw [h]; rfl)
theorem am_mv_sum {L : Nat → Value} {B : Nat} (hL : am_Lg L B) : ∀ st : List Value, ((st.map (am_mv L)).map fun v => v.category).sum ≤ 2 * st.length
  | [] => Nat.le_refl _
  | v :: t => by
    have h := am_mv_sum hL t
    have h2 : (am_mv L v).category ≤ 2 := by cases lv_cat (am_mv L v) <;> omega
    simp only [List.map_cons, List.sum_cons, List.length_cons]
    omega
theorem am_lget_some : ∀ (ls : List Value) (i : Nat), am_lget ls i ≠ am_U → ls[i]? = some (am_lget ls i)
  | [], _, h => absurd rfl h
  | _ :: _, 0, _ => rfl
  | _ :: t, k + 1, h => by
    rw [List.getElem?_cons_succ]
    exact am_lget_some t k h
theorem am_inv_spec (w : Value) : am_inv w = am_U ∨ (am_inv w = w ∧ w.category = 1) := by
  cases w <;> first | exact Or.inl rfl | exact Or.inr ⟨rfl, rfl⟩
theorem am_lset1_spec : ∀ (ls : List Value) (i : Nat) (v : Value) (j : Nat) (w : Value), (am_lset1 ls i v)[j]? = some w → w ≠ am_U → (j = i ∧ w = v) ∨ (j ≠ i ∧ ls[j]? = some w ∧ ¬ (j + 1 = i ∧ w.category = 2))
  | [], _, _, _, _, h, _ => by simp [am_lset1] at h
  | _ :: t, 0, v, j, w, h, _ => by
    cases j with
    | zero =>
      have h : some v = some w := h
      exact Or.inl ⟨rfl, (Option.some.inj h).symm⟩
    | succ j => exact Or.inr ⟨by omega, h, by omega⟩
  | x :: t, 1, v, j, w, h, hw => by
    cases j with
    | zero =>
      have h : some (am_inv x) = some w := h
      have e := Option.some.inj h
      rcases am_inv_spec x with q | ⟨q, qc⟩
      · exact absurd (e.symm.trans q) hw
      · refine Or.inr ⟨by omega, ?_, ?_⟩
        · show some x = some w
          rw [← e, q]
        · rw [← e, q, qc]
          omega
    | succ j =>
      have h : (am_lset1 t 0 v)[j]? = some w := h
      rcases am_lset1_spec t 0 v j w h hw with ⟨e, q⟩ | ⟨e, q, -⟩
      · exact Or.inl ⟨by omega, q⟩
      · exact Or.inr ⟨by omega, q, by omega⟩
  | x :: t, k + 2, v, j, w, h, hw => by
    cases j with
    | zero => exact Or.inr ⟨by omega, h, by omega⟩
    | succ j =>
      have h : (am_lset1 t (k + 1) v)[j]? = some w := h
      rcases am_lset1_spec t (k + 1) v j w h hw with ⟨e, q⟩ | ⟨e, q, r⟩
      · exact Or.inl ⟨by omega, q⟩
      · exact Or.inr ⟨by omega, q, fun z => r ⟨by omega, z.2⟩⟩
theorem am_lset2_spec : ∀ (ls : List Value) (i : Nat) (v : Value) (j : Nat) (w : Value), (am_lset2 ls i v)[j]? = some w → w ≠ am_U → (j = i ∧ w = v) ∨ (j ≠ i ∧ j ≠ i + 1 ∧ ls[j]? = some w ∧ ¬ (j + 1 = i ∧ w.category = 2))
  | [], _, _, _, _, h, _ => by simp [am_lset2] at h
  | _ :: t, 0, v, j, w, h, hw => by
    cases j with
    | zero =>
      have h : some v = some w := h
      exact Or.inl ⟨rfl, (Option.some.inj h).symm⟩
    | succ j =>
      have h : (am_cut t)[j]? = some w := h
      cases t with
      | nil => simp [am_cut] at h
      | cons y t =>
        cases j with
        | zero =>
          have h : some am_U = some w := h
          exact absurd (Option.some.inj h).symm hw
        | succ j => exact Or.inr ⟨by omega, by omega, h, by omega⟩
  | x :: t, 1, v, j, w, h, hw => by
    cases j with
    | zero =>
      have h : some (am_inv x) = some w := h
      have e := Option.some.inj h
      rcases am_inv_spec x with q | ⟨q, qc⟩
      · exact absurd (e.symm.trans q) hw
      · refine Or.inr ⟨by omega, by omega, ?_, ?_⟩
        · show some x = some w
          rw [← e, q]
        · rw [← e, q, qc]
          omega
    | succ j =>
      have h : (am_lset2 t 0 v)[j]? = some w := h
      rcases am_lset2_spec t 0 v j w h hw with ⟨e, q⟩ | ⟨e, e2, q, -⟩
      · exact Or.inl ⟨by omega, q⟩
      · exact Or.inr ⟨by omega, by omega, q, by omega⟩
  | x :: t, k + 2, v, j, w, h, hw => by
    cases j with
    | zero => exact Or.inr ⟨by omega, by omega, h, by omega⟩
    | succ j =>
      have h : (am_lset2 t (k + 1) v)[j]? = some w := h
      rcases am_lset2_spec t (k + 1) v j w h hw with ⟨e, q⟩ | ⟨e, e2, q, r⟩
      · exact Or.inl ⟨by omega, q⟩
      · exact Or.inr ⟨by omega, by omega, q, fun z => r ⟨by omega, z.2⟩⟩
def am_LR (L : Nat → Value) (nL : Nat) (ls : List Value) (lsm : Array Slot) : Prop := lsm.size = nL ∧ lv_wf lsm ∧ ∀ (i : Nat) (v : Value), ls[i]? = some v → v ≠ am_U → lsm[i]? = some (Slot.val (am_mv L v))
theorem am_LR.get {L : Nat → Value} {nL : Nat} {ls : List Value} {lsm : Array Slot} (h : am_LR L nL ls lsm) {i : Nat} {v : Value} (e : am_lget ls i = v) (hv : v ≠ am_U) : lsm[i]? = some (Slot.val (am_mv L v)) :=
  h.2.2 i v (by rw [← e]; exact am_lget_some ls i (by rw [e]; exact hv)) hv
def am_lv (L : Nat → Value) (ls : List Value) : List (Nat × Value) := (List.range ls.length).filterMap fun j => match ls[j]? with
  | some v => if v = am_U then none else some (j, am_mv L v)
  | none => none
theorem am_lv_mem {L : Nat → Value} {ls : List Value} {j : Nat} {w : Value} : (j, w) ∈ am_lv L ls ↔ ∃ v, ls[j]? = some v ∧ v ≠ am_U ∧ w = am_mv L v := by
  unfold am_lv
  constructor
  · intro h
    obtain ⟨i, -, hi⟩ := List.mem_filterMap.mp h
    cases e : ls[i]? with
    | none => rw [e] at hi; cases hi
    | some v =>
      rw [e] at hi
      by_cases q : v = am_U
      · simp [q] at hi
      · simp only [q, if_false] at hi
        cases hi
        exact ⟨v, e, q, rfl⟩
  · rintro ⟨v, e, q, rfl⟩
    refine List.mem_filterMap.mpr ⟨j, List.mem_range.mpr (List.getElem?_eq_some_iff.mp e).1, ?_⟩
    rw [e]
    simp [q]
theorem am_LR.has {L : Nat → Value} {nL : Nat} {ls : List Value} {lsm : Array Slot} (h : am_LR L nL ls lsm) : lv_has lsm nL (am_lv L ls) :=
  ⟨h.1, h.2.1, fun q hq => by
    obtain ⟨v, e, hv, hw⟩ := am_lv_mem.mp hq
    rw [hw]
    exact h.2.2 _ v e hv⟩
theorem am_LR.set1 {L : Nat → Value} {B nL : Nat} {ls : List Value} {lsm : Array Slot} {i : Nat} {v : Value} (hL : am_Lg L B) (h : lv_has lsm nL ((i, am_mv L v) :: (am_lv L ls).filter (fun q => !(q.1 == i) && !(q.1 + 1 == i && q.2.category == 2)))) : am_LR L nL (am_lset1 ls i v) lsm := by
  refine ⟨h.1, h.2.1, fun j w hw hu => ?_⟩
  rcases am_lset1_spec ls i v j w hw hu with ⟨e, e2⟩ | ⟨e, e2, e3⟩
  · subst e; subst e2
    exact h.2.2 _ List.mem_cons_self
  · refine h.2.2 (j, am_mv L w) (List.mem_cons_of_mem _ (List.mem_filter.mpr ⟨am_lv_mem.mpr ⟨w, e2, hu, rfl⟩, ?_⟩))
    have h1 : (j == i) = false := by simpa using e
    by_cases q : j + 1 = i
    · have h2 : ¬ w.category = 2 := fun z => e3 ⟨q, z⟩
      simp [h1, am_mv_cat hL, h2]
    · simp [h1, q]
theorem am_LR.set2 {L : Nat → Value} {B nL : Nat} {ls : List Value} {lsm : Array Slot} {i : Nat} {v : Value} (hL : am_Lg L B) (h : lv_has lsm nL ((i, am_mv L v) :: (am_lv L ls).filter (fun q => !(q.1 == i) && (!(q.1 == i + 1) && !(q.1 + 1 == i && q.2.category == 2))))) : am_LR L nL (am_lset2 ls i v) lsm := by
  refine ⟨h.1, h.2.1, fun j w hw hu => ?_⟩
  rcases am_lset2_spec ls i v j w hw hu with ⟨e, e2⟩ | ⟨e, e1, e2, e3⟩
  · subst e; subst e2
    exact h.2.2 _ List.mem_cons_self
  · refine h.2.2 (j, am_mv L w) (List.mem_cons_of_mem _ (List.mem_filter.mpr ⟨am_lv_mem.mpr ⟨w, e2, hu, rfl⟩, ?_⟩))
    have h1 : (j == i) = false := by simpa using e
    have h1' : (j == i + 1) = false := by simpa using e1
    by_cases q : j + 1 = i
    · have h2 : ¬ w.category = 2 := fun z => e3 ⟨q, z⟩
      simp [h1, h1', am_mv_cat hL, h2]
    · simp [h1, h1', q]
def am_atA (s : State) (L : Nat → Value) (a t n : Nat) (x : am_X) (cell : Cell) : Prop := s.isArrayOf cell (am_ty t) ∧ cell.vm ≠ .unknown ∧ n ≤ cell.slots.size ∧ cell.slots.size.toInt32 = Int32.ofNat n ∧ (∀ j, j < n → cell.slots[j]? = some (am_mv L (am_el x j))) ∧ (64 ≤ a → cell.vm = .none ∧ cell.slots.size = n ∧ s.vm.findClass ("[" ++ (am_ty t).toString) = some cell.cls) ∧ (∀ C, am_ty t = .object C → 64 ≤ a → ∃ kA comp, s.vm.classes[cell.cls]? = some kA ∧ kA.kind = .array comp (.object C) ∧ s.vm.findClass C = some comp)
def am_atO (L : Nat → Value) (D : va_G) (a ci : Nat) (fs : List Value) (cell : Cell) : Prop := ∃ r, vwCl[ci]? = some r ∧ cell.cls = D.1 ci ∧ cell.vm ≠ .unknown ∧ cell.vm.isStatics = false ∧ (64 ≤ a → cell.vm = .none) ∧ ∀ k v, k < r.2.2 → fs[k]? = some v → v ≠ am_U → cell.slots[D.2 ci k]? = some (am_mv L v)
def am_at (s : State) (L : Nat → Value) (D : va_G) (a : Nat) (e : va_E) (H : Heap) : Prop := ∃ (a' : Nat) (cell : Cell), L a = .ref a' ∧ H[a']? = some cell ∧ match e with
  | .inl x => am_atA s L a x.1 x.2.1 x.2.2 cell
  | .inr x => am_atO L D a x.1 x.2 cell
theorem am_at.kept {s : State} {L : Nat → Value} {D : va_G} {a : Nat} {e : va_E} {H H1 : Heap} (h : am_at s L D a e H) (hq : ∀ a' : Nat, L a = .ref a' → H1[a']? = H[a']?) : am_at s L D a e H1 := by
  obtain ⟨a', cell, h1, h2, h3⟩ := h
  exact ⟨a', cell, h1, by rw [hq a' h1]; exact h2, h3⟩
theorem am_at.moved {s U : State} {L : Nat → Value} {D : va_G} {a : Nat} {e : va_E} {H : Heap} (hvm : s.vm.Alike U.vm) (h : am_at s L D a e H) : am_at U L D a e H := by
  obtain ⟨a', cell, h1, h2, h3⟩ := h
  refine ⟨a', cell, h1, h2, ?_⟩
  cases e with
  | inr x => exact h3
  | inl x =>
    obtain ⟨g1, g2, g3, g4, g5, g6, g7⟩ := h3
    refine ⟨State.isArrayOf_alike hvm g1, g2, g3, g4, g5, fun q => ⟨(g6 q).1, (g6 q).2.1, by rw [hvm.findClass]; exact (g6 q).2.2⟩, fun C hC q => ?_⟩
    obtain ⟨kA, comp, q1, q2, q3⟩ := g7 C hC q
    obtain ⟨k', hk', he⟩ := hvm.2.2 _ _ q1
    exact ⟨k', comp, hk', by rw [he]; exact q2, by rw [hvm.findClass]; exact q3⟩
def am_HR (s : State) (L : Nat → Value) (D : va_G) (B : Nat) (h : am_H) (n : Nat) (H : Heap) : Prop := 64 ≤ n ∧ H.size = B + (n - 64) ∧ ∀ a e, h a = some e → (a < n ∧ a ≠ 42) ∧ am_at s L D a e H
theorem am_HR.moved {s U : State} {L : Nat → Value} {D : va_G} {B : Nat} {h : am_H} {n : Nat} {H : Heap} (hvm : s.vm.Alike U.vm) (q : am_HR s L D B h n H) : am_HR U L D B h n H :=
  ⟨q.1, q.2.1, fun a e he => ⟨(q.2.2 a e he).1, (q.2.2 a e he).2.moved hvm⟩⟩
theorem am_HR.put {s : State} {L : Nat → Value} {D : va_G} {B : Nat} {h : am_H} {n a : Nat} {e0 e : va_E} {H H1 : Heap} (hL : am_Lg L B) (q : am_HR s L D B h n H) (ha : h a = some e0) (h64 : 64 ≤ a) (z : H1.size = H.size) (o : ∀ x : Nat, x ≠ B + (a - 64) → H1[x]? = H[x]?) (he : am_at s L D a e H1) : am_HR s L D B (am_up h a e) n H1 := by
  refine ⟨q.1, by rw [z]; exact q.2.1, fun b f hb => ?_⟩
  unfold am_up at hb
  by_cases e : b = a
  · subst e
    simp only [if_true] at hb
    cases hb
    exact ⟨(q.2.2 _ _ ha).1, he⟩
  · simp only [e, if_false] at hb
    refine ⟨(q.2.2 _ _ hb).1, (q.2.2 _ _ hb).2.kept fun a' ha' => o a' fun z => ?_⟩
    rcases Nat.lt_or_ge b 64 with g | g
    · have this : a' < B := hL.2.1 b g (q.2.2 _ _ hb).1.2 a' ha'
      omega
    · rw [hL.1 b g] at ha'
      have this : B + (b - 64) = a' := Value.ref.inj ha'
      omega
theorem am_HR.push {s : State} {L : Nat → Value} {D : va_G} {B : Nat} {h : am_H} {n : Nat} {e : va_E} {H H1 : Heap} (hL : am_Lg L B) (q : am_HR s L D B h n H) (z : H1.size = H.size + 1) (o : ∀ x : Nat, x < H.size → H1[x]? = H[x]?) (he : am_at s L D n e H1) : am_HR s L D B (am_up h n e) (n + 1) H1 := by
  have q1 := q.1
  have q2 := q.2.1
  refine ⟨by omega, by omega, fun b f hb => ?_⟩
  unfold am_up at hb
  by_cases e : b = n
  · subst e
    simp only [if_true] at hb
    cases hb
    exact ⟨by omega, he⟩
  · simp only [e, if_false] at hb
    obtain ⟨g1, g2⟩ := q.2.2 _ _ hb
    refine ⟨by omega, g2.kept fun a' ha' => o a' ?_⟩
    rcases Nat.lt_or_ge b 64 with g | g
    · have this : a' < B := hL.2.1 b g g1.2 a' ha'
      omega
    · rw [hL.1 b g] at ha'
      have this : B + (b - 64) = a' := Value.ref.inj ha'
      omega
/-- the machine's address of a new object -/
theorem am_HR.top {s : State} {L : Nat → Value} {D : va_G} {B : Nat} {h : am_H} {n : Nat} {H : Heap} (hL : am_Lg L B) (q : am_HR s L D B h n H) : L n = .ref H.size := by
  rw [hL.1 n q.1, q.2.1]
/-- what holds of the start of every method: the tables' words, the classes, the constants -/
def am_E (L : Nat → Value) (D : va_G) (B : Nat) (U : State) (H : Heap) : Prop :=
  am_Lg L B ∧ (∀ w ∈ am_tbl, am_keep w = true → ∀ av, w.before av U = true) ∧ va_K D vwCl [] U ∧ (∀ e ∈ am_strs, ∃ q, L e.2.2.2 = .ref q ∧ vk_R e.1 e.2.1 e.2.2.1 q U) ∧ ∀ e ∈ am_stat, va_Z e.1 e.2.1 e.2.2.1 (am_mv L e.2.2.2) (fun q => B ≤ q) U H
theorem am_over_moved {ty : FieldType} {A A' : Array Value} {u U : State} (hvm : u.vm.Alike U.vm) (h : (Jvm.Cond.arrayOver ty).before A u = true) : (Jvm.Cond.arrayOver ty).before A' U = true := by
  cases ty with
  | object C => exact va_AO.use (va_AO.moved hvm (va_AO.of h))
  | array t => exact arrayOver_alikeB hvm h
  | _ => simp [Jvm.Cond.before, Jvm.Cond.holds, Jvm.Cond.value] at h
theorem am_word {w : Jvm.Cond} (hk : am_keep w = true) {av a' : Array Value} {s U : State} (hW : s.WarmedH U.vm) (h : w.before av s = true) : w.before a' U = true := by
  unfold am_keep at hk
  rcases Bool.or_eq_true _ _ |>.mp hk with g | g
  · exact word_at hW (good_of_word g) h
  · cases w <;> first | cases g | skip
    · exact va_Nw.use rfl (va_Nw.warmM hW (va_Nw.of rfl h))
    · exact va_Nw.use rfl (va_Nw.warmF hW (va_Nw.of rfl h))
    · exact va_Nw.use rfl (va_Nw.warmC hW (va_Nw.of rfl h))
    · exact am_over_moved hW.alike h
theorem am_E.moved {L : Nat → Value} {D : va_G} {B : Nat} {s U : State} {H H1 : Heap} (hW : s.WarmedH U.vm) (ho : ∀ q, q < H.size → ¬ B ≤ q → H1[q]? = H[q]?) (h : am_E L D B s H) : am_E L D B U H1 := by
  obtain ⟨h1, h2, h3, h4, h5⟩ := h
  refine ⟨h1, fun w hw hk av => am_word hk hW (h2 w hw hk #[]), va_K.moved hW.alike h3, fun e he => ?_, fun e he => va_Z.moved hW.alike (va_Z.kept (h5 e he) ho)⟩
  obtain ⟨q, q1, q2⟩ := h4 e he
  exact ⟨q, q1, vk_R.warm hW q2⟩
