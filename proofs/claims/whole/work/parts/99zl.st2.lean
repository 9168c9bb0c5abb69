/-! START: what the Statement gives of the constants and the classes -/
/-- what is given of the start, one condition after the other -/
def st_F : List Jvm.Cond := flatC (Jvm.Cond.and given_1 narrow_1)
theorem st_mem {off n : Nat} {l : List Jvm.Cond} (h : (st_F.drop off).take n = l) : ∀ w ∈ l, w ∈ st_F := by
  subst h
  exact fun w hw => List.mem_of_mem_drop (List.mem_of_mem_take hw)
def st_own (i : Nat) : String := if i < 8 then "MetricStore$Formula" else "MetricStoreModel"
def st_k (i : Nat) : Nat := [90, 92, 94, 96, 98, 99, 101, 103, 283, 365, 370, 372, 374, 383].getD i 0
def st_len (i : Nat) : Nat := if i < 8 then nmL i else [40, 1, 1, 2, 0, 1].getD (i - 8) 0
def st_x (i : Nat) : Nat → Int := if i < 8 then nmC i else if i = 8 then nmX else if i = 9 then fun _ => 40 else if i = 10 then fun _ => 44 else if i = 11 then fun j => if j = 0 then 41 else 61 else if i = 12 then fun _ => 0 else fun _ => 63
def st_off (i : Nat) : Nat := [293, 301, 309, 318, 328, 339, 351, 366, 381, 460, 476, 493, 512, 530].getD i 0
def st_val (own : String) (k : Nat) : Term := .field (.string own k) "java/lang/String" "value" "[B"
def st_str (own : String) (k len : Nat) (x : Nat → Int) : List Jvm.Cond := [Jvm.Cond.exactly (.string own k) "java/lang/String", Jvm.Cond.eq (.field (.string own k) "java/lang/String" "coder" "B") (.int 0), Jvm.Cond.arrayOf (st_val own k) .byte, Jvm.Cond.eq (.length (st_val own k)) (.int (Int32.ofNat len))] ++ (List.range len).map fun j => Jvm.Cond.eq (.elem (st_val own k) (.int (Int32.ofNat j))) (.int (iz (x j)))
def st_arr (t : Term) (len : Nat) (x : Nat → Int) : List Jvm.Cond := [Jvm.Cond.arrayOf t .byte, Jvm.Cond.eq (.length t) (.int (Int32.ofNat len))] ++ (List.range len).map fun j => Jvm.Cond.eq (.elem t (.int (Int32.ofNat j))) (.int (iz (x j)))
abbrev st_ones : Term := .static "java/lang/Integer" "DigitOnes" "[B"
abbrev st_tens : Term := .static "java/lang/Integer" "DigitTens" "[B"
set_option maxRecDepth 100000 in
theorem st_all : ∀ i, i < 14 → (st_F.drop (st_off i)).take (4 + st_len i) = st_str (st_own i) (st_k i) (st_len i) (st_x i) := by decide +kernel
set_option maxRecDepth 100000 in
theorem st_o : (st_F.drop 10).take 102 = st_arr st_ones 100 (fun j => 48 + (j : Int) % 10) := by decide +kernel
set_option maxRecDepth 100000 in
theorem st_t : (st_F.drop 113).take 102 = st_arr st_tens 100 (fun j => 48 + (j : Int) / 10) := by decide +kernel
/-- nothing old is written -/
abbrev st_A (s : State) : Nat → Prop := fun q => s.heap.size ≤ q
theorem st_hA (s : State) : ∀ a : Nat, a < s.heap.size → ¬ st_A s a := fun _ h => Nat.not_le.mpr h
theorem st_strOf {s : State} {A : Array Value} {own : String} {k len : Nat} {x : Nat → Int} (hl : len < 2 ^ 31) (h : ∀ w ∈ st_str own k len x, w.before A s = true) : ∃ a v : Nat, (Term.string own k).eval A s none [] s = some (.ref a) ∧ va_O "java/lang/String" a (st_A s) s s.heap ∧ va_OF "java/lang/String" "coder" "B" (.int 0) a (st_A s) s s.heap ∧ va_OF "java/lang/String" "value" "[B" (.ref v) a (st_A s) s s.heap ∧ va_T .byte v len (fun j => .int (iz (x j))) (st_A s) s s.heap := by
  unfold st_str at h
  have h0 := h _ (List.mem_append_left _ List.mem_cons_self)
  have h1 := h _ (List.mem_append_left _ (List.mem_cons_of_mem _ List.mem_cons_self))
  have h2 := h _ (List.mem_append_left _ (List.mem_cons_of_mem _ (List.mem_cons_of_mem _ List.mem_cons_self)))
  have h3 := h _ (List.mem_append_left _ (List.mem_cons_of_mem _ (List.mem_cons_of_mem _ (List.mem_cons_of_mem _ List.mem_cons_self))))
  obtain ⟨a, c, cA, kA, q1, q2, q3, q4, q5, q6, -⟩ := Cond.exactly_spec (args := A) (first := s) (o := none) (s := s) (idx := []) (t := .string own k) (cls := "java/lang/String") h0
  obtain ⟨t, ht, hT⟩ := va_Tof (f := fun j => .int (iz (x j))) (A := st_A s) hl h2 (va_eqt h3) (fun j hj => va_eqt (h _ (List.mem_append_right _ (List.mem_map.mpr ⟨j, List.mem_range.mpr hj, rfl⟩)))) (st_hA s)
  exact ⟨a, t, q1, ⟨cA, q3, q5, by rw [q6]; exact q2, st_hA s a (Array.getElem?_eq_some_iff.mp q3).1⟩, vk_OFof q1 (va_eqt h1) (st_hA s), vk_OFof q1 ht (st_hA s), hT⟩
theorem st_arrOf {s : State} {A : Array Value} {t : Term} {len : Nat} {x : Nat → Int} (hl : len < 2 ^ 31) (h : ∀ w ∈ st_arr t len x, w.before A s = true) : ∃ v : Nat, t.eval A s none [] s = some (.ref v) ∧ va_T .byte v len (fun j => .int (iz (x j))) (st_A s) s s.heap := by
  unfold st_arr at h
  have h2 := h _ (List.mem_append_left _ List.mem_cons_self)
  have h3 := h _ (List.mem_append_left _ (List.mem_cons_of_mem _ List.mem_cons_self))
  exact va_Tof (f := fun j => .int (iz (x j))) (A := st_A s) hl h2 (va_eqt h3) (fun j hj => va_eqt (h _ (List.mem_append_right _ (List.mem_map.mpr ⟨j, List.mem_range.mpr hj, rfl⟩)))) (st_hA s)
theorem st_atB {s : State} {L : Nat → Value} {D : va_G} {a v len : Nat} {x : Nat → Int} (hv : L a = .ref v) (ha : a < 64) (hT : va_T .byte v len (fun j => .int (iz (x j))) (st_A s) s s.heap) : am_at s L D a (am_ar 4 len (am_xi fun j => iz (x j))) s.heap := by
  obtain ⟨cell, h1, h2, h3, h4, h5, h6, h7⟩ := hT
  exact ⟨v, cell, hv, h1, h2, h3, h4, h5, fun j hj => h6 j hj, fun h => absurd h (by omega), fun C hC h => absurd h (by omega)⟩
theorem st_atS {s : State} {L : Nat → Value} {D : va_G} {a q v : Nat} (hK : u_Kn s RJ0 TJ0 4 (D.1 0) (D.2 0)) (hq : L a = .ref q) (hv : L (a + 1) = .ref v) (ha : a < 64) (hO : va_O "java/lang/String" q (st_A s) s s.heap) (hc : va_OF "java/lang/String" "coder" "B" (.int 0) q (st_A s) s s.heap) (hV : va_OF "java/lang/String" "value" "[B" (.ref v) q (st_A s) s s.heap) : am_at s L D a (am_ob 0 (strF (a + 1))) s.heap := by
  obtain ⟨cell, o1, o2, o3, -⟩ := hO
  obtain ⟨cf, k, i, f, cell', c1, c2, c3, c4, c5, -⟩ := hc
  obtain ⟨cf', k', i', f', cell'', v1, v2, v3, v4, v5, -⟩ := hV
  cases o1.symm.trans c3
  cases o1.symm.trans v3
  have hcls : cell.cls = D.1 0 := Option.some.inj (o3.symm.trans hK.2.1)
  refine ⟨q, cell, hq, o1, _, rfl, hcls, c4, o2, fun h => absurd h (by omega), fun j w hj hw hu => ?_⟩
  have hj : j < 4 := hj
  match j, hj, hw with
  | 0, _, hw =>
    have hw : some (Value.ref (a + 1)) = some w := hw
    cases hw
    obtain ⟨x1, x2, x3, x4, y1, y2⟩ := hK.1 0 (by omega)
    have y1 : s.fieldFound? "java/lang/String" "value" "[B" = some (x1, x2, x3, x4) := y1
    cases v1.symm.trans y1
    rw [← y2]
    show _ = some (L (a + 1))
    rw [hv]
    exact v5
  | 1, _, hw =>
    have hw : some (Value.int (iz 0)) = some w := hw
    cases hw
    obtain ⟨x1, x2, x3, x4, y1, y2⟩ := hK.1 1 (by omega)
    have y1 : s.fieldFound? "java/lang/String" "coder" "B" = some (x1, x2, x3, x4) := y1
    cases c1.symm.trans y1
    rw [← y2]
    exact c5
  | 2, _, hw =>
    have hw : some am_U = some w := hw
    cases hw
    exact absurd rfl hu
  | 3, _, hw =>
    have hw : some am_U = some w := hw
    cases hw
    exact absurd rfl hu
theorem sel_priv {C : String} {x y : MethodName} {s : State} {A : Array Value} (hy : y.cls ≠ "java/lang/invoke/MethodHandle" ∧ y.cls ≠ "java/lang/invoke/VarHandle") (hsel : (Jvm.Cond.selects C x x).before A s = true) (hxy : x.cls = y.cls) (hpriv : (Jvm.Cond.privateMethod y).before A s = true) (hinst : (Jvm.Cond.instanceMethod y).before A s = true) : (Jvm.Cond.selects C y y).before A s = true := by
  obtain ⟨c, r, m, q1, q2, q3, q4, kP, hk, hki⟩ := Cond.selects_spec hsel
  obtain ⟨mk, methM, hnamed, hmethM, -, -⟩ := Cond.instanceMethod_spec hinst
  have hfound : s.methodFound? y.cls y.name y.desc = some mk := State.methodFound?_of_named hnamed hy
  have hcls : mk.cls = m.cls := Option.some.inj ((findClass_of_methodNamed hnamed).symm.trans (by rw [← hxy]; exact findClass_of_methodNamed q3))
  have hsel' : selectMethod {} s.vm c mk = .method mk := selectMethod_private hmethM (Cond.privateMethod_at hpriv mk methM hnamed hmethM)
  simp only [Cond.before, Cond.holds, Cond.value, q1, hfound, hnamed, hsel', hcls, hk]
  simp
  exact hki
