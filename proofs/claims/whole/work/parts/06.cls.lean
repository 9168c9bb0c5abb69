/-! GENERATED: the classes of the worlds: their words stand in the tables, their fields are told apart, what they hold at first -/
theorem am_lay_of {ws : List Jvm.Cond} (ix : List Nat) (h2 : ws.length ≤ ix.length) (h : (ws.zip ix).all (fun q => decide (am_tbl[q.2]? = some q.1) && am_keep q.1) = true) : ∀ w ∈ ws, w ∈ am_tbl ∧ am_keep w = true := by
  intro w hw
  obtain ⟨j, hj⟩ := List.getElem?_of_mem hw
  have hl : j < ws.length := (List.getElem?_eq_some_iff.mp hj).1
  obtain ⟨k, hk⟩ : ∃ k, ix[j]? = some k := ⟨ix[j]'(by omega), List.getElem?_eq_getElem (by omega)⟩
  have hz : (w, k) ∈ ws.zip ix := List.mem_of_getElem? (i := j) (by rw [List.getElem?_zip_eq_some]; exact ⟨hj, hk⟩)
  have := List.all_eq_true.mp h _ hz
  rw [Bool.and_eq_true, decide_eq_true_eq] at this
  exact ⟨List.mem_of_getElem? this.1, this.2⟩
def am_cdf : String × u_T × Nat := ("", fun _ => ("", "", "", false), 0)
def am_tyf (ci : Nat) : Nat → FieldType := am_tyl.getD ci (fun _ => .int)
def am_cOK (ci : Nat) : Prop := (∀ w ∈ u_ws (vwCl.getD ci am_cdf).1 (vwCl.getD ci am_cdf).2.1 (vwCl.getD ci am_cdf).2.2, w ∈ am_tbl ∧ am_keep w = true) ∧ (∀ k, k < (vwCl.getD ci am_cdf).2.2 → parseFieldDescriptor ((vwCl.getD ci am_cdf).2.1 k).2.2.1 = some (am_tyf ci k)) ∧ (∀ a, a < (vwCl.getD ci am_cdf).2.2 → ∀ b, b < (vwCl.getD ci am_cdf).2.2 → a ≠ b → ((vwCl.getD ci am_cdf).2.1 a).2.1 ≠ ((vwCl.getD ci am_cdf).2.1 b).2.1) ∧ (am_dfs ci).length = (vwCl.getD ci am_cdf).2.2 ∧ ∀ k, k < (vwCl.getD ci am_cdf).2.2 → (am_dfs ci).getD k .null = defaultValue (am_tyf ci k)
theorem am_c0 : am_cOK 0 := ⟨am_lay_of [1759, 1761, 1763, 1765] (by decide +kernel) (by decide +kernel), by decide +kernel, by decide +kernel, by decide +kernel, by decide +kernel⟩
theorem am_c1 : am_cOK 1 := ⟨am_lay_of [291, 293, 295, 297] (by decide +kernel) (by decide +kernel), by decide +kernel, by decide +kernel, by decide +kernel, by decide +kernel⟩
theorem am_c2 : am_cOK 2 := ⟨am_lay_of [348, 350, 352, 354, 356, 358, 360, 362, 364, 366] (by decide +kernel) (by decide +kernel), by decide +kernel, by decide +kernel, by decide +kernel, by decide +kernel⟩
theorem am_c3 : am_cOK 3 := ⟨am_lay_of [210, 212, 214, 216] (by decide +kernel) (by decide +kernel), by decide +kernel, by decide +kernel, by decide +kernel, by decide +kernel⟩
theorem am_c4 : am_cOK 4 := ⟨am_lay_of [245, 247, 249, 251, 253, 255, 257, 259, 261, 263] (by decide +kernel) (by decide +kernel), by decide +kernel, by decide +kernel, by decide +kernel, by decide +kernel⟩
theorem am_c5 : am_cOK 5 := ⟨am_lay_of [387, 389, 391, 393, 395, 397] (by decide +kernel) (by decide +kernel), by decide +kernel, by decide +kernel, by decide +kernel, by decide +kernel⟩
theorem am_c6 : am_cOK 6 := ⟨am_lay_of [474, 476, 478, 480] (by decide +kernel) (by decide +kernel), by decide +kernel, by decide +kernel, by decide +kernel, by decide +kernel⟩
theorem am_c7 : am_cOK 7 := ⟨am_lay_of [530, 532, 534] (by decide +kernel) (by decide +kernel), by decide +kernel, by decide +kernel, by decide +kernel, by decide +kernel⟩
theorem am_c8 : am_cOK 8 := ⟨am_lay_of [438, 440, 442, 444, 446, 448, 450] (by decide +kernel) (by decide +kernel), by decide +kernel, by decide +kernel, by decide +kernel, by decide +kernel⟩
theorem am_c9 : am_cOK 9 := ⟨am_lay_of [502, 504, 506, 508, 510, 512, 514, 516] (by decide +kernel) (by decide +kernel), by decide +kernel, by decide +kernel, by decide +kernel, by decide +kernel⟩
theorem am_c10 : am_cOK 10 := ⟨am_lay_of [321, 323, 325, 327, 329] (by decide +kernel) (by decide +kernel), by decide +kernel, by decide +kernel, by decide +kernel, by decide +kernel⟩
theorem am_c11 : am_cOK 11 := ⟨am_lay_of [182, 184, 186, 188, 190, 192] (by decide +kernel) (by decide +kernel), by decide +kernel, by decide +kernel, by decide +kernel, by decide +kernel⟩
theorem am_c12 : am_cOK 12 := ⟨am_lay_of [551, 553, 555, 557, 559, 561, 563, 565, 567, 569, 571, 573, 575, 577] (by decide +kernel) (by decide +kernel), by decide +kernel, by decide +kernel, by decide +kernel, by decide +kernel⟩
theorem am_c13 : am_cOK 13 := ⟨am_lay_of [1335, 1337, 1339, 1341, 1343, 1345, 1347, 1349, 1351, 1353, 1355, 1357, 1359, 1361, 1363, 1365, 1367, 1369, 1371, 1373, 1375, 1377, 1379, 1381, 1383, 1385, 1387, 1389, 1391, 1393, 1395, 1397] (by decide +kernel) (by decide +kernel), by decide +kernel, by decide +kernel, by decide +kernel, by decide +kernel⟩
theorem am_cls_ok : ∀ ci, ci < 14 → am_cOK ci
  | 0, _ => am_c0
  | 1, _ => am_c1
  | 2, _ => am_c2
  | 3, _ => am_c3
  | 4, _ => am_c4
  | 5, _ => am_c5
  | 6, _ => am_c6
  | 7, _ => am_c7
  | 8, _ => am_c8
  | 9, _ => am_c9
  | 10, _ => am_c10
  | 11, _ => am_c11
  | 12, _ => am_c12
  | 13, _ => am_c13
  | n + 14, h => absurd h (by omega)
theorem am_cls_get : ∀ ci, ci < 14 → vwCl[ci]? = some (vwCl.getD ci am_cdf)
  | 0, _ => rfl
  | 1, _ => rfl
  | 2, _ => rfl
  | 3, _ => rfl
  | 4, _ => rfl
  | 5, _ => rfl
  | 6, _ => rfl
  | 7, _ => rfl
  | 8, _ => rfl
  | 9, _ => rfl
  | 10, _ => rfl
  | 11, _ => rfl
  | 12, _ => rfl
  | 13, _ => rfl
  | n + 14, h => absurd h (by omega)
