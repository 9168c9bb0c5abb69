/-! START: the machine's start is the abstract machine's -/
def am_pfb (y : MethodName) : Bool := plainName y.cls || (decide (y = ⟨"java/lang/Float", "floatToIntBits", "(F)I"⟩) || (decide (y = ⟨"java/lang/Float", "isNaN", "(F)Z"⟩) || (decide (y = ⟨"java/lang/Math", "abs", "(I)I"⟩) || (decide (y = ⟨"java/lang/Math", "max", "(II)I"⟩) || decide (y = ⟨"java/lang/Math", "min", "(II)I"⟩)))))
theorem am_pfb_use {y : MethodName} (h : am_pfb y = true) : plainFor y = true := by
  unfold am_pfb at h
  simp only [Bool.or_eq_true, decide_eq_true_eq] at h
  rcases h with h | rfl | rfl | rfl | rfl | rfl
  · exact plainFor_of_name h
  · exact am_pf_JFloat_floatToIntBits
  · exact am_pf_JFloat_isNaN
  · exact am_pf_JMath_abs
  · exact am_pf_JMath_max
  · exact am_pf_JMath_min
set_option maxRecDepth 100000 in
theorem am_pf_in : ∀ l ∈ am_tab, (l.all fun m => am_pfb m.1) = true := by decide +kernel
theorem am_pf_law : plainFor (r_Law_law).1 = true := am_pfb_use (by decide +kernel)
theorem am_pf_all (k : Nat) : plainFor (am_rec k).1 = true := by
  have key : ∀ (l : List am_Rec), l ∈ am_tab ∨ l = [] → ∀ j, plainFor (l.getD j r_Law_law).1 = true := by
    intro l hl j
    rcases Nat.lt_or_ge j l.length with h2 | h2
    · rw [List.getD_eq_getElem?_getD, List.getElem?_eq_getElem h2]
      rcases hl with hl | hl
      · exact am_pfb_use (List.all_eq_true.mp (am_pf_in l hl) _ (List.getElem_mem h2))
      · subst hl
        exact absurd h2 (Nat.not_lt_zero _)
    · rw [List.getD_eq_getElem?_getD, List.getElem?_eq_none h2]
      exact am_pf_law
  refine key _ ?_ _
  rcases Nat.lt_or_ge (k / 32) am_tab.length with h | h
  · refine Or.inl ?_
    rw [List.getD_eq_getElem?_getD, List.getElem?_eq_getElem h]
    exact List.getElem_mem h
  · refine Or.inr ?_
    rw [List.getD_eq_getElem?_getD, List.getElem?_eq_none h]
    rfl
theorem st_in {w : Jvm.Cond} (h : w ∈ tables_1) : w ∈ lw_tbl := List.mem_append_right _ h
theorem st_inst : ∀ ci, ci < 14 → Jvm.Cond.instantiable (vwCl.getD ci am_cdf).1 (vwCl.getD ci am_cdf).2.2 ∈ tables_1
  | 0, _ => List.mem_of_getElem? (i := 1618) (by decide +kernel)
  | 1, _ => List.mem_of_getElem? (i := 144) (by decide +kernel)
  | 2, _ => List.mem_of_getElem? (i := 95) (by decide +kernel)
  | 3, _ => List.mem_of_getElem? (i := 72) (by decide +kernel)
  | 4, _ => List.mem_of_getElem? (i := 103) (by decide +kernel)
  | 5, _ => List.mem_of_getElem? (i := 245) (by decide +kernel)
  | 6, _ => List.mem_of_getElem? (i := 328) (by decide +kernel)
  | 7, _ => List.mem_of_getElem? (i := 394) (by decide +kernel)
  | 8, _ => List.mem_of_getElem? (i := 287) (by decide +kernel)
  | 9, _ => List.mem_of_getElem? (i := 278) (by decide +kernel)
  | 10, _ => List.mem_of_getElem? (i := 176) (by decide +kernel)
  | 11, _ => List.mem_of_getElem? (i := 39) (by decide +kernel)
  | 12, _ => List.mem_of_getElem? (i := 27) (by decide +kernel)
  | 13, _ => List.mem_of_getElem? (i := 1168) (by decide +kernel)
  | n + 14, h => absurd h (by omega)
theorem st_tbl {s : State} {A : Array Value} (hts : ∀ w ∈ lw_tbl, w.before A s = true) : ∀ w ∈ am_tbl, w.before A s = true := by
  intro w hw
  rcases List.mem_append.mp hw with hw | hw
  · obtain ⟨y, hy, rfl⟩ := List.mem_map.mp hw
    have hs : (Jvm.Cond.selects "java/lang/StringBuilder" ⟨"java/lang/AbstractStringBuilder", "isLatin1", "()Z"⟩ ⟨"java/lang/AbstractStringBuilder", "isLatin1", "()Z"⟩).before A s = true := hts _ (st_in (List.mem_of_getElem? (i := 938) (by decide +kernel)))
    unfold am_xs at hy
    simp only [List.mem_cons, List.not_mem_nil, or_false] at hy
    rcases hy with rfl | rfl | rfl | rfl
    · exact sel_priv ⟨by decide, by decide⟩ hs rfl (hts _ (st_in (List.mem_of_getElem? (i := 905) (by decide +kernel)))) (hts _ (st_in (List.mem_of_getElem? (i := 906) (by decide +kernel))))
    · exact sel_priv ⟨by decide, by decide⟩ hs rfl (hts _ (st_in (List.mem_of_getElem? (i := 982) (by decide +kernel)))) (hts _ (st_in (List.mem_of_getElem? (i := 983) (by decide +kernel))))
    · exact sel_priv ⟨by decide, by decide⟩ hs rfl (hts _ (st_in (List.mem_of_getElem? (i := 909) (by decide +kernel)))) (hts _ (st_in (List.mem_of_getElem? (i := 910) (by decide +kernel))))
    · exact sel_priv ⟨by decide, by decide⟩ hs rfl (hts _ (st_in (List.mem_of_getElem? (i := 986) (by decide +kernel)))) (hts _ (st_in (List.mem_of_getElem? (i := 987) (by decide +kernel))))
  · exact hts w hw
theorem st_kn {s : State} {A : Array Value} (hts : ∀ w ∈ am_tbl, w.before A s = true) : ∃ D : va_G, va_K D vwCl [] s := by
  have hin : ∀ w ∈ tables_1, w ∈ am_tbl := fun w hw => List.mem_append_right _ (st_in hw)
  have h0 : ∀ ci, ci < 14 → ∃ p : ClassId × (Nat → Nat), u_Kn s (vwCl.getD ci am_cdf).1 (vwCl.getD ci am_cdf).2.1 (vwCl.getD ci am_cdf).2.2 p.1 p.2 := fun ci hc => by
    obtain ⟨c, i, hk⟩ := u_known (ws := am_tbl) hts (fun w hw => ((am_cls_ok ci hc).1 w hw).1) (hts _ (hin _ (st_inst ci hc)))
    exact ⟨(c, i), hk⟩
  obtain ⟨p0, -⟩ := h0 0 (by omega)
  have h : ∀ ci, ∃ p : ClassId × (Nat → Nat), ci < 14 → u_Kn s (vwCl.getD ci am_cdf).1 (vwCl.getD ci am_cdf).2.1 (vwCl.getD ci am_cdf).2.2 p.1 p.2 := fun ci => by
    by_cases hc : ci < 14
    · obtain ⟨p, hp⟩ := h0 ci hc
      exact ⟨p, fun _ => hp⟩
    · exact ⟨p0, fun q => absurd q hc⟩
  obtain ⟨f, hf⟩ := Classical.axiomOfChoice h
  refine ⟨(fun ci => (f ci).1, fun ci => (f ci).2), fun c q hq => ?_, fun k q hq => by simp at hq⟩
  have hc : c < 14 := (List.getElem?_eq_some_iff.mp hq).1
  rw [am_cls_get c hc] at hq
  cases hq
  exact hf c hc
def st_text (i : Nat) : String := ["rate", "inc", "avg", "min", "max", "sum", "count", "last", "rate.inc..avg..min..max..sum..countlast.", "(", ",", ")=", "", "?"].getD i ""
theorem st_sref : ∀ i, i < 14 → Jvm.Cond.stringRef (st_own i) (st_k i) (st_text i) ∈ tables_1
  | 0, _ => List.mem_of_getElem? (i := 773) (by decide +kernel)
  | 1, _ => List.mem_of_getElem? (i := 774) (by decide +kernel)
  | 2, _ => List.mem_of_getElem? (i := 775) (by decide +kernel)
  | 3, _ => List.mem_of_getElem? (i := 776) (by decide +kernel)
  | 4, _ => List.mem_of_getElem? (i := 777) (by decide +kernel)
  | 5, _ => List.mem_of_getElem? (i := 778) (by decide +kernel)
  | 6, _ => List.mem_of_getElem? (i := 779) (by decide +kernel)
  | 7, _ => List.mem_of_getElem? (i := 780) (by decide +kernel)
  | 8, _ => List.mem_of_getElem? (i := 1582) (by decide +kernel)
  | 9, _ => List.mem_of_getElem? (i := 1663) (by decide +kernel)
  | 10, _ => List.mem_of_getElem? (i := 1665) (by decide +kernel)
  | 11, _ => List.mem_of_getElem? (i := 1666) (by decide +kernel)
  | 12, _ => List.mem_of_getElem? (i := 1667) (by decide +kernel)
  | 13, _ => List.mem_of_getElem? (i := 1716) (by decide +kernel)
  | n + 14, h => absurd h (by omega)
theorem st_strs : am_strs = (List.range 14).map fun i => (st_own i, st_k i, st_text i, 2 * i + 1) := by decide +kernel
/-- the map of addresses -/
def st_L (b B : Nat) (ad : Nat → Nat × Nat) (t0 t1 : Nat) (v2 : Value) (a : Nat) : Value := if 64 ≤ a then .ref (B + (a - 64)) else if a = 0 then .ref b else if a = 40 then .ref t0 else if a = 41 then .ref t1 else if a = 42 then v2 else if a ≤ 28 then (if a % 2 = 1 then .ref (ad (a / 2)).1 else .ref (ad (a / 2 - 1)).2) else .null
/-- the first heap -/
def st_h (S : va_E) (a : Nat) : Option va_E := if a = 0 then some S else if a = 40 then some (am_ar 4 100 (am_xi fun j => iz (48 + (j : Int) % 10))) else if a = 41 then some (am_ar 4 100 (am_xi fun j => iz (48 + (j : Int) / 10))) else if a ≤ 28 then (if a % 2 = 1 then some (am_ob 0 (strF (a + 1))) else some (am_ar 4 (st_len (a / 2 - 1)) (am_xi fun j => iz (st_x (a / 2 - 1) j)))) else none
section STL
variable {b B : Nat} {ad : Nat → Nat × Nat} {t0 t1 : Nat} {v2 : Value} {S : va_E}
theorem st_L0 : st_L b B ad t0 t1 v2 0 = .ref b := rfl
theorem st_L40 : st_L b B ad t0 t1 v2 40 = .ref t0 := rfl
theorem st_L41 : st_L b B ad t0 t1 v2 41 = .ref t1 := rfl
theorem st_L42 : st_L b B ad t0 t1 v2 42 = v2 := rfl
theorem st_Ls {i : Nat} (hi : i < 14) : st_L b B ad t0 t1 v2 (2 * i + 1) = .ref (ad i).1 := by
  unfold st_L
  rw [if_neg (by omega), if_neg (by omega), if_neg (by omega), if_neg (by omega), if_neg (by omega), if_pos (by omega), if_pos (by omega), show (2 * i + 1) / 2 = i by omega]
theorem st_Lv {i : Nat} (hi : i < 14) : st_L b B ad t0 t1 v2 (2 * i + 1 + 1) = .ref (ad i).2 := by
  unfold st_L
  rw [if_neg (by omega), if_neg (by omega), if_neg (by omega), if_neg (by omega), if_neg (by omega), if_pos (by omega), if_neg (by omega), show (2 * i + 1 + 1) / 2 - 1 = i by omega]
theorem st_h0 : st_h S 0 = some S := rfl
theorem st_hs {i : Nat} (hi : i < 14) : st_h S (2 * i + 1) = some (am_ob 0 (strF (2 * i + 1 + 1))) := by
  unfold st_h
  rw [if_neg (by omega), if_neg (by omega), if_neg (by omega), if_pos (by omega), if_pos (by omega)]
theorem st_hv {i : Nat} (hi : i < 14) : st_h S (2 * i + 1 + 1) = some (am_ar 4 (st_len i) (am_xi fun j => iz (st_x i j))) := by
  unfold st_h
  rw [if_neg (by omega), if_neg (by omega), if_neg (by omega), if_pos (by omega), if_neg (by omega), show (2 * i + 1 + 1) / 2 - 1 = i by omega]
theorem st_sA {i : Nat} (hi : i < 14) : strA (st_h S) (2 * i + 1) (st_len i) (st_x i) := ⟨st_hs hi, st_hv hi⟩
theorem st_hC : hC (st_h S) := by
  refine ⟨fun f hf => ?_, st_sA (i := 8) (by omega), st_sA (i := 9) (by omega), st_sA (i := 10) (by omega), st_sA (i := 11) (by omega), st_sA (i := 12) (by omega), st_sA (i := 13) (by omega), rfl, rfl⟩
  have h := st_sA (S := S) (i := f) (by omega)
  unfold st_len st_x at h
  rw [if_pos hf, if_pos hf] at h
  exact h
end STL
