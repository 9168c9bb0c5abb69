/-! START: the abstract start stands for the machine's -/
theorem st_len_lt : ∀ i, i < 14 → st_len i < 2 ^ 31 := by decide +kernel
theorem st_refv {s : State} {A : Array Value} {t : Term} (h : (Jvm.Cond.isRef t).before A s = true) : ∃ v, t.eval A s none [] s = some v ∧ (v = .null ∨ ∃ q, v = .ref q) := by
  cases hv : t.eval A s none [] s with
  | none => simp [Cond.before, Cond.holds, Cond.value, hv] at h
  | some w =>
    simp only [Cond.before, Cond.holds, Cond.value, hv] at h
    cases w with
    | null => exact ⟨_, rfl, Or.inl rfl⟩
    | ref t => exact ⟨_, rfl, Or.inr ⟨t, rfl⟩⟩
    | _ => simp at h
theorem st_begin {s : State} {b L : Nat} {xs : Nat → Int32} (hts : ∀ w ∈ lw_tbl, w.before #[Value.ref b] s = true) (hX : va_X b L xs s s.heap) (hbl : b < s.heap.size) (hgv : (Jvm.Cond.and given_1 narrow_1).before #[Value.ref b] s = true) : ∃ (Lm : Nat → Value) (D : va_G), Lm 0 = .ref b ∧ am_E Lm D s.heap.size s s.heap ∧ am_HR s Lm D s.heap.size (st_h (am_ar 0 L (am_xi fun k => iz (xs k).toInt))) 64 s.heap := by
  have htb := st_tbl hts
  obtain ⟨D, hK⟩ := st_kn htb
  have hfl : ∀ w ∈ st_F, w.before #[Value.ref b] s = true := flat_of_before _ hgv
  have hstr : ∀ i, ∃ q : Nat × Nat, i < 14 → (Term.string (st_own i) (st_k i)).eval #[Value.ref b] s none [] s = some (.ref q.1) ∧ va_O "java/lang/String" q.1 (st_A s) s s.heap ∧ va_OF "java/lang/String" "coder" "B" (.int 0) q.1 (st_A s) s s.heap ∧ va_OF "java/lang/String" "value" "[B" (.ref q.2) q.1 (st_A s) s s.heap ∧ va_T .byte q.2 (st_len i) (fun j => .int (iz (st_x i j))) (st_A s) s s.heap := fun i => by
    by_cases hi : i < 14
    · obtain ⟨a, v, h⟩ := st_strOf (s := s) (A := #[Value.ref b]) (own := st_own i) (k := st_k i) (len := st_len i) (x := st_x i) (st_len_lt i hi) (fun w hw => hfl w (st_mem (st_all i hi) w hw))
      exact ⟨(a, v), fun _ => h⟩
    · exact ⟨(0, 0), fun q => absurd q hi⟩
  obtain ⟨ad, had⟩ := Classical.axiomOfChoice hstr
  obtain ⟨t0, e0, hT0⟩ := st_arrOf (s := s) (A := #[Value.ref b]) (t := st_ones) (len := 100) (x := fun j => 48 + (j : Int) % 10) (by decide) (fun w hw => hfl w (st_mem st_o w hw))
  obtain ⟨t1, e1, hT1⟩ := st_arrOf (s := s) (A := #[Value.ref b]) (t := st_tens) (len := 100) (x := fun j => 48 + (j : Int) / 10) (by decide) (fun w hw => hfl w (st_mem st_t w hw))
  have h4 : (Jvm.Cond.eq (.static "java/lang/String" "COMPACT_STRINGS" "Z") (.int 1)).before #[Value.ref b] s = true := hfl _ (List.mem_of_getElem? (i := 4) (by decide +kernel))
  have h5 : (Jvm.Cond.isRef (.static "jdk/internal/util/Preconditions" "SIOOBE_FORMATTER" "Ljava/util/function/BiFunction;")).before #[Value.ref b] s = true := hfl _ (List.mem_of_getElem? (i := 5) (by decide +kernel))
  obtain ⟨v2, e2, hv2⟩ := st_refv h5
  obtain ⟨Lm, hLm⟩ : ∃ Lm, Lm = st_L b s.heap.size ad t0 t1 v2 := ⟨_, rfl⟩
  have hLg : am_Lg Lm s.heap.size := by
    rw [hLm]
    refine ⟨fun a ha => if_pos ha, fun a ha h42 a' h => ?_, fun a => ?_⟩
    · by_cases z0 : a = 0
      · subst z0
        rw [st_L0] at h
        cases h
        exact hbl
      · by_cases z40 : a = 40
        · subst z40
          rw [st_L40] at h
          cases h
          obtain ⟨cell, hc, -⟩ := hT0
          exact (Array.getElem?_eq_some_iff.mp hc).1
        · by_cases z41 : a = 41
          · subst z41
            rw [st_L41] at h
            cases h
            obtain ⟨cell, hc, -⟩ := hT1
            exact (Array.getElem?_eq_some_iff.mp hc).1
          · by_cases z28 : a ≤ 28
            · obtain ⟨i, hi, hai⟩ : ∃ i, i < 14 ∧ (a = 2 * i + 1 ∨ a = 2 * i + 1 + 1) := ⟨(a - 1) / 2, by omega, by omega⟩
              obtain ⟨-, ⟨cO, hcO, -⟩, -, -, ⟨cT, hcT, -⟩⟩ := had i hi
              rcases hai with rfl | rfl
              · rw [st_Ls hi] at h
                cases h
                exact (Array.getElem?_eq_some_iff.mp hcO).1
              · rw [st_Lv hi] at h
                cases h
                exact (Array.getElem?_eq_some_iff.mp hcT).1
            · unfold st_L at h
              rw [if_neg (by omega), if_neg z0, if_neg z40, if_neg z41, if_neg h42, if_neg z28] at h
              cases h
    · by_cases z64 : 64 ≤ a
      · exact Or.inl ⟨_, if_pos z64⟩
      · by_cases z42 : a = 42
        · subst z42
          rw [st_L42]
          rcases hv2 with q | ⟨t, q⟩
          · exact Or.inr q
          · exact Or.inl ⟨t, q⟩
        · by_cases z0 : a = 0
          · subst z0
            exact Or.inl ⟨_, st_L0⟩
          · by_cases z40 : a = 40
            · subst z40
              exact Or.inl ⟨_, st_L40⟩
            · by_cases z41 : a = 41
              · subst z41
                exact Or.inl ⟨_, st_L41⟩
              · by_cases z28 : a ≤ 28
                · obtain ⟨i, hi, hai⟩ : ∃ i, i < 14 ∧ (a = 2 * i + 1 ∨ a = 2 * i + 1 + 1) := ⟨(a - 1) / 2, by omega, by omega⟩
                  rcases hai with rfl | rfl
                  · exact Or.inl ⟨_, st_Ls hi⟩
                  · exact Or.inl ⟨_, st_Lv hi⟩
                · refine Or.inr ?_
                  unfold st_L
                  rw [if_neg z64, if_neg z0, if_neg z40, if_neg z41, if_neg z42, if_neg z28]
  have m0 : Lm 0 = .ref b := by rw [hLm, st_L0]
  have m40 : Lm 40 = .ref t0 := by rw [hLm, st_L40]
  have m41 : Lm 41 = .ref t1 := by rw [hLm, st_L41]
  have m42 : Lm 42 = v2 := by rw [hLm, st_L42]
  have ms : ∀ i, i < 14 → Lm (2 * i + 1) = .ref (ad i).1 := fun i hi => by rw [hLm, st_Ls hi]
  have mv : ∀ i, i < 14 → Lm (2 * i + 1 + 1) = .ref (ad i).2 := fun i hi => by rw [hLm, st_Lv hi]
  refine ⟨Lm, D, m0, ⟨hLg, fun w hw hk av => am_word hk (State.WarmedH.refl s) (htb w hw), hK, fun e he => ?_, fun e he => ?_⟩, Nat.le_refl 64, by omega, fun a e he => ?_⟩
  · rw [st_strs] at he
    obtain ⟨i, hi, rfl⟩ := List.mem_map.mp he
    have hi : i < 14 := List.mem_range.mp hi
    exact ⟨(ad i).1, ms i hi, vk_R.of (hts _ (st_in (st_sref i hi))) (had i hi).1⟩
  · unfold am_stat at he
    simp only [List.mem_cons, List.not_mem_nil, or_false] at he
    rcases he with rfl | rfl | rfl | rfl
    · exact va_Zof (hts _ (st_in (List.mem_of_getElem? (i := 153) (by decide +kernel)))) (hts _ (st_in (List.mem_of_getElem? (i := 8) (by decide +kernel)))) (va_eqi h4) (st_hA s)
    · show va_Z "java/lang/Integer" "DigitOnes" "[B" (Lm 40) (st_A s) s s.heap
      rw [m40]
      exact va_Zof (hts _ (st_in (List.mem_of_getElem? (i := 1042) (by decide +kernel)))) (hts _ (st_in (List.mem_of_getElem? (i := 24) (by decide +kernel)))) e0 (st_hA s)
    · show va_Z "java/lang/Integer" "DigitTens" "[B" (Lm 41) (st_A s) s s.heap
      rw [m41]
      exact va_Zof (hts _ (st_in (List.mem_of_getElem? (i := 1044) (by decide +kernel)))) (hts _ (st_in (List.mem_of_getElem? (i := 24) (by decide +kernel)))) e1 (st_hA s)
    · show va_Z "jdk/internal/util/Preconditions" "SIOOBE_FORMATTER" "Ljava/util/function/BiFunction;" (Lm 42) (st_A s) s s.heap
      rw [m42]
      exact va_Zof (hts _ (st_in (List.mem_of_getElem? (i := 805) (by decide +kernel)))) (hts _ (st_in (List.mem_of_getElem? (i := 21) (by decide +kernel)))) e2 (st_hA s)
  · by_cases z0 : a = 0
    · subst z0
      rw [st_h0] at he
      cases he
      obtain ⟨scr, hcb, hof, hkn, hsz, hval⟩ := hX
      refine ⟨⟨by omega, by omega⟩, b, scr, m0, hcb, hof, hkn, Nat.le_of_eq hsz.symm, by rw [hsz], fun j hj => ?_, fun h => absurd h (by omega), fun C hC h => absurd h (by omega)⟩
      rw [hval j hj]
      show some (Value.int (xs j)) = some (Value.int (iz (xs j).toInt))
      rw [iz_of]
    · by_cases z40 : a = 40
      · subst z40
        cases he
        exact ⟨⟨by omega, by omega⟩, st_atB m40 (by omega) hT0⟩
      · by_cases z41 : a = 41
        · subst z41
          cases he
          exact ⟨⟨by omega, by omega⟩, st_atB m41 (by omega) hT1⟩
        · by_cases z28 : a ≤ 28
          · obtain ⟨i, hi, hai⟩ : ∃ i, i < 14 ∧ (a = 2 * i + 1 ∨ a = 2 * i + 1 + 1) := ⟨(a - 1) / 2, by omega, by omega⟩
            obtain ⟨-, g1, g2, g3, g4⟩ := had i hi
            rcases hai with rfl | rfl
            · rw [st_hs hi] at he
              cases he
              exact ⟨⟨by omega, by omega⟩, st_atS (hK.1 0 _ rfl) (ms i hi) (mv i hi) (by omega) g1 g2 g3⟩
            · rw [st_hv hi] at he
              cases he
              exact ⟨⟨by omega, by omega⟩, st_atB (mv i hi) (by omega) g4⟩
          · unfold st_h at he
            rw [if_neg z0, if_neg z40, if_neg z41, if_neg z28] at he
            cases he
