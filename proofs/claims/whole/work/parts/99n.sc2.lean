/-! STEPS TOLD: the reference's text -/
theorem hC_cg {h h' : am_H} (hc : hC h) (hh : ∀ c, c < 64 → h' c = h c) : hC h' := by
  obtain ⟨a1, a2, a3, a4, a5, a6, a7, a8, a9⟩ := hc
  have key : ∀ {k L : Nat} {x : Nat → Int}, k + 1 < 64 → strA h k L x → strA h' k L x := fun hk q => by
    unfold strA at *
    rw [hh _ (by omega), hh _ hk]
    exact q
  exact ⟨fun f hf => key (by omega) (a1 f hf), key (by decide) a2, key (by decide) a3, key (by decide) a4, key (by decide) a5, key (by decide) a6, key (by decide) a7, by rw [hh 40 (by decide)]; exact a8, by rw [hh 41 (by decide)]; exact a9⟩
set_option maxRecDepth 16384 in
set_option maxHeartbeats 1000000 in
theorem q_Mo_explain {h1 : am_H} {n1 : Nat} {T : Nat → Nat → Int} {i f s w : Nat} {ov : Option UInt64} (hc : hC h1) (hn : 5053 ≤ n1) (hi : i < 7) (hf : f < 8) (hs : s < 8) (hw : w ≤ 999999) (m1 : T 5041 i = f) (m2 : T 5042 i = s) (m3 : T 5043 i = w) (m4 : T 5044 i = bI ov.isSome) (m5 : ∀ v, ov = some v → T 5045 i = (v.toNat : Int)) : (stT f s w ov).length ≤ 36 ∧ ∃ h' x' r n', (∀ d K, am_CL (d + 9) m_Mo_explain [.ref 5014, .int (iz i)] (lay T h1) n1 K = K (some (.ref r)) h' n') ∧ strG h' r (r + 1) (stT f s w ov).length x' ∧ byt x' ∧ (∀ j, j < (stT f s w ov).length → x' j = gt (stT f s w ov) j) ∧ n1 ≤ n' ∧ ∀ c, c < n1 → h' c = lay T h1 c := by
  have hnl := nmL_le f
  have hs1 : nd s = 1 := nd_eq (k := 0) (by omega) (Or.inl rfl) (by omega)
  have hw6 : nd w ≤ 6 := nd_le (by omega) (by omega)
  have hcL : hC (lay T h1) := hC_cg hc (fun c hcc => lay_out (Or.inl hcc))
  have h40 : 5 * f + nmL f < 40 := by
    rcases (show f = 0 ∨ f = 1 ∨ f = 2 ∨ f = 3 ∨ f = 4 ∨ f = 5 ∨ f = 6 ∨ f = 7 by omega) with rfl | rfl | rfl | rfl | rfl | rfl | rfl | rfl <;> decide
  obtain ⟨hA, xA, qA, gA, bA, cA, fA⟩ := sb_sub (h := lay T h1) (n := n1) (p := 5 * f) (q := 5 * f + nmL f) hcL.2.1 (by omega) (by omega)
  rw [show 5 * f + nmL f - 5 * f = nmL f by omega] at gA cA
  have e51 : ((5 * f : Nat) : Int) = 5 * (f : Int) := by omega
  have e52 : ((5 * f + nmL f : Nat) : Int) = 5 * (f : Int) + (nmL f : Int) := by omega
  simp only [e51, e52] at qA
  obtain ⟨n2, hn2⟩ : ∃ n2, n2 = n1 + 2 := ⟨_, rfl⟩
  rw [← hn2] at qA
  obtain ⟨h2, q2, s2, f2⟩ := sb_new (h := hA) (n := n2) (by omega)
  have FL : ∀ {h : am_H} {n : Nat} {t : List Int}, SBT h2 (n2 + 2) n2 (n2 + 1) 16 h n t → ∀ c, c < n1 → h c = lay T h1 c := fun hs c hcc => by
    rw [(SBT_fr hs).1 c (by omega) (by omega) (by omega), f2 c (by omega), fA c hcc]
  obtain ⟨h3, n3, q3, s3, p3⟩ := st_S (s := n1) (u := n1 + 1) (r := nmT8 f) (xs := xA) s2 (by rw [nmT8_len]; show 0 + _ ≤ 36; omega) (by rw [nmT8_len]; exact strG_cg gA (f2 n1 (by omega)) (f2 (n1 + 1) (by omega))) (fun j hj => by
    rw [nmT8_len] at hj
    rw [cA j hj, nmT8_at hj, nmX_C (by omega)]) bA (by omega)
  have c3 := hC_cg hcL (fun c hcc => FL s3 c (by omega))
  have l3 : ([] ++ nmT8 f : List Int).length = nmL f := nmT8_len f
  obtain ⟨h4, n4, q4, s4, p4⟩ := st_K (r := [40]) (k := 19) s3 (by rw [l3]; show _ + 1 ≤ 36; omega) c3.2.2.1 (fun j hj => by
    have hj : j < 1 := hj
    obtain rfl : j = 0 := by omega
    rfl) (fun _ => by omega) (by omega)
  have l4 : ([] ++ nmT8 f ++ [40] : List Int).length = nmL f + 1 := by rw [List.length_append, l3]; rfl
  have c4 := hC_cg hcL (fun c hcc => FL s4 c (by omega))
  obtain ⟨h5, n5, q5, s5, p5⟩ := st_I (v := s) s4 (by omega) (by rw [l4]; omega) ⟨c4.2.2.2.2.2.2.2.1, c4.2.2.2.2.2.2.2.2⟩
  have l5 : ([] ++ nmT8 f ++ [40] ++ dg s : List Int).length = nmL f + 1 + 1 := by rw [List.length_append, l4, dg_len, hs1]
  have c5 := hC_cg hcL (fun c hcc => FL s5 c (by omega))
  obtain ⟨h6, n6, q6, s6, p6⟩ := st_K (r := [44]) (k := 21) s5 (by rw [l5]; show _ + 1 ≤ 36; omega) c5.2.2.2.1 (fun j hj => by
    have hj : j < 1 := hj
    obtain rfl : j = 0 := by omega
    rfl) (fun _ => by omega) (by omega)
  have l6 : ([] ++ nmT8 f ++ [40] ++ dg s ++ [44] : List Int).length = nmL f + 1 + 1 + 1 := by rw [List.length_append, l5]; rfl
  have c6 := hC_cg hcL (fun c hcc => FL s6 c (by omega))
  obtain ⟨h7, n7, q7, s7, p7⟩ := st_I (v := w) s6 hw (by rw [l6]; omega) ⟨c6.2.2.2.2.2.2.2.1, c6.2.2.2.2.2.2.2.2⟩
  have l7 : ([] ++ nmT8 f ++ [40] ++ dg s ++ [44] ++ dg w : List Int).length = nmL f + 1 + 1 + 1 + nd w := by rw [List.length_append, l6, dg_len]
  have c7 := hC_cg hcL (fun c hcc => FL s7 c (by omega))
  obtain ⟨h8, n8, q8, s8, p8⟩ := st_K (r := [41, 61]) (k := 23) s7 (by rw [l7]; show _ + 2 ≤ 36; omega) c7.2.2.2.2.1 (fun j hj => by
    have hj : j < 2 := hj
    rcases (show j = 0 ∨ j = 1 by omega) with rfl | rfl
    · rfl
    · rfl) (fun j => by
    show 0 ≤ (if j = 0 then (41 : Int) else 61) ∧ (if j = 0 then (41 : Int) else 61) ≤ 127
    split <;> omega) (by omega)
  have l8 : ([] ++ nmT8 f ++ [40] ++ dg s ++ [44] ++ dg w ++ [41, 61] : List Int).length = nmL f + 1 + 1 + 1 + nd w + 2 := by rw [List.length_append, l7]; rfl
  have c8 := hC_cg hcL (fun c hcc => FL s8 c (by omega))
  have B := fun {h : am_H} {n : Nat} {t : List Int} (hs : SBT h2 (n2 + 2) n2 (n2 + 1) 16 h n t) => (SBT_fr hs).2.2
  obtain ⟨g2, b2⟩ := B s2
  obtain ⟨g3, b3⟩ := B s3
  obtain ⟨g4, b4⟩ := B s4
  obtain ⟨g5, b5⟩ := B s5
  obtain ⟨g6, b6⟩ := B s6
  obtain ⟨g7, b7⟩ := B s7
  obtain ⟨g8, b8⟩ := B s8
  have o4 : h4 5014 = some (am_ob 13 (l_Mo (T 5014))) := (FL s4 _ (by omega)).trans lay_5014
  have o6 : h6 5014 = some (am_ob 13 (l_Mo (T 5014))) := (FL s6 _ (by omega)).trans lay_5014
  have o8 : h8 5014 = some (am_ob 13 (l_Mo (T 5014))) := (FL s8 _ (by omega)).trans lay_5014
  have a4 : h4 5042 = some (am_ar 0 8 (am_xi fun j => iz (T 5042 j))) := (FL s4 _ (by omega)).trans lay_5042
  have a6 : h6 5043 = some (am_ar 0 8 (am_xi fun j => iz (T 5043 j))) := (FL s6 _ (by omega)).trans lay_5043
  have a8 : h8 5044 = some (am_ar 3 8 (am_xi fun j => iz (T 5044 j))) := (FL s8 _ (by omega)).trans lay_5044
  have qN := fun d K => q_nameLength (h0 := h1) (n := n1) (T := T) hc hf d K
  have iB : am_up hA n2 (am_ob 1 [.null, .int (iz 0), .int (iz 0), .int (iz 0)]) n2 = some (am_ob 1 [.null, .int (iz 0), .int (iz 0), .int (iz 0)]) := am_up_eq _ _ _
  have o17 := hcL.2.1.1
  unfold strF at o17
  cases ov with
  | none =>
    have m4 : T 5044 i = 0 := m4
    obtain ⟨h9, n9, q9, s9, p9⟩ := st_K (r := [63]) (k := 27) s8 (by rw [l8]; show _ + 1 ≤ 36; omega) c8.2.2.2.2.2.2.1 (fun j hj => by
      have hj : j < 1 := hj
      obtain rfl : j = 0 := by omega
      rfl) (fun _ => by omega) (by omega)
    obtain ⟨g9, b9⟩ := B s9
    obtain ⟨hZ, xZ, qZ, gZ, bZ, cZ, fZ⟩ := sb_str s9
    have el : ([] ++ nmT8 f ++ [40] ++ dg s ++ [44] ++ dg w ++ [41, 61] ++ [63] : List Int) = stT f s w none := rfl
    have l9 : (stT f s w none).length = nmL f + 1 + 1 + 1 + nd w + 2 + 1 := by rw [← el, List.length_append, l8]; rfl
    rw [el] at gZ cZ
    refine ⟨by omega, hZ, xZ, n9, n9 + 2, fun d K => ?_, gZ, bZ, cZ, by omega, fun c hcc => by rw [fZ c (by omega)]; exact FL s9 c hcc⟩
    have qN := fun K => qN (d + 3) K
    have qA := fun K => qA (d + 2) K
    have q2 := fun K => q2 (d + 6) K; have q3 := fun K => q3 (d + 1) K; have q4 := fun K => q4 (d + 1) K; have q5 := fun K => q5 (d + 2) K; have q6 := fun K => q6 (d + 1) K; have q7 := fun K => q7 (d + 2) K; have q8 := fun K => q8 (d + 1) K; have q9 := fun K => q9 (d + 1) K; have qZ := fun K => qZ d K
    simp (maxSteps := 1000000) (disch := omega) only [e_Mo_explain, g_Mo_explain_0, i_Mo_explain_0, g_Mo_explain_1, i_Mo_explain_1, g_Mo_explain_2, i_Mo_explain_2, g_Mo_explain_3, i_Mo_explain_3, gd_T, gd_t, gd_a, br_T, br_F, brt, brf, oS_e, iS_e, lS_e, dS_e, qS_e, nS_i, nS_l, nS_d, nS_q, kI_e, kL_e, kD_e, kF_e, kR_e, kInc_e, kLen_e, kIa_e, kLa_e, kDa_e, kQa_e, kIs_e, kZs_e, kBs_e, kLs_e, kDs_e, kQs_e, kCc_e, kC1_e, kGet_e, kGv_i, kGv_l, kGv_d, kGv_r, kGv_n, kPut_e, kPv_i, kPv_l, kPv_d, kPv_r, kPv_n, kQ2_e, kCal_e, kV3_T, kV3_t, kV2_e, kV1_e, kS1_e, kC2_e, z_iload, z_iload_n_0, z_iload_n_1, z_iload_n_2, z_iload_n_3, z_lload, z_lload_n_0, z_lload_n_1, z_lload_n_2, z_lload_n_3, z_dload, z_dload_n_0, z_dload_n_1, z_dload_n_2, z_dload_n_3, z_fload_n_0, z_fload_n_1, z_fload_n_2, z_fload_n_3, z_aload, z_aload_n_0, z_aload_n_1, z_aload_n_2, z_aload_n_3, z_iinc, z_getfield, z_putfield, z_arraylength, z_iaload, z_baload, z_laload, z_daload, z_aaload, z_iastore, z_lastore, z_dastore, z_zastore, z_bastore, z_aastore, z_checkcast, z_ifCond_eq, z_if_icmp_eq, z_ifCond_ne, z_if_icmp_ne, z_ifCond_lt, z_if_icmp_lt, z_ifCond_ge, z_if_icmp_ge, z_ifCond_gt, z_if_icmp_gt, z_ifCond_le, z_if_icmp_le, z_dup, z_dup_x1, z_dup2, z_pop, z_pop2, z_idiv, z_irem, z_ldiv, z_lrem, z_new, z_newarray, z_virt, z_spec, z_obj, z_stat, z_fbits, kC0_t, kC0_T, z_copy, z_tableswitch, z_lookupswitch, am_sW_n, am_sW_c, sbt, sbf, sbT, sbF, am_sL_n, am_sL_c, tbt, tbf, tbT, tbF, am_e_nop, am_e_goto, am_e_aconst_null, am_e_iconst, am_e_bipush, am_e_sipush, am_e_lconst, am_e_dconst, am_e_fconst, am_e_ldc, am_e_ldc_w, am_e_ldc2_w, am_e_getstatic, am_e_istore, am_e_istore_n_0, am_e_istore_n_1, am_e_istore_n_2, am_e_istore_n_3, am_e_lstore, am_e_lstore_n_0, am_e_lstore_n_1, am_e_lstore_n_2, am_e_lstore_n_3, am_e_dstore, am_e_dstore_n_0, am_e_dstore_n_1, am_e_dstore_n_2, am_e_dstore_n_3, am_e_fstore_n_0, am_e_fstore_n_1, am_e_fstore_n_2, am_e_fstore_n_3, am_e_astore, am_e_astore_n_0, am_e_astore_n_1, am_e_astore_n_2, am_e_astore_n_3, am_e_iadd, am_e_isub, am_e_imul, am_e_ineg, am_e_iand, am_e_ior, am_e_ishl, am_e_ishr, am_e_ladd, am_e_lsub, am_e_lmul, am_e_lneg, am_e_lcmp, am_e_i2l, am_e_l2i, am_e_i2b, am_e_i2c, am_e_i2d, am_e_l2d, am_e_l2f, am_e_d2i, am_e_d2l, am_e_dneg, am_e_fneg, am_e_dcmp, am_e_fcmp, am_e_return_, am_e_ireturn, am_e_lreturn, am_e_dreturn, am_e_areturn, am_lg_z, am_lg_s, am_s1_z, am_s1_1, am_s1_s, am_s2_z, am_s2_1, am_s2_s, am_cu_n, am_cu_c, am_I_i, am_L_l, am_D_d, am_F_f, am_R_r, am_R_n, am_ok_0, am_ok_2, am_ok_3, am_ok_4, am_ok_5, am_po_z, am_po_s, am_ps_n, am_ps_s, am_rt_1, am_rt_6, am_rt_7, am_lim_2, am_lim_3, am_lim_7, am_inv_U, am_inv_i, am_inv_r, am_inv_l, am_inv_d, am_b0z, am_qz, am_qs, am_sz, am_ss, am_cat_i, am_cat_r, am_cat_l, am_cat_d, List.length_cons, List.length_nil, Nat.reduceAdd, Nat.reduceLeDiff, Nat.reduceEqDiff, reduceIte, Int.reduceEq, Int.reduceLT, Int.reduceLE, Int.reduceAdd, Int.reduceSub, Int.reduceNeg, Int.reduceMul, Int.reduceToNat, not_false_eq_true, not_true_eq_false, or_true, true_or, false_or, or_false, true_and, and_true, true_implies, false_implies, implies_true, iz_lit, iz_ofInt, iz_ofNat, iz_add, iz_sub, iz_mul, iz_neg, iz_div, am_rf, iz_in, iz_nat, iz_le, iz_lt, iz_eq, iz_toInt64, lz_toInt32, lz_lit, lz_add, lz_sub, lz_mul, lz_neg, am_lc_eq, am_lc_lt, am_lc_gt, am_lc_le, am_lc_ge, am_vup, am_vupq, am_cpz, am_nUn, am_nUi, am_nUl, am_nUd, am_nUr, Int.toNat_natCast, Int.cast_ofNat_Int, Int.toNat_zero, am_vupl, am_vupd, tn_add, tn_mul, tn_sub, uT_eq, uT_ne, uT_upd, uT3, zup_eq, zup_ne, zup_zup, zup3, iz_bz0, iz_bz0n, iz_bz1, rt2_bz, rt2_r, ok1_r, em_n, sl_toL, ok1_bz, bz_o, bz_n, bz_or, Nat.add_zero, Int.add_zero, Int.zero_add, Nat.zero_add, Int.natCast_add, Int.natCast_one, Nat.reduceMul, Nat.reduceSub, am_kq, Classical.not_not, ne_eq, le64_1, le64_2, le64_3, le64_4, le64_5, le64_6, iz_or, eq_self, false_and, and_false, and_self, lz_div, lz_lt, lz_eq, gl_Mo_0, gl_Mo_1, gl_Mo_2, gl_Mo_3, gl_Mo_4, sl_Mo_4, gl_Mo_5, gl_Mo_6, sl_Mo_6, gl_Mo_7, sl_Mo_7, gl_Mo_8, sl_Mo_8, gl_Mo_9, gl_Mo_10, gl_Mo_11, gl_Mo_12, sl_Mo_12, gl_Mo_13, gl_Mo_14, gl_Mo_15, sl_Mo_15, gl_Mo_16, sl_Mo_16, gl_Mo_17, sl_Mo_17, gl_Mo_18, sl_Mo_18, gl_Mo_19, sl_Mo_19, gl_Mo_20, sl_Mo_20, gl_Mo_21, sl_Mo_21, gl_Mo_22, sl_Mo_22, gl_Mo_23, sl_Mo_23, gl_Mo_24, gl_Mo_25, gl_Mo_26, gl_Mo_27, gl_Mo_28, gl_Mo_29, gl_Mo_30, gl_Mo_31, lay_5014, up_5014, lay_5015, lay_5024, lay_5033, up_5033, lay_5034, up_5034, lay_5035, up_5035, lay_5036, up_5036, lay_5037, up_5037, lay_5038, up_5038, lay_5039, up_5039, lay_5040, up_5040, lay_5041, up_5041, lay_5042, up_5042, lay_5043, up_5043, lay_5044, up_5044, lay_5045, up_5045, lay_5046, up_5046, lay_5047, up_5047, lay_5048, lay_all, up_all, lay_kept, up_kept, lay_rw, up_rw, o17, m1, m2, m3, m4, qN, qA, dfs_1, iB, q2, q3, q4, q5, q6, q7, q8, q9, qZ, b2, b3, b4, b5, b6, b7, b8, b9, o4, o6, o8, a4, a6, a8, am_b0p]
  | some v =>
    have m4 : T 5044 i = 1 := m4
    have e45 : dz (T 5045 i) = v := by rw [m5 v rfl, dz_nat]
    have F8 := SBT_fr s8
    obtain ⟨hN, hQ, nq, j2, k2, j3, k3, j4, x4, ehN, r1, ⟨gq, bq⟩, -, rfl, r2, ⟨gj2, bj2⟩, fj2, r3, ⟨gj3, bj3⟩, r4, G4, B4, C4, le4, F4⟩ := sb_long (h := h8) (n := n8) (by omega) c8 (d2l_r v)
    simp only [lz_of] at r3
    have hlen := dgL_len (d2l_r v)
    have iN : hN n8 = some (am_ob 1 [.null, .int (iz 0), .int (iz 0), .int (iz 0)]) := by rw [ehN, am_up_eq]
    have oj : j2 5014 = some (am_ob 13 (l_Mo (T 5014))) := (fj2 _ (by omega)).trans o8
    have aj : j2 5045 = some (am_ar 2 8 (am_xd fun j => dz (T 5045 j))) := (fj2 _ (by omega)).trans ((FL s8 _ (by omega)).trans lay_5045)
    have s8' : SBT h2 (n2 + 2) n2 (n2 + 1) 16 j4 (k3 + 2) _ := SBX_ext s8 (by omega) F4
    obtain ⟨gj4, bj4⟩ := B s8'
    obtain ⟨h9, n9, q9, s9, p9⟩ := st_S (s := k3) (u := k3 + 1) (r := dgL (FP.d2l v).toInt) (xs := x4) s8' (by rw [l8]; omega) G4 C4 B4 (by omega)
    obtain ⟨g9, b9⟩ := B s9
    obtain ⟨hZ, xZ, qZ, gZ, bZ, cZ, fZ⟩ := sb_str s9
    have el : ([] ++ nmT8 f ++ [40] ++ dg s ++ [44] ++ dg w ++ [41, 61] ++ dgL (FP.d2l v).toInt : List Int) = stT f s w (some v) := rfl
    have l9 : (stT f s w (some v)).length = nmL f + 1 + 1 + 1 + nd w + 2 + (dgL (FP.d2l v).toInt).length := by rw [← el, List.length_append, l8]
    rw [el] at gZ cZ
    refine ⟨by omega, hZ, xZ, n9, n9 + 2, fun d K => ?_, gZ, bZ, cZ, by omega, fun c hcc => by rw [fZ c (by omega)]; exact FL s9 c hcc⟩
    have qN := fun K => qN (d + 3) K
    have qA := fun K => qA (d + 2) K
    have q2 := fun K => q2 (d + 6) K; have q3 := fun K => q3 (d + 1) K; have q4 := fun K => q4 (d + 1) K; have q5 := fun K => q5 (d + 2) K; have q6 := fun K => q6 (d + 1) K; have q7 := fun K => q7 (d + 2) K; have q8 := fun K => q8 (d + 1) K; have q9 := fun K => q9 (d + 1) K; have qZ := fun K => qZ d K
    have r1 := fun K => r1 (d + 6) K; have r2 := fun K => r2 (d + 1) K; have r3 := fun K => r3 (d + 2) K; have r4 := fun K => r4 d K
    simp (maxSteps := 1000000) (disch := omega) only [e_Mo_explain, g_Mo_explain_0, i_Mo_explain_0, g_Mo_explain_1, i_Mo_explain_1, g_Mo_explain_2, i_Mo_explain_2, g_Mo_explain_3, i_Mo_explain_3, gd_T, gd_t, gd_a, br_T, br_F, brt, brf, oS_e, iS_e, lS_e, dS_e, qS_e, nS_i, nS_l, nS_d, nS_q, kI_e, kL_e, kD_e, kF_e, kR_e, kInc_e, kLen_e, kIa_e, kLa_e, kDa_e, kQa_e, kIs_e, kZs_e, kBs_e, kLs_e, kDs_e, kQs_e, kCc_e, kC1_e, kGet_e, kGv_i, kGv_l, kGv_d, kGv_r, kGv_n, kPut_e, kPv_i, kPv_l, kPv_d, kPv_r, kPv_n, kQ2_e, kCal_e, kV3_T, kV3_t, kV2_e, kV1_e, kS1_e, kC2_e, z_iload, z_iload_n_0, z_iload_n_1, z_iload_n_2, z_iload_n_3, z_lload, z_lload_n_0, z_lload_n_1, z_lload_n_2, z_lload_n_3, z_dload, z_dload_n_0, z_dload_n_1, z_dload_n_2, z_dload_n_3, z_fload_n_0, z_fload_n_1, z_fload_n_2, z_fload_n_3, z_aload, z_aload_n_0, z_aload_n_1, z_aload_n_2, z_aload_n_3, z_iinc, z_getfield, z_putfield, z_arraylength, z_iaload, z_baload, z_laload, z_daload, z_aaload, z_iastore, z_lastore, z_dastore, z_zastore, z_bastore, z_aastore, z_checkcast, z_ifCond_eq, z_if_icmp_eq, z_ifCond_ne, z_if_icmp_ne, z_ifCond_lt, z_if_icmp_lt, z_ifCond_ge, z_if_icmp_ge, z_ifCond_gt, z_if_icmp_gt, z_ifCond_le, z_if_icmp_le, z_dup, z_dup_x1, z_dup2, z_pop, z_pop2, z_idiv, z_irem, z_ldiv, z_lrem, z_new, z_newarray, z_virt, z_spec, z_obj, z_stat, z_fbits, kC0_t, kC0_T, z_copy, z_tableswitch, z_lookupswitch, am_sW_n, am_sW_c, sbt, sbf, sbT, sbF, am_sL_n, am_sL_c, tbt, tbf, tbT, tbF, am_e_nop, am_e_goto, am_e_aconst_null, am_e_iconst, am_e_bipush, am_e_sipush, am_e_lconst, am_e_dconst, am_e_fconst, am_e_ldc, am_e_ldc_w, am_e_ldc2_w, am_e_getstatic, am_e_istore, am_e_istore_n_0, am_e_istore_n_1, am_e_istore_n_2, am_e_istore_n_3, am_e_lstore, am_e_lstore_n_0, am_e_lstore_n_1, am_e_lstore_n_2, am_e_lstore_n_3, am_e_dstore, am_e_dstore_n_0, am_e_dstore_n_1, am_e_dstore_n_2, am_e_dstore_n_3, am_e_fstore_n_0, am_e_fstore_n_1, am_e_fstore_n_2, am_e_fstore_n_3, am_e_astore, am_e_astore_n_0, am_e_astore_n_1, am_e_astore_n_2, am_e_astore_n_3, am_e_iadd, am_e_isub, am_e_imul, am_e_ineg, am_e_iand, am_e_ior, am_e_ishl, am_e_ishr, am_e_ladd, am_e_lsub, am_e_lmul, am_e_lneg, am_e_lcmp, am_e_i2l, am_e_l2i, am_e_i2b, am_e_i2c, am_e_i2d, am_e_l2d, am_e_l2f, am_e_d2i, am_e_d2l, am_e_dneg, am_e_fneg, am_e_dcmp, am_e_fcmp, am_e_return_, am_e_ireturn, am_e_lreturn, am_e_dreturn, am_e_areturn, am_lg_z, am_lg_s, am_s1_z, am_s1_1, am_s1_s, am_s2_z, am_s2_1, am_s2_s, am_cu_n, am_cu_c, am_I_i, am_L_l, am_D_d, am_F_f, am_R_r, am_R_n, am_ok_0, am_ok_2, am_ok_3, am_ok_4, am_ok_5, am_po_z, am_po_s, am_ps_n, am_ps_s, am_rt_1, am_rt_6, am_rt_7, am_lim_2, am_lim_3, am_lim_7, am_inv_U, am_inv_i, am_inv_r, am_inv_l, am_inv_d, am_b0z, am_qz, am_qs, am_sz, am_ss, am_cat_i, am_cat_r, am_cat_l, am_cat_d, List.length_cons, List.length_nil, Nat.reduceAdd, Nat.reduceLeDiff, Nat.reduceEqDiff, reduceIte, Int.reduceEq, Int.reduceLT, Int.reduceLE, Int.reduceAdd, Int.reduceSub, Int.reduceNeg, Int.reduceMul, Int.reduceToNat, not_false_eq_true, not_true_eq_false, or_true, true_or, false_or, or_false, true_and, and_true, true_implies, false_implies, implies_true, iz_lit, iz_ofInt, iz_ofNat, iz_add, iz_sub, iz_mul, iz_neg, iz_div, am_rf, iz_in, iz_nat, iz_le, iz_lt, iz_eq, iz_toInt64, lz_toInt32, lz_lit, lz_add, lz_sub, lz_mul, lz_neg, am_lc_eq, am_lc_lt, am_lc_gt, am_lc_le, am_lc_ge, am_vup, am_vupq, am_cpz, am_nUn, am_nUi, am_nUl, am_nUd, am_nUr, Int.toNat_natCast, Int.cast_ofNat_Int, Int.toNat_zero, am_vupl, am_vupd, tn_add, tn_mul, tn_sub, uT_eq, uT_ne, uT_upd, uT3, zup_eq, zup_ne, zup_zup, zup3, iz_bz0, iz_bz0n, iz_bz1, rt2_bz, rt2_r, ok1_r, em_n, sl_toL, ok1_bz, bz_o, bz_n, bz_or, Nat.add_zero, Int.add_zero, Int.zero_add, Nat.zero_add, Int.natCast_add, Int.natCast_one, Nat.reduceMul, Nat.reduceSub, am_kq, Classical.not_not, ne_eq, le64_1, le64_2, le64_3, le64_4, le64_5, le64_6, iz_or, eq_self, false_and, and_false, and_self, lz_div, lz_lt, lz_eq, gl_Mo_0, gl_Mo_1, gl_Mo_2, gl_Mo_3, gl_Mo_4, sl_Mo_4, gl_Mo_5, gl_Mo_6, sl_Mo_6, gl_Mo_7, sl_Mo_7, gl_Mo_8, sl_Mo_8, gl_Mo_9, gl_Mo_10, gl_Mo_11, gl_Mo_12, sl_Mo_12, gl_Mo_13, gl_Mo_14, gl_Mo_15, sl_Mo_15, gl_Mo_16, sl_Mo_16, gl_Mo_17, sl_Mo_17, gl_Mo_18, sl_Mo_18, gl_Mo_19, sl_Mo_19, gl_Mo_20, sl_Mo_20, gl_Mo_21, sl_Mo_21, gl_Mo_22, sl_Mo_22, gl_Mo_23, sl_Mo_23, gl_Mo_24, gl_Mo_25, gl_Mo_26, gl_Mo_27, gl_Mo_28, gl_Mo_29, gl_Mo_30, gl_Mo_31, lay_5014, up_5014, lay_5015, lay_5024, lay_5033, up_5033, lay_5034, up_5034, lay_5035, up_5035, lay_5036, up_5036, lay_5037, up_5037, lay_5038, up_5038, lay_5039, up_5039, lay_5040, up_5040, lay_5041, up_5041, lay_5042, up_5042, lay_5043, up_5043, lay_5044, up_5044, lay_5045, up_5045, lay_5046, up_5046, lay_5047, up_5047, lay_5048, lay_all, up_all, lay_kept, up_kept, lay_rw, up_rw, o17, m1, m2, m3, m4, qN, qA, dfs_1, iB, q2, q3, q4, q5, q6, q7, q8, q9, qZ, b2, b3, b4, b5, b6, b7, b8, b9, o4, o6, o8, a4, a6, a8, am_b0p, ehN.symm, iN, r1, bq, r2, bj2, oj, aj, e45, r3, bj3, r4, bj4]
