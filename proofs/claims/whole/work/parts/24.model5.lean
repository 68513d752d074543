/-! The reference: calls. Printed by gen_methods.py. -/
def tb_Mod_enter : List (Nat × Instr × Nat) := [(0, .aload_n 0, 1), (1, .getfield 303, 3), (4, .iconst 1, 1), (5, .isub, 1), (6, .istore_n 1, 1), (7, .aload_n 0, 1), (8, .getfield 106, 3), (11, .iload_n 1, 1), (12, .iaload, 1), (13, .istore_n 2, 1), (14, .aload_n 0, 1), (15, .iload_n 2, 1), (16, .invokevirtual 309, 3), (19, .istore_n 3, 1), (20, .aload_n 0, 1), (21, .getfield 39, 3), (24, .iload_n 3, 1), (25, .iaload, 1), (26, .iconst 1, 1), (27, .if_icmp .gt 30, 3), (30, .aload_n 0, 1), (31, .getfield 45, 3), (34, .iload_n 2, 1), (35, .iaload, 1), (36, .ifCond .ge 21, 3), (39, .aload_n 0, 1), (40, .getfield 48, 3), (43, .iload_n 2, 1), (44, .iaload, 1), (45, .ifCond .ge 12, 3), (48, .aload_n 0, 1), (49, .getfield 51, 3), (52, .iload_n 2, 1), (53, .iaload, 1), (54, .ifCond .lt 7, 3), (57, .iconst 1, 1), (58, .goto 4, 3), (61, .iconst 0, 1), (62, .istore 4, 2), (64, .iload 4, 2), (66, .ifCond .eq 12, 3), (69, .aload_n 0, 1), (70, .getfield 32, 3), (73, .ifCond .ge 5, 3), (76, .iconst 3, 1), (77, .ireturn, 1), (78, .aload_n 0, 1), (79, .invokevirtual 312, 3), (82, .aload_n 0, 1), (83, .getfield 45, 3), (86, .iload_n 2, 1), (87, .iaload, 1), (88, .ifCond .lt 69, 3), (91, .aload_n 0, 1), (92, .aload_n 0, 1), (93, .getfield 45, 3), (96, .iload_n 2, 1), (97, .iaload, 1), (98, .iconst 0, 1), (99, .invokevirtual 315, 3), (102, .istore 5, 2), (104, .iload 5, 2), (106, .ifCond .ge 5, 3), (109, .iconst 2, 1), (110, .ireturn, 1), (111, .aload_n 0, 1), (112, .getfield 112, 3), (115, .iload_n 1, 1), (116, .iload 5, 2), (118, .iastore, 1), (119, .iconst 0, 1), (120, .istore 6, 2), (122, .iload 6, 2), (124, .iload 5, 2), (126, .if_icmp .ge 27, 3), (129, .aload_n 0, 1), (130, .getfield 109, 3), (133, .iconst 5, 1), (134, .iload_n 1, 1), (135, .imul, 1), (136, .iload 6, 2), (138, .iadd, 1), (139, .aload_n 0, 1), (140, .getfield 121, 3), (143, .iload 6, 2), (145, .iaload, 1), (146, .iastore, 1), (147, .iinc 6 1, 3), (150, .goto (-28), 3), (153, .aload_n 0, 1), (154, .invokevirtual 312, 3), (157, .aload_n 0, 1), (158, .iload_n 3, 1), (159, .invokevirtual 318, 3), (162, .ifCond .ne 5, 3), (165, .iconst 2, 1), (166, .ireturn, 1), (167, .aload_n 0, 1), (168, .getfield 63, 3), (171, .bipush 6, 2), (173, .iload_n 2, 1), (174, .imul, 1), (175, .iconst 5, 1), (176, .iadd, 1), (177, .dup2, 1), (178, .iaload, 1), (179, .iconst 1, 1), (180, .iadd, 1), (181, .iastore, 1), (182, .aload_n 0, 1), (183, .aload_n 0, 1), (184, .getfield 32, 3), (187, .ifCond .ge 10, 3), (190, .aload_n 0, 1), (191, .getfield 213, 3), (194, .goto 14, 3), (197, .aload_n 0, 1), (198, .getfield 213, 3), (201, .aload_n 0, 1), (202, .getfield 60, 3), (205, .iload_n 2, 1), (206, .iaload, 1), (207, .ior, 1), (208, .putfield 213, 3), (211, .aload_n 0, 1), (212, .getfield 54, 3), (215, .iload_n 2, 1), (216, .iaload, 1), (217, .iconst 4, 1), (218, .if_icmp .ne 22, 3), (221, .aload_n 0, 1), (222, .aload_n 0, 1), (223, .getfield 57, 3), (226, .iload_n 2, 1), (227, .iaload, 1), (228, .putfield 32, 3), (231, .aload_n 0, 1), (232, .ldc 212, 2), (234, .putfield 213, 3), (237, .goto 24, 3), (240, .aload_n 0, 1), (241, .getfield 54, 3), (244, .iload_n 2, 1), (245, .iaload, 1), (246, .bipush 6, 2), (248, .if_icmp .ne 13, 3), (251, .aload_n 0, 1), (252, .iconst (-1), 1), (253, .putfield 32, 3), (256, .aload_n 0, 1), (257, .iconst 0, 1), (258, .putfield 213, 3), (261, .aload_n 0, 1), (262, .getfield 54, 3), (265, .iload_n 2, 1), (266, .iaload, 1), (267, .iconst 5, 1), (268, .if_icmp .lt 28, 3), (271, .aload_n 0, 1), (272, .getfield 303, 3), (275, .bipush 8, 2), (277, .if_icmp .ge 19, 3), (280, .aload_n 0, 1), (281, .invokevirtual 312, 3), (284, .aload_n 0, 1), (285, .aload_n 0, 1), (286, .getfield 57, 3), (289, .iload_n 2, 1), (290, .iaload, 1), (291, .invokevirtual 321, 3), (294, .iconst (-1), 1), (295, .ireturn, 1), (296, .aload_n 0, 1), (297, .iload_n 2, 1), (298, .invokevirtual 324, 3), (301, .ireturn, 1)]
def Y_Mod_enter : ax_Y := (⟨"MethodWardenModel", "enter", "()I"⟩, prog_14_method_50_code, 7, some .int, tb_Mod_enter)
theorem yok_Mod_enter : yOK Y_Mod_enter := ⟨by decide +kernel, by decide +kernel, inWG 1400 (by decide +kernel) (by decide +kernel), inWG 107 (by decide +kernel) (by decide +kernel), by decide +kernel⟩
theorem fl_Mod_63 : fldOK "MethodWardenModel" 63 11 25 false := ⟨_, _, _, cls_Mod, by decide, by decide, rfl, Or.inl (inWG 1112 (by decide +kernel) (by decide +kernel))⟩
theorem ml_Mod_309 : mlV "MethodWardenModel" 309 Y_Mod_guardOf 1 := ⟨⟨yok_Mod_guardOf, by decide +kernel, by decide⟩, Or.inl (inWG 1401 (by decide +kernel) (by decide +kernel)), inWG 1403 (by decide +kernel) (by decide +kernel), inWG 72 (by decide +kernel) (by decide +kernel)⟩
theorem ml_Mod_312 : mlV "MethodWardenModel" 312 Y_Mod_see 0 := ⟨⟨yok_Mod_see, by decide +kernel, by decide⟩, Or.inl (inWG 1405 (by decide +kernel) (by decide +kernel)), inWG 1407 (by decide +kernel) (by decide +kernel), inWG 73 (by decide +kernel) (by decide +kernel)⟩
theorem ml_Mod_318 : mlV "MethodWardenModel" 318 Y_Mod_opens 1 := ⟨⟨yok_Mod_opens, by decide +kernel, by decide⟩, Or.inl (inWG 1474 (by decide +kernel) (by decide +kernel)), inWG 1476 (by decide +kernel) (by decide +kernel), inWG 90 (by decide +kernel) (by decide +kernel)⟩
theorem ml_Mod_324 : mlV "MethodWardenModel" 324 Y_Mod_give 1 := ⟨⟨yok_Mod_give, by decide +kernel, by decide⟩, Or.inl (inWG 1482 (by decide +kernel) (by decide +kernel)), inWG 1484 (by decide +kernel) (by decide +kernel), inWG 92 (by decide +kernel) (by decide +kernel)⟩
theorem ml_Mod_321 : mlV "MethodWardenModel" 321 Y_Mod_open 1 := ⟨⟨yok_Mod_open, by decide +kernel, by decide⟩, Or.inl (inWG 1393 (by decide +kernel) (by decide +kernel)), inWG 1395 (by decide +kernel) (by decide +kernel), inWG 70 (by decide +kernel) (by decide +kernel)⟩
theorem ml_Mod_315 : mlV "MethodWardenModel" 315 Y_Mod_sift 2 := ⟨⟨yok_Mod_sift, by decide +kernel, by decide⟩, Or.inl (inWG 1409 (by decide +kernel) (by decide +kernel)), inWG 1411 (by decide +kernel) (by decide +kernel), inWG 74 (by decide +kernel) (by decide +kernel)⟩
def f_Mod_enter_261 (l2 : Int32) (M : ax_M) : Option (Int32 × ax_M) :=
  gi l2 8 (if (gI M 198 l2.toNatClampNeg) < 5 then (bnd (f_Mod_give l2 M) (fun q27 M28 => some (q27, M28))) else (if 8 ≤ (gI M 184 52) then (bnd (f_Mod_give l2 M) (fun q30 M31 => some (q30, M31))) else (bnd (f_Mod_see  M) (fun q32 M33 => bnd (f_Mod_open (gI M33 199 l2.toNatClampNeg) M33) (fun q34 M35 => some ((-1), M35))))))
set_option maxHeartbeats 4000000 in
set_option maxRecDepth 100000 in
theorem o_Mod_enter_261 {l : Launch} {g : ax_G} (l2 : Int32) (M : ax_M) (r : Int32) (M' : ax_M) (h : f_Mod_enter_261  l2 M = some (r, M')) : AW l g true Y_Mod_enter 7 (some (vI r), M') 261 [(0, vA 184), (2, vI l2)] [] M := by
  unfold f_Mod_enter_261 at h
  refine A_aload_n 0 rfl rfl rfl ?_
  refine A_getL (r := 198) rfl fl_Mod_54 rfl (by decide) rfl rfl ?_
  refine A_iload_n 1 rfl rfl rfl ?_
  obtain ⟨hg25, h⟩ := gi_out h
  refine A_iald (n := 8) rfl (by decide) (by decide) (Or.inl rfl) hg25 ?_
  refine A_iconst (v := 5) rfl (by decide) ?_
  refine A_pc (pc' := 268) rfl ?_
  refine A_icmp_lt (tgt := 296) rfl (by decide) (fun hc26 => ?_) (fun hc26 => ?_)
  · rw [if_pos hc26] at h
    refine A_aload_n 0 rfl rfl rfl ?_
    refine A_iload_n 1 rfl rfl rfl ?_
    obtain ⟨q27, M28, hcq27, h⟩ := bnd_out h
    refine A_callV (ci := 11) (as := [vI l2]) (st' := []) (r1 := (some (vI q27), M28)) rfl ml_Mod_324 rfl (by decide) (by decide) (Or.inl rfl) rfl rfl (Nat.le_of_ble_eq_true rfl) (by decide) (c_Mod_give hcq27) (Or.inl rfl) ?_
    refine A_pc (pc' := 301) rfl ?_
    refine A_stk (st' := [vI q27]) rfl ?_
    obtain ⟨rfl, rfl⟩ := leaf h
    exact A_iret rfl rfl
  · rw [if_neg hc26] at h
    refine A_pc (pc' := 271) rfl ?_
    refine A_aload_n 0 rfl rfl rfl ?_
    refine A_getI rfl fl_Mod_303 rfl (by decide) (Or.inl rfl) ?_
    refine A_bipush (v := 8) rfl (by decide) ?_
    refine A_icmp_ge (tgt := 296) rfl (by decide) (fun hc29 => ?_) (fun hc29 => ?_)
    · rw [if_pos hc29] at h
      refine A_aload_n 0 rfl rfl rfl ?_
      refine A_iload_n 1 rfl rfl rfl ?_
      obtain ⟨q30, M31, hcq30, h⟩ := bnd_out h
      refine A_callV (ci := 11) (as := [vI l2]) (st' := []) (r1 := (some (vI q30), M31)) rfl ml_Mod_324 rfl (by decide) (by decide) (Or.inl rfl) rfl rfl (Nat.le_of_ble_eq_true rfl) (by decide) (c_Mod_give hcq30) (Or.inl rfl) ?_
      refine A_pc (pc' := 301) rfl ?_
      refine A_stk (st' := [vI q30]) rfl ?_
      obtain ⟨rfl, rfl⟩ := leaf h
      exact A_iret rfl rfl
    · rw [if_neg hc29] at h
      refine A_pc (pc' := 280) rfl ?_
      refine A_aload_n 0 rfl rfl rfl ?_
      obtain ⟨q32, M33, hcq32, h⟩ := bnd_out h
      refine A_callV (ci := 11) (as := []) (st' := []) (r1 := (none, M33)) rfl ml_Mod_312 rfl (by decide) (by decide) (Or.inl rfl) rfl rfl (Nat.le_of_ble_eq_true rfl) (by decide) (c_Mod_see hcq32) (Or.inl rfl) ?_
      refine A_pc (pc' := 284) rfl ?_
      refine A_stk (st' := []) rfl ?_
      refine A_aload_n 0 rfl rfl rfl ?_
      refine A_aload_n 0 rfl rfl rfl ?_
      refine A_getL (r := 199) rfl fl_Mod_57 rfl (by decide) rfl rfl ?_
      refine A_pc (pc' := 289) rfl ?_
      refine A_iload_n 1 rfl rfl rfl ?_
      refine A_iald (n := 8) rfl (by decide) (by decide) (Or.inl rfl) hg25 ?_
      obtain ⟨q34, M35, hcq34, h⟩ := bnd_out h
      refine A_callV (ci := 11) (as := [vI (gI M33 199 l2.toNatClampNeg)]) (st' := []) (r1 := (none, M35)) rfl ml_Mod_321 rfl (by decide) (by decide) (Or.inl rfl) rfl rfl (Nat.le_of_ble_eq_true rfl) (by decide) (c_Mod_open hcq34) (Or.inl rfl) ?_
      refine A_pc (pc' := 294) rfl ?_
      refine A_stk (st' := []) rfl ?_
      refine A_iconst (v := (-1)) rfl (by decide) ?_
      obtain ⟨rfl, rfl⟩ := leaf h
      exact A_iret rfl rfl
def f_Mod_enter_208 (l2 : Int32) (s0 : Int32) (M : ax_M) : Option (Int32 × ax_M) :=
  kM (mI M 184 14 s0) (fun M21 => gi l2 8 (if (gI M21 198 l2.toNatClampNeg) = 4 then (kM (mI M21 184 13 (gI M21 199 l2.toNatClampNeg)) (fun M38 => kM (mI M38 184 14 65535) (fun M39 => f_Mod_enter_261 l2 M39))) else (if (gI M21 198 l2.toNatClampNeg) = 6 then (kM (mI M21 184 13 ((-1))) (fun M36 => kM (mI M36 184 14 0) (fun M37 => f_Mod_enter_261 l2 M37))) else (f_Mod_enter_261 l2 M21))))
set_option maxHeartbeats 4000000 in
set_option maxRecDepth 100000 in
theorem o_Mod_enter_208 {l : Launch} {g : ax_G} (l2 : Int32) (s0 : Int32) (M : ax_M) (r : Int32) (M' : ax_M) (h : f_Mod_enter_208  l2 s0 M = some (r, M')) : AW l g true Y_Mod_enter 7 (some (vI r), M') 208 [(0, vA 184), (2, vI l2)] [vI s0, vA 184] M := by
  unfold f_Mod_enter_208 at h
  refine A_putI rfl (Or.inl fl_Mod_213) rfl (by decide) (Or.inl rfl) rfl ?_
  obtain ⟨M21, hM21, h⟩ := kM_out h
  refine A_mem hM21 ?_
  refine A_aload_n 0 rfl rfl rfl ?_
  refine A_getL (r := 198) rfl fl_Mod_54 rfl (by decide) rfl rfl ?_
  refine A_iload_n 1 rfl rfl rfl ?_
  obtain ⟨hg22, h⟩ := gi_out h
  refine A_iald (n := 8) rfl (by decide) (by decide) (Or.inl rfl) hg22 ?_
  refine A_pc (pc' := 217) rfl ?_
  refine A_iconst (v := 4) rfl (by decide) ?_
  refine A_icmp_ne (tgt := 240) rfl (by decide) (fun hc23 => ?_) (fun hc23 => ?_)
  · rw [if_neg hc23] at h
    refine A_aload_n 0 rfl rfl rfl ?_
    refine A_getL (r := 198) rfl fl_Mod_54 rfl (by decide) rfl rfl ?_
    refine A_iload_n 1 rfl rfl rfl ?_
    refine A_iald (n := 8) rfl (by decide) (by decide) (Or.inl rfl) hg22 ?_
    refine A_bipush (v := 6) rfl (by decide) ?_
    refine A_pc (pc' := 248) rfl ?_
    refine A_icmp_ne (tgt := 261) rfl (by decide) (fun hc24 => ?_) (fun hc24 => ?_)
    · rw [if_neg hc24] at h
      refine A_pc (pc' := 261) rfl ?_
      refine A_sub (Ls' := [(0, vA 184), (2, vI l2)]) [0, 1] rfl ?_
      exact o_Mod_enter_261  _ _ _ _ h
    · rw [if_pos hc24] at h
      refine A_pc (pc' := 251) rfl ?_
      refine A_aload_n 0 rfl rfl rfl ?_
      refine A_iconst (v := (-1)) rfl (by decide) ?_
      refine A_putI rfl (Or.inl fl_Mod_32) rfl (by decide) (Or.inl rfl) rfl ?_
      obtain ⟨M36, hM36, h⟩ := kM_out h
      refine A_mem hM36 ?_
      refine A_aload_n 0 rfl rfl rfl ?_
      refine A_iconst (v := 0) rfl (by decide) ?_
      refine A_pc (pc' := 258) rfl ?_
      refine A_putI rfl (Or.inl fl_Mod_213) rfl (by decide) (Or.inl rfl) rfl ?_
      obtain ⟨M37, hM37, h⟩ := kM_out h
      refine A_mem hM37 ?_
      refine A_pc (pc' := 261) rfl ?_
      refine A_sub (Ls' := [(0, vA 184), (2, vI l2)]) [0, 1] rfl ?_
      exact o_Mod_enter_261  _ _ _ _ h
  · rw [if_pos hc23] at h
    refine A_pc (pc' := 221) rfl ?_
    refine A_aload_n 0 rfl rfl rfl ?_
    refine A_aload_n 0 rfl rfl rfl ?_
    refine A_getL (r := 199) rfl fl_Mod_57 rfl (by decide) rfl rfl ?_
    refine A_iload_n 1 rfl rfl rfl ?_
    refine A_iald (n := 8) rfl (by decide) (by decide) (Or.inl rfl) hg22 ?_
    refine A_pc (pc' := 228) rfl ?_
    refine A_putI rfl (Or.inl fl_Mod_32) rfl (by decide) (Or.inl rfl) rfl ?_
    obtain ⟨M38, hM38, h⟩ := kM_out h
    refine A_mem hM38 ?_
    refine A_aload_n 0 rfl rfl rfl ?_
    refine A_ldc (v := 65535) rfl (inWG 1355 (by decide +kernel) (by decide +kernel)) ?_
    refine A_putI rfl (Or.inl fl_Mod_213) rfl (by decide) (Or.inl rfl) rfl ?_
    obtain ⟨M39, hM39, h⟩ := kM_out h
    refine A_mem hM39 ?_
    refine A_goto (tgt := 261) rfl (by decide) ?_
    refine A_pc (pc' := 261) rfl ?_
    refine A_sub (Ls' := [(0, vA 184), (2, vI l2)]) [0, 1] rfl ?_
    exact o_Mod_enter_261  _ _ _ _ h
def f_Mod_enter_157 (l2 : Int32) (l3 : Int32) (M : ax_M) : Option (Int32 × ax_M) :=
  bnd (f_Mod_opens l3 M) (fun q13 M14 => if q13 = 0 then (some (2, M14)) else (kM ((6 * l2) + 5) (fun x16 => gi x16 48 (kM (mI M14 201 x16.toNatClampNeg ((gI M14 201 x16.toNatClampNeg) + 1)) (fun M18 => if 0 ≤ (gI M18 184 13) then (gi l2 8 (f_Mod_enter_208 l2 ((gI M18 184 14) ||| (gI M18 200 l2.toNatClampNeg)) M18)) else (f_Mod_enter_208 l2 (gI M18 184 14) M18))))))
set_option maxHeartbeats 4000000 in
set_option maxRecDepth 100000 in
theorem o_Mod_enter_157 {l : Launch} {g : ax_G} (l2 : Int32) (l3 : Int32) (M : ax_M) (r : Int32) (M' : ax_M) (h : f_Mod_enter_157  l2 l3 M = some (r, M')) : AW l g true Y_Mod_enter 7 (some (vI r), M') 157 [(0, vA 184), (2, vI l2), (3, vI l3)] [] M := by
  unfold f_Mod_enter_157 at h
  refine A_aload_n 0 rfl rfl rfl ?_
  refine A_iload_n 2 rfl rfl rfl ?_
  obtain ⟨q13, M14, hcq13, h⟩ := bnd_out h
  refine A_callV (ci := 11) (as := [vI l3]) (st' := []) (r1 := (some (vI q13), M14)) rfl ml_Mod_318 rfl (by decide) (by decide) (Or.inl rfl) rfl rfl (Nat.le_of_ble_eq_true rfl) (by decide) (c_Mod_opens hcq13) (Or.inl rfl) ?_
  refine A_pc (pc' := 162) rfl ?_
  refine A_stk (st' := [vI q13]) rfl ?_
  refine A_if_ne (tgt := 167) rfl (by decide) (fun hc15 => ?_) (fun hc15 => ?_)
  · rw [if_neg hc15] at h
    refine A_aload_n 0 rfl rfl rfl ?_
    refine A_getL (r := 201) rfl fl_Mod_63 rfl (by decide) rfl rfl ?_
    refine A_bipush (v := 6) rfl (by decide) ?_
    refine A_iload_n 1 rfl rfl rfl ?_
    refine A_imul rfl ?_
    refine A_pc (pc' := 175) rfl ?_
    refine A_iconst (v := 5) rfl (by decide) ?_
    refine A_iadd rfl ?_
    obtain ⟨x16, hx16, h⟩ := kM_out h
    refine A_nI hx16 ?_
    refine A_dup2 rfl rfl rfl ?_
    obtain ⟨hg17, h⟩ := gi_out h
    refine A_iald (n := 48) rfl (by decide) (by decide) (Or.inl rfl) hg17 ?_
    refine A_iconst (v := 1) rfl (by decide) ?_
    refine A_iadd rfl ?_
    refine A_pc (pc' := 181) rfl ?_
    refine A_iast (n := 48) rfl (by decide) (by decide) (Or.inl rfl) hg17 ?_
    obtain ⟨M18, hM18, h⟩ := kM_out h
    refine A_mem hM18 ?_
    refine A_aload_n 0 rfl rfl rfl ?_
    refine A_aload_n 0 rfl rfl rfl ?_
    refine A_getI rfl fl_Mod_32 rfl (by decide) (Or.inl rfl) ?_
    refine A_if_ge (tgt := 197) rfl (by decide) (fun hc19 => ?_) (fun hc19 => ?_)
    · rw [if_pos hc19] at h
      refine A_aload_n 0 rfl rfl rfl ?_
      refine A_getI rfl fl_Mod_213 rfl (by decide) (Or.inl rfl) ?_
      refine A_aload_n 0 rfl rfl rfl ?_
      refine A_getL (r := 200) rfl fl_Mod_60 rfl (by decide) rfl rfl ?_
      refine A_iload_n 1 rfl rfl rfl ?_
      refine A_pc (pc' := 206) rfl ?_
      obtain ⟨hg20, h⟩ := gi_out h
      refine A_iald (n := 8) rfl (by decide) (by decide) (Or.inl rfl) hg20 ?_
      refine A_ior rfl ?_
      refine A_pc (pc' := 208) rfl ?_
      refine A_sub (Ls' := [(0, vA 184), (2, vI l2)]) [0, 1] rfl ?_
      exact o_Mod_enter_208  _ _ _ _ _ h
    · rw [if_neg hc19] at h
      refine A_pc (pc' := 190) rfl ?_
      refine A_aload_n 0 rfl rfl rfl ?_
      refine A_getI rfl fl_Mod_213 rfl (by decide) (Or.inl rfl) ?_
      refine A_goto (tgt := 208) rfl (by decide) ?_
      refine A_pc (pc' := 208) rfl ?_
      refine A_sub (Ls' := [(0, vA 184), (2, vI l2)]) [0, 1] rfl ?_
      exact o_Mod_enter_208  _ _ _ _ _ h
  · rw [if_pos hc15] at h
    refine A_pc (pc' := 165) rfl ?_
    refine A_iconst (v := 2) rfl (by decide) ?_
    obtain ⟨rfl, rfl⟩ := leaf h
    exact A_iret rfl rfl
def f_Mod_enter_122_b (K122 : Int32 → Int32 → Int32 → Int32 → Int32 → ax_M → Option (Int32 × ax_M)) (l1 : Int32) (l2 : Int32) (l3 : Int32) (l5 : Int32) (l6 : Int32) (M : ax_M) : Option (Int32 × ax_M) :=
  if l5 ≤ l6 then (bnd (f_Mod_see  M) (fun q46 M47 => f_Mod_enter_157 l2 l3 M47)) else (gi l6 5 (gi ((5 * l1) + l6) 40 (kM (mI M 215 ((5 * l1) + l6).toNatClampNeg (gI M 219 l6.toNatClampNeg)) (fun M50 => kM (l6 + 1) (fun x51 => K122 l1 l2 l3 l5 x51 M50)))))
def f_Mod_enter_122 : Nat → Int32 → Int32 → Int32 → Int32 → Int32 → ax_M → Option (Int32 × ax_M)
  | 0, _, _, _, _, _, _ => none
  | n + 1, l1, l2, l3, l5, l6, M => f_Mod_enter_122_b  (f_Mod_enter_122 n) l1 l2 l3 l5 l6 M
set_option maxHeartbeats 4000000 in
set_option maxRecDepth 100000 in
theorem o_Mod_enter_122_b {l : Launch} {g : ax_G} (K122 : Int32 → Int32 → Int32 → Int32 → Int32 → ax_M → Option (Int32 × ax_M)) (hK122 : ∀ (l1 : Int32) (l2 : Int32) (l3 : Int32) (l5 : Int32) (l6 : Int32) (M : ax_M) (r : Int32) (M' : ax_M), K122 l1 l2 l3 l5 l6 M = some (r, M') → AW l g true Y_Mod_enter 7 (some (vI r), M') 122 [(0, vA 184), (1, vI l1), (2, vI l2), (3, vI l3), (5, vI l5), (6, vI l6)] [] M) (l1 : Int32) (l2 : Int32) (l3 : Int32) (l5 : Int32) (l6 : Int32) (M : ax_M) (r : Int32) (M' : ax_M) (h : f_Mod_enter_122_b  K122 l1 l2 l3 l5 l6 M = some (r, M')) : AW l g true Y_Mod_enter 7 (some (vI r), M') 122 [(0, vA 184), (1, vI l1), (2, vI l2), (3, vI l3), (5, vI l5), (6, vI l6)] [] M := by
  unfold f_Mod_enter_122_b at h
  refine A_iload 5 rfl rfl ?_
  refine A_iload 4 rfl rfl ?_
  refine A_icmp_ge (tgt := 153) rfl (by decide) (fun hc45 => ?_) (fun hc45 => ?_)
  · rw [if_pos hc45] at h
    refine A_aload_n 0 rfl rfl rfl ?_
    obtain ⟨q46, M47, hcq46, h⟩ := bnd_out h
    refine A_callV (ci := 11) (as := []) (st' := []) (r1 := (none, M47)) rfl ml_Mod_312 rfl (by decide) (by decide) (Or.inl rfl) rfl rfl (Nat.le_of_ble_eq_true rfl) (by decide) (c_Mod_see hcq46) (Or.inl rfl) ?_
    refine A_pc (pc' := 157) rfl ?_
    refine A_stk (st' := []) rfl ?_
    refine A_pc (pc' := 157) rfl ?_
    refine A_sub (Ls' := [(0, vA 184), (2, vI l2), (3, vI l3)]) [0, 2, 3] rfl ?_
    exact o_Mod_enter_157  _ _ _ _ _ h
  · rw [if_neg hc45] at h
    refine A_pc (pc' := 129) rfl ?_
    refine A_aload_n 0 rfl rfl rfl ?_
    refine A_getL (r := 215) rfl fl_Mod_109 rfl (by decide) rfl rfl ?_
    refine A_iconst (v := 5) rfl (by decide) ?_
    refine A_iload_n 1 rfl rfl rfl ?_
    refine A_imul rfl ?_
    refine A_pc (pc' := 136) rfl ?_
    refine A_iload 5 rfl rfl ?_
    refine A_iadd rfl ?_
    refine A_aload_n 0 rfl rfl rfl ?_
    refine A_getL (r := 219) rfl fl_Mod_121 rfl (by decide) rfl rfl ?_
    refine A_iload 5 rfl rfl ?_
    obtain ⟨hg48, h⟩ := gi_out h
    refine A_iald (n := 5) rfl (by decide) (by decide) (Or.inl rfl) hg48 ?_
    refine A_pc (pc' := 146) rfl ?_
    obtain ⟨hg49, h⟩ := gi_out h
    refine A_iast (n := 40) rfl (by decide) (by decide) (Or.inl rfl) hg49 ?_
    obtain ⟨M50, hM50, h⟩ := kM_out h
    refine A_mem hM50 ?_
    obtain ⟨x51, hx51, h⟩ := kM_out h
    refine A_iinc 5 (v := x51) (Ls' := [(6, vI x51), (0, vA 184), (1, vI l1), (2, vI l2), (3, vI l3), (5, vI l5)]) rfl rfl ((iiN (k := 1) (by decide) _).trans hx51) (by decide) rfl ?_
    refine A_goto (tgt := 122) rfl (by decide) ?_
    refine A_pc (pc' := 122) rfl ?_
    refine A_sub (Ls' := [(0, vA 184), (1, vI l1), (2, vI l2), (3, vI l3), (5, vI l5), (6, vI x51)]) [1, 2, 3, 4, 5, 0] rfl ?_
    exact hK122 _ _ _ _ _ _ _ _ h
theorem o_Mod_enter_122 {l : Launch} {g : ax_G} : ∀ (n : Nat) (l1 : Int32) (l2 : Int32) (l3 : Int32) (l5 : Int32) (l6 : Int32) (M : ax_M) (r : Int32) (M' : ax_M), f_Mod_enter_122  n l1 l2 l3 l5 l6 M = some (r, M') → AW l g true Y_Mod_enter 7 (some (vI r), M') 122 [(0, vA 184), (1, vI l1), (2, vI l2), (3, vI l3), (5, vI l5), (6, vI l6)] [] M := by
  intro n
  induction n with
  | zero =>
    intro l1 l2 l3 l5 l6 M r M' h
    cases h
  | succ n ih =>
    intro l1 l2 l3 l5 l6 M r M' h
    exact o_Mod_enter_122_b  _ ih _ _ _ _ _ _ _ _ h
def f_Mod_enter_78 (l1 : Int32) (l2 : Int32) (l3 : Int32) (M : ax_M) : Option (Int32 × ax_M) :=
  bnd (f_Mod_see  M) (fun q9 M10 => gi l2 8 (if (gI M10 195 l2.toNatClampNeg) < 0 then (f_Mod_enter_157 l2 l3 M10) else (bnd (f_Mod_sift (gI M10 195 l2.toNatClampNeg) 0 M10) (fun q40 M41 => if 0 ≤ q40 then (gi l1 8 (kM (mI M41 216 l1.toNatClampNeg q40) (fun M44 => f_Mod_enter_122 64 l1 l2 l3 q40 0 M44))) else (some (2, M41))))))
set_option maxHeartbeats 4000000 in
set_option maxRecDepth 100000 in
theorem o_Mod_enter_78 {l : Launch} {g : ax_G} (l1 : Int32) (l2 : Int32) (l3 : Int32) (M : ax_M) (r : Int32) (M' : ax_M) (h : f_Mod_enter_78  l1 l2 l3 M = some (r, M')) : AW l g true Y_Mod_enter 7 (some (vI r), M') 78 [(0, vA 184), (1, vI l1), (2, vI l2), (3, vI l3)] [] M := by
  unfold f_Mod_enter_78 at h
  refine A_aload_n 0 rfl rfl rfl ?_
  obtain ⟨q9, M10, hcq9, h⟩ := bnd_out h
  refine A_callV (ci := 11) (as := []) (st' := []) (r1 := (none, M10)) rfl ml_Mod_312 rfl (by decide) (by decide) (Or.inl rfl) rfl rfl (Nat.le_of_ble_eq_true rfl) (by decide) (c_Mod_see hcq9) (Or.inl rfl) ?_
  refine A_pc (pc' := 82) rfl ?_
  refine A_stk (st' := []) rfl ?_
  refine A_aload_n 0 rfl rfl rfl ?_
  refine A_getL (r := 195) rfl fl_Mod_45 rfl (by decide) rfl rfl ?_
  refine A_iload_n 2 rfl rfl rfl ?_
  refine A_pc (pc' := 87) rfl ?_
  obtain ⟨hg11, h⟩ := gi_out h
  refine A_iald (n := 8) rfl (by decide) (by decide) (Or.inl rfl) hg11 ?_
  refine A_if_lt (tgt := 157) rfl (by decide) (fun hc12 => ?_) (fun hc12 => ?_)
  · rw [if_pos hc12] at h
    refine A_pc (pc' := 157) rfl ?_
    refine A_sub (Ls' := [(0, vA 184), (2, vI l2), (3, vI l3)]) [0, 2, 3] rfl ?_
    exact o_Mod_enter_157  _ _ _ _ _ h
  · rw [if_neg hc12] at h
    refine A_pc (pc' := 91) rfl ?_
    refine A_aload_n 0 rfl rfl rfl ?_
    refine A_aload_n 0 rfl rfl rfl ?_
    refine A_getL (r := 195) rfl fl_Mod_45 rfl (by decide) rfl rfl ?_
    refine A_iload_n 2 rfl rfl rfl ?_
    refine A_iald (n := 8) rfl (by decide) (by decide) (Or.inl rfl) hg11 ?_
    refine A_pc (pc' := 98) rfl ?_
    refine A_iconst (v := 0) rfl (by decide) ?_
    obtain ⟨q40, M41, hcq40, h⟩ := bnd_out h
    refine A_callV (ci := 11) (as := [vI (gI M10 195 l2.toNatClampNeg), vI 0]) (st' := []) (r1 := (some (vI q40), M41)) rfl ml_Mod_315 rfl (by decide) (by decide) (Or.inl rfl) rfl rfl (Nat.le_of_ble_eq_true rfl) (by decide) (c_Mod_sift hcq40) (Or.inl rfl) ?_
    refine A_pc (pc' := 102) rfl ?_
    refine A_stk (st' := [vI q40]) rfl ?_
    refine A_istore (Ls' := [(5, vI q40), (0, vA 184), (1, vI l1), (2, vI l2), (3, vI l3)]) rfl (by decide) rfl ?_
    refine A_iload 0 rfl rfl ?_
    refine A_if_ge (tgt := 111) rfl (by decide) (fun hc42 => ?_) (fun hc42 => ?_)
    · rw [if_pos hc42] at h
      refine A_aload_n 1 rfl rfl rfl ?_
      refine A_getL (r := 216) rfl fl_Mod_112 rfl (by decide) rfl rfl ?_
      refine A_iload_n 2 rfl rfl rfl ?_
      refine A_iload 0 rfl rfl ?_
      obtain ⟨hg43, h⟩ := gi_out h
      refine A_iast (n := 8) rfl (by decide) (by decide) (Or.inl rfl) hg43 ?_
      obtain ⟨M44, hM44, h⟩ := kM_out h
      refine A_mem hM44 ?_
      refine A_pc (pc' := 119) rfl ?_
      refine A_iconst (v := 0) rfl (by decide) ?_
      refine A_istore (Ls' := [(6, vI 0), (5, vI q40), (0, vA 184), (1, vI l1), (2, vI l2), (3, vI l3)]) rfl (by decide) rfl ?_
      refine A_pc (pc' := 122) rfl ?_
      refine A_sub (Ls' := [(0, vA 184), (1, vI l1), (2, vI l2), (3, vI l3), (5, vI q40), (6, vI 0)]) [2, 3, 4, 5, 1, 0] rfl ?_
      exact o_Mod_enter_122  _ _ _ _ _ _ _ _ _ h
    · rw [if_neg hc42] at h
      refine A_pc (pc' := 109) rfl ?_
      refine A_iconst (v := 2) rfl (by decide) ?_
      obtain ⟨rfl, rfl⟩ := leaf h
      exact A_iret rfl rfl
def f_Mod_enter_57 (l1 : Int32) (l2 : Int32) (l3 : Int32) (M : ax_M) : Option (Int32 × ax_M) :=
  if ((1 : Int32) = 0) then (f_Mod_enter_78 l1 l2 l3 M) else (if 0 ≤ (gI M 184 13) then (f_Mod_enter_78 l1 l2 l3 M) else (some (3, M)))
set_option maxHeartbeats 4000000 in
set_option maxRecDepth 100000 in
theorem o_Mod_enter_57 {l : Launch} {g : ax_G} (l1 : Int32) (l2 : Int32) (l3 : Int32) (M : ax_M) (r : Int32) (M' : ax_M) (h : f_Mod_enter_57  l1 l2 l3 M = some (r, M')) : AW l g true Y_Mod_enter 7 (some (vI r), M') 57 [(0, vA 184), (1, vI l1), (2, vI l2), (3, vI l3)] [] M := by
  unfold f_Mod_enter_57 at h
  refine A_iconst (v := 1) rfl (by decide) ?_
  refine A_goto (tgt := 62) rfl (by decide) ?_
  refine A_istore (Ls' := [(4, vI 1), (0, vA 184), (1, vI l1), (2, vI l2), (3, vI l3)]) rfl (by decide) rfl ?_
  refine A_iload 0 rfl rfl ?_
  refine A_if_eq (tgt := 78) rfl (by decide) (fun hc8 => ?_) (fun hc8 => ?_)
  · rw [if_pos hc8] at h
    refine A_pc (pc' := 78) rfl ?_
    refine A_sub (Ls' := [(0, vA 184), (1, vI l1), (2, vI l2), (3, vI l3)]) [1, 2, 3, 4] rfl ?_
    exact o_Mod_enter_78  _ _ _ _ _ _ h
  · rw [if_neg hc8] at h
    refine A_pc (pc' := 69) rfl ?_
    refine A_aload_n 1 rfl rfl rfl ?_
    refine A_getI rfl fl_Mod_32 rfl (by decide) (Or.inl rfl) ?_
    refine A_if_ge (tgt := 78) rfl (by decide) (fun hc52 => ?_) (fun hc52 => ?_)
    · rw [if_pos hc52] at h
      refine A_pc (pc' := 78) rfl ?_
      refine A_sub (Ls' := [(0, vA 184), (1, vI l1), (2, vI l2), (3, vI l3)]) [1, 2, 3, 4] rfl ?_
      exact o_Mod_enter_78  _ _ _ _ _ _ h
    · rw [if_neg hc52] at h
      refine A_pc (pc' := 76) rfl ?_
      refine A_iconst (v := 3) rfl (by decide) ?_
      obtain ⟨rfl, rfl⟩ := leaf h
      exact A_iret rfl rfl
def f_Mod_enter  (M : ax_M) : Option (Int32 × ax_M) :=
  kM ((gI M 184 52) - 1) (fun x1 => gi x1 8 (kM (gI M 214 x1.toNatClampNeg) (fun x3 => bnd (f_Mod_guardOf x3 M) (fun q4 M5 => gi q4 10 (if 1 < (gI M5 193 q4.toNatClampNeg) then (f_Mod_enter_57 x1 x3 q4 M5) else (gi x3 8 (if 0 ≤ (gI M5 195 x3.toNatClampNeg) then (f_Mod_enter_57 x1 x3 q4 M5) else (if 0 ≤ (gI M5 196 x3.toNatClampNeg) then (f_Mod_enter_57 x1 x3 q4 M5) else (if (gI M5 197 x3.toNatClampNeg) < 0 then (if ((0 : Int32) = 0) then (f_Mod_enter_78 x1 x3 q4 M5) else (if 0 ≤ (gI M5 184 13) then (f_Mod_enter_78 x1 x3 q4 M5) else (some (3, M5)))) else (f_Mod_enter_57 x1 x3 q4 M5))))))))))
set_option maxHeartbeats 4000000 in
set_option maxRecDepth 100000 in
theorem c_Mod_enter {l : Launch} {g : ax_G}  {M : ax_M} {r : Int32} {M' : ax_M} (h : f_Mod_enter  M = some (r, M')) : Ctr l g true Y_Mod_enter 7 [vA 184] M (some (vI r), M') := by
  refine Ctr.ofAW yok_Mod_enter (Nat.le_of_ble_eq_true rfl) (Or.inl rfl) ?_
  show AW l g true Y_Mod_enter 7 (some (vI r), M') 0 [(0, vA 184)] [] M
  unfold f_Mod_enter at h
  refine A_aload_n 0 rfl rfl rfl ?_
  refine A_getI rfl fl_Mod_303 rfl (by decide) (Or.inl rfl) ?_
  refine A_iconst (v := 1) rfl (by decide) ?_
  refine A_isub rfl ?_
  obtain ⟨x1, hx1, h⟩ := kM_out h
  refine A_nI hx1 ?_
  refine A_istore_n (Ls' := [(1, vI x1), (0, vA 184)]) rfl rfl (by decide) rfl ?_
  refine A_pc (pc' := 7) rfl ?_
  refine A_aload_n 1 rfl rfl rfl ?_
  refine A_getL (r := 214) rfl fl_Mod_106 rfl (by decide) rfl rfl ?_
  refine A_iload_n 0 rfl rfl rfl ?_
  obtain ⟨hg2, h⟩ := gi_out h
  refine A_iald (n := 8) rfl (by decide) (by decide) (Or.inl rfl) hg2 ?_
  obtain ⟨x3, hx3, h⟩ := kM_out h
  refine A_nI hx3 ?_
  refine A_istore_n (Ls' := [(2, vI x3), (1, vI x1), (0, vA 184)]) rfl rfl (by decide) rfl ?_
  refine A_aload_n 2 rfl rfl rfl ?_
  refine A_pc (pc' := 15) rfl ?_
  refine A_iload_n 0 rfl rfl rfl ?_
  obtain ⟨q4, M5, hcq4, h⟩ := bnd_out h
  refine A_callV (ci := 11) (as := [vI x3]) (st' := []) (r1 := (some (vI q4), M5)) rfl ml_Mod_309 rfl (by decide) (by decide) (Or.inl rfl) rfl rfl (Nat.le_of_ble_eq_true rfl) (by decide) (c_Mod_guardOf hcq4) (Or.inl rfl) ?_
  refine A_pc (pc' := 19) rfl ?_
  refine A_stk (st' := [vI q4]) rfl ?_
  refine A_istore_n (Ls' := [(3, vI q4), (2, vI x3), (1, vI x1), (0, vA 184)]) rfl rfl (by decide) rfl ?_
  refine A_aload_n 3 rfl rfl rfl ?_
  refine A_getL (r := 193) rfl fl_Mod_39 rfl (by decide) rfl rfl ?_
  refine A_iload_n 0 rfl rfl rfl ?_
  refine A_pc (pc' := 25) rfl ?_
  obtain ⟨hg6, h⟩ := gi_out h
  refine A_iald (n := 10) rfl (by decide) (by decide) (Or.inl rfl) hg6 ?_
  refine A_iconst (v := 1) rfl (by decide) ?_
  refine A_icmp_gt (tgt := 57) rfl (by decide) (fun hc7 => ?_) (fun hc7 => ?_)
  · rw [if_pos hc7] at h
    refine A_pc (pc' := 57) rfl ?_
    refine A_sub (Ls' := [(0, vA 184), (1, vI x1), (2, vI x3), (3, vI q4)]) [3, 2, 1, 0] rfl ?_
    exact o_Mod_enter_57  _ _ _ _ _ _ h
  · rw [if_neg hc7] at h
    refine A_pc (pc' := 30) rfl ?_
    refine A_aload_n 3 rfl rfl rfl ?_
    refine A_getL (r := 195) rfl fl_Mod_45 rfl (by decide) rfl rfl ?_
    refine A_iload_n 1 rfl rfl rfl ?_
    obtain ⟨hg53, h⟩ := gi_out h
    refine A_iald (n := 8) rfl (by decide) (by decide) (Or.inl rfl) hg53 ?_
    refine A_if_ge (tgt := 57) rfl (by decide) (fun hc54 => ?_) (fun hc54 => ?_)
    · rw [if_pos hc54] at h
      refine A_pc (pc' := 57) rfl ?_
      refine A_sub (Ls' := [(0, vA 184), (1, vI x1), (2, vI x3), (3, vI q4)]) [3, 2, 1, 0] rfl ?_
      exact o_Mod_enter_57  _ _ _ _ _ _ h
    · rw [if_neg hc54] at h
      refine A_pc (pc' := 39) rfl ?_
      refine A_aload_n 3 rfl rfl rfl ?_
      refine A_getL (r := 196) rfl fl_Mod_48 rfl (by decide) rfl rfl ?_
      refine A_iload_n 1 rfl rfl rfl ?_
      refine A_iald (n := 8) rfl (by decide) (by decide) (Or.inl rfl) hg53 ?_
      refine A_if_ge (tgt := 57) rfl (by decide) (fun hc55 => ?_) (fun hc55 => ?_)
      · rw [if_pos hc55] at h
        refine A_pc (pc' := 57) rfl ?_
        refine A_sub (Ls' := [(0, vA 184), (1, vI x1), (2, vI x3), (3, vI q4)]) [3, 2, 1, 0] rfl ?_
        exact o_Mod_enter_57  _ _ _ _ _ _ h
      · rw [if_neg hc55] at h
        refine A_pc (pc' := 48) rfl ?_
        refine A_aload_n 3 rfl rfl rfl ?_
        refine A_getL (r := 197) rfl fl_Mod_51 rfl (by decide) rfl rfl ?_
        refine A_iload_n 1 rfl rfl rfl ?_
        refine A_iald (n := 8) rfl (by decide) (by decide) (Or.inl rfl) hg53 ?_
        refine A_if_lt (tgt := 61) rfl (by decide) (fun hc56 => ?_) (fun hc56 => ?_)
        · rw [if_pos hc56] at h
          refine A_iconst (v := 0) rfl (by decide) ?_
          refine A_istore (Ls' := [(4, vI 0), (3, vI q4), (2, vI x3), (1, vI x1), (0, vA 184)]) rfl (by decide) rfl ?_
          refine A_iload 0 rfl rfl ?_
          refine A_if_eq (tgt := 78) rfl (by decide) (fun hc57 => ?_) (fun hc57 => ?_)
          · rw [if_pos hc57] at h
            refine A_pc (pc' := 78) rfl ?_
            refine A_sub (Ls' := [(0, vA 184), (1, vI x1), (2, vI x3), (3, vI q4)]) [4, 3, 2, 1] rfl ?_
            exact o_Mod_enter_78  _ _ _ _ _ _ h
          · rw [if_neg hc57] at h
            refine A_pc (pc' := 69) rfl ?_
            refine A_aload_n 4 rfl rfl rfl ?_
            refine A_getI rfl fl_Mod_32 rfl (by decide) (Or.inl rfl) ?_
            refine A_if_ge (tgt := 78) rfl (by decide) (fun hc58 => ?_) (fun hc58 => ?_)
            · rw [if_pos hc58] at h
              refine A_pc (pc' := 78) rfl ?_
              refine A_sub (Ls' := [(0, vA 184), (1, vI x1), (2, vI x3), (3, vI q4)]) [4, 3, 2, 1] rfl ?_
              exact o_Mod_enter_78  _ _ _ _ _ _ h
            · rw [if_neg hc58] at h
              refine A_pc (pc' := 76) rfl ?_
              refine A_iconst (v := 3) rfl (by decide) ?_
              obtain ⟨rfl, rfl⟩ := leaf h
              exact A_iret rfl rfl
        · rw [if_neg hc56] at h
          refine A_pc (pc' := 57) rfl ?_
          refine A_pc (pc' := 57) rfl ?_
          refine A_sub (Ls' := [(0, vA 184), (1, vI x1), (2, vI x3), (3, vI q4)]) [3, 2, 1, 0] rfl ?_
          exact o_Mod_enter_57  _ _ _ _ _ _ h
def tb_Mod_sifted : List (Nat × Instr × Nat) := [(0, .aload_n 0, 1), (1, .iload_n 1, 1), (2, .iconst 1, 1), (3, .invokevirtual 315, 3), (6, .istore_n 2, 1), (7, .iconst 0, 1), (8, .istore_n 3, 1), (9, .iload_n 3, 1), (10, .iload_n 2, 1), (11, .if_icmp .ge 21, 3), (14, .aload_n 0, 1), (15, .getfield 124, 3), (18, .iload_n 3, 1), (19, .aload_n 0, 1), (20, .getfield 121, 3), (23, .iload_n 3, 1), (24, .iaload, 1), (25, .iastore, 1), (26, .iinc 3 1, 3), (29, .goto (-20), 3), (32, .aload_n 0, 1), (33, .iload_n 2, 1), (34, .ifCond .ge 10, 3), (37, .aload_n 0, 1), (38, .getfield 306, 3), (41, .goto 4, 3), (44, .iload_n 2, 1), (45, .putfield 306, 3), (48, .iload_n 2, 1), (49, .ifCond .lt 7, 3), (52, .iconst 1, 1), (53, .goto 4, 3), (56, .iconst 0, 1), (57, .ireturn, 1)]
def Y_Mod_sifted : ax_Y := (⟨"MethodWardenModel", "sifted", "(I)Z"⟩, prog_14_method_53_code, 4, some .boolean, tb_Mod_sifted)
theorem yok_Mod_sifted : yOK Y_Mod_sifted := ⟨by decide +kernel, by decide +kernel, inWG 1493 (by decide +kernel) (by decide +kernel), inWG 107 (by decide +kernel) (by decide +kernel), by decide +kernel⟩
def f_Mod_sifted_9_b (K9 : Int32 → Int32 → ax_M → Option (Int32 × ax_M)) (l2 : Int32) (l3 : Int32) (M : ax_M) : Option (Int32 × ax_M) :=
  if l2 ≤ l3 then (if 0 ≤ l2 then (kM (mI M 184 55 l2) (fun M5 => if l2 < 0 then (some (0, M5)) else (some (1, M5)))) else (kM (mI M 184 55 (gI M 184 55)) (fun M7 => if l2 < 0 then (some (0, M7)) else (some (1, M7))))) else (gi l3 5 (kM (mI M 220 l3.toNatClampNeg (gI M 219 l3.toNatClampNeg)) (fun M10 => kM (l3 + 1) (fun x11 => K9 l2 x11 M10))))
def f_Mod_sifted_9 : Nat → Int32 → Int32 → ax_M → Option (Int32 × ax_M)
  | 0, _, _, _ => none
  | n + 1, l2, l3, M => f_Mod_sifted_9_b  (f_Mod_sifted_9 n) l2 l3 M
set_option maxHeartbeats 4000000 in
set_option maxRecDepth 100000 in
theorem o_Mod_sifted_9_b {l : Launch} {g : ax_G} (K9 : Int32 → Int32 → ax_M → Option (Int32 × ax_M)) (hK9 : ∀ (l2 : Int32) (l3 : Int32) (M : ax_M) (r : Int32) (M' : ax_M), K9 l2 l3 M = some (r, M') → AW l g true Y_Mod_sifted 6 (some (vI r), M') 9 [(0, vA 184), (2, vI l2), (3, vI l3)] [] M) (l2 : Int32) (l3 : Int32) (M : ax_M) (r : Int32) (M' : ax_M) (h : f_Mod_sifted_9_b  K9 l2 l3 M = some (r, M')) : AW l g true Y_Mod_sifted 6 (some (vI r), M') 9 [(0, vA 184), (2, vI l2), (3, vI l3)] [] M := by
  unfold f_Mod_sifted_9_b at h
  refine A_iload_n 2 rfl rfl rfl ?_
  refine A_iload_n 1 rfl rfl rfl ?_
  refine A_icmp_ge (tgt := 32) rfl (by decide) (fun hc3 => ?_) (fun hc3 => ?_)
  · rw [if_pos hc3] at h
    refine A_aload_n 0 rfl rfl rfl ?_
    refine A_iload_n 1 rfl rfl rfl ?_
    refine A_if_ge (tgt := 44) rfl (by decide) (fun hc4 => ?_) (fun hc4 => ?_)
    · rw [if_pos hc4] at h
      refine A_iload_n 1 rfl rfl rfl ?_
      refine A_putI rfl (Or.inl fl_Mod_306) rfl (by decide) (Or.inl rfl) rfl ?_
      obtain ⟨M5, hM5, h⟩ := kM_out h
      refine A_mem hM5 ?_
      refine A_iload_n 1 rfl rfl rfl ?_
      refine A_if_lt (tgt := 56) rfl (by decide) (fun hc6 => ?_) (fun hc6 => ?_)
      · rw [if_pos hc6] at h
        refine A_iconst (v := 0) rfl (by decide) ?_
        obtain ⟨rfl, rfl⟩ := leaf h
        exact A_zret rfl rfl (Or.inl rfl)
      · rw [if_neg hc6] at h
        refine A_pc (pc' := 52) rfl ?_
        refine A_iconst (v := 1) rfl (by decide) ?_
        refine A_goto (tgt := 57) rfl (by decide) ?_
        obtain ⟨rfl, rfl⟩ := leaf h
        exact A_zret rfl rfl (Or.inr rfl)
    · rw [if_neg hc4] at h
      refine A_pc (pc' := 37) rfl ?_
      refine A_aload_n 0 rfl rfl rfl ?_
      refine A_getI rfl fl_Mod_306 rfl (by decide) (Or.inl rfl) ?_
      refine A_goto (tgt := 45) rfl (by decide) ?_
      refine A_putI rfl (Or.inl fl_Mod_306) rfl (by decide) (Or.inl rfl) rfl ?_
      obtain ⟨M7, hM7, h⟩ := kM_out h
      refine A_mem hM7 ?_
      refine A_iload_n 1 rfl rfl rfl ?_
      refine A_pc (pc' := 49) rfl ?_
      refine A_if_lt (tgt := 56) rfl (by decide) (fun hc8 => ?_) (fun hc8 => ?_)
      · rw [if_pos hc8] at h
        refine A_iconst (v := 0) rfl (by decide) ?_
        obtain ⟨rfl, rfl⟩ := leaf h
        exact A_zret rfl rfl (Or.inl rfl)
      · rw [if_neg hc8] at h
        refine A_pc (pc' := 52) rfl ?_
        refine A_iconst (v := 1) rfl (by decide) ?_
        refine A_goto (tgt := 57) rfl (by decide) ?_
        obtain ⟨rfl, rfl⟩ := leaf h
        exact A_zret rfl rfl (Or.inr rfl)
  · rw [if_neg hc3] at h
    refine A_pc (pc' := 14) rfl ?_
    refine A_aload_n 0 rfl rfl rfl ?_
    refine A_getL (r := 220) rfl fl_Mod_124 rfl (by decide) rfl rfl ?_
    refine A_iload_n 2 rfl rfl rfl ?_
    refine A_aload_n 0 rfl rfl rfl ?_
    refine A_getL (r := 219) rfl fl_Mod_121 rfl (by decide) rfl rfl ?_
    refine A_pc (pc' := 23) rfl ?_
    refine A_iload_n 2 rfl rfl rfl ?_
    obtain ⟨hg9, h⟩ := gi_out h
    refine A_iald (n := 5) rfl (by decide) (by decide) (Or.inl rfl) hg9 ?_
    refine A_iast (n := 5) rfl (by decide) (by decide) (Or.inl rfl) hg9 ?_
    obtain ⟨M10, hM10, h⟩ := kM_out h
    refine A_mem hM10 ?_
    obtain ⟨x11, hx11, h⟩ := kM_out h
    refine A_iinc 2 (v := x11) (Ls' := [(3, vI x11), (0, vA 184), (2, vI l2)]) rfl rfl ((iiN (k := 1) (by decide) _).trans hx11) (by decide) rfl ?_
    refine A_goto (tgt := 9) rfl (by decide) ?_
    refine A_pc (pc' := 9) rfl ?_
    refine A_sub (Ls' := [(0, vA 184), (2, vI l2), (3, vI x11)]) [1, 2, 0] rfl ?_
    exact hK9 _ _ _ _ _ h
theorem o_Mod_sifted_9 {l : Launch} {g : ax_G} : ∀ (n : Nat) (l2 : Int32) (l3 : Int32) (M : ax_M) (r : Int32) (M' : ax_M), f_Mod_sifted_9  n l2 l3 M = some (r, M') → AW l g true Y_Mod_sifted 6 (some (vI r), M') 9 [(0, vA 184), (2, vI l2), (3, vI l3)] [] M := by
  intro n
  induction n with
  | zero =>
    intro l2 l3 M r M' h
    cases h
  | succ n ih =>
    intro l2 l3 M r M' h
    exact o_Mod_sifted_9_b  _ ih _ _ _ _ _ h
def f_Mod_sifted (a1 : Int32) (M : ax_M) : Option (Int32 × ax_M) :=
  bnd (f_Mod_sift a1 1 M) (fun q1 M2 => f_Mod_sifted_9 64 q1 0 M2)
set_option maxHeartbeats 4000000 in
set_option maxRecDepth 100000 in
theorem c_Mod_sifted {l : Launch} {g : ax_G} {a1 : Int32} {M : ax_M} {r : Int32} {M' : ax_M} (h : f_Mod_sifted a1 M = some (r, M')) : Ctr l g true Y_Mod_sifted 6 [vA 184, vI a1] M (some (vI r), M') := by
  refine Ctr.ofAW yok_Mod_sifted (Nat.le_of_ble_eq_true rfl) (Or.inl rfl) ?_
  show AW l g true Y_Mod_sifted 6 (some (vI r), M') 0 [(0, vA 184), (1, vI a1)] [] M
  unfold f_Mod_sifted at h
  refine A_aload_n 0 rfl rfl rfl ?_
  refine A_iload_n 1 rfl rfl rfl ?_
  refine A_iconst (v := 1) rfl (by decide) ?_
  obtain ⟨q1, M2, hcq1, h⟩ := bnd_out h
  refine A_callV (ci := 11) (as := [vI a1, vI 1]) (st' := []) (r1 := (some (vI q1), M2)) rfl ml_Mod_315 rfl (by decide) (by decide) (Or.inl rfl) rfl rfl (Nat.le_of_ble_eq_true rfl) (by decide) (c_Mod_sift hcq1) (Or.inl rfl) ?_
  refine A_pc (pc' := 6) rfl ?_
  refine A_stk (st' := [vI q1]) rfl ?_
  refine A_istore_n (Ls' := [(2, vI q1), (0, vA 184), (1, vI a1)]) rfl rfl (by decide) rfl ?_
  refine A_pc (pc' := 7) rfl ?_
  refine A_iconst (v := 0) rfl (by decide) ?_
  refine A_istore_n (Ls' := [(3, vI 0), (2, vI q1), (0, vA 184), (1, vI a1)]) rfl rfl (by decide) rfl ?_
  refine A_pc (pc' := 9) rfl ?_
  refine A_sub (Ls' := [(0, vA 184), (2, vI q1), (3, vI 0)]) [2, 1, 0] rfl ?_
  exact o_Mod_sifted_9  _ _ _ _ _ _ h
def tb_Mod_leave : List (Nat × Instr × Nat) := [(0, .aload_n 0, 1), (1, .getfield 303, 3), (4, .iconst 1, 1), (5, .isub, 1), (6, .istore_n 2, 1), (7, .aload_n 0, 1), (8, .getfield 106, 3), (11, .iload_n 2, 1), (12, .iaload, 1), (13, .istore_n 3, 1), (14, .aload_n 0, 1), (15, .aload_n 0, 1), (16, .getfield 115, 3), (19, .iload_n 2, 1), (20, .iaload, 1), (21, .putfield 32, 3), (24, .aload_n 0, 1), (25, .aload_n 0, 1), (26, .getfield 118, 3), (29, .iload_n 2, 1), (30, .iaload, 1), (31, .putfield 213, 3), (34, .iload_n 1, 1), (35, .istore 4, 2), (37, .iload_n 1, 1), (38, .ifCond .ne 130, 3), (41, .aload_n 0, 1), (42, .invokevirtual 312, 3), (45, .aload_n 0, 1), (46, .aload_n 0, 1), (47, .getfield 327, 3), (50, .putfield 100, 3), (53, .aload_n 0, 1), (54, .aload_n 0, 1), (55, .getfield 306, 3), (58, .putfield 256, 3), (61, .iconst 0, 1), (62, .istore 5, 2), (64, .iload 5, 2), (66, .iconst 5, 1), (67, .if_icmp .ge 23, 3), (70, .aload_n 0, 1), (71, .getfield 103, 3), (74, .iload 5, 2), (76, .aload_n 0, 1), (77, .getfield 124, 3), (80, .iload 5, 2), (82, .iaload, 1), (83, .iastore, 1), (84, .iinc 5 1, 3), (87, .goto (-23), 3), (90, .aload_n 0, 1), (91, .getfield 48, 3), (94, .iload_n 3, 1), (95, .iaload, 1), (96, .ifCond .lt 16, 3), (99, .aload_n 0, 1), (100, .aload_n 0, 1), (101, .getfield 48, 3), (104, .iload_n 3, 1), (105, .iaload, 1), (106, .invokevirtual 300, 3), (109, .ifCond .eq 7, 3), (112, .iconst 1, 1), (113, .goto 4, 3), (116, .iconst 0, 1), (117, .istore 5, 2), (119, .iload 5, 2), (121, .ifCond .eq 44, 3), (124, .aload_n 0, 1), (125, .getfield 51, 3), (128, .iload_n 3, 1), (129, .iaload, 1), (130, .ifCond .lt 31, 3), (133, .aload_n 0, 1), (134, .getfield 327, 3), (137, .ifCond .eq 24, 3), (140, .aload_n 0, 1), (141, .getfield 327, 3), (144, .iconst 4, 1), (145, .if_icmp .ne 20, 3), (148, .aload_n 0, 1), (149, .aload_n 0, 1), (150, .getfield 51, 3), (153, .iload_n 3, 1), (154, .iaload, 1), (155, .invokevirtual 330, 3), (158, .ifCond .eq 7, 3), (161, .iconst 0, 1), (162, .goto 4, 3), (165, .iconst 4, 1), (166, .istore 4, 2), (168, .aload_n 0, 1), (169, .getfield 63, 3), (172, .bipush 6, 2), (174, .iload_n 3, 1), (175, .imul, 1), (176, .iload 4, 2), (178, .iadd, 1), (179, .dup2, 1), (180, .iaload, 1), (181, .iconst 1, 1), (182, .iadd, 1), (183, .iastore, 1), (184, .aload_n 0, 1), (185, .dup, 1), (186, .getfield 303, 3), (189, .iconst 1, 1), (190, .isub, 1), (191, .putfield 303, 3), (194, .iload 4, 2), (196, .ireturn, 1)]
def Y_Mod_leave : ax_Y := (⟨"MethodWardenModel", "leave", "(I)I"⟩, prog_14_method_52_code, 6, some .int, tb_Mod_leave)
theorem yok_Mod_leave : yOK Y_Mod_leave := ⟨by decide +kernel, by decide +kernel, inWG 1489 (by decide +kernel) (by decide +kernel), inWG 107 (by decide +kernel) (by decide +kernel), by decide +kernel⟩
theorem ml_Mod_330 : mlV "MethodWardenModel" 330 Y_Mod_sifted 1 := ⟨⟨yok_Mod_sifted, by decide +kernel, by decide⟩, Or.inl (inWG 1490 (by decide +kernel) (by decide +kernel)), inWG 1492 (by decide +kernel) (by decide +kernel), inWG 94 (by decide +kernel) (by decide +kernel)⟩
def f_Mod_leave_168 (l3 : Int32) (l4 : Int32) (M : ax_M) : Option (Int32 × ax_M) :=
  kM ((6 * l3) + l4) (fun x7 => gi x7 48 (kM (mI M 201 x7.toNatClampNeg ((gI M 201 x7.toNatClampNeg) + 1)) (fun M9 => kM (mI M9 184 52 ((gI M9 184 52) - 1)) (fun M10 => some (l4, M10)))))
set_option maxHeartbeats 4000000 in
set_option maxRecDepth 100000 in
theorem o_Mod_leave_168 {l : Launch} {g : ax_G} (l3 : Int32) (l4 : Int32) (M : ax_M) (r : Int32) (M' : ax_M) (h : f_Mod_leave_168  l3 l4 M = some (r, M')) : AW l g true Y_Mod_leave 7 (some (vI r), M') 168 [(0, vA 184), (3, vI l3), (4, vI l4)] [] M := by
  unfold f_Mod_leave_168 at h
  refine A_aload_n 0 rfl rfl rfl ?_
  refine A_getL (r := 201) rfl fl_Mod_63 rfl (by decide) rfl rfl ?_
  refine A_bipush (v := 6) rfl (by decide) ?_
  refine A_iload_n 1 rfl rfl rfl ?_
  refine A_imul rfl ?_
  refine A_pc (pc' := 176) rfl ?_
  refine A_iload 2 rfl rfl ?_
  refine A_iadd rfl ?_
  obtain ⟨x7, hx7, h⟩ := kM_out h
  refine A_nI hx7 ?_
  refine A_dup2 rfl rfl rfl ?_
  obtain ⟨hg8, h⟩ := gi_out h
  refine A_iald (n := 48) rfl (by decide) (by decide) (Or.inl rfl) hg8 ?_
  refine A_iconst (v := 1) rfl (by decide) ?_
  refine A_iadd rfl ?_
  refine A_pc (pc' := 183) rfl ?_
  refine A_iast (n := 48) rfl (by decide) (by decide) (Or.inl rfl) hg8 ?_
  obtain ⟨M9, hM9, h⟩ := kM_out h
  refine A_mem hM9 ?_
  refine A_aload_n 0 rfl rfl rfl ?_
  refine A_dup rfl rfl ?_
  refine A_getI rfl fl_Mod_303 rfl (by decide) (Or.inl rfl) ?_
  refine A_iconst (v := 1) rfl (by decide) ?_
  refine A_isub rfl ?_
  refine A_pc (pc' := 191) rfl ?_
  refine A_putI rfl (Or.inl fl_Mod_303) rfl (by decide) (Or.inl rfl) rfl ?_
  obtain ⟨M10, hM10, h⟩ := kM_out h
  refine A_mem hM10 ?_
  refine A_iload 2 rfl rfl ?_
  obtain ⟨rfl, rfl⟩ := leaf h
  exact A_iret rfl rfl
def f_Mod_leave_117 (l3 : Int32) (s0 : Int32) (M : ax_M) : Option (Int32 × ax_M) :=
  if s0 = 0 then (f_Mod_leave_168 l3 4 M) else (gi l3 8 (if (gI M 197 l3.toNatClampNeg) < 0 then (f_Mod_leave_168 l3 0 M) else (if (gI M 184 54) = 0 then (f_Mod_leave_168 l3 0 M) else (if (gI M 184 54) = 4 then (bnd (f_Mod_sifted (gI M 197 l3.toNatClampNeg) M) (fun q23 M24 => if q23 = 0 then (f_Mod_leave_168 l3 4 M24) else (f_Mod_leave_168 l3 0 M24))) else (f_Mod_leave_168 l3 4 M)))))
set_option maxHeartbeats 4000000 in
set_option maxRecDepth 100000 in
theorem o_Mod_leave_117 {l : Launch} {g : ax_G} (l3 : Int32) (s0 : Int32) (M : ax_M) (r : Int32) (M' : ax_M) (h : f_Mod_leave_117  l3 s0 M = some (r, M')) : AW l g true Y_Mod_leave 7 (some (vI r), M') 117 [(0, vA 184), (3, vI l3)] [vI s0] M := by
  unfold f_Mod_leave_117 at h
  refine A_istore (Ls' := [(5, vI s0), (0, vA 184), (3, vI l3)]) rfl (by decide) rfl ?_
  refine A_iload 0 rfl rfl ?_
  refine A_if_eq (tgt := 165) rfl (by decide) (fun hc18 => ?_) (fun hc18 => ?_)
  · rw [if_pos hc18] at h
    refine A_iconst (v := 4) rfl (by decide) ?_
    refine A_istore (Ls' := [(4, vI 4), (5, vI s0), (0, vA 184), (3, vI l3)]) rfl (by decide) rfl ?_
    refine A_pc (pc' := 168) rfl ?_
    refine A_sub (Ls' := [(0, vA 184), (3, vI l3), (4, vI 4)]) [2, 3, 0] rfl ?_
    exact o_Mod_leave_168  _ _ _ _ _ h
  · rw [if_neg hc18] at h
    refine A_pc (pc' := 124) rfl ?_
    refine A_aload_n 1 rfl rfl rfl ?_
    refine A_getL (r := 197) rfl fl_Mod_51 rfl (by decide) rfl rfl ?_
    refine A_iload_n 2 rfl rfl rfl ?_
    obtain ⟨hg19, h⟩ := gi_out h
    refine A_iald (n := 8) rfl (by decide) (by decide) (Or.inl rfl) hg19 ?_
    refine A_if_lt (tgt := 161) rfl (by decide) (fun hc20 => ?_) (fun hc20 => ?_)
    · rw [if_pos hc20] at h
      refine A_iconst (v := 0) rfl (by decide) ?_
      refine A_goto (tgt := 166) rfl (by decide) ?_
      refine A_istore (Ls' := [(4, vI 0), (5, vI s0), (0, vA 184), (3, vI l3)]) rfl (by decide) rfl ?_
      refine A_pc (pc' := 168) rfl ?_
      refine A_sub (Ls' := [(0, vA 184), (3, vI l3), (4, vI 0)]) [2, 3, 0] rfl ?_
      exact o_Mod_leave_168  _ _ _ _ _ h
    · rw [if_neg hc20] at h
      refine A_pc (pc' := 133) rfl ?_
      refine A_aload_n 1 rfl rfl rfl ?_
      refine A_getI rfl fl_Mod_327 rfl (by decide) (Or.inl rfl) ?_
      refine A_if_eq (tgt := 161) rfl (by decide) (fun hc21 => ?_) (fun hc21 => ?_)
      · rw [if_pos hc21] at h
        refine A_iconst (v := 0) rfl (by decide) ?_
        refine A_goto (tgt := 166) rfl (by decide) ?_
        refine A_istore (Ls' := [(4, vI 0), (5, vI s0), (0, vA 184), (3, vI l3)]) rfl (by decide) rfl ?_
        refine A_pc (pc' := 168) rfl ?_
        refine A_sub (Ls' := [(0, vA 184), (3, vI l3), (4, vI 0)]) [2, 3, 0] rfl ?_
        exact o_Mod_leave_168  _ _ _ _ _ h
      · rw [if_neg hc21] at h
        refine A_pc (pc' := 140) rfl ?_
        refine A_aload_n 1 rfl rfl rfl ?_
        refine A_getI rfl fl_Mod_327 rfl (by decide) (Or.inl rfl) ?_
        refine A_iconst (v := 4) rfl (by decide) ?_
        refine A_icmp_ne (tgt := 165) rfl (by decide) (fun hc22 => ?_) (fun hc22 => ?_)
        · rw [if_neg hc22] at h
          refine A_iconst (v := 4) rfl (by decide) ?_
          refine A_istore (Ls' := [(4, vI 4), (5, vI s0), (0, vA 184), (3, vI l3)]) rfl (by decide) rfl ?_
          refine A_pc (pc' := 168) rfl ?_
          refine A_sub (Ls' := [(0, vA 184), (3, vI l3), (4, vI 4)]) [2, 3, 0] rfl ?_
          exact o_Mod_leave_168  _ _ _ _ _ h
        · rw [if_pos hc22] at h
          refine A_pc (pc' := 148) rfl ?_
          refine A_aload_n 1 rfl rfl rfl ?_
          refine A_aload_n 1 rfl rfl rfl ?_
          refine A_getL (r := 197) rfl fl_Mod_51 rfl (by decide) rfl rfl ?_
          refine A_iload_n 2 rfl rfl rfl ?_
          refine A_iald (n := 8) rfl (by decide) (by decide) (Or.inl rfl) hg19 ?_
          refine A_pc (pc' := 155) rfl ?_
          obtain ⟨q23, M24, hcq23, h⟩ := bnd_out h
          refine A_callV (ci := 11) (as := [vI (gI M 197 l3.toNatClampNeg)]) (st' := []) (r1 := (some (vI q23), M24)) rfl ml_Mod_330 rfl (by decide) (by decide) (Or.inl rfl) rfl rfl (Nat.le_of_ble_eq_true rfl) (by decide) (c_Mod_sifted hcq23) (Or.inl rfl) ?_
          refine A_pc (pc' := 158) rfl ?_
          refine A_stk (st' := [vI q23]) rfl ?_
          refine A_if_eq (tgt := 165) rfl (by decide) (fun hc25 => ?_) (fun hc25 => ?_)
          · rw [if_pos hc25] at h
            refine A_iconst (v := 4) rfl (by decide) ?_
            refine A_istore (Ls' := [(4, vI 4), (5, vI s0), (0, vA 184), (3, vI l3)]) rfl (by decide) rfl ?_
            refine A_pc (pc' := 168) rfl ?_
            refine A_sub (Ls' := [(0, vA 184), (3, vI l3), (4, vI 4)]) [2, 3, 0] rfl ?_
            exact o_Mod_leave_168  _ _ _ _ _ h
          · rw [if_neg hc25] at h
            refine A_pc (pc' := 161) rfl ?_
            refine A_iconst (v := 0) rfl (by decide) ?_
            refine A_goto (tgt := 166) rfl (by decide) ?_
            refine A_istore (Ls' := [(4, vI 0), (5, vI s0), (0, vA 184), (3, vI l3)]) rfl (by decide) rfl ?_
            refine A_pc (pc' := 168) rfl ?_
            refine A_sub (Ls' := [(0, vA 184), (3, vI l3), (4, vI 0)]) [2, 3, 0] rfl ?_
            exact o_Mod_leave_168  _ _ _ _ _ h
def f_Mod_leave_64_b (K64 : Int32 → Int32 → ax_M → Option (Int32 × ax_M)) (l3 : Int32) (l5 : Int32) (M : ax_M) : Option (Int32 × ax_M) :=
  if 5 ≤ l5 then (gi l3 8 (if (gI M 196 l3.toNatClampNeg) < 0 then (f_Mod_leave_117 l3 1 M) else (bnd (f_Mod_holds (gI M 196 l3.toNatClampNeg) M) (fun q26 M27 => if q26 = 0 then (f_Mod_leave_117 l3 0 M27) else (f_Mod_leave_117 l3 1 M27))))) else (gi l5 5 (kM (mI M 213 l5.toNatClampNeg (gI M 220 l5.toNatClampNeg)) (fun M30 => kM (l5 + 1) (fun x31 => K64 l3 x31 M30))))
def f_Mod_leave_64 : Nat → Int32 → Int32 → ax_M → Option (Int32 × ax_M)
  | 0, _, _, _ => none
  | n + 1, l3, l5, M => f_Mod_leave_64_b  (f_Mod_leave_64 n) l3 l5 M
set_option maxHeartbeats 4000000 in
set_option maxRecDepth 100000 in
theorem o_Mod_leave_64_b {l : Launch} {g : ax_G} (K64 : Int32 → Int32 → ax_M → Option (Int32 × ax_M)) (hK64 : ∀ (l3 : Int32) (l5 : Int32) (M : ax_M) (r : Int32) (M' : ax_M), K64 l3 l5 M = some (r, M') → AW l g true Y_Mod_leave 7 (some (vI r), M') 64 [(0, vA 184), (3, vI l3), (5, vI l5)] [] M) (l3 : Int32) (l5 : Int32) (M : ax_M) (r : Int32) (M' : ax_M) (h : f_Mod_leave_64_b  K64 l3 l5 M = some (r, M')) : AW l g true Y_Mod_leave 7 (some (vI r), M') 64 [(0, vA 184), (3, vI l3), (5, vI l5)] [] M := by
  unfold f_Mod_leave_64_b at h
  refine A_iload 2 rfl rfl ?_
  refine A_iconst (v := 5) rfl (by decide) ?_
  refine A_icmp_ge (tgt := 90) rfl (by decide) (fun hc15 => ?_) (fun hc15 => ?_)
  · rw [if_pos hc15] at h
    refine A_aload_n 0 rfl rfl rfl ?_
    refine A_getL (r := 196) rfl fl_Mod_48 rfl (by decide) rfl rfl ?_
    refine A_iload_n 1 rfl rfl rfl ?_
    obtain ⟨hg16, h⟩ := gi_out h
    refine A_iald (n := 8) rfl (by decide) (by decide) (Or.inl rfl) hg16 ?_
    refine A_if_lt (tgt := 112) rfl (by decide) (fun hc17 => ?_) (fun hc17 => ?_)
    · rw [if_pos hc17] at h
      refine A_iconst (v := 1) rfl (by decide) ?_
      refine A_goto (tgt := 117) rfl (by decide) ?_
      refine A_pc (pc' := 117) rfl ?_
      refine A_sub (Ls' := [(0, vA 184), (3, vI l3)]) [0, 1] rfl ?_
      exact o_Mod_leave_117  _ _ _ _ _ h
    · rw [if_neg hc17] at h
      refine A_pc (pc' := 99) rfl ?_
      refine A_aload_n 0 rfl rfl rfl ?_
      refine A_aload_n 0 rfl rfl rfl ?_
      refine A_getL (r := 196) rfl fl_Mod_48 rfl (by decide) rfl rfl ?_
      refine A_iload_n 1 rfl rfl rfl ?_
      refine A_iald (n := 8) rfl (by decide) (by decide) (Or.inl rfl) hg16 ?_
      refine A_pc (pc' := 106) rfl ?_
      obtain ⟨q26, M27, hcq26, h⟩ := bnd_out h
      refine A_callV (ci := 11) (as := [vI (gI M 196 l3.toNatClampNeg)]) (st' := []) (r1 := (some (vI q26), M27)) rfl ml_Mod_300 rfl (by decide) (by decide) (Or.inl rfl) rfl rfl (Nat.le_of_ble_eq_true rfl) (by decide) (c_Mod_holds hcq26) (Or.inl rfl) ?_
      refine A_pc (pc' := 109) rfl ?_
      refine A_stk (st' := [vI q26]) rfl ?_
      refine A_if_eq (tgt := 116) rfl (by decide) (fun hc28 => ?_) (fun hc28 => ?_)
      · rw [if_pos hc28] at h
        refine A_iconst (v := 0) rfl (by decide) ?_
        refine A_pc (pc' := 117) rfl ?_
        refine A_sub (Ls' := [(0, vA 184), (3, vI l3)]) [0, 1] rfl ?_
        exact o_Mod_leave_117  _ _ _ _ _ h
      · rw [if_neg hc28] at h
        refine A_pc (pc' := 112) rfl ?_
        refine A_iconst (v := 1) rfl (by decide) ?_
        refine A_goto (tgt := 117) rfl (by decide) ?_
        refine A_pc (pc' := 117) rfl ?_
        refine A_sub (Ls' := [(0, vA 184), (3, vI l3)]) [0, 1] rfl ?_
        exact o_Mod_leave_117  _ _ _ _ _ h
  · rw [if_neg hc15] at h
    refine A_pc (pc' := 70) rfl ?_
    refine A_aload_n 0 rfl rfl rfl ?_
    refine A_getL (r := 213) rfl fl_Mod_103 rfl (by decide) rfl rfl ?_
    refine A_iload 2 rfl rfl ?_
    refine A_aload_n 0 rfl rfl rfl ?_
    refine A_getL (r := 220) rfl fl_Mod_124 rfl (by decide) rfl rfl ?_
    refine A_pc (pc' := 80) rfl ?_
    refine A_iload 2 rfl rfl ?_
    obtain ⟨hg29, h⟩ := gi_out h
    refine A_iald (n := 5) rfl (by decide) (by decide) (Or.inl rfl) hg29 ?_
    refine A_iast (n := 5) rfl (by decide) (by decide) (Or.inl rfl) hg29 ?_
    obtain ⟨M30, hM30, h⟩ := kM_out h
    refine A_mem hM30 ?_
    obtain ⟨x31, hx31, h⟩ := kM_out h
    refine A_iinc 2 (v := x31) (Ls' := [(5, vI x31), (0, vA 184), (3, vI l3)]) rfl rfl ((iiN (k := 1) (by decide) _).trans hx31) (by decide) rfl ?_
    refine A_goto (tgt := 64) rfl (by decide) ?_
    refine A_pc (pc' := 64) rfl ?_
    refine A_sub (Ls' := [(0, vA 184), (3, vI l3), (5, vI x31)]) [1, 2, 0] rfl ?_
    exact hK64 _ _ _ _ _ h
theorem o_Mod_leave_64 {l : Launch} {g : ax_G} : ∀ (n : Nat) (l3 : Int32) (l5 : Int32) (M : ax_M) (r : Int32) (M' : ax_M), f_Mod_leave_64  n l3 l5 M = some (r, M') → AW l g true Y_Mod_leave 7 (some (vI r), M') 64 [(0, vA 184), (3, vI l3), (5, vI l5)] [] M := by
  intro n
  induction n with
  | zero =>
    intro l3 l5 M r M' h
    cases h
  | succ n ih =>
    intro l3 l5 M r M' h
    exact o_Mod_leave_64_b  _ ih _ _ _ _ _ h
def f_Mod_leave (a1 : Int32) (M : ax_M) : Option (Int32 × ax_M) :=
  kM ((gI M 184 52) - 1) (fun x1 => gi x1 8 (kM (gI M 214 x1.toNatClampNeg) (fun x3 => kM (mI M 184 13 (gI M 217 x1.toNatClampNeg)) (fun M4 => kM (mI M4 184 14 (gI M4 218 x1.toNatClampNeg)) (fun M5 => if a1 = 0 then (bnd (f_Mod_see  M5) (fun q11 M12 => kM (mI M12 184 44 (gI M12 184 54)) (fun M13 => kM (mI M13 184 45 (gI M13 184 55)) (fun M14 => f_Mod_leave_64 64 x3 0 M14)))) else (f_Mod_leave_168 x3 a1 M5))))))
set_option maxHeartbeats 4000000 in
set_option maxRecDepth 100000 in
theorem c_Mod_leave {l : Launch} {g : ax_G} {a1 : Int32} {M : ax_M} {r : Int32} {M' : ax_M} (h : f_Mod_leave a1 M = some (r, M')) : Ctr l g true Y_Mod_leave 7 [vA 184, vI a1] M (some (vI r), M') := by
  refine Ctr.ofAW yok_Mod_leave (Nat.le_of_ble_eq_true rfl) (Or.inl rfl) ?_
  show AW l g true Y_Mod_leave 7 (some (vI r), M') 0 [(0, vA 184), (1, vI a1)] [] M
  unfold f_Mod_leave at h
  refine A_aload_n 0 rfl rfl rfl ?_
  refine A_getI rfl fl_Mod_303 rfl (by decide) (Or.inl rfl) ?_
  refine A_iconst (v := 1) rfl (by decide) ?_
  refine A_isub rfl ?_
  obtain ⟨x1, hx1, h⟩ := kM_out h
  refine A_nI hx1 ?_
  refine A_istore_n (Ls' := [(2, vI x1), (0, vA 184), (1, vI a1)]) rfl rfl (by decide) rfl ?_
  refine A_pc (pc' := 7) rfl ?_
  refine A_aload_n 1 rfl rfl rfl ?_
  refine A_getL (r := 214) rfl fl_Mod_106 rfl (by decide) rfl rfl ?_
  refine A_iload_n 0 rfl rfl rfl ?_
  obtain ⟨hg2, h⟩ := gi_out h
  refine A_iald (n := 8) rfl (by decide) (by decide) (Or.inl rfl) hg2 ?_
  obtain ⟨x3, hx3, h⟩ := kM_out h
  refine A_nI hx3 ?_
  refine A_istore_n (Ls' := [(3, vI x3), (2, vI x1), (0, vA 184), (1, vI a1)]) rfl rfl (by decide) rfl ?_
  refine A_aload_n 2 rfl rfl rfl ?_
  refine A_pc (pc' := 15) rfl ?_
  refine A_aload_n 2 rfl rfl rfl ?_
  refine A_getL (r := 217) rfl fl_Mod_115 rfl (by decide) rfl rfl ?_
  refine A_iload_n 1 rfl rfl rfl ?_
  refine A_iald (n := 8) rfl (by decide) (by decide) (Or.inl rfl) hg2 ?_
  refine A_putI rfl (Or.inl fl_Mod_32) rfl (by decide) (Or.inl rfl) rfl ?_
  obtain ⟨M4, hM4, h⟩ := kM_out h
  refine A_mem hM4 ?_
  refine A_aload_n 2 rfl rfl rfl ?_
  refine A_pc (pc' := 25) rfl ?_
  refine A_aload_n 2 rfl rfl rfl ?_
  refine A_getL (r := 218) rfl fl_Mod_118 rfl (by decide) rfl rfl ?_
  refine A_iload_n 1 rfl rfl rfl ?_
  refine A_iald (n := 8) rfl (by decide) (by decide) (Or.inl rfl) hg2 ?_
  refine A_putI rfl (Or.inl fl_Mod_213) rfl (by decide) (Or.inl rfl) rfl ?_
  obtain ⟨M5, hM5, h⟩ := kM_out h
  refine A_mem hM5 ?_
  refine A_iload_n 3 rfl rfl rfl ?_
  refine A_pc (pc' := 35) rfl ?_
  refine A_istore (Ls' := [(4, vI a1), (3, vI x3), (2, vI x1), (0, vA 184), (1, vI a1)]) rfl (by decide) rfl ?_
  refine A_iload_n 4 rfl rfl rfl ?_
  refine A_if_ne (tgt := 168) rfl (by decide) (fun hc6 => ?_) (fun hc6 => ?_)
  · rw [if_neg hc6] at h
    refine A_pc (pc' := 168) rfl ?_
    refine A_sub (Ls' := [(0, vA 184), (3, vI x3), (4, vI a1)]) [3, 1, 0] rfl ?_
    exact o_Mod_leave_168  _ _ _ _ _ h
  · rw [if_pos hc6] at h
    refine A_pc (pc' := 41) rfl ?_
    refine A_aload_n 3 rfl rfl rfl ?_
    obtain ⟨q11, M12, hcq11, h⟩ := bnd_out h
    refine A_callV (ci := 11) (as := []) (st' := []) (r1 := (none, M12)) rfl ml_Mod_312 rfl (by decide) (by decide) (Or.inl rfl) rfl rfl (Nat.le_of_ble_eq_true rfl) (by decide) (c_Mod_see hcq11) (Or.inl rfl) ?_
    refine A_pc (pc' := 45) rfl ?_
    refine A_stk (st' := []) rfl ?_
    refine A_aload_n 3 rfl rfl rfl ?_
    refine A_aload_n 3 rfl rfl rfl ?_
    refine A_getI rfl fl_Mod_327 rfl (by decide) (Or.inl rfl) ?_
    refine A_pc (pc' := 50) rfl ?_
    refine A_putI rfl (Or.inl fl_Mod_100) rfl (by decide) (Or.inl rfl) rfl ?_
    obtain ⟨M13, hM13, h⟩ := kM_out h
    refine A_mem hM13 ?_
    refine A_aload_n 3 rfl rfl rfl ?_
    refine A_aload_n 3 rfl rfl rfl ?_
    refine A_getI rfl fl_Mod_306 rfl (by decide) (Or.inl rfl) ?_
    refine A_putI rfl (Or.inl fl_Mod_256) rfl (by decide) (Or.inl rfl) rfl ?_
    obtain ⟨M14, hM14, h⟩ := kM_out h
    refine A_mem hM14 ?_
    refine A_iconst (v := 0) rfl (by decide) ?_
    refine A_pc (pc' := 62) rfl ?_
    refine A_istore (Ls' := [(5, vI 0), (4, vI a1), (3, vI x3), (2, vI x1), (0, vA 184), (1, vI a1)]) rfl (by decide) rfl ?_
    refine A_pc (pc' := 64) rfl ?_
    refine A_sub (Ls' := [(0, vA 184), (3, vI x3), (5, vI 0)]) [4, 2, 0] rfl ?_
    exact o_Mod_leave_64  _ _ _ _ _ _ h
def tb_Mod_giveList : List (Nat × Instr × Nat) := [(0, .aload_n 0, 1), (1, .aload_n 0, 1), (2, .getfield 217, 3), (5, .putfield 249, 3), (8, .iconst 0, 1), (9, .istore_n 1, 1), (10, .iload_n 1, 1), (11, .aload_n 0, 1), (12, .getfield 217, 3), (15, .if_icmp .ge 21, 3), (18, .aload_n 0, 1), (19, .getfield 97, 3), (22, .iload_n 1, 1), (23, .aload_n 0, 1), (24, .getfield 36, 3), (27, .iload_n 1, 1), (28, .iaload, 1), (29, .iastore, 1), (30, .iinc 1 1, 3), (33, .goto (-23), 3), (36, .return_, 1)]
def Y_Mod_giveList : ax_Y := (⟨"MethodWardenModel", "giveList", "()V"⟩, prog_14_method_54_code, 2, none, tb_Mod_giveList)
theorem yok_Mod_giveList : yOK Y_Mod_giveList := ⟨by decide +kernel, by decide +kernel, inWG 1392 (by decide +kernel) (by decide +kernel), inWG 107 (by decide +kernel) (by decide +kernel), by decide +kernel⟩
def f_Mod_giveList_10_b (K10 : Int32 → ax_M → Option (Unit × ax_M)) (l1 : Int32) (M : ax_M) : Option (Unit × ax_M) :=
  if (gI M 184 16) ≤ l1 then (some ((), M)) else (gi l1 5 (kM (mI M 212 l1.toNatClampNeg (gI M 192 l1.toNatClampNeg)) (fun M4 => kM (l1 + 1) (fun x5 => K10 x5 M4))))
def f_Mod_giveList_10 : Nat → Int32 → ax_M → Option (Unit × ax_M)
  | 0, _, _ => none
  | n + 1, l1, M => f_Mod_giveList_10_b  (f_Mod_giveList_10 n) l1 M
set_option maxHeartbeats 4000000 in
set_option maxRecDepth 100000 in
theorem o_Mod_giveList_10_b {l : Launch} {g : ax_G} (K10 : Int32 → ax_M → Option (Unit × ax_M)) (hK10 : ∀ (l1 : Int32) (M : ax_M) (r : Unit) (M' : ax_M), K10 l1 M = some (r, M') → AW l g true Y_Mod_giveList 1 (none, M') 10 [(0, vA 184), (1, vI l1)] [] M) (l1 : Int32) (M : ax_M) (r : Unit) (M' : ax_M) (h : f_Mod_giveList_10_b  K10 l1 M = some (r, M')) : AW l g true Y_Mod_giveList 1 (none, M') 10 [(0, vA 184), (1, vI l1)] [] M := by
  unfold f_Mod_giveList_10_b at h
  refine A_iload_n 1 rfl rfl rfl ?_
  refine A_aload_n 0 rfl rfl rfl ?_
  refine A_getI rfl fl_Mod_217 rfl (by decide) (Or.inl rfl) ?_
  refine A_icmp_ge (tgt := 36) rfl (by decide) (fun hc2 => ?_) (fun hc2 => ?_)
  · rw [if_pos hc2] at h
    obtain ⟨rfl, rfl⟩ := leaf h
    exact A_vret rfl rfl
  · rw [if_neg hc2] at h
    refine A_pc (pc' := 18) rfl ?_
    refine A_aload_n 0 rfl rfl rfl ?_
    refine A_getL (r := 212) rfl fl_Mod_97 rfl (by decide) rfl rfl ?_
    refine A_iload_n 1 rfl rfl rfl ?_
    refine A_aload_n 0 rfl rfl rfl ?_
    refine A_getL (r := 192) rfl fl_Mod_36 rfl (by decide) rfl rfl ?_
    refine A_pc (pc' := 27) rfl ?_
    refine A_iload_n 1 rfl rfl rfl ?_
    obtain ⟨hg3, h⟩ := gi_out h
    refine A_iald (n := 5) rfl (by decide) (by decide) (Or.inl rfl) hg3 ?_
    refine A_iast (n := 5) rfl (by decide) (by decide) (Or.inl rfl) hg3 ?_
    obtain ⟨M4, hM4, h⟩ := kM_out h
    refine A_mem hM4 ?_
    obtain ⟨x5, hx5, h⟩ := kM_out h
    refine A_iinc 1 (v := x5) (Ls' := [(1, vI x5), (0, vA 184)]) rfl rfl ((iiN (k := 1) (by decide) _).trans hx5) (by decide) rfl ?_
    refine A_goto (tgt := 10) rfl (by decide) ?_
    refine A_pc (pc' := 10) rfl ?_
    refine A_sub (Ls' := [(0, vA 184), (1, vI x5)]) [1, 0] rfl ?_
    exact hK10 _ _ _ _ h
theorem o_Mod_giveList_10 {l : Launch} {g : ax_G} : ∀ (n : Nat) (l1 : Int32) (M : ax_M) (r : Unit) (M' : ax_M), f_Mod_giveList_10  n l1 M = some (r, M') → AW l g true Y_Mod_giveList 1 (none, M') 10 [(0, vA 184), (1, vI l1)] [] M := by
  intro n
  induction n with
  | zero =>
    intro l1 M r M' h
    cases h
  | succ n ih =>
    intro l1 M r M' h
    exact o_Mod_giveList_10_b  _ ih _ _ _ _ h
def f_Mod_giveList  (M : ax_M) : Option (Unit × ax_M) :=
  kM (mI M 184 43 (gI M 184 16)) (fun M1 => f_Mod_giveList_10 64 0 M1)
set_option maxHeartbeats 4000000 in
set_option maxRecDepth 100000 in
theorem c_Mod_giveList {l : Launch} {g : ax_G}  {M : ax_M} {r : Unit} {M' : ax_M} (h : f_Mod_giveList  M = some (r, M')) : Ctr l g true Y_Mod_giveList 1 [vA 184] M (none, M') := by
  refine Ctr.ofAW yok_Mod_giveList (Nat.le_of_ble_eq_true rfl) (Or.inl rfl) ?_
  show AW l g true Y_Mod_giveList 1 (none, M') 0 [(0, vA 184)] [] M
  unfold f_Mod_giveList at h
  refine A_aload_n 0 rfl rfl rfl ?_
  refine A_aload_n 0 rfl rfl rfl ?_
  refine A_getI rfl fl_Mod_217 rfl (by decide) (Or.inl rfl) ?_
  refine A_putI rfl (Or.inl fl_Mod_249) rfl (by decide) (Or.inl rfl) rfl ?_
  obtain ⟨M1, hM1, h⟩ := kM_out h
  refine A_mem hM1 ?_
  refine A_iconst (v := 0) rfl (by decide) ?_
  refine A_pc (pc' := 9) rfl ?_
  refine A_istore_n (Ls' := [(1, vI 0), (0, vA 184)]) rfl rfl (by decide) rfl ?_
  refine A_pc (pc' := 10) rfl ?_
  refine A_sub (Ls' := [(0, vA 184), (1, vI 0)]) [1, 0] rfl ?_
  exact o_Mod_giveList_10  _ _ _ _ _ h
def tb_Mod_call : List (Nat × Instr × Nat) := [(0, .iload_n 1, 1), (1, .ifCond .lt 9, 3), (4, .iload_n 1, 1), (5, .bipush 7, 2), (7, .if_icmp .le 5, 3), (10, .iconst (-1), 1), (11, .ireturn, 1), (12, .aload_n 0, 1), (13, .iload_n 2, 1), (14, .putfield 236, 3), (17, .aload_n 0, 1), (18, .lload_n 3, 1), (19, .putfield 239, 3), (22, .aload_n 0, 1), (23, .iconst 0, 1), (24, .putfield 303, 3), (27, .aload_n 0, 1), (28, .invokevirtual 333, 3), (31, .aload_n 0, 1), (32, .iload_n 1, 1), (33, .invokevirtual 321, 3), (36, .iconst (-1), 1), (37, .istore 5, 2), (39, .aload_n 0, 1), (40, .getfield 303, 3), (43, .ifCond .le 26, 3), (46, .iload 5, 2), (48, .ifCond .ge 10, 3), (51, .aload_n 0, 1), (52, .invokevirtual 336, 3), (55, .goto 9, 3), (58, .aload_n 0, 1), (59, .iload 5, 2), (61, .invokevirtual 339, 3), (64, .istore 5, 2), (66, .goto (-27), 3), (69, .aload_n 0, 1), (70, .iload 5, 2), (72, .ifCond .eq 7, 3), (75, .iconst (-1), 1), (76, .goto 28, 3), (79, .aload_n 0, 1), (80, .getfield 327, 3), (83, .iconst 4, 1), (84, .if_icmp .ne 7, 3), (87, .iconst 2, 1), (88, .goto 16, 3), (91, .aload_n 0, 1), (92, .getfield 327, 3), (95, .iconst 2, 1), (96, .if_icmp .ne 7, 3), (99, .iconst 1, 1), (100, .goto 4, 3), (103, .iconst 0, 1), (104, .putfield 127, 3), (107, .aload_n 0, 1), (108, .iload 5, 2), (110, .iconst 1, 1), (111, .if_icmp .gt 10, 3), (114, .aload_n 0, 1), (115, .getfield 127, 3), (118, .ifCond .ne 7, 3), (121, .iconst 0, 1), (122, .goto 7, 3), (125, .aload_n 0, 1), (126, .getfield 306, 3), (129, .putfield 342, 3), (132, .iconst 0, 1), (133, .istore 6, 2), (135, .iload 6, 2), (137, .iconst 5, 1), (138, .if_icmp .ge 23, 3), (141, .aload_n 0, 1), (142, .getfield 130, 3), (145, .iload 6, 2), (147, .aload_n 0, 1), (148, .getfield 124, 3), (151, .iload 6, 2), (153, .iaload, 1), (154, .iastore, 1), (155, .iinc 6 1, 3), (158, .goto (-23), 3), (161, .iload 5, 2), (163, .ireturn, 1)]
def Y_Mod_call : ax_Y := (⟨"MethodWardenModel", "call", "(IIJ)I"⟩, prog_14_method_55_code, 7, some .int, tb_Mod_call)
theorem yok_Mod_call : yOK Y_Mod_call := ⟨by decide +kernel, by decide +kernel, inWG 1388 (by decide +kernel) (by decide +kernel), inWG 107 (by decide +kernel) (by decide +kernel), by decide +kernel⟩
theorem fl_Mod_127 : fldOK "MethodWardenModel" 127 11 57 false := ⟨_, _, _, cls_Mod, by decide, by decide, rfl, Or.inl (inWG 1144 (by decide +kernel) (by decide +kernel))⟩
theorem fl_Mod_342 : fldOK "MethodWardenModel" 342 11 58 false := ⟨_, _, _, cls_Mod, by decide, by decide, rfl, Or.inl (inWG 1145 (by decide +kernel) (by decide +kernel))⟩
theorem fl_Mod_130 : fldOK "MethodWardenModel" 130 11 59 false := ⟨_, _, _, cls_Mod, by decide, by decide, rfl, Or.inl (inWG 1146 (by decide +kernel) (by decide +kernel))⟩
theorem ml_Mod_333 : mlV "MethodWardenModel" 333 Y_Mod_giveList 0 := ⟨⟨yok_Mod_giveList, by decide +kernel, by decide⟩, Or.inl (inWG 1389 (by decide +kernel) (by decide +kernel)), inWG 1391 (by decide +kernel) (by decide +kernel), inWG 69 (by decide +kernel) (by decide +kernel)⟩
theorem ml_Mod_339 : mlV "MethodWardenModel" 339 Y_Mod_leave 1 := ⟨⟨yok_Mod_leave, by decide +kernel, by decide⟩, Or.inl (inWG 1486 (by decide +kernel) (by decide +kernel)), inWG 1488 (by decide +kernel) (by decide +kernel), inWG 93 (by decide +kernel) (by decide +kernel)⟩
theorem ml_Mod_336 : mlV "MethodWardenModel" 336 Y_Mod_enter 0 := ⟨⟨yok_Mod_enter, by decide +kernel, by decide⟩, Or.inl (inWG 1397 (by decide +kernel) (by decide +kernel)), inWG 1399 (by decide +kernel) (by decide +kernel), inWG 71 (by decide +kernel) (by decide +kernel)⟩
def f_Mod_call_135_b (K135 : Int32 → Int32 → ax_M → Option (Int32 × ax_M)) (l5 : Int32) (l6 : Int32) (M : ax_M) : Option (Int32 × ax_M) :=
  if 5 ≤ l6 then (some (l5, M)) else (gi l6 5 (kM (mI M 221 l6.toNatClampNeg (gI M 220 l6.toNatClampNeg)) (fun M19 => kM (l6 + 1) (fun x20 => K135 l5 x20 M19))))
def f_Mod_call_135 : Nat → Int32 → Int32 → ax_M → Option (Int32 × ax_M)
  | 0, _, _, _ => none
  | n + 1, l5, l6, M => f_Mod_call_135_b  (f_Mod_call_135 n) l5 l6 M
set_option maxHeartbeats 4000000 in
set_option maxRecDepth 100000 in
theorem o_Mod_call_135_b {l : Launch} {g : ax_G} (K135 : Int32 → Int32 → ax_M → Option (Int32 × ax_M)) (hK135 : ∀ (l5 : Int32) (l6 : Int32) (M : ax_M) (r : Int32) (M' : ax_M), K135 l5 l6 M = some (r, M') → AW l g true Y_Mod_call 8 (some (vI r), M') 135 [(0, vA 184), (5, vI l5), (6, vI l6)] [] M) (l5 : Int32) (l6 : Int32) (M : ax_M) (r : Int32) (M' : ax_M) (h : f_Mod_call_135_b  K135 l5 l6 M = some (r, M')) : AW l g true Y_Mod_call 8 (some (vI r), M') 135 [(0, vA 184), (5, vI l5), (6, vI l6)] [] M := by
  unfold f_Mod_call_135_b at h
  refine A_iload 2 rfl rfl ?_
  refine A_iconst (v := 5) rfl (by decide) ?_
  refine A_icmp_ge (tgt := 161) rfl (by decide) (fun hc17 => ?_) (fun hc17 => ?_)
  · rw [if_pos hc17] at h
    refine A_iload 1 rfl rfl ?_
    obtain ⟨rfl, rfl⟩ := leaf h
    exact A_iret rfl rfl
  · rw [if_neg hc17] at h
    refine A_pc (pc' := 141) rfl ?_
    refine A_aload_n 0 rfl rfl rfl ?_
    refine A_getL (r := 221) rfl fl_Mod_130 rfl (by decide) rfl rfl ?_
    refine A_iload 2 rfl rfl ?_
    refine A_aload_n 0 rfl rfl rfl ?_
    refine A_getL (r := 220) rfl fl_Mod_124 rfl (by decide) rfl rfl ?_
    refine A_pc (pc' := 151) rfl ?_
    refine A_iload 2 rfl rfl ?_
    obtain ⟨hg18, h⟩ := gi_out h
    refine A_iald (n := 5) rfl (by decide) (by decide) (Or.inl rfl) hg18 ?_
    refine A_iast (n := 5) rfl (by decide) (by decide) (Or.inl rfl) hg18 ?_
    obtain ⟨M19, hM19, h⟩ := kM_out h
    refine A_mem hM19 ?_
    obtain ⟨x20, hx20, h⟩ := kM_out h
    refine A_iinc 2 (v := x20) (Ls' := [(6, vI x20), (0, vA 184), (5, vI l5)]) rfl rfl ((iiN (k := 1) (by decide) _).trans hx20) (by decide) rfl ?_
    refine A_goto (tgt := 135) rfl (by decide) ?_
    refine A_pc (pc' := 135) rfl ?_
    refine A_sub (Ls' := [(0, vA 184), (5, vI l5), (6, vI x20)]) [1, 2, 0] rfl ?_
    exact hK135 _ _ _ _ _ h
theorem o_Mod_call_135 {l : Launch} {g : ax_G} : ∀ (n : Nat) (l5 : Int32) (l6 : Int32) (M : ax_M) (r : Int32) (M' : ax_M), f_Mod_call_135  n l5 l6 M = some (r, M') → AW l g true Y_Mod_call 8 (some (vI r), M') 135 [(0, vA 184), (5, vI l5), (6, vI l6)] [] M := by
  intro n
  induction n with
  | zero =>
    intro l5 l6 M r M' h
    cases h
  | succ n ih =>
    intro l5 l6 M r M' h
    exact o_Mod_call_135_b  _ ih _ _ _ _ _ h
def f_Mod_call_104 (l5 : Int32) (s0 : Int32) (M : ax_M) : Option (Int32 × ax_M) :=
  kM (mI M 184 57 s0) (fun M14 => if 1 < l5 then (kM (mI M14 184 58 0) (fun M16 => f_Mod_call_135 64 l5 0 M16)) else (if (gI M14 184 57) = 0 then (kM (mI M14 184 58 0) (fun M23 => f_Mod_call_135 64 l5 0 M23)) else (kM (mI M14 184 58 (gI M14 184 55)) (fun M22 => f_Mod_call_135 64 l5 0 M22))))
set_option maxHeartbeats 4000000 in
set_option maxRecDepth 100000 in
theorem o_Mod_call_104 {l : Launch} {g : ax_G} (l5 : Int32) (s0 : Int32) (M : ax_M) (r : Int32) (M' : ax_M) (h : f_Mod_call_104  l5 s0 M = some (r, M')) : AW l g true Y_Mod_call 8 (some (vI r), M') 104 [(0, vA 184), (5, vI l5)] [vI s0, vA 184] M := by
  unfold f_Mod_call_104 at h
  refine A_putI rfl (Or.inl fl_Mod_127) rfl (by decide) (Or.inl rfl) rfl ?_
  obtain ⟨M14, hM14, h⟩ := kM_out h
  refine A_mem hM14 ?_
  refine A_aload_n 0 rfl rfl rfl ?_
  refine A_iload 1 rfl rfl ?_
  refine A_iconst (v := 1) rfl (by decide) ?_
  refine A_icmp_gt (tgt := 121) rfl (by decide) (fun hc15 => ?_) (fun hc15 => ?_)
  · rw [if_pos hc15] at h
    refine A_iconst (v := 0) rfl (by decide) ?_
    refine A_goto (tgt := 129) rfl (by decide) ?_
    refine A_putI rfl (Or.inl fl_Mod_342) rfl (by decide) (Or.inl rfl) rfl ?_
    obtain ⟨M16, hM16, h⟩ := kM_out h
    refine A_mem hM16 ?_
    refine A_iconst (v := 0) rfl (by decide) ?_
    refine A_istore (Ls' := [(6, vI 0), (0, vA 184), (5, vI l5)]) rfl (by decide) rfl ?_
    refine A_pc (pc' := 135) rfl ?_
    refine A_sub (Ls' := [(0, vA 184), (5, vI l5), (6, vI 0)]) [1, 2, 0] rfl ?_
    exact o_Mod_call_135  _ _ _ _ _ _ h
  · rw [if_neg hc15] at h
    refine A_pc (pc' := 114) rfl ?_
    refine A_aload_n 0 rfl rfl rfl ?_
    refine A_getI rfl fl_Mod_127 rfl (by decide) (Or.inl rfl) ?_
    refine A_if_ne (tgt := 125) rfl (by decide) (fun hc21 => ?_) (fun hc21 => ?_)
    · rw [if_neg hc21] at h
      refine A_aload_n 0 rfl rfl rfl ?_
      refine A_getI rfl fl_Mod_306 rfl (by decide) (Or.inl rfl) ?_
      refine A_putI rfl (Or.inl fl_Mod_342) rfl (by decide) (Or.inl rfl) rfl ?_
      obtain ⟨M22, hM22, h⟩ := kM_out h
      refine A_mem hM22 ?_
      refine A_iconst (v := 0) rfl (by decide) ?_
      refine A_istore (Ls' := [(6, vI 0), (0, vA 184), (5, vI l5)]) rfl (by decide) rfl ?_
      refine A_pc (pc' := 135) rfl ?_
      refine A_sub (Ls' := [(0, vA 184), (5, vI l5), (6, vI 0)]) [1, 2, 0] rfl ?_
      exact o_Mod_call_135  _ _ _ _ _ _ h
    · rw [if_pos hc21] at h
      refine A_pc (pc' := 121) rfl ?_
      refine A_iconst (v := 0) rfl (by decide) ?_
      refine A_goto (tgt := 129) rfl (by decide) ?_
      refine A_putI rfl (Or.inl fl_Mod_342) rfl (by decide) (Or.inl rfl) rfl ?_
      obtain ⟨M23, hM23, h⟩ := kM_out h
      refine A_mem hM23 ?_
      refine A_iconst (v := 0) rfl (by decide) ?_
      refine A_istore (Ls' := [(6, vI 0), (0, vA 184), (5, vI l5)]) rfl (by decide) rfl ?_
      refine A_pc (pc' := 135) rfl ?_
      refine A_sub (Ls' := [(0, vA 184), (5, vI l5), (6, vI 0)]) [1, 2, 0] rfl ?_
      exact o_Mod_call_135  _ _ _ _ _ _ h
def f_Mod_call_39_b (K39 : Int32 → ax_M → Option (Int32 × ax_M)) (l5 : Int32) (M : ax_M) : Option (Int32 × ax_M) :=
  if (gI M 184 52) ≤ 0 then (if l5 = 0 then (if (gI M 184 54) = 4 then (f_Mod_call_104 l5 2 M) else (if (gI M 184 54) = 2 then (f_Mod_call_104 l5 1 M) else (f_Mod_call_104 l5 0 M))) else (f_Mod_call_104 l5 ((-1)) M)) else (if 0 ≤ l5 then (bnd (f_Mod_leave l5 M) (fun q25 M26 => K39 q25 M26)) else (bnd (f_Mod_enter  M) (fun q27 M28 => K39 q27 M28)))
def f_Mod_call_39 : Nat → Int32 → ax_M → Option (Int32 × ax_M)
  | 0, _, _ => none
  | n + 1, l5, M => f_Mod_call_39_b  (f_Mod_call_39 n) l5 M
set_option maxHeartbeats 4000000 in
set_option maxRecDepth 100000 in
theorem o_Mod_call_39_b {l : Launch} {g : ax_G} (K39 : Int32 → ax_M → Option (Int32 × ax_M)) (hK39 : ∀ (l5 : Int32) (M : ax_M) (r : Int32) (M' : ax_M), K39 l5 M = some (r, M') → AW l g true Y_Mod_call 8 (some (vI r), M') 39 [(0, vA 184), (5, vI l5)] [] M) (l5 : Int32) (M : ax_M) (r : Int32) (M' : ax_M) (h : f_Mod_call_39_b  K39 l5 M = some (r, M')) : AW l g true Y_Mod_call 8 (some (vI r), M') 39 [(0, vA 184), (5, vI l5)] [] M := by
  unfold f_Mod_call_39_b at h
  refine A_aload_n 0 rfl rfl rfl ?_
  refine A_getI rfl fl_Mod_303 rfl (by decide) (Or.inl rfl) ?_
  refine A_if_le (tgt := 69) rfl (by decide) (fun hc10 => ?_) (fun hc10 => ?_)
  · rw [if_pos hc10] at h
    refine A_aload_n 0 rfl rfl rfl ?_
    refine A_iload 1 rfl rfl ?_
    refine A_if_eq (tgt := 79) rfl (by decide) (fun hc11 => ?_) (fun hc11 => ?_)
    · rw [if_pos hc11] at h
      refine A_aload_n 0 rfl rfl rfl ?_
      refine A_getI rfl fl_Mod_327 rfl (by decide) (Or.inl rfl) ?_
      refine A_iconst (v := 4) rfl (by decide) ?_
      refine A_icmp_ne (tgt := 91) rfl (by decide) (fun hc12 => ?_) (fun hc12 => ?_)
      · rw [if_neg hc12] at h
        refine A_aload_n 0 rfl rfl rfl ?_
        refine A_getI rfl fl_Mod_327 rfl (by decide) (Or.inl rfl) ?_
        refine A_iconst (v := 2) rfl (by decide) ?_
        refine A_icmp_ne (tgt := 103) rfl (by decide) (fun hc13 => ?_) (fun hc13 => ?_)
        · rw [if_neg hc13] at h
          refine A_iconst (v := 0) rfl (by decide) ?_
          refine A_pc (pc' := 104) rfl ?_
          refine A_sub (Ls' := [(0, vA 184), (5, vI l5)]) [0, 1] rfl ?_
          exact o_Mod_call_104  _ _ _ _ _ h
        · rw [if_pos hc13] at h
          refine A_pc (pc' := 99) rfl ?_
          refine A_iconst (v := 1) rfl (by decide) ?_
          refine A_goto (tgt := 104) rfl (by decide) ?_
          refine A_pc (pc' := 104) rfl ?_
          refine A_sub (Ls' := [(0, vA 184), (5, vI l5)]) [0, 1] rfl ?_
          exact o_Mod_call_104  _ _ _ _ _ h
      · rw [if_pos hc12] at h
        refine A_pc (pc' := 87) rfl ?_
        refine A_iconst (v := 2) rfl (by decide) ?_
        refine A_goto (tgt := 104) rfl (by decide) ?_
        refine A_pc (pc' := 104) rfl ?_
        refine A_sub (Ls' := [(0, vA 184), (5, vI l5)]) [0, 1] rfl ?_
        exact o_Mod_call_104  _ _ _ _ _ h
    · rw [if_neg hc11] at h
      refine A_pc (pc' := 75) rfl ?_
      refine A_iconst (v := (-1)) rfl (by decide) ?_
      refine A_goto (tgt := 104) rfl (by decide) ?_
      refine A_pc (pc' := 104) rfl ?_
      refine A_sub (Ls' := [(0, vA 184), (5, vI l5)]) [0, 1] rfl ?_
      exact o_Mod_call_104  _ _ _ _ _ h
  · rw [if_neg hc10] at h
    refine A_pc (pc' := 46) rfl ?_
    refine A_iload 1 rfl rfl ?_
    refine A_if_ge (tgt := 58) rfl (by decide) (fun hc24 => ?_) (fun hc24 => ?_)
    · rw [if_pos hc24] at h
      refine A_aload_n 0 rfl rfl rfl ?_
      refine A_iload 1 rfl rfl ?_
      obtain ⟨q25, M26, hcq25, h⟩ := bnd_out h
      refine A_callV (ci := 11) (as := [vI l5]) (st' := []) (r1 := (some (vI q25), M26)) rfl ml_Mod_339 rfl (by decide) (by decide) (Or.inl rfl) rfl rfl (Nat.le_of_ble_eq_true rfl) (by decide) (c_Mod_leave hcq25) (Or.inl rfl) ?_
      refine A_pc (pc' := 64) rfl ?_
      refine A_stk (st' := [vI q25]) rfl ?_
      refine A_istore (Ls' := [(5, vI q25), (0, vA 184)]) rfl (by decide) rfl ?_
      refine A_goto (tgt := 39) rfl (by decide) ?_
      refine A_pc (pc' := 39) rfl ?_
      refine A_sub (Ls' := [(0, vA 184), (5, vI q25)]) [1, 0] rfl ?_
      exact hK39 _ _ _ _ h
    · rw [if_neg hc24] at h
      refine A_pc (pc' := 51) rfl ?_
      refine A_aload_n 0 rfl rfl rfl ?_
      obtain ⟨q27, M28, hcq27, h⟩ := bnd_out h
      refine A_callV (ci := 11) (as := []) (st' := []) (r1 := (some (vI q27), M28)) rfl ml_Mod_336 rfl (by decide) (by decide) (Or.inl rfl) rfl rfl (Nat.le_of_ble_eq_true rfl) (by decide) (c_Mod_enter hcq27) (Or.inl rfl) ?_
      refine A_pc (pc' := 55) rfl ?_
      refine A_stk (st' := [vI q27]) rfl ?_
      refine A_goto (tgt := 64) rfl (by decide) ?_
      refine A_istore (Ls' := [(5, vI q27), (0, vA 184)]) rfl (by decide) rfl ?_
      refine A_goto (tgt := 39) rfl (by decide) ?_
      refine A_pc (pc' := 39) rfl ?_
      refine A_sub (Ls' := [(0, vA 184), (5, vI q27)]) [1, 0] rfl ?_
      exact hK39 _ _ _ _ h
theorem o_Mod_call_39 {l : Launch} {g : ax_G} : ∀ (n : Nat) (l5 : Int32) (M : ax_M) (r : Int32) (M' : ax_M), f_Mod_call_39  n l5 M = some (r, M') → AW l g true Y_Mod_call 8 (some (vI r), M') 39 [(0, vA 184), (5, vI l5)] [] M := by
  intro n
  induction n with
  | zero =>
    intro l5 M r M' h
    cases h
  | succ n ih =>
    intro l5 M r M' h
    exact o_Mod_call_39_b  _ ih _ _ _ _ h
def f_Mod_call (a1 : Int32) (a2 : Int32) (a3 : Int64) (M : ax_M) : Option (Int32 × ax_M) :=
  if a1 < 0 then (some ((-1), M)) else (if a1 ≤ 7 then (kM (mI M 184 40 a2) (fun M3 => kM (mJ M3 184 41 a3) (fun M4 => kM (mI M4 184 52 0) (fun M5 => bnd (f_Mod_giveList  M5) (fun q6 M7 => bnd (f_Mod_open a1 M7) (fun q8 M9 => f_Mod_call_39 64 ((-1)) M9)))))) else (some ((-1), M)))
set_option maxHeartbeats 4000000 in
set_option maxRecDepth 100000 in
theorem c_Mod_call {l : Launch} {g : ax_G} {a1 : Int32} {a2 : Int32} {a3 : Int64} {M : ax_M} {r : Int32} {M' : ax_M} (h : f_Mod_call a1 a2 a3 M = some (r, M')) : Ctr l g true Y_Mod_call 8 [vA 184, vI a1, vI a2, vJ a3] M (some (vI r), M') := by
  refine Ctr.ofAW yok_Mod_call (Nat.le_of_ble_eq_true rfl) (Or.inl rfl) ?_
  show AW l g true Y_Mod_call 8 (some (vI r), M') 0 [(0, vA 184), (1, vI a1), (2, vI a2), (3, vJ a3)] [] M
  unfold f_Mod_call at h
  refine A_iload_n 1 rfl rfl rfl ?_
  refine A_if_lt (tgt := 10) rfl (by decide) (fun hc1 => ?_) (fun hc1 => ?_)
  · rw [if_pos hc1] at h
    refine A_iconst (v := (-1)) rfl (by decide) ?_
    obtain ⟨rfl, rfl⟩ := leaf h
    exact A_iret rfl rfl
  · rw [if_neg hc1] at h
    refine A_pc (pc' := 4) rfl ?_
    refine A_iload_n 1 rfl rfl rfl ?_
    refine A_bipush (v := 7) rfl (by decide) ?_
    refine A_icmp_le (tgt := 12) rfl (by decide) (fun hc2 => ?_) (fun hc2 => ?_)
    · rw [if_pos hc2] at h
      refine A_aload_n 0 rfl rfl rfl ?_
      refine A_iload_n 2 rfl rfl rfl ?_
      refine A_putI rfl (Or.inl fl_Mod_236) rfl (by decide) (Or.inl rfl) rfl ?_
      obtain ⟨M3, hM3, h⟩ := kM_out h
      refine A_mem hM3 ?_
      refine A_aload_n 0 rfl rfl rfl ?_
      refine A_lload_n 3 rfl rfl rfl ?_
      refine A_pc (pc' := 19) rfl ?_
      refine A_putJ rfl (Or.inl fl_Mod_239) rfl (by decide) (Or.inl rfl) rfl ?_
      obtain ⟨M4, hM4, h⟩ := kM_out h
      refine A_mem hM4 ?_
      refine A_aload_n 0 rfl rfl rfl ?_
      refine A_iconst (v := 0) rfl (by decide) ?_
      refine A_putI rfl (Or.inl fl_Mod_303) rfl (by decide) (Or.inl rfl) rfl ?_
      obtain ⟨M5, hM5, h⟩ := kM_out h
      refine A_mem hM5 ?_
      refine A_aload_n 0 rfl rfl rfl ?_
      obtain ⟨q6, M7, hcq6, h⟩ := bnd_out h
      refine A_callV (ci := 11) (as := []) (st' := []) (r1 := (none, M7)) rfl ml_Mod_333 rfl (by decide) (by decide) (Or.inl rfl) rfl rfl (Nat.le_of_ble_eq_true rfl) (by decide) (c_Mod_giveList hcq6) (Or.inl rfl) ?_
      refine A_pc (pc' := 31) rfl ?_
      refine A_stk (st' := []) rfl ?_
      refine A_pc (pc' := 31) rfl ?_
      refine A_aload_n 0 rfl rfl rfl ?_
      refine A_iload_n 1 rfl rfl rfl ?_
      obtain ⟨q8, M9, hcq8, h⟩ := bnd_out h
      refine A_callV (ci := 11) (as := [vI a1]) (st' := []) (r1 := (none, M9)) rfl ml_Mod_321 rfl (by decide) (by decide) (Or.inl rfl) rfl rfl (Nat.le_of_ble_eq_true rfl) (by decide) (c_Mod_open hcq8) (Or.inl rfl) ?_
      refine A_pc (pc' := 36) rfl ?_
      refine A_stk (st' := []) rfl ?_
      refine A_iconst (v := (-1)) rfl (by decide) ?_
      refine A_istore (Ls' := [(5, vI ((-1))), (0, vA 184), (1, vI a1), (2, vI a2), (3, vJ a3)]) rfl (by decide) rfl ?_
      refine A_pc (pc' := 39) rfl ?_
      refine A_sub (Ls' := [(0, vA 184), (5, vI ((-1)))]) [1, 0] rfl ?_
      exact o_Mod_call_39  _ _ _ _ _ h
    · rw [if_neg hc2] at h
      refine A_pc (pc' := 10) rfl ?_
      refine A_iconst (v := (-1)) rfl (by decide) ?_
      obtain ⟨rfl, rfl⟩ := leaf h
      exact A_iret rfl rfl
def tb_Mod_kind : List (Nat × Instr × Nat) := [(0, .aload_n 0, 1), (1, .getfield 127, 3), (4, .ireturn, 1)]
def Y_Mod_kind : ax_Y := (⟨"MethodWardenModel", "kind", "()I"⟩, prog_14_method_56_code, 1, some .int, tb_Mod_kind)
theorem yok_Mod_kind : yOK Y_Mod_kind := ⟨by decide +kernel, by decide +kernel, inWG 1497 (by decide +kernel) (by decide +kernel), inWG 107 (by decide +kernel) (by decide +kernel), by decide +kernel⟩
def f_Mod_kind  (M : ax_M) : Option (Int32 × ax_M) :=
  some (gI M 184 57, M)
set_option maxHeartbeats 4000000 in
set_option maxRecDepth 100000 in
theorem c_Mod_kind {l : Launch} {g : ax_G}  {M : ax_M} {r : Int32} {M' : ax_M} (h : f_Mod_kind  M = some (r, M')) : Ctr l g true Y_Mod_kind 1 [vA 184] M (some (vI r), M') := by
  refine Ctr.ofAW yok_Mod_kind (Nat.le_of_ble_eq_true rfl) (Or.inl rfl) ?_
  show AW l g true Y_Mod_kind 1 (some (vI r), M') 0 [(0, vA 184)] [] M
  unfold f_Mod_kind at h
  refine A_aload_n 0 rfl rfl rfl ?_
  refine A_getI rfl fl_Mod_127 rfl (by decide) (Or.inl rfl) ?_
  obtain ⟨rfl, rfl⟩ := leaf h
  exact A_iret rfl rfl
def tb_Mod_number : List (Nat × Instr × Nat) := [(0, .aload_n 0, 1), (1, .getfield 342, 3), (4, .ireturn, 1)]
def Y_Mod_number : ax_Y := (⟨"MethodWardenModel", "number", "()I"⟩, prog_14_method_57_code, 1, some .int, tb_Mod_number)
theorem yok_Mod_number : yOK Y_Mod_number := ⟨by decide +kernel, by decide +kernel, inWG 1501 (by decide +kernel) (by decide +kernel), inWG 107 (by decide +kernel) (by decide +kernel), by decide +kernel⟩
def f_Mod_number  (M : ax_M) : Option (Int32 × ax_M) :=
  some (gI M 184 58, M)
set_option maxHeartbeats 4000000 in
set_option maxRecDepth 100000 in
theorem c_Mod_number {l : Launch} {g : ax_G}  {M : ax_M} {r : Int32} {M' : ax_M} (h : f_Mod_number  M = some (r, M')) : Ctr l g true Y_Mod_number 1 [vA 184] M (some (vI r), M') := by
  refine Ctr.ofAW yok_Mod_number (Nat.le_of_ble_eq_true rfl) (Or.inl rfl) ?_
  show AW l g true Y_Mod_number 1 (some (vI r), M') 0 [(0, vA 184)] [] M
  unfold f_Mod_number at h
  refine A_aload_n 0 rfl rfl rfl ?_
  refine A_getI rfl fl_Mod_342 rfl (by decide) (Or.inl rfl) ?_
  obtain ⟨rfl, rfl⟩ := leaf h
  exact A_iret rfl rfl
def tb_Mod_itemAt : List (Nat × Instr × Nat) := [(0, .aload_n 0, 1), (1, .getfield 127, 3), (4, .iconst 2, 1), (5, .if_icmp .ne 24, 3), (8, .iload_n 1, 1), (9, .ifCond .lt 20, 3), (12, .iload_n 1, 1), (13, .aload_n 0, 1), (14, .getfield 342, 3), (17, .if_icmp .ge 12, 3), (20, .aload_n 0, 1), (21, .getfield 130, 3), (24, .iload_n 1, 1), (25, .iaload, 1), (26, .goto 4, 3), (29, .iconst 0, 1), (30, .ireturn, 1)]
def Y_Mod_itemAt : ax_Y := (⟨"MethodWardenModel", "itemAt", "(I)I"⟩, prog_14_method_58_code, 2, some .int, tb_Mod_itemAt)
theorem yok_Mod_itemAt : yOK Y_Mod_itemAt := ⟨by decide +kernel, by decide +kernel, inWG 1505 (by decide +kernel) (by decide +kernel), inWG 107 (by decide +kernel) (by decide +kernel), by decide +kernel⟩
def f_Mod_itemAt (a1 : Int32) (M : ax_M) : Option (Int32 × ax_M) :=
  if (gI M 184 57) = 2 then (if a1 < 0 then (some (0, M)) else (if (gI M 184 58) ≤ a1 then (some (0, M)) else (gi a1 5 (some (gI M 221 a1.toNatClampNeg, M))))) else (some (0, M))
set_option maxHeartbeats 4000000 in
set_option maxRecDepth 100000 in
theorem c_Mod_itemAt {l : Launch} {g : ax_G} {a1 : Int32} {M : ax_M} {r : Int32} {M' : ax_M} (h : f_Mod_itemAt a1 M = some (r, M')) : Ctr l g true Y_Mod_itemAt 1 [vA 184, vI a1] M (some (vI r), M') := by
  refine Ctr.ofAW yok_Mod_itemAt (Nat.le_of_ble_eq_true rfl) (Or.inl rfl) ?_
  show AW l g true Y_Mod_itemAt 1 (some (vI r), M') 0 [(0, vA 184), (1, vI a1)] [] M
  unfold f_Mod_itemAt at h
  refine A_aload_n 0 rfl rfl rfl ?_
  refine A_getI rfl fl_Mod_127 rfl (by decide) (Or.inl rfl) ?_
  refine A_iconst (v := 2) rfl (by decide) ?_
  refine A_icmp_ne (tgt := 29) rfl (by decide) (fun hc1 => ?_) (fun hc1 => ?_)
  · rw [if_neg hc1] at h
    refine A_iconst (v := 0) rfl (by decide) ?_
    obtain ⟨rfl, rfl⟩ := leaf h
    exact A_iret rfl rfl
  · rw [if_pos hc1] at h
    refine A_pc (pc' := 8) rfl ?_
    refine A_iload_n 1 rfl rfl rfl ?_
    refine A_if_lt (tgt := 29) rfl (by decide) (fun hc2 => ?_) (fun hc2 => ?_)
    · rw [if_pos hc2] at h
      refine A_iconst (v := 0) rfl (by decide) ?_
      obtain ⟨rfl, rfl⟩ := leaf h
      exact A_iret rfl rfl
    · rw [if_neg hc2] at h
      refine A_pc (pc' := 12) rfl ?_
      refine A_iload_n 1 rfl rfl rfl ?_
      refine A_aload_n 0 rfl rfl rfl ?_
      refine A_getI rfl fl_Mod_342 rfl (by decide) (Or.inl rfl) ?_
      refine A_icmp_ge (tgt := 29) rfl (by decide) (fun hc3 => ?_) (fun hc3 => ?_)
      · rw [if_pos hc3] at h
        refine A_iconst (v := 0) rfl (by decide) ?_
        obtain ⟨rfl, rfl⟩ := leaf h
        exact A_iret rfl rfl
      · rw [if_neg hc3] at h
        refine A_pc (pc' := 20) rfl ?_
        refine A_aload_n 0 rfl rfl rfl ?_
        refine A_getL (r := 221) rfl fl_Mod_130 rfl (by decide) rfl rfl ?_
        refine A_iload_n 1 rfl rfl rfl ?_
        obtain ⟨hg4, h⟩ := gi_out h
        refine A_iald (n := 5) rfl (by decide) (by decide) (Or.inl rfl) hg4 ?_
        refine A_goto (tgt := 30) rfl (by decide) ?_
        refine A_pc (pc' := 30) rfl ?_
        obtain ⟨rfl, rfl⟩ := leaf h
        exact A_iret rfl rfl
def tb_Mod_count : List (Nat × Instr × Nat) := [(0, .iload_n 1, 1), (1, .ifCond .lt 18, 3), (4, .iload_n 1, 1), (5, .bipush 7, 2), (7, .if_icmp .gt 12, 3), (10, .iload_n 2, 1), (11, .ifCond .lt 8, 3), (14, .iload_n 2, 1), (15, .iconst 5, 1), (16, .if_icmp .le 7, 3), (19, .iconst 0, 1), (20, .goto 14, 3), (23, .aload_n 0, 1), (24, .getfield 63, 3), (27, .bipush 6, 2), (29, .iload_n 1, 1), (30, .imul, 1), (31, .iload_n 2, 1), (32, .iadd, 1), (33, .iaload, 1), (34, .ireturn, 1)]
def Y_Mod_count : ax_Y := (⟨"MethodWardenModel", "count", "(II)I"⟩, prog_14_method_59_code, 3, some .int, tb_Mod_count)
theorem yok_Mod_count : yOK Y_Mod_count := ⟨by decide +kernel, by decide +kernel, inWG 1509 (by decide +kernel) (by decide +kernel), inWG 107 (by decide +kernel) (by decide +kernel), by decide +kernel⟩
def f_Mod_count (a1 : Int32) (a2 : Int32) (M : ax_M) : Option (Int32 × ax_M) :=
  if a1 < 0 then (some (0, M)) else (if 7 < a1 then (some (0, M)) else (if a2 < 0 then (some (0, M)) else (if a2 ≤ 5 then (gi ((6 * a1) + a2) 48 (some (gI M 201 ((6 * a1) + a2).toNatClampNeg, M))) else (some (0, M)))))
set_option maxHeartbeats 4000000 in
set_option maxRecDepth 100000 in
theorem c_Mod_count {l : Launch} {g : ax_G} {a1 : Int32} {a2 : Int32} {M : ax_M} {r : Int32} {M' : ax_M} (h : f_Mod_count a1 a2 M = some (r, M')) : Ctr l g true Y_Mod_count 1 [vA 184, vI a1, vI a2] M (some (vI r), M') := by
  refine Ctr.ofAW yok_Mod_count (Nat.le_of_ble_eq_true rfl) (Or.inl rfl) ?_
  show AW l g true Y_Mod_count 1 (some (vI r), M') 0 [(0, vA 184), (1, vI a1), (2, vI a2)] [] M
  unfold f_Mod_count at h
  refine A_iload_n 1 rfl rfl rfl ?_
  refine A_if_lt (tgt := 19) rfl (by decide) (fun hc1 => ?_) (fun hc1 => ?_)
  · rw [if_pos hc1] at h
    refine A_iconst (v := 0) rfl (by decide) ?_
    refine A_goto (tgt := 34) rfl (by decide) ?_
    obtain ⟨rfl, rfl⟩ := leaf h
    exact A_iret rfl rfl
  · rw [if_neg hc1] at h
    refine A_pc (pc' := 4) rfl ?_
    refine A_iload_n 1 rfl rfl rfl ?_
    refine A_bipush (v := 7) rfl (by decide) ?_
    refine A_icmp_gt (tgt := 19) rfl (by decide) (fun hc2 => ?_) (fun hc2 => ?_)
    · rw [if_pos hc2] at h
      refine A_iconst (v := 0) rfl (by decide) ?_
      refine A_goto (tgt := 34) rfl (by decide) ?_
      obtain ⟨rfl, rfl⟩ := leaf h
      exact A_iret rfl rfl
    · rw [if_neg hc2] at h
      refine A_pc (pc' := 10) rfl ?_
      refine A_iload_n 2 rfl rfl rfl ?_
      refine A_if_lt (tgt := 19) rfl (by decide) (fun hc3 => ?_) (fun hc3 => ?_)
      · rw [if_pos hc3] at h
        refine A_iconst (v := 0) rfl (by decide) ?_
        refine A_goto (tgt := 34) rfl (by decide) ?_
        obtain ⟨rfl, rfl⟩ := leaf h
        exact A_iret rfl rfl
      · rw [if_neg hc3] at h
        refine A_pc (pc' := 14) rfl ?_
        refine A_iload_n 2 rfl rfl rfl ?_
        refine A_iconst (v := 5) rfl (by decide) ?_
        refine A_icmp_le (tgt := 23) rfl (by decide) (fun hc4 => ?_) (fun hc4 => ?_)
        · rw [if_pos hc4] at h
          refine A_aload_n 0 rfl rfl rfl ?_
          refine A_getL (r := 201) rfl fl_Mod_63 rfl (by decide) rfl rfl ?_
          refine A_bipush (v := 6) rfl (by decide) ?_
          refine A_iload_n 1 rfl rfl rfl ?_
          refine A_imul rfl ?_
          refine A_pc (pc' := 31) rfl ?_
          refine A_iload_n 2 rfl rfl rfl ?_
          refine A_iadd rfl ?_
          obtain ⟨hg5, h⟩ := gi_out h
          refine A_iald (n := 48) rfl (by decide) (by decide) (Or.inl rfl) hg5 ?_
          obtain ⟨rfl, rfl⟩ := leaf h
          exact A_iret rfl rfl
        · rw [if_neg hc4] at h
          refine A_pc (pc' := 19) rfl ?_
          refine A_iconst (v := 0) rfl (by decide) ?_
          refine A_goto (tgt := 34) rfl (by decide) ?_
          obtain ⟨rfl, rfl⟩ := leaf h
          exact A_iret rfl rfl
def tb_Mod_ask : List (Nat × Instr × Nat) := [(0, .aload_n 0, 1), (1, .iload_n 1, 1), (2, .invokevirtual 220, 3), (5, .ifCond .ne 6, 3), (8, .bipush (-2), 2), (10, .ireturn, 1), (11, .aload_n 0, 1), (12, .iload_n 2, 1), (13, .putfield 236, 3), (16, .aload_n 0, 1), (17, .lload_n 3, 1), (18, .putfield 239, 3), (21, .aload_n 0, 1), (22, .invokevirtual 333, 3), (25, .aload_n 0, 1), (26, .iconst 0, 1), (27, .putfield 242, 3), (30, .aload_n 0, 1), (31, .iconst (-1), 1), (32, .putfield 100, 3), (35, .aload_n 0, 1), (36, .iconst 0, 1), (37, .putfield 256, 3), (40, .aload_n 0, 1), (41, .iload_n 1, 1), (42, .invokevirtual 297, 3), (45, .aload_n 0, 1), (46, .aload_n 0, 1), (47, .getfield 66, 3), (50, .iconst 0, 1), (51, .iaload, 1), (52, .ifCond .le 12, 3), (55, .aload_n 0, 1), (56, .getfield 69, 3), (59, .iconst 0, 1), (60, .laload, 1), (61, .goto 4, 3), (64, .lconst 0, 1), (65, .putfield 345, 3), (68, .aload_n 0, 1), (69, .getfield 66, 3), (72, .iconst 0, 1), (73, .iaload, 1), (74, .ireturn, 1)]
def Y_Mod_ask : ax_Y := (⟨"MethodWardenModel", "ask", "(IIJ)I"⟩, prog_14_method_60_code, 5, some .int, tb_Mod_ask)
theorem yok_Mod_ask : yOK Y_Mod_ask := ⟨by decide +kernel, by decide +kernel, inWG 1513 (by decide +kernel) (by decide +kernel), inWG 107 (by decide +kernel) (by decide +kernel), by decide +kernel⟩
theorem fl_Mod_345 : fldOK "MethodWardenModel" 345 11 60 false := ⟨_, _, _, cls_Mod, by decide, by decide, rfl, Or.inl (inWG 1147 (by decide +kernel) (by decide +kernel))⟩
def f_Mod_ask (a1 : Int32) (a2 : Int32) (a3 : Int64) (M : ax_M) : Option (Int32 × ax_M) :=
  bnd (f_Mod_written a1 M) (fun q1 M2 => if q1 = 0 then (some ((-2), M2)) else (kM (mI M2 184 40 a2) (fun M4 => kM (mJ M4 184 41 a3) (fun M5 => bnd (f_Mod_giveList  M5) (fun q6 M7 => kM (mI M7 184 38 0) (fun M8 => kM (mI M8 184 44 ((-1))) (fun M9 => kM (mI M9 184 45 0) (fun M10 => bnd (f_Mod_work a1 M10) (fun q11 M12 => if (gI M12 202 (Int32.toNatClampNeg 0)) ≤ 0 then (kM (mJ M12 184 60 0) (fun M14 => some (gI M14 202 (Int32.toNatClampNeg 0), M14))) else (kM (mJ M12 184 60 (gJ M12 203 (Int32.toNatClampNeg 0))) (fun M15 => some (gI M15 202 (Int32.toNatClampNeg 0), M15))))))))))))
set_option maxHeartbeats 4000000 in
set_option maxRecDepth 100000 in
theorem c_Mod_ask {l : Launch} {g : ax_G} {a1 : Int32} {a2 : Int32} {a3 : Int64} {M : ax_M} {r : Int32} {M' : ax_M} (h : f_Mod_ask a1 a2 a3 M = some (r, M')) : Ctr l g true Y_Mod_ask 5 [vA 184, vI a1, vI a2, vJ a3] M (some (vI r), M') := by
  refine Ctr.ofAW yok_Mod_ask (Nat.le_of_ble_eq_true rfl) (Or.inl rfl) ?_
  show AW l g true Y_Mod_ask 5 (some (vI r), M') 0 [(0, vA 184), (1, vI a1), (2, vI a2), (3, vJ a3)] [] M
  unfold f_Mod_ask at h
  refine A_aload_n 0 rfl rfl rfl ?_
  refine A_iload_n 1 rfl rfl rfl ?_
  obtain ⟨q1, M2, hcq1, h⟩ := bnd_out h
  refine A_callV (ci := 11) (as := [vI a1]) (st' := []) (r1 := (some (vI q1), M2)) rfl ml_Mod_220 rfl (by decide) (by decide) (Or.inl rfl) rfl rfl (Nat.le_of_ble_eq_true rfl) (by decide) (c_Mod_written hcq1) (Or.inl rfl) ?_
  refine A_pc (pc' := 5) rfl ?_
  refine A_stk (st' := [vI q1]) rfl ?_
  refine A_if_ne (tgt := 11) rfl (by decide) (fun hc3 => ?_) (fun hc3 => ?_)
  · rw [if_neg hc3] at h
    refine A_aload_n 0 rfl rfl rfl ?_
    refine A_iload_n 2 rfl rfl rfl ?_
    refine A_putI rfl (Or.inl fl_Mod_236) rfl (by decide) (Or.inl rfl) rfl ?_
    obtain ⟨M4, hM4, h⟩ := kM_out h
    refine A_mem hM4 ?_
    refine A_aload_n 0 rfl rfl rfl ?_
    refine A_lload_n 3 rfl rfl rfl ?_
    refine A_pc (pc' := 18) rfl ?_
    refine A_putJ rfl (Or.inl fl_Mod_239) rfl (by decide) (Or.inl rfl) rfl ?_
    obtain ⟨M5, hM5, h⟩ := kM_out h
    refine A_mem hM5 ?_
    refine A_aload_n 0 rfl rfl rfl ?_
    obtain ⟨q6, M7, hcq6, h⟩ := bnd_out h
    refine A_callV (ci := 11) (as := []) (st' := []) (r1 := (none, M7)) rfl ml_Mod_333 rfl (by decide) (by decide) (Or.inl rfl) rfl rfl (Nat.le_of_ble_eq_true rfl) (by decide) (c_Mod_giveList hcq6) (Or.inl rfl) ?_
    refine A_pc (pc' := 25) rfl ?_
    refine A_stk (st' := []) rfl ?_
    refine A_aload_n 0 rfl rfl rfl ?_
    refine A_iconst (v := 0) rfl (by decide) ?_
    refine A_putZ rfl (Or.inl fl_Mod_242) rfl (by decide) (Or.inl rfl) rfl (Or.inl rfl) ?_
    obtain ⟨M8, hM8, h⟩ := kM_out h
    refine A_mem hM8 ?_
    refine A_pc (pc' := 30) rfl ?_
    refine A_aload_n 0 rfl rfl rfl ?_
    refine A_iconst (v := (-1)) rfl (by decide) ?_
    refine A_putI rfl (Or.inl fl_Mod_100) rfl (by decide) (Or.inl rfl) rfl ?_
    obtain ⟨M9, hM9, h⟩ := kM_out h
    refine A_mem hM9 ?_
    refine A_aload_n 0 rfl rfl rfl ?_
    refine A_iconst (v := 0) rfl (by decide) ?_
    refine A_putI rfl (Or.inl fl_Mod_256) rfl (by decide) (Or.inl rfl) rfl ?_
    obtain ⟨M10, hM10, h⟩ := kM_out h
    refine A_mem hM10 ?_
    refine A_pc (pc' := 40) rfl ?_
    refine A_aload_n 0 rfl rfl rfl ?_
    refine A_iload_n 1 rfl rfl rfl ?_
    obtain ⟨q11, M12, hcq11, h⟩ := bnd_out h
    refine A_callV (ci := 11) (as := [vI a1]) (st' := []) (r1 := (none, M12)) rfl ml_Mod_297 rfl (by decide) (by decide) (Or.inl rfl) rfl rfl (Nat.le_of_ble_eq_true rfl) (by decide) (c_Mod_work hcq11) (Or.inl rfl) ?_
    refine A_pc (pc' := 45) rfl ?_
    refine A_stk (st' := []) rfl ?_
    refine A_aload_n 0 rfl rfl rfl ?_
    refine A_aload_n 0 rfl rfl rfl ?_
    refine A_getL (r := 202) rfl fl_Mod_66 rfl (by decide) rfl rfl ?_
    refine A_pc (pc' := 50) rfl ?_
    refine A_iconst (v := 0) rfl (by decide) ?_
    refine A_iald (n := 48) rfl (by decide) (by decide) (Or.inl rfl) (show vp_in 0 48 from by unfold vp_in; decide) ?_
    refine A_if_le (tgt := 64) rfl (by decide) (fun hc13 => ?_) (fun hc13 => ?_)
    · rw [if_pos hc13] at h
      refine A_lconst (v := 0) rfl (by decide) ?_
      refine A_putJ rfl (Or.inl fl_Mod_345) rfl (by decide) (Or.inl rfl) rfl ?_
      obtain ⟨M14, hM14, h⟩ := kM_out h
      refine A_mem hM14 ?_
      refine A_aload_n 0 rfl rfl rfl ?_
      refine A_getL (r := 202) rfl fl_Mod_66 rfl (by decide) rfl rfl ?_
      refine A_iconst (v := 0) rfl (by decide) ?_
      refine A_pc (pc' := 73) rfl ?_
      refine A_iald (n := 48) rfl (by decide) (by decide) (Or.inl rfl) (show vp_in 0 48 from by unfold vp_in; decide) ?_
      obtain ⟨rfl, rfl⟩ := leaf h
      exact A_iret rfl rfl
    · rw [if_neg hc13] at h
      refine A_pc (pc' := 55) rfl ?_
      refine A_aload_n 0 rfl rfl rfl ?_
      refine A_getL (r := 203) rfl fl_Mod_69 rfl (by decide) rfl rfl ?_
      refine A_iconst (v := 0) rfl (by decide) ?_
      refine A_lald (n := 48) rfl (by decide) (by decide) (Or.inl rfl) (show vp_in 0 48 from by unfold vp_in; decide) ?_
      refine A_goto (tgt := 65) rfl (by decide) ?_
      refine A_pc (pc' := 65) rfl ?_
      refine A_putJ rfl (Or.inl fl_Mod_345) rfl (by decide) (Or.inl rfl) rfl ?_
      obtain ⟨M15, hM15, h⟩ := kM_out h
      refine A_mem hM15 ?_
      refine A_aload_n 0 rfl rfl rfl ?_
      refine A_getL (r := 202) rfl fl_Mod_66 rfl (by decide) rfl rfl ?_
      refine A_iconst (v := 0) rfl (by decide) ?_
      refine A_iald (n := 48) rfl (by decide) (by decide) (Or.inl rfl) (show vp_in 0 48 from by unfold vp_in; decide) ?_
      obtain ⟨rfl, rfl⟩ := leaf h
      exact A_iret rfl rfl
  · rw [if_pos hc3] at h
    refine A_pc (pc' := 8) rfl ?_
    refine A_bipush (v := (-2)) rfl (by decide) ?_
    obtain ⟨rfl, rfl⟩ := leaf h
    exact A_iret rfl rfl
def tb_Mod_asked : List (Nat × Instr × Nat) := [(0, .aload_n 0, 1), (1, .getfield 345, 3), (4, .lreturn, 1)]
def Y_Mod_asked : ax_Y := (⟨"MethodWardenModel", "asked", "()J"⟩, prog_14_method_61_code, 1, some .long, tb_Mod_asked)
theorem yok_Mod_asked : yOK Y_Mod_asked := ⟨by decide +kernel, by decide +kernel, inWG 1517 (by decide +kernel) (by decide +kernel), inWG 107 (by decide +kernel) (by decide +kernel), by decide +kernel⟩
def f_Mod_asked  (M : ax_M) : Option (Int64 × ax_M) :=
  some (gJ M 184 60, M)
set_option maxHeartbeats 4000000 in
set_option maxRecDepth 100000 in
theorem c_Mod_asked {l : Launch} {g : ax_G}  {M : ax_M} {r : Int64} {M' : ax_M} (h : f_Mod_asked  M = some (r, M')) : Ctr l g true Y_Mod_asked 1 [vA 184] M (some (vJ r), M') := by
  refine Ctr.ofAW yok_Mod_asked (Nat.le_of_ble_eq_true rfl) (Or.inl rfl) ?_
  show AW l g true Y_Mod_asked 1 (some (vJ r), M') 0 [(0, vA 184)] [] M
  unfold f_Mod_asked at h
  refine A_aload_n 0 rfl rfl rfl ?_
  refine A_getJ rfl fl_Mod_345 rfl (by decide) (Or.inl rfl) ?_
  obtain ⟨rfl, rfl⟩ := leaf h
  exact A_lret rfl rfl
