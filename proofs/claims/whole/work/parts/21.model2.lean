/-! The reference: reading. Printed by gen_methods.py. -/
def tb_Mod_take : List (Nat × Instr × Nat) := [(0, .aload_n 0, 1), (1, .getfield 167, 3), (4, .ifCond .ne 98, 3), (7, .iload_n 1, 1), (8, .iconst 1, 1), (9, .if_icmp .lt 26, 3), (12, .iload_n 1, 1), (13, .bipush 11, 2), (15, .if_icmp .gt 20, 3), (18, .aload_n 0, 1), (19, .iload_n 1, 1), (20, .aload_n 0, 1), (21, .getfield 151, 3), (24, .invokevirtual 173, 3), (27, .aload_n 0, 1), (28, .iconst 1, 1), (29, .putfield 167, 3), (32, .goto 68, 3), (35, .iload_n 1, 1), (36, .bipush 12, 2), (38, .if_icmp .ne 11, 3), (41, .aload_n 0, 1), (42, .iconst 2, 1), (43, .putfield 167, 3), (46, .goto 54, 3), (49, .iload_n 1, 1), (50, .bipush 60, 2), (52, .if_icmp .eq 15, 3), (55, .iload_n 1, 1), (56, .bipush 31, 2), (58, .if_icmp .eq 9, 3), (61, .iload_n 1, 1), (62, .bipush 21, 2), (64, .if_icmp .ne 34, 3), (67, .aload_n 0, 1), (68, .iload_n 1, 1), (69, .bipush 60, 2), (71, .if_icmp .ne 8, 3), (74, .bipush 50, 2), (76, .goto 16, 3), (79, .iload_n 1, 1), (80, .bipush 31, 2), (82, .if_icmp .ne 8, 3), (85, .bipush 20, 2), (87, .goto 5, 3), (90, .bipush 21, 2), (92, .invokevirtual 185, 3), (95, .goto 5, 3), (98, .iconst 0, 1), (99, .ireturn, 1), (100, .iconst 1, 1), (101, .ireturn, 1), (102, .aload_n 0, 1), (103, .getfield 167, 3), (106, .iconst 2, 1), (107, .if_icmp .ne 21, 3), (110, .aload_n 0, 1), (111, .bipush 51, 2), (113, .invokevirtual 185, 3), (116, .iload_n 1, 1), (117, .bipush 60, 2), (119, .if_icmp .ne 7, 3), (122, .iconst 1, 1), (123, .goto 4, 3), (126, .iconst 0, 1), (127, .ireturn, 1), (128, .aload_n 0, 1), (129, .getfield 167, 3), (132, .iconst 2, 1), (133, .if_icmp .le 40, 3), (136, .aload_n 0, 1), (137, .aload_n 0, 1), (138, .getfield 167, 3), (141, .iconst 3, 1), (142, .if_icmp .ne 8, 3), (145, .bipush 13, 2), (147, .goto 5, 3), (150, .bipush 14, 2), (152, .lconst 0, 1), (153, .invokevirtual 173, 3), (156, .aload_n 0, 1), (157, .iconst 1, 1), (158, .putfield 167, 3), (161, .iload_n 1, 1), (162, .bipush 13, 2), (164, .if_icmp .ne 7, 3), (167, .iconst 1, 1), (168, .goto 4, 3), (171, .iconst 0, 1), (172, .ireturn, 1), (173, .iload_n 1, 1), (174, .bipush 22, 2), (176, .if_icmp .lt 25, 3), (179, .iload_n 1, 1), (180, .bipush 34, 2), (182, .if_icmp .gt 19, 3), (185, .aload_n 0, 1), (186, .aload_n 0, 1), (187, .iload_n 1, 1), (188, .invokevirtual 170, 3), (191, .invokevirtual 177, 3), (194, .aload_n 0, 1), (195, .iload_n 1, 1), (196, .invokevirtual 185, 3), (199, .iconst 1, 1), (200, .ireturn, 1), (201, .iload_n 1, 1), (202, .bipush 36, 2), (204, .if_icmp .eq 9, 3), (207, .iload_n 1, 1), (208, .bipush 65, 2), (210, .if_icmp .ne 27, 3), (213, .aload_n 0, 1), (214, .iconst 1, 1), (215, .invokevirtual 177, 3), (218, .aload_n 0, 1), (219, .iload_n 1, 1), (220, .bipush 65, 2), (222, .if_icmp .ne 8, 3), (225, .bipush 54, 2), (227, .goto 5, 3), (230, .bipush 36, 2), (232, .invokevirtual 185, 3), (235, .iconst 1, 1), (236, .ireturn, 1), (237, .iload_n 1, 1), (238, .bipush 16, 2), (240, .if_icmp .lt 15, 3), (243, .iload_n 1, 1), (244, .bipush 18, 2), (246, .if_icmp .gt 9, 3), (249, .aload_n 0, 1), (250, .iload_n 1, 1), (251, .lconst 0, 1), (252, .invokevirtual 173, 3), (255, .iload_n 1, 1), (256, .bipush 62, 2), (258, .if_icmp .eq 15, 3), (261, .iload_n 1, 1), (262, .bipush 16, 2), (264, .if_icmp .lt 28, 3), (267, .iload_n 1, 1), (268, .bipush 18, 2), (270, .if_icmp .gt 22, 3), (273, .aload_n 0, 1), (274, .iload_n 1, 1), (275, .bipush 62, 2), (277, .if_icmp .ne 8, 3), (280, .bipush 52, 2), (282, .goto 5, 3), (285, .bipush 53, 2), (287, .invokevirtual 185, 3), (290, .iconst 1, 1), (291, .ireturn, 1), (292, .aload_n 0, 1), (293, .iload_n 1, 1), (294, .bipush 67, 2), (296, .if_icmp .ne 7, 3), (299, .iconst 3, 1), (300, .goto 14, 3), (303, .iload_n 1, 1), (304, .bipush 66, 2), (306, .if_icmp .ne 7, 3), (309, .iconst 4, 1), (310, .goto 4, 3), (313, .iconst 1, 1), (314, .putfield 167, 3), (317, .iload_n 1, 1), (318, .bipush 67, 2), (320, .if_icmp .eq 35, 3), (323, .iload_n 1, 1), (324, .bipush 66, 2), (326, .if_icmp .eq 29, 3), (329, .iload_n 1, 1), (330, .bipush 61, 2), (332, .if_icmp .eq 15, 3), (335, .iload_n 1, 1), (336, .bipush 63, 2), (338, .if_icmp .eq 9, 3), (341, .iload_n 1, 1), (342, .bipush 64, 2), (344, .if_icmp .ne 15, 3), (347, .aload_n 0, 1), (348, .iload_n 1, 1), (349, .invokevirtual 188, 3), (352, .ifCond .eq 7, 3), (355, .iconst 1, 1), (356, .goto 4, 3), (359, .iconst 0, 1), (360, .ireturn, 1)]
def Y_Mod_take : ax_Y := (⟨"MethodWardenModel", "take", "(I)Z"⟩, prog_14_method_16_code, 2, some .boolean, tb_Mod_take)
theorem yok_Mod_take : yOK Y_Mod_take := ⟨by decide +kernel, by decide +kernel, inWG 1330 (by decide +kernel) (by decide +kernel), inWG 107 (by decide +kernel) (by decide +kernel), by decide +kernel⟩
theorem ml_Mod_188 : mlV "MethodWardenModel" 188 Y_Mod_shut 1 := ⟨⟨yok_Mod_shut, by decide +kernel, by decide⟩, Or.inl (inWG 1335 (by decide +kernel) (by decide +kernel)), inWG 1337 (by decide +kernel) (by decide +kernel), inWG 65 (by decide +kernel) (by decide +kernel)⟩
def f_Mod_take_213 (l1 : Int32) (M : ax_M) : Option (Int32 × ax_M) :=
  bnd (f_Mod_reduce 1 M) (fun q6 M7 => if l1 = 65 then (bnd (f_Mod_wait 54 M7) (fun q11 M12 => some (1, M12))) else (bnd (f_Mod_wait 36 M7) (fun q9 M10 => some (1, M10))))
set_option maxHeartbeats 4000000 in
set_option maxRecDepth 100000 in
theorem o_Mod_take_213 {l : Launch} {g : ax_G} (l1 : Int32) (M : ax_M) (r : Int32) (M' : ax_M) (h : f_Mod_take_213  l1 M = some (r, M')) : AW l g true Y_Mod_take 4 (some (vI r), M') 213 [(0, vA 184), (1, vI l1)] [] M := by
  unfold f_Mod_take_213 at h
  refine A_aload_n 0 rfl rfl rfl ?_
  refine A_iconst (v := 1) rfl (by decide) ?_
  obtain ⟨q6, M7, hcq6, h⟩ := bnd_out h
  refine A_callV (ci := 11) (as := [vI 1]) (st' := []) (r1 := (none, M7)) rfl ml_Mod_177 rfl (by decide) (by decide) (Or.inl rfl) rfl rfl (Nat.le_of_ble_eq_true rfl) (by decide) (c_Mod_reduce hcq6) (Or.inl rfl) ?_
  refine A_pc (pc' := 218) rfl ?_
  refine A_stk (st' := []) rfl ?_
  refine A_aload_n 0 rfl rfl rfl ?_
  refine A_iload_n 1 rfl rfl rfl ?_
  refine A_pc (pc' := 220) rfl ?_
  refine A_bipush (v := 65) rfl (by decide) ?_
  refine A_icmp_ne (tgt := 230) rfl (by decide) (fun hc8 => ?_) (fun hc8 => ?_)
  · rw [if_neg hc8] at h
    refine A_bipush (v := 36) rfl (by decide) ?_
    obtain ⟨q9, M10, hcq9, h⟩ := bnd_out h
    refine A_callV (ci := 11) (as := [vI 36]) (st' := []) (r1 := (none, M10)) rfl ml_Mod_185 rfl (by decide) (by decide) (Or.inl rfl) rfl rfl (Nat.le_of_ble_eq_true rfl) (by decide) (c_Mod_wait hcq9) (Or.inl rfl) ?_
    refine A_pc (pc' := 235) rfl ?_
    refine A_stk (st' := []) rfl ?_
    refine A_iconst (v := 1) rfl (by decide) ?_
    obtain ⟨rfl, rfl⟩ := leaf h
    exact A_zret rfl rfl (Or.inr rfl)
  · rw [if_pos hc8] at h
    refine A_pc (pc' := 225) rfl ?_
    refine A_bipush (v := 54) rfl (by decide) ?_
    refine A_goto (tgt := 232) rfl (by decide) ?_
    obtain ⟨q11, M12, hcq11, h⟩ := bnd_out h
    refine A_callV (ci := 11) (as := [vI 54]) (st' := []) (r1 := (none, M12)) rfl ml_Mod_185 rfl (by decide) (by decide) (Or.inl rfl) rfl rfl (Nat.le_of_ble_eq_true rfl) (by decide) (c_Mod_wait hcq11) (Or.inl rfl) ?_
    refine A_pc (pc' := 235) rfl ?_
    refine A_stk (st' := []) rfl ?_
    refine A_iconst (v := 1) rfl (by decide) ?_
    obtain ⟨rfl, rfl⟩ := leaf h
    exact A_zret rfl rfl (Or.inr rfl)
def f_Mod_take_347 (l1 : Int32) (M : ax_M) : Option (Int32 × ax_M) :=
  bnd (f_Mod_shut l1 M) (fun q28 M29 => if q28 = 0 then (some (0, M29)) else (some (1, M29)))
set_option maxHeartbeats 4000000 in
set_option maxRecDepth 100000 in
theorem o_Mod_take_347 {l : Launch} {g : ax_G} (l1 : Int32) (M : ax_M) (r : Int32) (M' : ax_M) (h : f_Mod_take_347  l1 M = some (r, M')) : AW l g true Y_Mod_take 4 (some (vI r), M') 347 [(0, vA 184), (1, vI l1)] [] M := by
  unfold f_Mod_take_347 at h
  refine A_aload_n 0 rfl rfl rfl ?_
  refine A_iload_n 1 rfl rfl rfl ?_
  obtain ⟨q28, M29, hcq28, h⟩ := bnd_out h
  refine A_callV (ci := 11) (as := [vI l1]) (st' := []) (r1 := (some (vI q28), M29)) rfl ml_Mod_188 rfl (by decide) (by decide) (Or.inl rfl) rfl rfl (Nat.le_of_ble_eq_true rfl) (by decide) (c_Mod_shut hcq28) (Or.inl rfl) ?_
  refine A_pc (pc' := 352) rfl ?_
  refine A_stk (st' := [vI q28]) rfl ?_
  refine A_if_eq (tgt := 359) rfl (by decide) (fun hc30 => ?_) (fun hc30 => ?_)
  · rw [if_pos hc30] at h
    refine A_iconst (v := 0) rfl (by decide) ?_
    obtain ⟨rfl, rfl⟩ := leaf h
    exact A_zret rfl rfl (Or.inl rfl)
  · rw [if_neg hc30] at h
    refine A_pc (pc' := 355) rfl ?_
    refine A_iconst (v := 1) rfl (by decide) ?_
    refine A_goto (tgt := 360) rfl (by decide) ?_
    obtain ⟨rfl, rfl⟩ := leaf h
    exact A_zret rfl rfl (Or.inr rfl)
def f_Mod_take_314 (l1 : Int32) (s0 : Int32) (M : ax_M) : Option (Int32 × ax_M) :=
  kM (mI M 184 7 s0) (fun M24 => if l1 = 67 then (some (1, M24)) else (if l1 = 66 then (some (1, M24)) else (if l1 = 61 then (f_Mod_take_347 l1 M24) else (if l1 = 63 then (f_Mod_take_347 l1 M24) else (if l1 = 64 then (f_Mod_take_347 l1 M24) else (some (0, M24)))))))
set_option maxHeartbeats 4000000 in
set_option maxRecDepth 100000 in
theorem o_Mod_take_314 {l : Launch} {g : ax_G} (l1 : Int32) (s0 : Int32) (M : ax_M) (r : Int32) (M' : ax_M) (h : f_Mod_take_314  l1 s0 M = some (r, M')) : AW l g true Y_Mod_take 4 (some (vI r), M') 314 [(0, vA 184), (1, vI l1)] [vI s0, vA 184] M := by
  unfold f_Mod_take_314 at h
  refine A_putI rfl (Or.inl fl_Mod_167) rfl (by decide) (Or.inl rfl) rfl ?_
  obtain ⟨M24, hM24, h⟩ := kM_out h
  refine A_mem hM24 ?_
  refine A_iload_n 1 rfl rfl rfl ?_
  refine A_bipush (v := 67) rfl (by decide) ?_
  refine A_icmp_eq (tgt := 355) rfl (by decide) (fun hc25 => ?_) (fun hc25 => ?_)
  · rw [if_pos hc25] at h
    refine A_iconst (v := 1) rfl (by decide) ?_
    refine A_goto (tgt := 360) rfl (by decide) ?_
    obtain ⟨rfl, rfl⟩ := leaf h
    exact A_zret rfl rfl (Or.inr rfl)
  · rw [if_neg hc25] at h
    refine A_pc (pc' := 323) rfl ?_
    refine A_iload_n 1 rfl rfl rfl ?_
    refine A_bipush (v := 66) rfl (by decide) ?_
    refine A_icmp_eq (tgt := 355) rfl (by decide) (fun hc26 => ?_) (fun hc26 => ?_)
    · rw [if_pos hc26] at h
      refine A_iconst (v := 1) rfl (by decide) ?_
      refine A_goto (tgt := 360) rfl (by decide) ?_
      obtain ⟨rfl, rfl⟩ := leaf h
      exact A_zret rfl rfl (Or.inr rfl)
    · rw [if_neg hc26] at h
      refine A_pc (pc' := 329) rfl ?_
      refine A_iload_n 1 rfl rfl rfl ?_
      refine A_bipush (v := 61) rfl (by decide) ?_
      refine A_icmp_eq (tgt := 347) rfl (by decide) (fun hc27 => ?_) (fun hc27 => ?_)
      · rw [if_pos hc27] at h
        refine A_pc (pc' := 347) rfl ?_
        refine A_sub (Ls' := [(0, vA 184), (1, vI l1)]) [0, 1] rfl ?_
        exact o_Mod_take_347  _ _ _ _ h
      · rw [if_neg hc27] at h
        refine A_pc (pc' := 335) rfl ?_
        refine A_iload_n 1 rfl rfl rfl ?_
        refine A_bipush (v := 63) rfl (by decide) ?_
        refine A_icmp_eq (tgt := 347) rfl (by decide) (fun hc31 => ?_) (fun hc31 => ?_)
        · rw [if_pos hc31] at h
          refine A_pc (pc' := 347) rfl ?_
          refine A_sub (Ls' := [(0, vA 184), (1, vI l1)]) [0, 1] rfl ?_
          exact o_Mod_take_347  _ _ _ _ h
        · rw [if_neg hc31] at h
          refine A_pc (pc' := 341) rfl ?_
          refine A_iload_n 1 rfl rfl rfl ?_
          refine A_bipush (v := 64) rfl (by decide) ?_
          refine A_icmp_ne (tgt := 359) rfl (by decide) (fun hc32 => ?_) (fun hc32 => ?_)
          · rw [if_neg hc32] at h
            refine A_iconst (v := 0) rfl (by decide) ?_
            obtain ⟨rfl, rfl⟩ := leaf h
            exact A_zret rfl rfl (Or.inl rfl)
          · rw [if_pos hc32] at h
            refine A_pc (pc' := 347) rfl ?_
            refine A_pc (pc' := 347) rfl ?_
            refine A_sub (Ls' := [(0, vA 184), (1, vI l1)]) [0, 1] rfl ?_
            exact o_Mod_take_347  _ _ _ _ h
def f_Mod_take_292 (l1 : Int32) (M : ax_M) : Option (Int32 × ax_M) :=
  if l1 = 67 then (f_Mod_take_314 l1 3 M) else (if l1 = 66 then (f_Mod_take_314 l1 4 M) else (f_Mod_take_314 l1 1 M))
set_option maxHeartbeats 4000000 in
set_option maxRecDepth 100000 in
theorem o_Mod_take_292 {l : Launch} {g : ax_G} (l1 : Int32) (M : ax_M) (r : Int32) (M' : ax_M) (h : f_Mod_take_292  l1 M = some (r, M')) : AW l g true Y_Mod_take 4 (some (vI r), M') 292 [(0, vA 184), (1, vI l1)] [] M := by
  unfold f_Mod_take_292 at h
  refine A_aload_n 0 rfl rfl rfl ?_
  refine A_iload_n 1 rfl rfl rfl ?_
  refine A_bipush (v := 67) rfl (by decide) ?_
  refine A_icmp_ne (tgt := 303) rfl (by decide) (fun hc22 => ?_) (fun hc22 => ?_)
  · rw [if_neg hc22] at h
    refine A_iload_n 1 rfl rfl rfl ?_
    refine A_bipush (v := 66) rfl (by decide) ?_
    refine A_icmp_ne (tgt := 313) rfl (by decide) (fun hc23 => ?_) (fun hc23 => ?_)
    · rw [if_neg hc23] at h
      refine A_iconst (v := 1) rfl (by decide) ?_
      refine A_pc (pc' := 314) rfl ?_
      refine A_sub (Ls' := [(0, vA 184), (1, vI l1)]) [0, 1] rfl ?_
      exact o_Mod_take_314  _ _ _ _ _ h
    · rw [if_pos hc23] at h
      refine A_pc (pc' := 309) rfl ?_
      refine A_iconst (v := 4) rfl (by decide) ?_
      refine A_goto (tgt := 314) rfl (by decide) ?_
      refine A_pc (pc' := 314) rfl ?_
      refine A_sub (Ls' := [(0, vA 184), (1, vI l1)]) [0, 1] rfl ?_
      exact o_Mod_take_314  _ _ _ _ _ h
  · rw [if_pos hc22] at h
    refine A_pc (pc' := 299) rfl ?_
    refine A_iconst (v := 3) rfl (by decide) ?_
    refine A_goto (tgt := 314) rfl (by decide) ?_
    refine A_pc (pc' := 314) rfl ?_
    refine A_sub (Ls' := [(0, vA 184), (1, vI l1)]) [0, 1] rfl ?_
    exact o_Mod_take_314  _ _ _ _ _ h
def f_Mod_take_255 (l1 : Int32) (M : ax_M) : Option (Int32 × ax_M) :=
  if l1 = 62 then (if l1 = 62 then (bnd (f_Mod_wait 52 M) (fun q19 M20 => some (1, M20))) else (bnd (f_Mod_wait 53 M) (fun q17 M18 => some (1, M18)))) else (if l1 < 16 then (f_Mod_take_292 l1 M) else (if 18 < l1 then (f_Mod_take_292 l1 M) else (if l1 = 62 then (bnd (f_Mod_wait 52 M) (fun q37 M38 => some (1, M38))) else (bnd (f_Mod_wait 53 M) (fun q35 M36 => some (1, M36))))))
set_option maxHeartbeats 4000000 in
set_option maxRecDepth 100000 in
theorem o_Mod_take_255 {l : Launch} {g : ax_G} (l1 : Int32) (M : ax_M) (r : Int32) (M' : ax_M) (h : f_Mod_take_255  l1 M = some (r, M')) : AW l g true Y_Mod_take 4 (some (vI r), M') 255 [(0, vA 184), (1, vI l1)] [] M := by
  unfold f_Mod_take_255 at h
  refine A_iload_n 1 rfl rfl rfl ?_
  refine A_bipush (v := 62) rfl (by decide) ?_
  refine A_icmp_eq (tgt := 273) rfl (by decide) (fun hc15 => ?_) (fun hc15 => ?_)
  · rw [if_pos hc15] at h
    refine A_aload_n 0 rfl rfl rfl ?_
    refine A_iload_n 1 rfl rfl rfl ?_
    refine A_bipush (v := 62) rfl (by decide) ?_
    refine A_icmp_ne (tgt := 285) rfl (by decide) (fun hc16 => ?_) (fun hc16 => ?_)
    · rw [if_neg hc16] at h
      refine A_bipush (v := 53) rfl (by decide) ?_
      obtain ⟨q17, M18, hcq17, h⟩ := bnd_out h
      refine A_callV (ci := 11) (as := [vI 53]) (st' := []) (r1 := (none, M18)) rfl ml_Mod_185 rfl (by decide) (by decide) (Or.inl rfl) rfl rfl (Nat.le_of_ble_eq_true rfl) (by decide) (c_Mod_wait hcq17) (Or.inl rfl) ?_
      refine A_pc (pc' := 290) rfl ?_
      refine A_stk (st' := []) rfl ?_
      refine A_iconst (v := 1) rfl (by decide) ?_
      obtain ⟨rfl, rfl⟩ := leaf h
      exact A_zret rfl rfl (Or.inr rfl)
    · rw [if_pos hc16] at h
      refine A_pc (pc' := 280) rfl ?_
      refine A_bipush (v := 52) rfl (by decide) ?_
      refine A_goto (tgt := 287) rfl (by decide) ?_
      obtain ⟨q19, M20, hcq19, h⟩ := bnd_out h
      refine A_callV (ci := 11) (as := [vI 52]) (st' := []) (r1 := (none, M20)) rfl ml_Mod_185 rfl (by decide) (by decide) (Or.inl rfl) rfl rfl (Nat.le_of_ble_eq_true rfl) (by decide) (c_Mod_wait hcq19) (Or.inl rfl) ?_
      refine A_pc (pc' := 290) rfl ?_
      refine A_stk (st' := []) rfl ?_
      refine A_iconst (v := 1) rfl (by decide) ?_
      obtain ⟨rfl, rfl⟩ := leaf h
      exact A_zret rfl rfl (Or.inr rfl)
  · rw [if_neg hc15] at h
    refine A_pc (pc' := 261) rfl ?_
    refine A_iload_n 1 rfl rfl rfl ?_
    refine A_bipush (v := 16) rfl (by decide) ?_
    refine A_icmp_lt (tgt := 292) rfl (by decide) (fun hc21 => ?_) (fun hc21 => ?_)
    · rw [if_pos hc21] at h
      refine A_pc (pc' := 292) rfl ?_
      refine A_sub (Ls' := [(0, vA 184), (1, vI l1)]) [0, 1] rfl ?_
      exact o_Mod_take_292  _ _ _ _ h
    · rw [if_neg hc21] at h
      refine A_pc (pc' := 267) rfl ?_
      refine A_iload_n 1 rfl rfl rfl ?_
      refine A_bipush (v := 18) rfl (by decide) ?_
      refine A_icmp_gt (tgt := 292) rfl (by decide) (fun hc33 => ?_) (fun hc33 => ?_)
      · rw [if_pos hc33] at h
        refine A_pc (pc' := 292) rfl ?_
        refine A_sub (Ls' := [(0, vA 184), (1, vI l1)]) [0, 1] rfl ?_
        exact o_Mod_take_292  _ _ _ _ h
      · rw [if_neg hc33] at h
        refine A_pc (pc' := 273) rfl ?_
        refine A_aload_n 0 rfl rfl rfl ?_
        refine A_iload_n 1 rfl rfl rfl ?_
        refine A_bipush (v := 62) rfl (by decide) ?_
        refine A_icmp_ne (tgt := 285) rfl (by decide) (fun hc34 => ?_) (fun hc34 => ?_)
        · rw [if_neg hc34] at h
          refine A_bipush (v := 53) rfl (by decide) ?_
          obtain ⟨q35, M36, hcq35, h⟩ := bnd_out h
          refine A_callV (ci := 11) (as := [vI 53]) (st' := []) (r1 := (none, M36)) rfl ml_Mod_185 rfl (by decide) (by decide) (Or.inl rfl) rfl rfl (Nat.le_of_ble_eq_true rfl) (by decide) (c_Mod_wait hcq35) (Or.inl rfl) ?_
          refine A_pc (pc' := 290) rfl ?_
          refine A_stk (st' := []) rfl ?_
          refine A_iconst (v := 1) rfl (by decide) ?_
          obtain ⟨rfl, rfl⟩ := leaf h
          exact A_zret rfl rfl (Or.inr rfl)
        · rw [if_pos hc34] at h
          refine A_pc (pc' := 280) rfl ?_
          refine A_bipush (v := 52) rfl (by decide) ?_
          refine A_goto (tgt := 287) rfl (by decide) ?_
          obtain ⟨q37, M38, hcq37, h⟩ := bnd_out h
          refine A_callV (ci := 11) (as := [vI 52]) (st' := []) (r1 := (none, M38)) rfl ml_Mod_185 rfl (by decide) (by decide) (Or.inl rfl) rfl rfl (Nat.le_of_ble_eq_true rfl) (by decide) (c_Mod_wait hcq37) (Or.inl rfl) ?_
          refine A_pc (pc' := 290) rfl ?_
          refine A_stk (st' := []) rfl ?_
          refine A_iconst (v := 1) rfl (by decide) ?_
          obtain ⟨rfl, rfl⟩ := leaf h
          exact A_zret rfl rfl (Or.inr rfl)
def f_Mod_take_201 (l1 : Int32) (M : ax_M) : Option (Int32 × ax_M) :=
  if l1 = 36 then (f_Mod_take_213 l1 M) else (if l1 = 65 then (f_Mod_take_213 l1 M) else (if l1 < 16 then (f_Mod_take_255 l1 M) else (if 18 < l1 then (f_Mod_take_255 l1 M) else (bnd (f_Mod_emit l1 0 M) (fun q40 M41 => f_Mod_take_255 l1 M41)))))
set_option maxHeartbeats 4000000 in
set_option maxRecDepth 100000 in
theorem o_Mod_take_201 {l : Launch} {g : ax_G} (l1 : Int32) (M : ax_M) (r : Int32) (M' : ax_M) (h : f_Mod_take_201  l1 M = some (r, M')) : AW l g true Y_Mod_take 4 (some (vI r), M') 201 [(0, vA 184), (1, vI l1)] [] M := by
  unfold f_Mod_take_201 at h
  refine A_iload_n 1 rfl rfl rfl ?_
  refine A_bipush (v := 36) rfl (by decide) ?_
  refine A_icmp_eq (tgt := 213) rfl (by decide) (fun hc5 => ?_) (fun hc5 => ?_)
  · rw [if_pos hc5] at h
    refine A_pc (pc' := 213) rfl ?_
    refine A_sub (Ls' := [(0, vA 184), (1, vI l1)]) [0, 1] rfl ?_
    exact o_Mod_take_213  _ _ _ _ h
  · rw [if_neg hc5] at h
    refine A_pc (pc' := 207) rfl ?_
    refine A_iload_n 1 rfl rfl rfl ?_
    refine A_bipush (v := 65) rfl (by decide) ?_
    refine A_icmp_ne (tgt := 237) rfl (by decide) (fun hc13 => ?_) (fun hc13 => ?_)
    · rw [if_neg hc13] at h
      refine A_iload_n 1 rfl rfl rfl ?_
      refine A_bipush (v := 16) rfl (by decide) ?_
      refine A_icmp_lt (tgt := 255) rfl (by decide) (fun hc14 => ?_) (fun hc14 => ?_)
      · rw [if_pos hc14] at h
        refine A_pc (pc' := 255) rfl ?_
        refine A_sub (Ls' := [(0, vA 184), (1, vI l1)]) [0, 1] rfl ?_
        exact o_Mod_take_255  _ _ _ _ h
      · rw [if_neg hc14] at h
        refine A_pc (pc' := 243) rfl ?_
        refine A_iload_n 1 rfl rfl rfl ?_
        refine A_bipush (v := 18) rfl (by decide) ?_
        refine A_icmp_gt (tgt := 255) rfl (by decide) (fun hc39 => ?_) (fun hc39 => ?_)
        · rw [if_pos hc39] at h
          refine A_pc (pc' := 255) rfl ?_
          refine A_sub (Ls' := [(0, vA 184), (1, vI l1)]) [0, 1] rfl ?_
          exact o_Mod_take_255  _ _ _ _ h
        · rw [if_neg hc39] at h
          refine A_pc (pc' := 249) rfl ?_
          refine A_aload_n 0 rfl rfl rfl ?_
          refine A_iload_n 1 rfl rfl rfl ?_
          refine A_lconst (v := 0) rfl (by decide) ?_
          obtain ⟨q40, M41, hcq40, h⟩ := bnd_out h
          refine A_callV (ci := 11) (as := [vI l1, vJ 0]) (st' := []) (r1 := (none, M41)) rfl ml_Mod_173 rfl (by decide) (by decide) (Or.inl rfl) rfl rfl (Nat.le_of_ble_eq_true rfl) (by decide) (c_Mod_emit hcq40) (Or.inl rfl) ?_
          refine A_pc (pc' := 255) rfl ?_
          refine A_stk (st' := []) rfl ?_
          refine A_pc (pc' := 255) rfl ?_
          refine A_sub (Ls' := [(0, vA 184), (1, vI l1)]) [0, 1] rfl ?_
          exact o_Mod_take_255  _ _ _ _ h
    · rw [if_pos hc13] at h
      refine A_pc (pc' := 213) rfl ?_
      refine A_pc (pc' := 213) rfl ?_
      refine A_sub (Ls' := [(0, vA 184), (1, vI l1)]) [0, 1] rfl ?_
      exact o_Mod_take_213  _ _ _ _ h
def f_Mod_take_67 (l1 : Int32) (M : ax_M) : Option (Int32 × ax_M) :=
  if l1 = 60 then (bnd (f_Mod_wait 50 M) (fun q70 M71 => some (1, M71))) else (if l1 = 31 then (bnd (f_Mod_wait 20 M) (fun q68 M69 => some (1, M69))) else (bnd (f_Mod_wait 21 M) (fun q66 M67 => some (1, M67))))
set_option maxHeartbeats 4000000 in
set_option maxRecDepth 100000 in
theorem o_Mod_take_67 {l : Launch} {g : ax_G} (l1 : Int32) (M : ax_M) (r : Int32) (M' : ax_M) (h : f_Mod_take_67  l1 M = some (r, M')) : AW l g true Y_Mod_take 4 (some (vI r), M') 67 [(0, vA 184), (1, vI l1)] [] M := by
  unfold f_Mod_take_67 at h
  refine A_aload_n 0 rfl rfl rfl ?_
  refine A_iload_n 1 rfl rfl rfl ?_
  refine A_bipush (v := 60) rfl (by decide) ?_
  refine A_icmp_ne (tgt := 79) rfl (by decide) (fun hc64 => ?_) (fun hc64 => ?_)
  · rw [if_neg hc64] at h
    refine A_iload_n 1 rfl rfl rfl ?_
    refine A_bipush (v := 31) rfl (by decide) ?_
    refine A_icmp_ne (tgt := 90) rfl (by decide) (fun hc65 => ?_) (fun hc65 => ?_)
    · rw [if_neg hc65] at h
      refine A_bipush (v := 21) rfl (by decide) ?_
      obtain ⟨q66, M67, hcq66, h⟩ := bnd_out h
      refine A_callV (ci := 11) (as := [vI 21]) (st' := []) (r1 := (none, M67)) rfl ml_Mod_185 rfl (by decide) (by decide) (Or.inl rfl) rfl rfl (Nat.le_of_ble_eq_true rfl) (by decide) (c_Mod_wait hcq66) (Or.inl rfl) ?_
      refine A_pc (pc' := 95) rfl ?_
      refine A_stk (st' := []) rfl ?_
      refine A_goto (tgt := 100) rfl (by decide) ?_
      refine A_iconst (v := 1) rfl (by decide) ?_
      obtain ⟨rfl, rfl⟩ := leaf h
      exact A_zret rfl rfl (Or.inr rfl)
    · rw [if_pos hc65] at h
      refine A_pc (pc' := 85) rfl ?_
      refine A_bipush (v := 20) rfl (by decide) ?_
      refine A_goto (tgt := 92) rfl (by decide) ?_
      obtain ⟨q68, M69, hcq68, h⟩ := bnd_out h
      refine A_callV (ci := 11) (as := [vI 20]) (st' := []) (r1 := (none, M69)) rfl ml_Mod_185 rfl (by decide) (by decide) (Or.inl rfl) rfl rfl (Nat.le_of_ble_eq_true rfl) (by decide) (c_Mod_wait hcq68) (Or.inl rfl) ?_
      refine A_pc (pc' := 95) rfl ?_
      refine A_stk (st' := []) rfl ?_
      refine A_goto (tgt := 100) rfl (by decide) ?_
      refine A_iconst (v := 1) rfl (by decide) ?_
      refine A_pc (pc' := 101) rfl ?_
      obtain ⟨rfl, rfl⟩ := leaf h
      exact A_zret rfl rfl (Or.inr rfl)
  · rw [if_pos hc64] at h
    refine A_pc (pc' := 74) rfl ?_
    refine A_bipush (v := 50) rfl (by decide) ?_
    refine A_goto (tgt := 92) rfl (by decide) ?_
    obtain ⟨q70, M71, hcq70, h⟩ := bnd_out h
    refine A_callV (ci := 11) (as := [vI 50]) (st' := []) (r1 := (none, M71)) rfl ml_Mod_185 rfl (by decide) (by decide) (Or.inl rfl) rfl rfl (Nat.le_of_ble_eq_true rfl) (by decide) (c_Mod_wait hcq70) (Or.inl rfl) ?_
    refine A_pc (pc' := 95) rfl ?_
    refine A_stk (st' := []) rfl ?_
    refine A_goto (tgt := 100) rfl (by decide) ?_
    refine A_iconst (v := 1) rfl (by decide) ?_
    refine A_pc (pc' := 101) rfl ?_
    obtain ⟨rfl, rfl⟩ := leaf h
    exact A_zret rfl rfl (Or.inr rfl)
def f_Mod_take_35 (l1 : Int32) (M : ax_M) : Option (Int32 × ax_M) :=
  if l1 = 12 then (kM (mI M 184 7 2) (fun M74 => some (1, M74))) else (if l1 = 60 then (f_Mod_take_67 l1 M) else (if l1 = 31 then (f_Mod_take_67 l1 M) else (if l1 = 21 then (f_Mod_take_67 l1 M) else (some (0, M)))))
set_option maxHeartbeats 4000000 in
set_option maxRecDepth 100000 in
theorem o_Mod_take_35 {l : Launch} {g : ax_G} (l1 : Int32) (M : ax_M) (r : Int32) (M' : ax_M) (h : f_Mod_take_35  l1 M = some (r, M')) : AW l g true Y_Mod_take 4 (some (vI r), M') 35 [(0, vA 184), (1, vI l1)] [] M := by
  unfold f_Mod_take_35 at h
  refine A_iload_n 1 rfl rfl rfl ?_
  refine A_bipush (v := 12) rfl (by decide) ?_
  refine A_icmp_ne (tgt := 49) rfl (by decide) (fun hc62 => ?_) (fun hc62 => ?_)
  · rw [if_neg hc62] at h
    refine A_iload_n 1 rfl rfl rfl ?_
    refine A_bipush (v := 60) rfl (by decide) ?_
    refine A_icmp_eq (tgt := 67) rfl (by decide) (fun hc63 => ?_) (fun hc63 => ?_)
    · rw [if_pos hc63] at h
      refine A_pc (pc' := 67) rfl ?_
      refine A_sub (Ls' := [(0, vA 184), (1, vI l1)]) [0, 1] rfl ?_
      exact o_Mod_take_67  _ _ _ _ h
    · rw [if_neg hc63] at h
      refine A_pc (pc' := 55) rfl ?_
      refine A_iload_n 1 rfl rfl rfl ?_
      refine A_bipush (v := 31) rfl (by decide) ?_
      refine A_icmp_eq (tgt := 67) rfl (by decide) (fun hc72 => ?_) (fun hc72 => ?_)
      · rw [if_pos hc72] at h
        refine A_pc (pc' := 67) rfl ?_
        refine A_sub (Ls' := [(0, vA 184), (1, vI l1)]) [0, 1] rfl ?_
        exact o_Mod_take_67  _ _ _ _ h
      · rw [if_neg hc72] at h
        refine A_pc (pc' := 61) rfl ?_
        refine A_iload_n 1 rfl rfl rfl ?_
        refine A_bipush (v := 21) rfl (by decide) ?_
        refine A_icmp_ne (tgt := 98) rfl (by decide) (fun hc73 => ?_) (fun hc73 => ?_)
        · rw [if_neg hc73] at h
          refine A_iconst (v := 0) rfl (by decide) ?_
          obtain ⟨rfl, rfl⟩ := leaf h
          exact A_zret rfl rfl (Or.inl rfl)
        · rw [if_pos hc73] at h
          refine A_pc (pc' := 67) rfl ?_
          refine A_pc (pc' := 67) rfl ?_
          refine A_sub (Ls' := [(0, vA 184), (1, vI l1)]) [0, 1] rfl ?_
          exact o_Mod_take_67  _ _ _ _ h
  · rw [if_pos hc62] at h
    refine A_pc (pc' := 41) rfl ?_
    refine A_aload_n 0 rfl rfl rfl ?_
    refine A_iconst (v := 2) rfl (by decide) ?_
    refine A_putI rfl (Or.inl fl_Mod_167) rfl (by decide) (Or.inl rfl) rfl ?_
    obtain ⟨M74, hM74, h⟩ := kM_out h
    refine A_mem hM74 ?_
    refine A_goto (tgt := 100) rfl (by decide) ?_
    refine A_iconst (v := 1) rfl (by decide) ?_
    refine A_pc (pc' := 101) rfl ?_
    obtain ⟨rfl, rfl⟩ := leaf h
    exact A_zret rfl rfl (Or.inr rfl)
def f_Mod_take (a1 : Int32) (M : ax_M) : Option (Int32 × ax_M) :=
  if (gI M 184 7) = 0 then (if a1 < 1 then (f_Mod_take_35 a1 M) else (if 11 < a1 then (f_Mod_take_35 a1 M) else (bnd (f_Mod_emit a1 (gJ M 184 6) M) (fun q76 M77 => kM (mI M77 184 7 1) (fun M78 => some (1, M78)))))) else (if (gI M 184 7) = 2 then (bnd (f_Mod_wait 51 M) (fun q58 M59 => if a1 = 60 then (some (1, M59)) else (some (0, M59)))) else (if (gI M 184 7) ≤ 2 then (if a1 < 22 then (f_Mod_take_201 a1 M) else (if 34 < a1 then (f_Mod_take_201 a1 M) else (bnd (f_Mod_rank a1 M) (fun q43 M44 => bnd (f_Mod_reduce q43 M44) (fun q45 M46 => bnd (f_Mod_wait a1 M46) (fun q47 M48 => some (1, M48))))))) else (if (gI M 184 7) = 3 then (bnd (f_Mod_emit 13 0 M) (fun q54 M55 => kM (mI M55 184 7 1) (fun M56 => if a1 = 13 then (some (1, M56)) else (some (0, M56))))) else (bnd (f_Mod_emit 14 0 M) (fun q50 M51 => kM (mI M51 184 7 1) (fun M52 => if a1 = 13 then (some (1, M52)) else (some (0, M52))))))))
set_option maxHeartbeats 4000000 in
set_option maxRecDepth 100000 in
theorem c_Mod_take {l : Launch} {g : ax_G} {a1 : Int32} {M : ax_M} {r : Int32} {M' : ax_M} (h : f_Mod_take a1 M = some (r, M')) : Ctr l g true Y_Mod_take 4 [vA 184, vI a1] M (some (vI r), M') := by
  refine Ctr.ofAW yok_Mod_take (Nat.le_of_ble_eq_true rfl) (Or.inl rfl) ?_
  show AW l g true Y_Mod_take 4 (some (vI r), M') 0 [(0, vA 184), (1, vI a1)] [] M
  unfold f_Mod_take at h
  refine A_aload_n 0 rfl rfl rfl ?_
  refine A_getI rfl fl_Mod_167 rfl (by decide) (Or.inl rfl) ?_
  refine A_if_ne (tgt := 102) rfl (by decide) (fun hc1 => ?_) (fun hc1 => ?_)
  · rw [if_neg hc1] at h
    refine A_aload_n 0 rfl rfl rfl ?_
    refine A_getI rfl fl_Mod_167 rfl (by decide) (Or.inl rfl) ?_
    refine A_iconst (v := 2) rfl (by decide) ?_
    refine A_icmp_ne (tgt := 128) rfl (by decide) (fun hc2 => ?_) (fun hc2 => ?_)
    · rw [if_neg hc2] at h
      refine A_aload_n 0 rfl rfl rfl ?_
      refine A_getI rfl fl_Mod_167 rfl (by decide) (Or.inl rfl) ?_
      refine A_iconst (v := 2) rfl (by decide) ?_
      refine A_icmp_le (tgt := 173) rfl (by decide) (fun hc3 => ?_) (fun hc3 => ?_)
      · rw [if_pos hc3] at h
        refine A_iload_n 1 rfl rfl rfl ?_
        refine A_bipush (v := 22) rfl (by decide) ?_
        refine A_icmp_lt (tgt := 201) rfl (by decide) (fun hc4 => ?_) (fun hc4 => ?_)
        · rw [if_pos hc4] at h
          refine A_pc (pc' := 201) rfl ?_
          refine A_sub (Ls' := [(0, vA 184), (1, vI a1)]) [0, 1] rfl ?_
          exact o_Mod_take_201  _ _ _ _ h
        · rw [if_neg hc4] at h
          refine A_pc (pc' := 179) rfl ?_
          refine A_iload_n 1 rfl rfl rfl ?_
          refine A_bipush (v := 34) rfl (by decide) ?_
          refine A_icmp_gt (tgt := 201) rfl (by decide) (fun hc42 => ?_) (fun hc42 => ?_)
          · rw [if_pos hc42] at h
            refine A_pc (pc' := 201) rfl ?_
            refine A_sub (Ls' := [(0, vA 184), (1, vI a1)]) [0, 1] rfl ?_
            exact o_Mod_take_201  _ _ _ _ h
          · rw [if_neg hc42] at h
            refine A_pc (pc' := 185) rfl ?_
            refine A_aload_n 0 rfl rfl rfl ?_
            refine A_aload_n 0 rfl rfl rfl ?_
            refine A_iload_n 1 rfl rfl rfl ?_
            obtain ⟨q43, M44, hcq43, h⟩ := bnd_out h
            refine A_callV (ci := 11) (as := [vI a1]) (st' := [vA 184]) (r1 := (some (vI q43), M44)) rfl ml_Mod_170 rfl (by decide) (by decide) (Or.inl rfl) rfl rfl (Nat.le_of_ble_eq_true rfl) (by decide) (c_Mod_rank hcq43) (Or.inl rfl) ?_
            refine A_pc (pc' := 191) rfl ?_
            refine A_stk (st' := [vI q43, vA 184]) rfl ?_
            obtain ⟨q45, M46, hcq45, h⟩ := bnd_out h
            refine A_callV (ci := 11) (as := [vI q43]) (st' := []) (r1 := (none, M46)) rfl ml_Mod_177 rfl (by decide) (by decide) (Or.inl rfl) rfl rfl (Nat.le_of_ble_eq_true rfl) (by decide) (c_Mod_reduce hcq45) (Or.inl rfl) ?_
            refine A_pc (pc' := 194) rfl ?_
            refine A_stk (st' := []) rfl ?_
            refine A_pc (pc' := 194) rfl ?_
            refine A_aload_n 0 rfl rfl rfl ?_
            refine A_iload_n 1 rfl rfl rfl ?_
            obtain ⟨q47, M48, hcq47, h⟩ := bnd_out h
            refine A_callV (ci := 11) (as := [vI a1]) (st' := []) (r1 := (none, M48)) rfl ml_Mod_185 rfl (by decide) (by decide) (Or.inl rfl) rfl rfl (Nat.le_of_ble_eq_true rfl) (by decide) (c_Mod_wait hcq47) (Or.inl rfl) ?_
            refine A_pc (pc' := 199) rfl ?_
            refine A_stk (st' := []) rfl ?_
            refine A_iconst (v := 1) rfl (by decide) ?_
            obtain ⟨rfl, rfl⟩ := leaf h
            exact A_zret rfl rfl (Or.inr rfl)
      · rw [if_neg hc3] at h
        refine A_pc (pc' := 136) rfl ?_
        refine A_aload_n 0 rfl rfl rfl ?_
        refine A_aload_n 0 rfl rfl rfl ?_
        refine A_getI rfl fl_Mod_167 rfl (by decide) (Or.inl rfl) ?_
        refine A_iconst (v := 3) rfl (by decide) ?_
        refine A_icmp_ne (tgt := 150) rfl (by decide) (fun hc49 => ?_) (fun hc49 => ?_)
        · rw [if_neg hc49] at h
          refine A_bipush (v := 14) rfl (by decide) ?_
          refine A_lconst (v := 0) rfl (by decide) ?_
          obtain ⟨q50, M51, hcq50, h⟩ := bnd_out h
          refine A_callV (ci := 11) (as := [vI 14, vJ 0]) (st' := []) (r1 := (none, M51)) rfl ml_Mod_173 rfl (by decide) (by decide) (Or.inl rfl) rfl rfl (Nat.le_of_ble_eq_true rfl) (by decide) (c_Mod_emit hcq50) (Or.inl rfl) ?_
          refine A_pc (pc' := 156) rfl ?_
          refine A_stk (st' := []) rfl ?_
          refine A_aload_n 0 rfl rfl rfl ?_
          refine A_iconst (v := 1) rfl (by decide) ?_
          refine A_pc (pc' := 158) rfl ?_
          refine A_putI rfl (Or.inl fl_Mod_167) rfl (by decide) (Or.inl rfl) rfl ?_
          obtain ⟨M52, hM52, h⟩ := kM_out h
          refine A_mem hM52 ?_
          refine A_iload_n 1 rfl rfl rfl ?_
          refine A_bipush (v := 13) rfl (by decide) ?_
          refine A_icmp_ne (tgt := 171) rfl (by decide) (fun hc53 => ?_) (fun hc53 => ?_)
          · rw [if_neg hc53] at h
            refine A_iconst (v := 0) rfl (by decide) ?_
            obtain ⟨rfl, rfl⟩ := leaf h
            exact A_zret rfl rfl (Or.inl rfl)
          · rw [if_pos hc53] at h
            refine A_pc (pc' := 167) rfl ?_
            refine A_iconst (v := 1) rfl (by decide) ?_
            refine A_goto (tgt := 172) rfl (by decide) ?_
            obtain ⟨rfl, rfl⟩ := leaf h
            exact A_zret rfl rfl (Or.inr rfl)
        · rw [if_pos hc49] at h
          refine A_pc (pc' := 145) rfl ?_
          refine A_bipush (v := 13) rfl (by decide) ?_
          refine A_goto (tgt := 152) rfl (by decide) ?_
          refine A_lconst (v := 0) rfl (by decide) ?_
          obtain ⟨q54, M55, hcq54, h⟩ := bnd_out h
          refine A_callV (ci := 11) (as := [vI 13, vJ 0]) (st' := []) (r1 := (none, M55)) rfl ml_Mod_173 rfl (by decide) (by decide) (Or.inl rfl) rfl rfl (Nat.le_of_ble_eq_true rfl) (by decide) (c_Mod_emit hcq54) (Or.inl rfl) ?_
          refine A_pc (pc' := 156) rfl ?_
          refine A_stk (st' := []) rfl ?_
          refine A_aload_n 0 rfl rfl rfl ?_
          refine A_pc (pc' := 157) rfl ?_
          refine A_iconst (v := 1) rfl (by decide) ?_
          refine A_putI rfl (Or.inl fl_Mod_167) rfl (by decide) (Or.inl rfl) rfl ?_
          obtain ⟨M56, hM56, h⟩ := kM_out h
          refine A_mem hM56 ?_
          refine A_iload_n 1 rfl rfl rfl ?_
          refine A_bipush (v := 13) rfl (by decide) ?_
          refine A_icmp_ne (tgt := 171) rfl (by decide) (fun hc57 => ?_) (fun hc57 => ?_)
          · rw [if_neg hc57] at h
            refine A_iconst (v := 0) rfl (by decide) ?_
            obtain ⟨rfl, rfl⟩ := leaf h
            exact A_zret rfl rfl (Or.inl rfl)
          · rw [if_pos hc57] at h
            refine A_pc (pc' := 167) rfl ?_
            refine A_iconst (v := 1) rfl (by decide) ?_
            refine A_goto (tgt := 172) rfl (by decide) ?_
            obtain ⟨rfl, rfl⟩ := leaf h
            exact A_zret rfl rfl (Or.inr rfl)
    · rw [if_pos hc2] at h
      refine A_pc (pc' := 110) rfl ?_
      refine A_aload_n 0 rfl rfl rfl ?_
      refine A_bipush (v := 51) rfl (by decide) ?_
      obtain ⟨q58, M59, hcq58, h⟩ := bnd_out h
      refine A_callV (ci := 11) (as := [vI 51]) (st' := []) (r1 := (none, M59)) rfl ml_Mod_185 rfl (by decide) (by decide) (Or.inl rfl) rfl rfl (Nat.le_of_ble_eq_true rfl) (by decide) (c_Mod_wait hcq58) (Or.inl rfl) ?_
      refine A_pc (pc' := 116) rfl ?_
      refine A_stk (st' := []) rfl ?_
      refine A_iload_n 1 rfl rfl rfl ?_
      refine A_bipush (v := 60) rfl (by decide) ?_
      refine A_pc (pc' := 119) rfl ?_
      refine A_icmp_ne (tgt := 126) rfl (by decide) (fun hc60 => ?_) (fun hc60 => ?_)
      · rw [if_neg hc60] at h
        refine A_iconst (v := 0) rfl (by decide) ?_
        obtain ⟨rfl, rfl⟩ := leaf h
        exact A_zret rfl rfl (Or.inl rfl)
      · rw [if_pos hc60] at h
        refine A_pc (pc' := 122) rfl ?_
        refine A_iconst (v := 1) rfl (by decide) ?_
        refine A_goto (tgt := 127) rfl (by decide) ?_
        obtain ⟨rfl, rfl⟩ := leaf h
        exact A_zret rfl rfl (Or.inr rfl)
  · rw [if_pos hc1] at h
    refine A_pc (pc' := 7) rfl ?_
    refine A_iload_n 1 rfl rfl rfl ?_
    refine A_iconst (v := 1) rfl (by decide) ?_
    refine A_icmp_lt (tgt := 35) rfl (by decide) (fun hc61 => ?_) (fun hc61 => ?_)
    · rw [if_pos hc61] at h
      refine A_pc (pc' := 35) rfl ?_
      refine A_sub (Ls' := [(0, vA 184), (1, vI a1)]) [0, 1] rfl ?_
      exact o_Mod_take_35  _ _ _ _ h
    · rw [if_neg hc61] at h
      refine A_pc (pc' := 12) rfl ?_
      refine A_iload_n 1 rfl rfl rfl ?_
      refine A_bipush (v := 11) rfl (by decide) ?_
      refine A_icmp_gt (tgt := 35) rfl (by decide) (fun hc75 => ?_) (fun hc75 => ?_)
      · rw [if_pos hc75] at h
        refine A_pc (pc' := 35) rfl ?_
        refine A_sub (Ls' := [(0, vA 184), (1, vI a1)]) [0, 1] rfl ?_
        exact o_Mod_take_35  _ _ _ _ h
      · rw [if_neg hc75] at h
        refine A_pc (pc' := 18) rfl ?_
        refine A_aload_n 0 rfl rfl rfl ?_
        refine A_iload_n 1 rfl rfl rfl ?_
        refine A_aload_n 0 rfl rfl rfl ?_
        refine A_getJ rfl fl_Mod_151 rfl (by decide) (Or.inl rfl) ?_
        obtain ⟨q76, M77, hcq76, h⟩ := bnd_out h
        refine A_callV (ci := 11) (as := [vI a1, vJ (gJ M 184 6)]) (st' := []) (r1 := (none, M77)) rfl ml_Mod_173 rfl (by decide) (by decide) (Or.inl rfl) rfl rfl (Nat.le_of_ble_eq_true rfl) (by decide) (c_Mod_emit hcq76) (Or.inl rfl) ?_
        refine A_pc (pc' := 27) rfl ?_
        refine A_stk (st' := []) rfl ?_
        refine A_pc (pc' := 27) rfl ?_
        refine A_aload_n 0 rfl rfl rfl ?_
        refine A_iconst (v := 1) rfl (by decide) ?_
        refine A_putI rfl (Or.inl fl_Mod_167) rfl (by decide) (Or.inl rfl) rfl ?_
        obtain ⟨M78, hM78, h⟩ := kM_out h
        refine A_mem hM78 ?_
        refine A_goto (tgt := 100) rfl (by decide) ?_
        refine A_iconst (v := 1) rfl (by decide) ?_
        obtain ⟨rfl, rfl⟩ := leaf h
        exact A_zret rfl rfl (Or.inr rfl)
def tb_Mod_read : List (Nat × Instr × Nat) := [(0, .aload_n 0, 1), (1, .iconst 0, 1), (2, .putfield 140, 3), (5, .aload_n 0, 1), (6, .iconst 0, 1), (7, .putfield 167, 3), (10, .aload_n 0, 1), (11, .iconst 0, 1), (12, .putfield 164, 3), (15, .aload_n 0, 1), (16, .iconst 0, 1), (17, .putfield 191, 3), (20, .aload_n 0, 1), (21, .getfield 20, 3), (24, .bipush 8, 2), (26, .iconst 0, 1), (27, .iastore, 1), (28, .iconst 0, 1), (29, .istore_n 1, 1), (30, .iload_n 1, 1), (31, .bipush 50, 2), (33, .if_icmp .ge 209, 3), (36, .aload_n 0, 1), (37, .aload_n 0, 1), (38, .getfield 140, 3), (41, .invokevirtual 136, 3), (44, .bipush 32, 2), (46, .if_icmp .ne 16, 3), (49, .aload_n 0, 1), (50, .dup, 1), (51, .getfield 140, 3), (54, .iconst 1, 1), (55, .iadd, 1), (56, .putfield 140, 3), (59, .goto (-23), 3), (62, .aload_n 0, 1), (63, .getfield 140, 3), (66, .aload_n 0, 1), (67, .getfield 133, 3), (70, .if_icmp .lt 32, 3), (73, .aload_n 0, 1), (74, .iconst 0, 1), (75, .invokevirtual 177, 3), (78, .aload_n 0, 1), (79, .getfield 167, 3), (82, .iconst 1, 1), (83, .if_icmp .ne 14, 3), (86, .aload_n 0, 1), (87, .getfield 164, 3), (90, .ifCond .ne 7, 3), (93, .iconst (-1), 1), (94, .goto 7, 3), (97, .aload_n 0, 1), (98, .getfield 133, 3), (101, .ireturn, 1), (102, .aload_n 0, 1), (103, .getfield 140, 3), (106, .istore_n 2, 1), (107, .aload_n 0, 1), (108, .aload_n 0, 1), (109, .getfield 140, 3), (112, .invokevirtual 143, 3), (115, .ifCond .eq 10, 3), (118, .aload_n 0, 1), (119, .invokevirtual 194, 3), (122, .goto 25, 3), (125, .aload_n 0, 1), (126, .aload_n 0, 1), (127, .getfield 140, 3), (130, .invokevirtual 157, 3), (133, .ifCond .eq 10, 3), (136, .aload_n 0, 1), (137, .invokevirtual 197, 3), (140, .goto 7, 3), (143, .aload_n 0, 1), (144, .invokevirtual 200, 3), (147, .istore_n 3, 1), (148, .iload_n 3, 1), (149, .bipush 60, 2), (151, .if_icmp .eq 37, 3), (154, .iload_n 3, 1), (155, .bipush 61, 2), (157, .if_icmp .eq 31, 3), (160, .iload_n 3, 1), (161, .bipush 63, 2), (163, .if_icmp .eq 25, 3), (166, .iload_n 3, 1), (167, .bipush 64, 2), (169, .if_icmp .eq 19, 3), (172, .iload_n 3, 1), (173, .bipush 67, 2), (175, .if_icmp .eq 13, 3), (178, .iload_n 3, 1), (179, .bipush 66, 2), (181, .if_icmp .eq 7, 3), (184, .iconst 1, 1), (185, .goto 4, 3), (188, .iconst 0, 1), (189, .istore 4, 2), (191, .aload_n 0, 1), (192, .iload 4, 2), (194, .ifCond .eq 12, 3), (197, .aload_n 0, 1), (198, .getfield 191, 3), (201, .iconst 1, 1), (202, .iadd, 1), (203, .goto 7, 3), (206, .aload_n 0, 1), (207, .getfield 191, 3), (210, .putfield 191, 3), (213, .iload_n 3, 1), (214, .ifCond .eq 20, 3), (217, .aload_n 0, 1), (218, .getfield 191, 3), (221, .bipush 20, 2), (223, .if_icmp .gt 11, 3), (226, .aload_n 0, 1), (227, .iload_n 3, 1), (228, .invokevirtual 203, 3), (231, .ifCond .ne 5, 3), (234, .iload_n 2, 1), (235, .ireturn, 1), (236, .iinc 1 1, 3), (239, .goto (-209), 3), (242, .aload_n 0, 1), (243, .getfield 133, 3), (246, .ireturn, 1)]
def Y_Mod_read : ax_Y := (⟨"MethodWardenModel", "read", "()I"⟩, prog_14_method_17_code, 5, some .int, tb_Mod_read)
theorem yok_Mod_read : yOK Y_Mod_read := ⟨by decide +kernel, by decide +kernel, inWG 1283 (by decide +kernel) (by decide +kernel), inWG 107 (by decide +kernel) (by decide +kernel), by decide +kernel⟩
theorem fl_Mod_191 : fldOK "MethodWardenModel" 191 11 11 false := ⟨_, _, _, cls_Mod, by decide, by decide, rfl, Or.inl (inWG 1098 (by decide +kernel) (by decide +kernel))⟩
theorem ml_Mod_200 : mlV "MethodWardenModel" 200 Y_Mod_signToken 0 := ⟨⟨yok_Mod_signToken, by decide +kernel, by decide⟩, Or.inl (inWG 1323 (by decide +kernel) (by decide +kernel)), inWG 1325 (by decide +kernel) (by decide +kernel), inWG 62 (by decide +kernel) (by decide +kernel)⟩
theorem ml_Mod_203 : mlV "MethodWardenModel" 203 Y_Mod_take 1 := ⟨⟨yok_Mod_take, by decide +kernel, by decide⟩, Or.inl (inWG 1327 (by decide +kernel) (by decide +kernel)), inWG 1329 (by decide +kernel) (by decide +kernel), inWG 63 (by decide +kernel) (by decide +kernel)⟩
theorem ml_Mod_197 : mlV "MethodWardenModel" 197 Y_Mod_word 0 := ⟨⟨yok_Mod_word, by decide +kernel, by decide⟩, Or.inl (inWG 1315 (by decide +kernel) (by decide +kernel)), inWG 1317 (by decide +kernel) (by decide +kernel), inWG 60 (by decide +kernel) (by decide +kernel)⟩
theorem ml_Mod_194 : mlV "MethodWardenModel" 194 Y_Mod_numeral 0 := ⟨⟨yok_Mod_numeral, by decide +kernel, by decide⟩, Or.inl (inWG 1304 (by decide +kernel) (by decide +kernel)), inWG 1306 (by decide +kernel) (by decide +kernel), inWG 58 (by decide +kernel) (by decide +kernel)⟩
def f_Mod_read_210 (K30 : Int32 → ax_M → Option (Int32 × ax_M)) (l1 : Int32) (l2 : Int32) (l3 : Int32) (s0 : Int32) (M : ax_M) : Option (Int32 × ax_M) :=
  kM (mI M 184 11 s0) (fun M22 => if l3 = 0 then (some (l2, M22)) else (if 20 < (gI M22 184 11) then (some (l2, M22)) else (bnd (f_Mod_take l3 M22) (fun q25 M26 => if q25 = 0 then (some (l2, M26)) else (kM (l1 + 1) (fun x28 => K30 x28 M26))))))
set_option maxHeartbeats 4000000 in
set_option maxRecDepth 100000 in
theorem o_Mod_read_210 {l : Launch} {g : ax_G} (K30 : Int32 → ax_M → Option (Int32 × ax_M)) (hK30 : ∀ (l1 : Int32) (M : ax_M) (r : Int32) (M' : ax_M), K30 l1 M = some (r, M') → AW l g true Y_Mod_read 5 (some (vI r), M') 30 [(0, vA 184), (1, vI l1)] [] M) (l1 : Int32) (l2 : Int32) (l3 : Int32) (s0 : Int32) (M : ax_M) (r : Int32) (M' : ax_M) (h : f_Mod_read_210 K30 l1 l2 l3 s0 M = some (r, M')) : AW l g true Y_Mod_read 5 (some (vI r), M') 210 [(0, vA 184), (1, vI l1), (2, vI l2), (3, vI l3)] [vI s0, vA 184] M := by
  unfold f_Mod_read_210 at h
  refine A_putI rfl (Or.inl fl_Mod_191) rfl (by decide) (Or.inl rfl) rfl ?_
  obtain ⟨M22, hM22, h⟩ := kM_out h
  refine A_mem hM22 ?_
  refine A_iload_n 3 rfl rfl rfl ?_
  refine A_if_eq (tgt := 234) rfl (by decide) (fun hc23 => ?_) (fun hc23 => ?_)
  · rw [if_pos hc23] at h
    refine A_iload_n 2 rfl rfl rfl ?_
    obtain ⟨rfl, rfl⟩ := leaf h
    exact A_iret rfl rfl
  · rw [if_neg hc23] at h
    refine A_pc (pc' := 217) rfl ?_
    refine A_aload_n 0 rfl rfl rfl ?_
    refine A_getI rfl fl_Mod_191 rfl (by decide) (Or.inl rfl) ?_
    refine A_bipush (v := 20) rfl (by decide) ?_
    refine A_icmp_gt (tgt := 234) rfl (by decide) (fun hc24 => ?_) (fun hc24 => ?_)
    · rw [if_pos hc24] at h
      refine A_iload_n 2 rfl rfl rfl ?_
      obtain ⟨rfl, rfl⟩ := leaf h
      exact A_iret rfl rfl
    · rw [if_neg hc24] at h
      refine A_pc (pc' := 226) rfl ?_
      refine A_aload_n 0 rfl rfl rfl ?_
      refine A_iload_n 3 rfl rfl rfl ?_
      obtain ⟨q25, M26, hcq25, h⟩ := bnd_out h
      refine A_callV (ci := 11) (as := [vI l3]) (st' := []) (r1 := (some (vI q25), M26)) rfl ml_Mod_203 rfl (by decide) (by decide) (Or.inl rfl) rfl rfl (Nat.le_of_ble_eq_true rfl) (by decide) (c_Mod_take hcq25) (Or.inl rfl) ?_
      refine A_pc (pc' := 231) rfl ?_
      refine A_stk (st' := [vI q25]) rfl ?_
      refine A_if_ne (tgt := 236) rfl (by decide) (fun hc27 => ?_) (fun hc27 => ?_)
      · rw [if_neg hc27] at h
        obtain ⟨x28, hx28, h⟩ := kM_out h
        refine A_iinc 1 (v := x28) (Ls' := [(1, vI x28), (0, vA 184), (2, vI l2), (3, vI l3)]) rfl rfl ((iiN (k := 1) (by decide) _).trans hx28) (by decide) rfl ?_
        refine A_goto (tgt := 30) rfl (by decide) ?_
        refine A_pc (pc' := 30) rfl ?_
        refine A_sub (Ls' := [(0, vA 184), (1, vI x28)]) [1, 0] rfl ?_
        exact hK30 _ _ _ _ h
      · rw [if_pos hc27] at h
        refine A_pc (pc' := 234) rfl ?_
        refine A_iload_n 2 rfl rfl rfl ?_
        obtain ⟨rfl, rfl⟩ := leaf h
        exact A_iret rfl rfl
def f_Mod_read_188 (K30 : Int32 → ax_M → Option (Int32 × ax_M)) (l1 : Int32) (l2 : Int32) (l3 : Int32) (M : ax_M) : Option (Int32 × ax_M) :=
  if ((0 : Int32) = 0) then (f_Mod_read_210 K30 l1 l2 l3 (gI M 184 11) M) else (f_Mod_read_210 K30 l1 l2 l3 ((gI M 184 11) + 1) M)
set_option maxHeartbeats 4000000 in
set_option maxRecDepth 100000 in
theorem o_Mod_read_188 {l : Launch} {g : ax_G} (K30 : Int32 → ax_M → Option (Int32 × ax_M)) (hK30 : ∀ (l1 : Int32) (M : ax_M) (r : Int32) (M' : ax_M), K30 l1 M = some (r, M') → AW l g true Y_Mod_read 5 (some (vI r), M') 30 [(0, vA 184), (1, vI l1)] [] M) (l1 : Int32) (l2 : Int32) (l3 : Int32) (M : ax_M) (r : Int32) (M' : ax_M) (h : f_Mod_read_188 K30 l1 l2 l3 M = some (r, M')) : AW l g true Y_Mod_read 5 (some (vI r), M') 188 [(0, vA 184), (1, vI l1), (2, vI l2), (3, vI l3)] [] M := by
  unfold f_Mod_read_188 at h
  refine A_iconst (v := 0) rfl (by decide) ?_
  refine A_istore (Ls' := [(4, vI 0), (0, vA 184), (1, vI l1), (2, vI l2), (3, vI l3)]) rfl (by decide) rfl ?_
  refine A_aload_n 1 rfl rfl rfl ?_
  refine A_iload 0 rfl rfl ?_
  refine A_if_eq (tgt := 206) rfl (by decide) (fun hc21 => ?_) (fun hc21 => ?_)
  · rw [if_pos hc21] at h
    refine A_aload_n 1 rfl rfl rfl ?_
    refine A_getI rfl fl_Mod_191 rfl (by decide) (Or.inl rfl) ?_
    refine A_pc (pc' := 210) rfl ?_
    refine A_sub (Ls' := [(0, vA 184), (1, vI l1), (2, vI l2), (3, vI l3)]) [1, 2, 3, 4] rfl ?_
    exact o_Mod_read_210 K30 hK30 _ _ _ _ _ _ _ h
  · rw [if_neg hc21] at h
    refine A_pc (pc' := 197) rfl ?_
    refine A_aload_n 1 rfl rfl rfl ?_
    refine A_getI rfl fl_Mod_191 rfl (by decide) (Or.inl rfl) ?_
    refine A_iconst (v := 1) rfl (by decide) ?_
    refine A_iadd rfl ?_
    refine A_goto (tgt := 210) rfl (by decide) ?_
    refine A_pc (pc' := 210) rfl ?_
    refine A_sub (Ls' := [(0, vA 184), (1, vI l1), (2, vI l2), (3, vI l3)]) [1, 2, 3, 4] rfl ?_
    exact o_Mod_read_210 K30 hK30 _ _ _ _ _ _ _ h
def f_Mod_read_147 (K30 : Int32 → ax_M → Option (Int32 × ax_M)) (l1 : Int32) (l2 : Int32) (s0 : Int32) (M : ax_M) : Option (Int32 × ax_M) :=
  if s0 = 60 then (f_Mod_read_188 K30 l1 l2 s0 M) else (if s0 = 61 then (f_Mod_read_188 K30 l1 l2 s0 M) else (if s0 = 63 then (f_Mod_read_188 K30 l1 l2 s0 M) else (if s0 = 64 then (f_Mod_read_188 K30 l1 l2 s0 M) else (if s0 = 67 then (f_Mod_read_188 K30 l1 l2 s0 M) else (if s0 = 66 then (f_Mod_read_188 K30 l1 l2 s0 M) else (if ((1 : Int32) = 0) then (f_Mod_read_210 K30 l1 l2 s0 (gI M 184 11) M) else (f_Mod_read_210 K30 l1 l2 s0 ((gI M 184 11) + 1) M)))))))
set_option maxHeartbeats 4000000 in
set_option maxRecDepth 100000 in
theorem o_Mod_read_147 {l : Launch} {g : ax_G} (K30 : Int32 → ax_M → Option (Int32 × ax_M)) (hK30 : ∀ (l1 : Int32) (M : ax_M) (r : Int32) (M' : ax_M), K30 l1 M = some (r, M') → AW l g true Y_Mod_read 5 (some (vI r), M') 30 [(0, vA 184), (1, vI l1)] [] M) (l1 : Int32) (l2 : Int32) (s0 : Int32) (M : ax_M) (r : Int32) (M' : ax_M) (h : f_Mod_read_147 K30 l1 l2 s0 M = some (r, M')) : AW l g true Y_Mod_read 5 (some (vI r), M') 147 [(0, vA 184), (1, vI l1), (2, vI l2)] [vI s0] M := by
  unfold f_Mod_read_147 at h
  refine A_istore_n (Ls' := [(3, vI s0), (0, vA 184), (1, vI l1), (2, vI l2)]) rfl rfl (by decide) rfl ?_
  refine A_iload_n 0 rfl rfl rfl ?_
  refine A_bipush (v := 60) rfl (by decide) ?_
  refine A_icmp_eq (tgt := 188) rfl (by decide) (fun hc20 => ?_) (fun hc20 => ?_)
  · rw [if_pos hc20] at h
    refine A_pc (pc' := 188) rfl ?_
    refine A_sub (Ls' := [(0, vA 184), (1, vI l1), (2, vI l2), (3, vI s0)]) [1, 2, 3, 0] rfl ?_
    exact o_Mod_read_188 K30 hK30 _ _ _ _ _ _ h
  · rw [if_neg hc20] at h
    refine A_pc (pc' := 154) rfl ?_
    refine A_iload_n 0 rfl rfl rfl ?_
    refine A_bipush (v := 61) rfl (by decide) ?_
    refine A_icmp_eq (tgt := 188) rfl (by decide) (fun hc29 => ?_) (fun hc29 => ?_)
    · rw [if_pos hc29] at h
      refine A_pc (pc' := 188) rfl ?_
      refine A_sub (Ls' := [(0, vA 184), (1, vI l1), (2, vI l2), (3, vI s0)]) [1, 2, 3, 0] rfl ?_
      exact o_Mod_read_188 K30 hK30 _ _ _ _ _ _ h
    · rw [if_neg hc29] at h
      refine A_pc (pc' := 160) rfl ?_
      refine A_iload_n 0 rfl rfl rfl ?_
      refine A_bipush (v := 63) rfl (by decide) ?_
      refine A_icmp_eq (tgt := 188) rfl (by decide) (fun hc30 => ?_) (fun hc30 => ?_)
      · rw [if_pos hc30] at h
        refine A_pc (pc' := 188) rfl ?_
        refine A_sub (Ls' := [(0, vA 184), (1, vI l1), (2, vI l2), (3, vI s0)]) [1, 2, 3, 0] rfl ?_
        exact o_Mod_read_188 K30 hK30 _ _ _ _ _ _ h
      · rw [if_neg hc30] at h
        refine A_pc (pc' := 166) rfl ?_
        refine A_iload_n 0 rfl rfl rfl ?_
        refine A_bipush (v := 64) rfl (by decide) ?_
        refine A_icmp_eq (tgt := 188) rfl (by decide) (fun hc31 => ?_) (fun hc31 => ?_)
        · rw [if_pos hc31] at h
          refine A_pc (pc' := 188) rfl ?_
          refine A_sub (Ls' := [(0, vA 184), (1, vI l1), (2, vI l2), (3, vI s0)]) [1, 2, 3, 0] rfl ?_
          exact o_Mod_read_188 K30 hK30 _ _ _ _ _ _ h
        · rw [if_neg hc31] at h
          refine A_pc (pc' := 172) rfl ?_
          refine A_iload_n 0 rfl rfl rfl ?_
          refine A_bipush (v := 67) rfl (by decide) ?_
          refine A_icmp_eq (tgt := 188) rfl (by decide) (fun hc32 => ?_) (fun hc32 => ?_)
          · rw [if_pos hc32] at h
            refine A_pc (pc' := 188) rfl ?_
            refine A_sub (Ls' := [(0, vA 184), (1, vI l1), (2, vI l2), (3, vI s0)]) [1, 2, 3, 0] rfl ?_
            exact o_Mod_read_188 K30 hK30 _ _ _ _ _ _ h
          · rw [if_neg hc32] at h
            refine A_pc (pc' := 178) rfl ?_
            refine A_iload_n 0 rfl rfl rfl ?_
            refine A_bipush (v := 66) rfl (by decide) ?_
            refine A_icmp_eq (tgt := 188) rfl (by decide) (fun hc33 => ?_) (fun hc33 => ?_)
            · rw [if_pos hc33] at h
              refine A_pc (pc' := 188) rfl ?_
              refine A_sub (Ls' := [(0, vA 184), (1, vI l1), (2, vI l2), (3, vI s0)]) [1, 2, 3, 0] rfl ?_
              exact o_Mod_read_188 K30 hK30 _ _ _ _ _ _ h
            · rw [if_neg hc33] at h
              refine A_pc (pc' := 184) rfl ?_
              refine A_iconst (v := 1) rfl (by decide) ?_
              refine A_goto (tgt := 189) rfl (by decide) ?_
              refine A_istore (Ls' := [(4, vI 1), (3, vI s0), (0, vA 184), (1, vI l1), (2, vI l2)]) rfl (by decide) rfl ?_
              refine A_aload_n 2 rfl rfl rfl ?_
              refine A_iload 0 rfl rfl ?_
              refine A_pc (pc' := 194) rfl ?_
              refine A_if_eq (tgt := 206) rfl (by decide) (fun hc34 => ?_) (fun hc34 => ?_)
              · rw [if_pos hc34] at h
                refine A_aload_n 2 rfl rfl rfl ?_
                refine A_getI rfl fl_Mod_191 rfl (by decide) (Or.inl rfl) ?_
                refine A_pc (pc' := 210) rfl ?_
                refine A_sub (Ls' := [(0, vA 184), (1, vI l1), (2, vI l2), (3, vI s0)]) [2, 3, 4, 1] rfl ?_
                exact o_Mod_read_210 K30 hK30 _ _ _ _ _ _ _ h
              · rw [if_neg hc34] at h
                refine A_pc (pc' := 197) rfl ?_
                refine A_aload_n 2 rfl rfl rfl ?_
                refine A_getI rfl fl_Mod_191 rfl (by decide) (Or.inl rfl) ?_
                refine A_iconst (v := 1) rfl (by decide) ?_
                refine A_iadd rfl ?_
                refine A_goto (tgt := 210) rfl (by decide) ?_
                refine A_pc (pc' := 210) rfl ?_
                refine A_sub (Ls' := [(0, vA 184), (1, vI l1), (2, vI l2), (3, vI s0)]) [2, 3, 4, 1] rfl ?_
                exact o_Mod_read_210 K30 hK30 _ _ _ _ _ _ _ h
def f_Mod_read_36_b (K30 : Int32 → ax_M → Option (Int32 × ax_M)) (K36 : Int32 → ax_M → Option (Int32 × ax_M)) (l1 : Int32) (M : ax_M) : Option (Int32 × ax_M) :=
  bnd (f_Mod_at (gI M 184 5) M) (fun q7 M8 => if q7 = 32 then (kM (mI M8 184 5 ((gI M8 184 5) + 1)) (fun M43 => K36 l1 M43)) else (if (gI M8 184 5) < (gI M8 184 1) then (kM (gI M8 184 5) (fun x11 => bnd (f_Mod_digit (gI M8 184 5) M8) (fun q12 M13 => if q12 = 0 then (bnd (f_Mod_small (gI M13 184 5) M13) (fun q15 M16 => if q15 = 0 then (bnd (f_Mod_signToken  M16) (fun q18 M19 => f_Mod_read_147 K30 l1 x11 q18 M19)) else (bnd (f_Mod_word  M16) (fun q35 M36 => f_Mod_read_147 K30 l1 x11 q35 M36)))) else (bnd (f_Mod_numeral  M13) (fun q37 M38 => f_Mod_read_147 K30 l1 x11 q37 M38))))) else (bnd (f_Mod_reduce 0 M8) (fun q39 M40 => if (gI M40 184 7) = 1 then (if (gI M40 184 10) = 0 then (some ((-1), M40)) else (some (gI M40 184 1, M40))) else (some (gI M40 184 1, M40))))))
def f_Mod_read_36 (K30 : Int32 → ax_M → Option (Int32 × ax_M)) : Nat → Int32 → ax_M → Option (Int32 × ax_M)
  | 0, _, _ => none
  | n + 1, l1, M => f_Mod_read_36_b K30 (f_Mod_read_36 K30 n) l1 M
set_option maxHeartbeats 4000000 in
set_option maxRecDepth 100000 in
theorem o_Mod_read_36_b {l : Launch} {g : ax_G} (K30 : Int32 → ax_M → Option (Int32 × ax_M)) (hK30 : ∀ (l1 : Int32) (M : ax_M) (r : Int32) (M' : ax_M), K30 l1 M = some (r, M') → AW l g true Y_Mod_read 5 (some (vI r), M') 30 [(0, vA 184), (1, vI l1)] [] M) (K36 : Int32 → ax_M → Option (Int32 × ax_M)) (hK36 : ∀ (l1 : Int32) (M : ax_M) (r : Int32) (M' : ax_M), K36 l1 M = some (r, M') → AW l g true Y_Mod_read 5 (some (vI r), M') 36 [(0, vA 184), (1, vI l1)] [] M) (l1 : Int32) (M : ax_M) (r : Int32) (M' : ax_M) (h : f_Mod_read_36_b K30 K36 l1 M = some (r, M')) : AW l g true Y_Mod_read 5 (some (vI r), M') 36 [(0, vA 184), (1, vI l1)] [] M := by
  unfold f_Mod_read_36_b at h
  refine A_aload_n 0 rfl rfl rfl ?_
  refine A_aload_n 0 rfl rfl rfl ?_
  refine A_getI rfl fl_Mod_140 rfl (by decide) (Or.inl rfl) ?_
  obtain ⟨q7, M8, hcq7, h⟩ := bnd_out h
  refine A_callV (ci := 11) (as := [vI (gI M 184 5)]) (st' := []) (r1 := (some (vI q7), M8)) rfl ml_Mod_136 rfl (by decide) (by decide) (Or.inl rfl) rfl rfl (Nat.le_of_ble_eq_true rfl) (by decide) (c_Mod_at hcq7) (Or.inl rfl) ?_
  refine A_pc (pc' := 44) rfl ?_
  refine A_stk (st' := [vI q7]) rfl ?_
  refine A_bipush (v := 32) rfl (by decide) ?_
  refine A_pc (pc' := 46) rfl ?_
  refine A_icmp_ne (tgt := 62) rfl (by decide) (fun hc9 => ?_) (fun hc9 => ?_)
  · rw [if_neg hc9] at h
    refine A_aload_n 0 rfl rfl rfl ?_
    refine A_getI rfl fl_Mod_140 rfl (by decide) (Or.inl rfl) ?_
    refine A_aload_n 0 rfl rfl rfl ?_
    refine A_getI rfl fl_Mod_133 rfl (by decide) (Or.inl rfl) ?_
    refine A_icmp_lt (tgt := 102) rfl (by decide) (fun hc10 => ?_) (fun hc10 => ?_)
    · rw [if_pos hc10] at h
      refine A_aload_n 0 rfl rfl rfl ?_
      refine A_getI rfl fl_Mod_140 rfl (by decide) (Or.inl rfl) ?_
      obtain ⟨x11, hx11, h⟩ := kM_out h
      refine A_nI hx11 ?_
      refine A_istore_n (Ls' := [(2, vI x11), (0, vA 184), (1, vI l1)]) rfl rfl (by decide) rfl ?_
      refine A_aload_n 1 rfl rfl rfl ?_
      refine A_aload_n 1 rfl rfl rfl ?_
      refine A_pc (pc' := 109) rfl ?_
      refine A_getI rfl fl_Mod_140 rfl (by decide) (Or.inl rfl) ?_
      obtain ⟨q12, M13, hcq12, h⟩ := bnd_out h
      refine A_callV (ci := 11) (as := [vI (gI M8 184 5)]) (st' := []) (r1 := (some (vI q12), M13)) rfl ml_Mod_143 rfl (by decide) (by decide) (Or.inl rfl) rfl rfl (Nat.le_of_ble_eq_true rfl) (by decide) (c_Mod_digit hcq12) (Or.inl rfl) ?_
      refine A_pc (pc' := 115) rfl ?_
      refine A_stk (st' := [vI q12]) rfl ?_
      refine A_if_eq (tgt := 125) rfl (by decide) (fun hc14 => ?_) (fun hc14 => ?_)
      · rw [if_pos hc14] at h
        refine A_aload_n 1 rfl rfl rfl ?_
        refine A_aload_n 1 rfl rfl rfl ?_
        refine A_getI rfl fl_Mod_140 rfl (by decide) (Or.inl rfl) ?_
        obtain ⟨q15, M16, hcq15, h⟩ := bnd_out h
        refine A_callV (ci := 11) (as := [vI (gI M13 184 5)]) (st' := []) (r1 := (some (vI q15), M16)) rfl ml_Mod_157 rfl (by decide) (by decide) (Or.inl rfl) rfl rfl (Nat.le_of_ble_eq_true rfl) (by decide) (c_Mod_small hcq15) (Or.inl rfl) ?_
        refine A_pc (pc' := 133) rfl ?_
        refine A_stk (st' := [vI q15]) rfl ?_
        refine A_if_eq (tgt := 143) rfl (by decide) (fun hc17 => ?_) (fun hc17 => ?_)
        · rw [if_pos hc17] at h
          refine A_aload_n 1 rfl rfl rfl ?_
          obtain ⟨q18, M19, hcq18, h⟩ := bnd_out h
          refine A_callV (ci := 11) (as := []) (st' := []) (r1 := (some (vI q18), M19)) rfl ml_Mod_200 rfl (by decide) (by decide) (Or.inl rfl) rfl rfl (Nat.le_of_ble_eq_true rfl) (by decide) (c_Mod_signToken hcq18) (Or.inl rfl) ?_
          refine A_pc (pc' := 147) rfl ?_
          refine A_stk (st' := [vI q18]) rfl ?_
          refine A_pc (pc' := 147) rfl ?_
          refine A_sub (Ls' := [(0, vA 184), (1, vI l1), (2, vI x11)]) [1, 2, 0] rfl ?_
          exact o_Mod_read_147 K30 hK30 _ _ _ _ _ _ h
        · rw [if_neg hc17] at h
          refine A_pc (pc' := 136) rfl ?_
          refine A_aload_n 1 rfl rfl rfl ?_
          obtain ⟨q35, M36, hcq35, h⟩ := bnd_out h
          refine A_callV (ci := 11) (as := []) (st' := []) (r1 := (some (vI q35), M36)) rfl ml_Mod_197 rfl (by decide) (by decide) (Or.inl rfl) rfl rfl (Nat.le_of_ble_eq_true rfl) (by decide) (c_Mod_word hcq35) (Or.inl rfl) ?_
          refine A_pc (pc' := 140) rfl ?_
          refine A_stk (st' := [vI q35]) rfl ?_
          refine A_goto (tgt := 147) rfl (by decide) ?_
          refine A_pc (pc' := 147) rfl ?_
          refine A_sub (Ls' := [(0, vA 184), (1, vI l1), (2, vI x11)]) [1, 2, 0] rfl ?_
          exact o_Mod_read_147 K30 hK30 _ _ _ _ _ _ h
      · rw [if_neg hc14] at h
        refine A_pc (pc' := 118) rfl ?_
        refine A_aload_n 1 rfl rfl rfl ?_
        obtain ⟨q37, M38, hcq37, h⟩ := bnd_out h
        refine A_callV (ci := 11) (as := []) (st' := []) (r1 := (some (vI q37), M38)) rfl ml_Mod_194 rfl (by decide) (by decide) (Or.inl rfl) rfl rfl (Nat.le_of_ble_eq_true rfl) (by decide) (c_Mod_numeral hcq37) (Or.inl rfl) ?_
        refine A_pc (pc' := 122) rfl ?_
        refine A_stk (st' := [vI q37]) rfl ?_
        refine A_goto (tgt := 147) rfl (by decide) ?_
        refine A_pc (pc' := 147) rfl ?_
        refine A_sub (Ls' := [(0, vA 184), (1, vI l1), (2, vI x11)]) [1, 2, 0] rfl ?_
        exact o_Mod_read_147 K30 hK30 _ _ _ _ _ _ h
    · rw [if_neg hc10] at h
      refine A_pc (pc' := 73) rfl ?_
      refine A_aload_n 0 rfl rfl rfl ?_
      refine A_iconst (v := 0) rfl (by decide) ?_
      obtain ⟨q39, M40, hcq39, h⟩ := bnd_out h
      refine A_callV (ci := 11) (as := [vI 0]) (st' := []) (r1 := (none, M40)) rfl ml_Mod_177 rfl (by decide) (by decide) (Or.inl rfl) rfl rfl (Nat.le_of_ble_eq_true rfl) (by decide) (c_Mod_reduce hcq39) (Or.inl rfl) ?_
      refine A_pc (pc' := 78) rfl ?_
      refine A_stk (st' := []) rfl ?_
      refine A_aload_n 0 rfl rfl rfl ?_
      refine A_getI rfl fl_Mod_167 rfl (by decide) (Or.inl rfl) ?_
      refine A_pc (pc' := 82) rfl ?_
      refine A_iconst (v := 1) rfl (by decide) ?_
      refine A_icmp_ne (tgt := 97) rfl (by decide) (fun hc41 => ?_) (fun hc41 => ?_)
      · rw [if_neg hc41] at h
        refine A_aload_n 0 rfl rfl rfl ?_
        refine A_getI rfl fl_Mod_133 rfl (by decide) (Or.inl rfl) ?_
        obtain ⟨rfl, rfl⟩ := leaf h
        exact A_iret rfl rfl
      · rw [if_pos hc41] at h
        refine A_pc (pc' := 86) rfl ?_
        refine A_aload_n 0 rfl rfl rfl ?_
        refine A_getI rfl fl_Mod_164 rfl (by decide) (Or.inl rfl) ?_
        refine A_if_ne (tgt := 97) rfl (by decide) (fun hc42 => ?_) (fun hc42 => ?_)
        · rw [if_neg hc42] at h
          refine A_aload_n 0 rfl rfl rfl ?_
          refine A_getI rfl fl_Mod_133 rfl (by decide) (Or.inl rfl) ?_
          obtain ⟨rfl, rfl⟩ := leaf h
          exact A_iret rfl rfl
        · rw [if_pos hc42] at h
          refine A_pc (pc' := 93) rfl ?_
          refine A_iconst (v := (-1)) rfl (by decide) ?_
          refine A_goto (tgt := 101) rfl (by decide) ?_
          obtain ⟨rfl, rfl⟩ := leaf h
          exact A_iret rfl rfl
  · rw [if_pos hc9] at h
    refine A_pc (pc' := 49) rfl ?_
    refine A_aload_n 0 rfl rfl rfl ?_
    refine A_dup rfl rfl ?_
    refine A_getI rfl fl_Mod_140 rfl (by decide) (Or.inl rfl) ?_
    refine A_iconst (v := 1) rfl (by decide) ?_
    refine A_iadd rfl ?_
    refine A_pc (pc' := 56) rfl ?_
    refine A_putI rfl (Or.inl fl_Mod_140) rfl (by decide) (Or.inl rfl) rfl ?_
    obtain ⟨M43, hM43, h⟩ := kM_out h
    refine A_mem hM43 ?_
    refine A_goto (tgt := 36) rfl (by decide) ?_
    refine A_pc (pc' := 36) rfl ?_
    refine A_sub (Ls' := [(0, vA 184), (1, vI l1)]) [0, 1] rfl ?_
    exact hK36 _ _ _ _ h
theorem o_Mod_read_36 {l : Launch} {g : ax_G} (K30 : Int32 → ax_M → Option (Int32 × ax_M)) (hK30 : ∀ (l1 : Int32) (M : ax_M) (r : Int32) (M' : ax_M), K30 l1 M = some (r, M') → AW l g true Y_Mod_read 5 (some (vI r), M') 30 [(0, vA 184), (1, vI l1)] [] M) : ∀ (n : Nat) (l1 : Int32) (M : ax_M) (r : Int32) (M' : ax_M), f_Mod_read_36 K30 n l1 M = some (r, M') → AW l g true Y_Mod_read 5 (some (vI r), M') 36 [(0, vA 184), (1, vI l1)] [] M := by
  intro n
  induction n with
  | zero =>
    intro l1 M r M' h
    cases h
  | succ n ih =>
    intro l1 M r M' h
    exact o_Mod_read_36_b K30 hK30 _ ih _ _ _ _ h
def f_Mod_read_30_b (K30 : Int32 → ax_M → Option (Int32 × ax_M)) (l1 : Int32) (M : ax_M) : Option (Int32 × ax_M) :=
  if 50 ≤ l1 then (some (gI M 184 1, M)) else (f_Mod_read_36 K30 64 l1 M)
def f_Mod_read_30 : Nat → Int32 → ax_M → Option (Int32 × ax_M)
  | 0, _, _ => none
  | n + 1, l1, M => f_Mod_read_30_b  (f_Mod_read_30 n) l1 M
set_option maxHeartbeats 4000000 in
set_option maxRecDepth 100000 in
theorem o_Mod_read_30_b {l : Launch} {g : ax_G} (K30 : Int32 → ax_M → Option (Int32 × ax_M)) (hK30 : ∀ (l1 : Int32) (M : ax_M) (r : Int32) (M' : ax_M), K30 l1 M = some (r, M') → AW l g true Y_Mod_read 5 (some (vI r), M') 30 [(0, vA 184), (1, vI l1)] [] M) (l1 : Int32) (M : ax_M) (r : Int32) (M' : ax_M) (h : f_Mod_read_30_b  K30 l1 M = some (r, M')) : AW l g true Y_Mod_read 5 (some (vI r), M') 30 [(0, vA 184), (1, vI l1)] [] M := by
  unfold f_Mod_read_30_b at h
  refine A_iload_n 1 rfl rfl rfl ?_
  refine A_bipush (v := 50) rfl (by decide) ?_
  refine A_icmp_ge (tgt := 242) rfl (by decide) (fun hc6 => ?_) (fun hc6 => ?_)
  · rw [if_pos hc6] at h
    refine A_aload_n 0 rfl rfl rfl ?_
    refine A_getI rfl fl_Mod_133 rfl (by decide) (Or.inl rfl) ?_
    obtain ⟨rfl, rfl⟩ := leaf h
    exact A_iret rfl rfl
  · rw [if_neg hc6] at h
    refine A_pc (pc' := 36) rfl ?_
    refine A_pc (pc' := 36) rfl ?_
    refine A_sub (Ls' := [(0, vA 184), (1, vI l1)]) [0, 1] rfl ?_
    exact o_Mod_read_36 K30 hK30 _ _ _ _ _ h
theorem o_Mod_read_30 {l : Launch} {g : ax_G} : ∀ (n : Nat) (l1 : Int32) (M : ax_M) (r : Int32) (M' : ax_M), f_Mod_read_30  n l1 M = some (r, M') → AW l g true Y_Mod_read 5 (some (vI r), M') 30 [(0, vA 184), (1, vI l1)] [] M := by
  intro n
  induction n with
  | zero =>
    intro l1 M r M' h
    cases h
  | succ n ih =>
    intro l1 M r M' h
    exact o_Mod_read_30_b  _ ih _ _ _ _ h
def f_Mod_read  (M : ax_M) : Option (Int32 × ax_M) :=
  kM (mI M 184 5 0) (fun M1 => kM (mI M1 184 7 0) (fun M2 => kM (mI M2 184 10 0) (fun M3 => kM (mI M3 184 11 0) (fun M4 => kM (mI M4 188 (Int32.toNatClampNeg 8) 0) (fun M5 => f_Mod_read_30 64 0 M5)))))
set_option maxHeartbeats 4000000 in
set_option maxRecDepth 100000 in
theorem c_Mod_read {l : Launch} {g : ax_G}  {M : ax_M} {r : Int32} {M' : ax_M} (h : f_Mod_read  M = some (r, M')) : Ctr l g true Y_Mod_read 5 [vA 184] M (some (vI r), M') := by
  refine Ctr.ofAW yok_Mod_read (Nat.le_of_ble_eq_true rfl) (Or.inl rfl) ?_
  show AW l g true Y_Mod_read 5 (some (vI r), M') 0 [(0, vA 184)] [] M
  unfold f_Mod_read at h
  refine A_aload_n 0 rfl rfl rfl ?_
  refine A_iconst (v := 0) rfl (by decide) ?_
  refine A_putI rfl (Or.inl fl_Mod_140) rfl (by decide) (Or.inl rfl) rfl ?_
  obtain ⟨M1, hM1, h⟩ := kM_out h
  refine A_mem hM1 ?_
  refine A_aload_n 0 rfl rfl rfl ?_
  refine A_iconst (v := 0) rfl (by decide) ?_
  refine A_pc (pc' := 7) rfl ?_
  refine A_putI rfl (Or.inl fl_Mod_167) rfl (by decide) (Or.inl rfl) rfl ?_
  obtain ⟨M2, hM2, h⟩ := kM_out h
  refine A_mem hM2 ?_
  refine A_aload_n 0 rfl rfl rfl ?_
  refine A_iconst (v := 0) rfl (by decide) ?_
  refine A_putI rfl (Or.inl fl_Mod_164) rfl (by decide) (Or.inl rfl) rfl ?_
  obtain ⟨M3, hM3, h⟩ := kM_out h
  refine A_mem hM3 ?_
  refine A_aload_n 0 rfl rfl rfl ?_
  refine A_iconst (v := 0) rfl (by decide) ?_
  refine A_pc (pc' := 17) rfl ?_
  refine A_putI rfl (Or.inl fl_Mod_191) rfl (by decide) (Or.inl rfl) rfl ?_
  obtain ⟨M4, hM4, h⟩ := kM_out h
  refine A_mem hM4 ?_
  refine A_aload_n 0 rfl rfl rfl ?_
  refine A_getL (r := 188) rfl fl_Mod_20 rfl (by decide) rfl rfl ?_
  refine A_bipush (v := 8) rfl (by decide) ?_
  refine A_iconst (v := 0) rfl (by decide) ?_
  refine A_iast (n := 9) rfl (by decide) (by decide) (Or.inl rfl) (show vp_in 8 9 from by unfold vp_in; decide) ?_
  obtain ⟨M5, hM5, h⟩ := kM_out h
  refine A_mem hM5 ?_
  refine A_pc (pc' := 28) rfl ?_
  refine A_iconst (v := 0) rfl (by decide) ?_
  refine A_istore_n (Ls' := [(1, vI 0), (0, vA 184)]) rfl rfl (by decide) rfl ?_
  refine A_pc (pc' := 30) rfl ?_
  refine A_sub (Ls' := [(0, vA 184), (1, vI 0)]) [1, 0] rfl ?_
  exact o_Mod_read_30  _ _ _ _ _ h
def tb_Mod_define : List (Nat × Instr × Nat) := [(0, .iload_n 1, 1), (1, .ifCond .lt 9, 3), (4, .iload_n 1, 1), (5, .bipush 7, 2), (7, .if_icmp .le 6, 3), (10, .bipush (-2), 2), (12, .ireturn, 1), (13, .aload_n 0, 1), (14, .invokevirtual 206, 3), (17, .istore_n 2, 1), (18, .aload_n 0, 1), (19, .iconst 0, 1), (20, .putfield 133, 3), (23, .iload_n 2, 1), (24, .ifCond .ge 77, 3), (27, .aload_n 0, 1), (28, .getfield 20, 3), (31, .iload_n 1, 1), (32, .aload_n 0, 1), (33, .getfield 20, 3), (36, .bipush 8, 2), (38, .iaload, 1), (39, .iastore, 1), (40, .iconst 0, 1), (41, .istore_n 3, 1), (42, .iload_n 3, 1), (43, .aload_n 0, 1), (44, .getfield 20, 3), (47, .bipush 8, 2), (49, .iaload, 1), (50, .if_icmp .ge 51, 3), (53, .aload_n 0, 1), (54, .getfield 13, 3), (57, .bipush 48, 2), (59, .iload_n 1, 1), (60, .imul, 1), (61, .iload_n 3, 1), (62, .iadd, 1), (63, .aload_n 0, 1), (64, .getfield 13, 3), (67, .sipush 384, 3), (70, .iload_n 3, 1), (71, .iadd, 1), (72, .iaload, 1), (73, .iastore, 1), (74, .aload_n 0, 1), (75, .getfield 16, 3), (78, .bipush 48, 2), (80, .iload_n 1, 1), (81, .imul, 1), (82, .iload_n 3, 1), (83, .iadd, 1), (84, .aload_n 0, 1), (85, .getfield 16, 3), (88, .sipush 384, 3), (91, .iload_n 3, 1), (92, .iadd, 1), (93, .laload, 1), (94, .lastore, 1), (95, .iinc 3 1, 3), (98, .goto (-56), 3), (101, .iload_n 2, 1), (102, .ireturn, 1)]
def Y_Mod_define : ax_Y := (⟨"MethodWardenModel", "define", "(I)I"⟩, prog_14_method_18_code, 4, some .int, tb_Mod_define)
theorem yok_Mod_define : yOK Y_Mod_define := ⟨by decide +kernel, by decide +kernel, inWG 1279 (by decide +kernel) (by decide +kernel), inWG 107 (by decide +kernel) (by decide +kernel), by decide +kernel⟩
theorem ml_Mod_206 : mlV "MethodWardenModel" 206 Y_Mod_read 0 := ⟨⟨yok_Mod_read, by decide +kernel, by decide⟩, Or.inl (inWG 1280 (by decide +kernel) (by decide +kernel)), inWG 1282 (by decide +kernel) (by decide +kernel), inWG 52 (by decide +kernel) (by decide +kernel)⟩
def f_Mod_define_42_b (K42 : Int32 → Int32 → Int32 → ax_M → Option (Int32 × ax_M)) (l1 : Int32) (l2 : Int32) (l3 : Int32) (M : ax_M) : Option (Int32 × ax_M) :=
  if (gI M 188 (Int32.toNatClampNeg 8)) ≤ l3 then (some (l2, M)) else (gi (384 + l3) 432 (gi ((48 * l1) + l3) 432 (kM (mI M 186 ((48 * l1) + l3).toNatClampNeg (gI M 186 (384 + l3).toNatClampNeg)) (fun M12 => kM (mJ M12 187 ((48 * l1) + l3).toNatClampNeg (gJ M12 187 (384 + l3).toNatClampNeg)) (fun M13 => kM (l3 + 1) (fun x14 => K42 l1 l2 x14 M13))))))
def f_Mod_define_42 : Nat → Int32 → Int32 → Int32 → ax_M → Option (Int32 × ax_M)
  | 0, _, _, _, _ => none
  | n + 1, l1, l2, l3, M => f_Mod_define_42_b  (f_Mod_define_42 n) l1 l2 l3 M
set_option maxHeartbeats 4000000 in
set_option maxRecDepth 100000 in
theorem o_Mod_define_42_b {l : Launch} {g : ax_G} (K42 : Int32 → Int32 → Int32 → ax_M → Option (Int32 × ax_M)) (hK42 : ∀ (l1 : Int32) (l2 : Int32) (l3 : Int32) (M : ax_M) (r : Int32) (M' : ax_M), K42 l1 l2 l3 M = some (r, M') → AW l g true Y_Mod_define 6 (some (vI r), M') 42 [(0, vA 184), (1, vI l1), (2, vI l2), (3, vI l3)] [] M) (l1 : Int32) (l2 : Int32) (l3 : Int32) (M : ax_M) (r : Int32) (M' : ax_M) (h : f_Mod_define_42_b  K42 l1 l2 l3 M = some (r, M')) : AW l g true Y_Mod_define 6 (some (vI r), M') 42 [(0, vA 184), (1, vI l1), (2, vI l2), (3, vI l3)] [] M := by
  unfold f_Mod_define_42_b at h
  refine A_iload_n 3 rfl rfl rfl ?_
  refine A_aload_n 0 rfl rfl rfl ?_
  refine A_getL (r := 188) rfl fl_Mod_20 rfl (by decide) rfl rfl ?_
  refine A_bipush (v := 8) rfl (by decide) ?_
  refine A_iald (n := 9) rfl (by decide) (by decide) (Or.inl rfl) (show vp_in 8 9 from by unfold vp_in; decide) ?_
  refine A_pc (pc' := 50) rfl ?_
  refine A_icmp_ge (tgt := 101) rfl (by decide) (fun hc9 => ?_) (fun hc9 => ?_)
  · rw [if_pos hc9] at h
    refine A_iload_n 2 rfl rfl rfl ?_
    obtain ⟨rfl, rfl⟩ := leaf h
    exact A_iret rfl rfl
  · rw [if_neg hc9] at h
    refine A_pc (pc' := 53) rfl ?_
    refine A_aload_n 0 rfl rfl rfl ?_
    refine A_getL (r := 186) rfl fl_Mod_13 rfl (by decide) rfl rfl ?_
    refine A_bipush (v := 48) rfl (by decide) ?_
    refine A_iload_n 1 rfl rfl rfl ?_
    refine A_imul rfl ?_
    refine A_pc (pc' := 61) rfl ?_
    refine A_iload_n 3 rfl rfl rfl ?_
    refine A_iadd rfl ?_
    refine A_aload_n 0 rfl rfl rfl ?_
    refine A_getL (r := 186) rfl fl_Mod_13 rfl (by decide) rfl rfl ?_
    refine A_sipush (v := 384) rfl (by decide) ?_
    refine A_iload_n 3 rfl rfl rfl ?_
    refine A_pc (pc' := 71) rfl ?_
    refine A_iadd rfl ?_
    obtain ⟨hg10, h⟩ := gi_out h
    refine A_iald (n := 432) rfl (by decide) (by decide) (Or.inl rfl) hg10 ?_
    obtain ⟨hg11, h⟩ := gi_out h
    refine A_iast (n := 432) rfl (by decide) (by decide) (Or.inl rfl) hg11 ?_
    obtain ⟨M12, hM12, h⟩ := kM_out h
    refine A_mem hM12 ?_
    refine A_aload_n 0 rfl rfl rfl ?_
    refine A_getL (r := 187) rfl fl_Mod_16 rfl (by decide) rfl rfl ?_
    refine A_bipush (v := 48) rfl (by decide) ?_
    refine A_pc (pc' := 80) rfl ?_
    refine A_iload_n 1 rfl rfl rfl ?_
    refine A_imul rfl ?_
    refine A_iload_n 3 rfl rfl rfl ?_
    refine A_iadd rfl ?_
    refine A_aload_n 0 rfl rfl rfl ?_
    refine A_getL (r := 187) rfl fl_Mod_16 rfl (by decide) rfl rfl ?_
    refine A_pc (pc' := 88) rfl ?_
    refine A_sipush (v := 384) rfl (by decide) ?_
    refine A_iload_n 3 rfl rfl rfl ?_
    refine A_iadd rfl ?_
    refine A_lald (n := 432) rfl (by decide) (by decide) (Or.inl rfl) hg10 ?_
    refine A_last (n := 432) rfl (by decide) (by decide) (Or.inl rfl) hg11 ?_
    obtain ⟨M13, hM13, h⟩ := kM_out h
    refine A_mem hM13 ?_
    obtain ⟨x14, hx14, h⟩ := kM_out h
    refine A_iinc 3 (v := x14) (Ls' := [(3, vI x14), (0, vA 184), (1, vI l1), (2, vI l2)]) rfl rfl ((iiN (k := 1) (by decide) _).trans hx14) (by decide) rfl ?_
    refine A_pc (pc' := 98) rfl ?_
    refine A_goto (tgt := 42) rfl (by decide) ?_
    refine A_pc (pc' := 42) rfl ?_
    refine A_sub (Ls' := [(0, vA 184), (1, vI l1), (2, vI l2), (3, vI x14)]) [1, 2, 3, 0] rfl ?_
    exact hK42 _ _ _ _ _ _ h
theorem o_Mod_define_42 {l : Launch} {g : ax_G} : ∀ (n : Nat) (l1 : Int32) (l2 : Int32) (l3 : Int32) (M : ax_M) (r : Int32) (M' : ax_M), f_Mod_define_42  n l1 l2 l3 M = some (r, M') → AW l g true Y_Mod_define 6 (some (vI r), M') 42 [(0, vA 184), (1, vI l1), (2, vI l2), (3, vI l3)] [] M := by
  intro n
  induction n with
  | zero =>
    intro l1 l2 l3 M r M' h
    cases h
  | succ n ih =>
    intro l1 l2 l3 M r M' h
    exact o_Mod_define_42_b  _ ih _ _ _ _ _ _ h
def f_Mod_define (a1 : Int32) (M : ax_M) : Option (Int32 × ax_M) :=
  if a1 < 0 then (some ((-2), M)) else (if a1 ≤ 7 then (bnd (f_Mod_read  M) (fun q3 M4 => kM (mI M4 184 1 0) (fun M5 => if 0 ≤ q3 then (some (q3, M5)) else (gi a1 9 (kM (mI M5 188 a1.toNatClampNeg (gI M5 188 (Int32.toNatClampNeg 8))) (fun M8 => f_Mod_define_42 64 a1 q3 0 M8)))))) else (some ((-2), M)))
set_option maxHeartbeats 4000000 in
set_option maxRecDepth 100000 in
theorem c_Mod_define {l : Launch} {g : ax_G} {a1 : Int32} {M : ax_M} {r : Int32} {M' : ax_M} (h : f_Mod_define a1 M = some (r, M')) : Ctr l g true Y_Mod_define 6 [vA 184, vI a1] M (some (vI r), M') := by
  refine Ctr.ofAW yok_Mod_define (Nat.le_of_ble_eq_true rfl) (Or.inl rfl) ?_
  show AW l g true Y_Mod_define 6 (some (vI r), M') 0 [(0, vA 184), (1, vI a1)] [] M
  unfold f_Mod_define at h
  refine A_iload_n 1 rfl rfl rfl ?_
  refine A_if_lt (tgt := 10) rfl (by decide) (fun hc1 => ?_) (fun hc1 => ?_)
  · rw [if_pos hc1] at h
    refine A_bipush (v := (-2)) rfl (by decide) ?_
    obtain ⟨rfl, rfl⟩ := leaf h
    exact A_iret rfl rfl
  · rw [if_neg hc1] at h
    refine A_pc (pc' := 4) rfl ?_
    refine A_iload_n 1 rfl rfl rfl ?_
    refine A_bipush (v := 7) rfl (by decide) ?_
    refine A_icmp_le (tgt := 13) rfl (by decide) (fun hc2 => ?_) (fun hc2 => ?_)
    · rw [if_pos hc2] at h
      refine A_aload_n 0 rfl rfl rfl ?_
      obtain ⟨q3, M4, hcq3, h⟩ := bnd_out h
      refine A_callV (ci := 11) (as := []) (st' := []) (r1 := (some (vI q3), M4)) rfl ml_Mod_206 rfl (by decide) (by decide) (Or.inl rfl) rfl rfl (Nat.le_of_ble_eq_true rfl) (by decide) (c_Mod_read hcq3) (Or.inl rfl) ?_
      refine A_pc (pc' := 17) rfl ?_
      refine A_stk (st' := [vI q3]) rfl ?_
      refine A_istore_n (Ls' := [(2, vI q3), (0, vA 184), (1, vI a1)]) rfl rfl (by decide) rfl ?_
      refine A_aload_n 1 rfl rfl rfl ?_
      refine A_iconst (v := 0) rfl (by decide) ?_
      refine A_pc (pc' := 20) rfl ?_
      refine A_putI rfl (Or.inl fl_Mod_133) rfl (by decide) (Or.inl rfl) rfl ?_
      obtain ⟨M5, hM5, h⟩ := kM_out h
      refine A_mem hM5 ?_
      refine A_iload_n 0 rfl rfl rfl ?_
      refine A_if_ge (tgt := 101) rfl (by decide) (fun hc6 => ?_) (fun hc6 => ?_)
      · rw [if_pos hc6] at h
        refine A_iload_n 0 rfl rfl rfl ?_
        obtain ⟨rfl, rfl⟩ := leaf h
        exact A_iret rfl rfl
      · rw [if_neg hc6] at h
        refine A_pc (pc' := 27) rfl ?_
        refine A_aload_n 1 rfl rfl rfl ?_
        refine A_getL (r := 188) rfl fl_Mod_20 rfl (by decide) rfl rfl ?_
        refine A_iload_n 2 rfl rfl rfl ?_
        refine A_aload_n 1 rfl rfl rfl ?_
        refine A_getL (r := 188) rfl fl_Mod_20 rfl (by decide) rfl rfl ?_
        refine A_pc (pc' := 36) rfl ?_
        refine A_bipush (v := 8) rfl (by decide) ?_
        refine A_iald (n := 9) rfl (by decide) (by decide) (Or.inl rfl) (show vp_in 8 9 from by unfold vp_in; decide) ?_
        obtain ⟨hg7, h⟩ := gi_out h
        refine A_iast (n := 9) rfl (by decide) (by decide) (Or.inl rfl) hg7 ?_
        obtain ⟨M8, hM8, h⟩ := kM_out h
        refine A_mem hM8 ?_
        refine A_iconst (v := 0) rfl (by decide) ?_
        refine A_istore_n (Ls' := [(3, vI 0), (2, vI q3), (0, vA 184), (1, vI a1)]) rfl rfl (by decide) rfl ?_
        refine A_pc (pc' := 42) rfl ?_
        refine A_sub (Ls' := [(0, vA 184), (1, vI a1), (2, vI q3), (3, vI 0)]) [2, 3, 1, 0] rfl ?_
        exact o_Mod_define_42  _ _ _ _ _ _ _ h
    · rw [if_neg hc2] at h
      refine A_pc (pc' := 10) rfl ?_
      refine A_bipush (v := (-2)) rfl (by decide) ?_
      obtain ⟨rfl, rfl⟩ := leaf h
      exact A_iret rfl rfl
def tb_Mod_closure : List (Nat × Instr × Nat) := [(0, .iload_n 1, 1), (1, .istore_n 2, 1), (2, .iconst 0, 1), (3, .istore_n 3, 1), (4, .iload_n 3, 1), (5, .bipush 16, 2), (7, .if_icmp .ge 49, 3), (10, .iconst 0, 1), (11, .istore 4, 2), (13, .iload 4, 2), (15, .bipush 16, 2), (17, .if_icmp .ge 33, 3), (20, .iload_n 2, 1), (21, .iload 4, 2), (23, .ishr, 1), (24, .iconst 1, 1), (25, .iand, 1), (26, .iconst 1, 1), (27, .if_icmp .ne 15, 3), (30, .iload_n 2, 1), (31, .aload_n 0, 1), (32, .getfield 29, 3), (35, .iload 4, 2), (37, .iaload, 1), (38, .ior, 1), (39, .goto 4, 3), (42, .iload_n 2, 1), (43, .istore_n 2, 1), (44, .iinc 4 1, 3), (47, .goto (-34), 3), (50, .iinc 3 1, 3), (53, .goto (-49), 3), (56, .iload_n 2, 1), (57, .ireturn, 1)]
def Y_Mod_closure : ax_Y := (⟨"MethodWardenModel", "closure", "(I)I"⟩, prog_14_method_19_code, 5, some .int, tb_Mod_closure)
theorem yok_Mod_closure : yOK Y_Mod_closure := ⟨by decide +kernel, by decide +kernel, inWG 1350 (by decide +kernel) (by decide +kernel), inWG 107 (by decide +kernel) (by decide +kernel), by decide +kernel⟩
theorem fl_Mod_29 : fldOK "MethodWardenModel" 29 11 12 false := ⟨_, _, _, cls_Mod, by decide, by decide, rfl, Or.inl (inWG 1099 (by decide +kernel) (by decide +kernel))⟩
def f_Mod_closure_13_b (K4 : Int32 → Int32 → ax_M → Option (Int32 × ax_M)) (K13 : Int32 → Int32 → Int32 → ax_M → Option (Int32 × ax_M)) (l2 : Int32) (l3 : Int32) (l4 : Int32) (M : ax_M) : Option (Int32 × ax_M) :=
  if 16 ≤ l4 then (kM (l3 + 1) (fun x3 => K4 l2 x3 M)) else (if ((l2 >>> (l4 &&& 31)) &&& 1) = 1 then (gi l4 16 (kM (l2 ||| (gI M 191 l4.toNatClampNeg)) (fun x7 => kM (l4 + 1) (fun x8 => K13 x7 l3 x8 M)))) else (kM (l4 + 1) (fun x5 => K13 l2 l3 x5 M)))
def f_Mod_closure_13 (K4 : Int32 → Int32 → ax_M → Option (Int32 × ax_M)) : Nat → Int32 → Int32 → Int32 → ax_M → Option (Int32 × ax_M)
  | 0, _, _, _, _ => none
  | n + 1, l2, l3, l4, M => f_Mod_closure_13_b K4 (f_Mod_closure_13 K4 n) l2 l3 l4 M
set_option maxHeartbeats 4000000 in
set_option maxRecDepth 100000 in
theorem o_Mod_closure_13_b {l : Launch} {g : ax_G} (K4 : Int32 → Int32 → ax_M → Option (Int32 × ax_M)) (hK4 : ∀ (l2 : Int32) (l3 : Int32) (M : ax_M) (r : Int32) (M' : ax_M), K4 l2 l3 M = some (r, M') → AW l g true Y_Mod_closure 1 (some (vI r), M') 4 [(0, vA 184), (2, vI l2), (3, vI l3)] [] M) (K13 : Int32 → Int32 → Int32 → ax_M → Option (Int32 × ax_M)) (hK13 : ∀ (l2 : Int32) (l3 : Int32) (l4 : Int32) (M : ax_M) (r : Int32) (M' : ax_M), K13 l2 l3 l4 M = some (r, M') → AW l g true Y_Mod_closure 1 (some (vI r), M') 13 [(0, vA 184), (2, vI l2), (3, vI l3), (4, vI l4)] [] M) (l2 : Int32) (l3 : Int32) (l4 : Int32) (M : ax_M) (r : Int32) (M' : ax_M) (h : f_Mod_closure_13_b K4 K13 l2 l3 l4 M = some (r, M')) : AW l g true Y_Mod_closure 1 (some (vI r), M') 13 [(0, vA 184), (2, vI l2), (3, vI l3), (4, vI l4)] [] M := by
  unfold f_Mod_closure_13_b at h
  refine A_iload 3 rfl rfl ?_
  refine A_bipush (v := 16) rfl (by decide) ?_
  refine A_icmp_ge (tgt := 50) rfl (by decide) (fun hc2 => ?_) (fun hc2 => ?_)
  · rw [if_pos hc2] at h
    obtain ⟨x3, hx3, h⟩ := kM_out h
    refine A_iinc 2 (v := x3) (Ls' := [(3, vI x3), (0, vA 184), (2, vI l2), (4, vI l4)]) rfl rfl ((iiN (k := 1) (by decide) _).trans hx3) (by decide) rfl ?_
    refine A_goto (tgt := 4) rfl (by decide) ?_
    refine A_pc (pc' := 4) rfl ?_
    refine A_sub (Ls' := [(0, vA 184), (2, vI l2), (3, vI x3)]) [1, 2, 0] rfl ?_
    exact hK4 _ _ _ _ _ h
  · rw [if_neg hc2] at h
    refine A_pc (pc' := 20) rfl ?_
    refine A_iload_n 1 rfl rfl rfl ?_
    refine A_iload 3 rfl rfl ?_
    refine A_ishr rfl ?_
    refine A_iconst (v := 1) rfl (by decide) ?_
    refine A_iand rfl ?_
    refine A_pc (pc' := 26) rfl ?_
    refine A_iconst (v := 1) rfl (by decide) ?_
    refine A_icmp_ne (tgt := 42) rfl (by decide) (fun hc4 => ?_) (fun hc4 => ?_)
    · rw [if_neg hc4] at h
      refine A_iload_n 1 rfl rfl rfl ?_
      refine A_istore_n (Ls' := [(2, vI l2), (0, vA 184), (3, vI l3), (4, vI l4)]) rfl rfl (by decide) rfl ?_
      obtain ⟨x5, hx5, h⟩ := kM_out h
      refine A_iinc 3 (v := x5) (Ls' := [(4, vI x5), (2, vI l2), (0, vA 184), (3, vI l3)]) rfl rfl ((iiN (k := 1) (by decide) _).trans hx5) (by decide) rfl ?_
      refine A_goto (tgt := 13) rfl (by decide) ?_
      refine A_pc (pc' := 13) rfl ?_
      refine A_sub (Ls' := [(0, vA 184), (2, vI l2), (3, vI l3), (4, vI x5)]) [2, 1, 3, 0] rfl ?_
      exact hK13 _ _ _ _ _ _ h
    · rw [if_pos hc4] at h
      refine A_pc (pc' := 30) rfl ?_
      refine A_iload_n 1 rfl rfl rfl ?_
      refine A_aload_n 0 rfl rfl rfl ?_
      refine A_getL (r := 191) rfl fl_Mod_29 rfl (by decide) rfl rfl ?_
      refine A_iload 3 rfl rfl ?_
      obtain ⟨hg6, h⟩ := gi_out h
      refine A_iald (n := 16) rfl (by decide) (by decide) (Or.inl rfl) hg6 ?_
      refine A_pc (pc' := 38) rfl ?_
      refine A_ior rfl ?_
      refine A_goto (tgt := 43) rfl (by decide) ?_
      obtain ⟨x7, hx7, h⟩ := kM_out h
      refine A_nI hx7 ?_
      refine A_istore_n (Ls' := [(2, vI x7), (0, vA 184), (3, vI l3), (4, vI l4)]) rfl rfl (by decide) rfl ?_
      obtain ⟨x8, hx8, h⟩ := kM_out h
      refine A_iinc 3 (v := x8) (Ls' := [(4, vI x8), (2, vI x7), (0, vA 184), (3, vI l3)]) rfl rfl ((iiN (k := 1) (by decide) _).trans hx8) (by decide) rfl ?_
      refine A_goto (tgt := 13) rfl (by decide) ?_
      refine A_pc (pc' := 13) rfl ?_
      refine A_sub (Ls' := [(0, vA 184), (2, vI x7), (3, vI l3), (4, vI x8)]) [2, 1, 3, 0] rfl ?_
      exact hK13 _ _ _ _ _ _ h
theorem o_Mod_closure_13 {l : Launch} {g : ax_G} (K4 : Int32 → Int32 → ax_M → Option (Int32 × ax_M)) (hK4 : ∀ (l2 : Int32) (l3 : Int32) (M : ax_M) (r : Int32) (M' : ax_M), K4 l2 l3 M = some (r, M') → AW l g true Y_Mod_closure 1 (some (vI r), M') 4 [(0, vA 184), (2, vI l2), (3, vI l3)] [] M) : ∀ (n : Nat) (l2 : Int32) (l3 : Int32) (l4 : Int32) (M : ax_M) (r : Int32) (M' : ax_M), f_Mod_closure_13 K4 n l2 l3 l4 M = some (r, M') → AW l g true Y_Mod_closure 1 (some (vI r), M') 13 [(0, vA 184), (2, vI l2), (3, vI l3), (4, vI l4)] [] M := by
  intro n
  induction n with
  | zero =>
    intro l2 l3 l4 M r M' h
    cases h
  | succ n ih =>
    intro l2 l3 l4 M r M' h
    exact o_Mod_closure_13_b K4 hK4 _ ih _ _ _ _ _ _ h
def f_Mod_closure_4_b (K4 : Int32 → Int32 → ax_M → Option (Int32 × ax_M)) (l2 : Int32) (l3 : Int32) (M : ax_M) : Option (Int32 × ax_M) :=
  if 16 ≤ l3 then (some (l2, M)) else (f_Mod_closure_13 K4 64 l2 l3 0 M)
def f_Mod_closure_4 : Nat → Int32 → Int32 → ax_M → Option (Int32 × ax_M)
  | 0, _, _, _ => none
  | n + 1, l2, l3, M => f_Mod_closure_4_b  (f_Mod_closure_4 n) l2 l3 M
set_option maxHeartbeats 4000000 in
set_option maxRecDepth 100000 in
theorem o_Mod_closure_4_b {l : Launch} {g : ax_G} (K4 : Int32 → Int32 → ax_M → Option (Int32 × ax_M)) (hK4 : ∀ (l2 : Int32) (l3 : Int32) (M : ax_M) (r : Int32) (M' : ax_M), K4 l2 l3 M = some (r, M') → AW l g true Y_Mod_closure 1 (some (vI r), M') 4 [(0, vA 184), (2, vI l2), (3, vI l3)] [] M) (l2 : Int32) (l3 : Int32) (M : ax_M) (r : Int32) (M' : ax_M) (h : f_Mod_closure_4_b  K4 l2 l3 M = some (r, M')) : AW l g true Y_Mod_closure 1 (some (vI r), M') 4 [(0, vA 184), (2, vI l2), (3, vI l3)] [] M := by
  unfold f_Mod_closure_4_b at h
  refine A_iload_n 2 rfl rfl rfl ?_
  refine A_bipush (v := 16) rfl (by decide) ?_
  refine A_icmp_ge (tgt := 56) rfl (by decide) (fun hc1 => ?_) (fun hc1 => ?_)
  · rw [if_pos hc1] at h
    refine A_iload_n 1 rfl rfl rfl ?_
    obtain ⟨rfl, rfl⟩ := leaf h
    exact A_iret rfl rfl
  · rw [if_neg hc1] at h
    refine A_pc (pc' := 10) rfl ?_
    refine A_iconst (v := 0) rfl (by decide) ?_
    refine A_istore (Ls' := [(4, vI 0), (0, vA 184), (2, vI l2), (3, vI l3)]) rfl (by decide) rfl ?_
    refine A_pc (pc' := 13) rfl ?_
    refine A_sub (Ls' := [(0, vA 184), (2, vI l2), (3, vI l3), (4, vI 0)]) [1, 2, 3, 0] rfl ?_
    exact o_Mod_closure_13 K4 hK4 _ _ _ _ _ _ _ h
theorem o_Mod_closure_4 {l : Launch} {g : ax_G} : ∀ (n : Nat) (l2 : Int32) (l3 : Int32) (M : ax_M) (r : Int32) (M' : ax_M), f_Mod_closure_4  n l2 l3 M = some (r, M') → AW l g true Y_Mod_closure 1 (some (vI r), M') 4 [(0, vA 184), (2, vI l2), (3, vI l3)] [] M := by
  intro n
  induction n with
  | zero =>
    intro l2 l3 M r M' h
    cases h
  | succ n ih =>
    intro l2 l3 M r M' h
    exact o_Mod_closure_4_b  _ ih _ _ _ _ _ h
def f_Mod_closure (a1 : Int32) (M : ax_M) : Option (Int32 × ax_M) :=
  f_Mod_closure_4 64 a1 0 M
set_option maxHeartbeats 4000000 in
set_option maxRecDepth 100000 in
theorem c_Mod_closure {l : Launch} {g : ax_G} {a1 : Int32} {M : ax_M} {r : Int32} {M' : ax_M} (h : f_Mod_closure a1 M = some (r, M')) : Ctr l g true Y_Mod_closure 1 [vA 184, vI a1] M (some (vI r), M') := by
  refine Ctr.ofAW yok_Mod_closure (Nat.le_of_ble_eq_true rfl) (Or.inl rfl) ?_
  show AW l g true Y_Mod_closure 1 (some (vI r), M') 0 [(0, vA 184), (1, vI a1)] [] M
  unfold f_Mod_closure at h
  refine A_iload_n 1 rfl rfl rfl ?_
  refine A_istore_n (Ls' := [(2, vI a1), (0, vA 184), (1, vI a1)]) rfl rfl (by decide) rfl ?_
  refine A_iconst (v := 0) rfl (by decide) ?_
  refine A_istore_n (Ls' := [(3, vI 0), (2, vI a1), (0, vA 184), (1, vI a1)]) rfl rfl (by decide) rfl ?_
  refine A_pc (pc' := 4) rfl ?_
  refine A_sub (Ls' := [(0, vA 184), (2, vI a1), (3, vI 0)]) [2, 1, 0] rfl ?_
  exact o_Mod_closure_4  _ _ _ _ _ _ h
def tb_Mod_senior : List (Nat × Instr × Nat) := [(0, .iload_n 1, 1), (1, .ifCond .lt 24, 3), (4, .iload_n 1, 1), (5, .bipush 15, 2), (7, .if_icmp .gt 18, 3), (10, .iload_n 2, 1), (11, .ifCond .lt 14, 3), (14, .iload_n 2, 1), (15, .bipush 15, 2), (17, .if_icmp .gt 8, 3), (20, .iload_n 1, 1), (21, .iload_n 2, 1), (22, .if_icmp .ne 5, 3), (25, .iconst 0, 1), (26, .ireturn, 1), (27, .aload_n 0, 1), (28, .getfield 29, 3), (31, .iload_n 1, 1), (32, .iaload, 1), (33, .iload_n 2, 1), (34, .ishr, 1), (35, .iconst 1, 1), (36, .iand, 1), (37, .iconst 1, 1), (38, .if_icmp .eq 18, 3), (41, .aload_n 0, 1), (42, .iconst 1, 1), (43, .iload_n 2, 1), (44, .ishl, 1), (45, .invokevirtual 209, 3), (48, .iload_n 1, 1), (49, .ishr, 1), (50, .iconst 1, 1), (51, .iand, 1), (52, .iconst 1, 1), (53, .if_icmp .ne 5, 3), (56, .iconst 0, 1), (57, .ireturn, 1), (58, .aload_n 0, 1), (59, .getfield 29, 3), (62, .iload_n 1, 1), (63, .aload_n 0, 1), (64, .getfield 29, 3), (67, .iload_n 1, 1), (68, .iaload, 1), (69, .iconst 1, 1), (70, .iload_n 2, 1), (71, .ishl, 1), (72, .ior, 1), (73, .iastore, 1), (74, .iconst 1, 1), (75, .ireturn, 1)]
def Y_Mod_senior : ax_Y := (⟨"MethodWardenModel", "senior", "(II)Z"⟩, prog_14_method_20_code, 3, some .boolean, tb_Mod_senior)
theorem yok_Mod_senior : yOK Y_Mod_senior := ⟨by decide +kernel, by decide +kernel, inWG 1346 (by decide +kernel) (by decide +kernel), inWG 107 (by decide +kernel) (by decide +kernel), by decide +kernel⟩
theorem ml_Mod_209 : mlV "MethodWardenModel" 209 Y_Mod_closure 1 := ⟨⟨yok_Mod_closure, by decide +kernel, by decide⟩, Or.inl (inWG 1347 (by decide +kernel) (by decide +kernel)), inWG 1349 (by decide +kernel) (by decide +kernel), inWG 67 (by decide +kernel) (by decide +kernel)⟩
def f_Mod_senior (a1 : Int32) (a2 : Int32) (M : ax_M) : Option (Int32 × ax_M) :=
  if a1 < 0 then (some (0, M)) else (if 15 < a1 then (some (0, M)) else (if a2 < 0 then (some (0, M)) else (if 15 < a2 then (some (0, M)) else (if a1 = a2 then (some (0, M)) else (gi a1 16 (if (((gI M 191 a1.toNatClampNeg) >>> (a2 &&& 31)) &&& 1) = 1 then (some (0, M)) else (bnd (f_Mod_closure (1 <<< (a2 &&& 31)) M) (fun q8 M9 => if ((q8 >>> (a1 &&& 31)) &&& 1) = 1 then (some (0, M9)) else (kM (mI M9 191 a1.toNatClampNeg ((gI M9 191 a1.toNatClampNeg) ||| (1 <<< (a2 &&& 31)))) (fun M11 => some (1, M11)))))))))))
set_option maxHeartbeats 4000000 in
set_option maxRecDepth 100000 in
theorem c_Mod_senior {l : Launch} {g : ax_G} {a1 : Int32} {a2 : Int32} {M : ax_M} {r : Int32} {M' : ax_M} (h : f_Mod_senior a1 a2 M = some (r, M')) : Ctr l g true Y_Mod_senior 2 [vA 184, vI a1, vI a2] M (some (vI r), M') := by
  refine Ctr.ofAW yok_Mod_senior (Nat.le_of_ble_eq_true rfl) (Or.inl rfl) ?_
  show AW l g true Y_Mod_senior 2 (some (vI r), M') 0 [(0, vA 184), (1, vI a1), (2, vI a2)] [] M
  unfold f_Mod_senior at h
  refine A_iload_n 1 rfl rfl rfl ?_
  refine A_if_lt (tgt := 25) rfl (by decide) (fun hc1 => ?_) (fun hc1 => ?_)
  · rw [if_pos hc1] at h
    refine A_iconst (v := 0) rfl (by decide) ?_
    obtain ⟨rfl, rfl⟩ := leaf h
    exact A_zret rfl rfl (Or.inl rfl)
  · rw [if_neg hc1] at h
    refine A_pc (pc' := 4) rfl ?_
    refine A_iload_n 1 rfl rfl rfl ?_
    refine A_bipush (v := 15) rfl (by decide) ?_
    refine A_icmp_gt (tgt := 25) rfl (by decide) (fun hc2 => ?_) (fun hc2 => ?_)
    · rw [if_pos hc2] at h
      refine A_iconst (v := 0) rfl (by decide) ?_
      obtain ⟨rfl, rfl⟩ := leaf h
      exact A_zret rfl rfl (Or.inl rfl)
    · rw [if_neg hc2] at h
      refine A_pc (pc' := 10) rfl ?_
      refine A_iload_n 2 rfl rfl rfl ?_
      refine A_if_lt (tgt := 25) rfl (by decide) (fun hc3 => ?_) (fun hc3 => ?_)
      · rw [if_pos hc3] at h
        refine A_iconst (v := 0) rfl (by decide) ?_
        obtain ⟨rfl, rfl⟩ := leaf h
        exact A_zret rfl rfl (Or.inl rfl)
      · rw [if_neg hc3] at h
        refine A_pc (pc' := 14) rfl ?_
        refine A_iload_n 2 rfl rfl rfl ?_
        refine A_bipush (v := 15) rfl (by decide) ?_
        refine A_icmp_gt (tgt := 25) rfl (by decide) (fun hc4 => ?_) (fun hc4 => ?_)
        · rw [if_pos hc4] at h
          refine A_iconst (v := 0) rfl (by decide) ?_
          obtain ⟨rfl, rfl⟩ := leaf h
          exact A_zret rfl rfl (Or.inl rfl)
        · rw [if_neg hc4] at h
          refine A_pc (pc' := 20) rfl ?_
          refine A_iload_n 1 rfl rfl rfl ?_
          refine A_iload_n 2 rfl rfl rfl ?_
          refine A_icmp_ne (tgt := 27) rfl (by decide) (fun hc5 => ?_) (fun hc5 => ?_)
          · rw [if_neg hc5] at h
            refine A_aload_n 0 rfl rfl rfl ?_
            refine A_getL (r := 191) rfl fl_Mod_29 rfl (by decide) rfl rfl ?_
            refine A_iload_n 1 rfl rfl rfl ?_
            obtain ⟨hg6, h⟩ := gi_out h
            refine A_iald (n := 16) rfl (by decide) (by decide) (Or.inl rfl) hg6 ?_
            refine A_iload_n 2 rfl rfl rfl ?_
            refine A_pc (pc' := 34) rfl ?_
            refine A_ishr rfl ?_
            refine A_iconst (v := 1) rfl (by decide) ?_
            refine A_iand rfl ?_
            refine A_iconst (v := 1) rfl (by decide) ?_
            refine A_icmp_eq (tgt := 56) rfl (by decide) (fun hc7 => ?_) (fun hc7 => ?_)
            · rw [if_pos hc7] at h
              refine A_iconst (v := 0) rfl (by decide) ?_
              obtain ⟨rfl, rfl⟩ := leaf h
              exact A_zret rfl rfl (Or.inl rfl)
            · rw [if_neg hc7] at h
              refine A_pc (pc' := 41) rfl ?_
              refine A_aload_n 0 rfl rfl rfl ?_
              refine A_iconst (v := 1) rfl (by decide) ?_
              refine A_iload_n 2 rfl rfl rfl ?_
              refine A_ishl rfl ?_
              obtain ⟨q8, M9, hcq8, h⟩ := bnd_out h
              refine A_callV (ci := 11) (as := [vI (1 <<< (a2 &&& 31))]) (st' := []) (r1 := (some (vI q8), M9)) rfl ml_Mod_209 rfl (by decide) (by decide) (Or.inl rfl) rfl rfl (Nat.le_of_ble_eq_true rfl) (by decide) (c_Mod_closure hcq8) (Or.inl rfl) ?_
              refine A_pc (pc' := 48) rfl ?_
              refine A_stk (st' := [vI q8]) rfl ?_
              refine A_pc (pc' := 48) rfl ?_
              refine A_iload_n 1 rfl rfl rfl ?_
              refine A_ishr rfl ?_
              refine A_iconst (v := 1) rfl (by decide) ?_
              refine A_iand rfl ?_
              refine A_iconst (v := 1) rfl (by decide) ?_
              refine A_icmp_ne (tgt := 58) rfl (by decide) (fun hc10 => ?_) (fun hc10 => ?_)
              · rw [if_neg hc10] at h
                refine A_aload_n 0 rfl rfl rfl ?_
                refine A_getL (r := 191) rfl fl_Mod_29 rfl (by decide) rfl rfl ?_
                refine A_iload_n 1 rfl rfl rfl ?_
                refine A_aload_n 0 rfl rfl rfl ?_
                refine A_getL (r := 191) rfl fl_Mod_29 rfl (by decide) rfl rfl ?_
                refine A_pc (pc' := 67) rfl ?_
                refine A_iload_n 1 rfl rfl rfl ?_
                refine A_iald (n := 16) rfl (by decide) (by decide) (Or.inl rfl) hg6 ?_
                refine A_iconst (v := 1) rfl (by decide) ?_
                refine A_iload_n 2 rfl rfl rfl ?_
                refine A_ishl rfl ?_
                refine A_ior rfl ?_
                refine A_pc (pc' := 73) rfl ?_
                refine A_iast (n := 16) rfl (by decide) (by decide) (Or.inl rfl) hg6 ?_
                obtain ⟨M11, hM11, h⟩ := kM_out h
                refine A_mem hM11 ?_
                refine A_iconst (v := 1) rfl (by decide) ?_
                obtain ⟨rfl, rfl⟩ := leaf h
                exact A_zret rfl rfl (Or.inr rfl)
              · rw [if_pos hc10] at h
                refine A_pc (pc' := 56) rfl ?_
                refine A_iconst (v := 0) rfl (by decide) ?_
                obtain ⟨rfl, rfl⟩ := leaf h
                exact A_zret rfl rfl (Or.inl rfl)
          · rw [if_pos hc5] at h
            refine A_pc (pc' := 25) rfl ?_
            refine A_iconst (v := 0) rfl (by decide) ?_
            obtain ⟨rfl, rfl⟩ := leaf h
            exact A_zret rfl rfl (Or.inl rfl)
def tb_Mod_login : List (Nat × Instr × Nat) := [(0, .iload_n 1, 1), (1, .iconst (-1), 1), (2, .if_icmp .lt 24, 3), (5, .iload_n 1, 1), (6, .sipush 999, 3), (9, .if_icmp .gt 17, 3), (12, .iload_n 1, 1), (13, .ifCond .lt 15, 3), (16, .iload_n 2, 1), (17, .ifCond .lt 9, 3), (20, .iload_n 2, 1), (21, .ldc 212, 2), (23, .if_icmp .le 5, 3), (26, .iconst 0, 1), (27, .ireturn, 1), (28, .aload_n 0, 1), (29, .iload_n 1, 1), (30, .putfield 32, 3), (33, .aload_n 0, 1), (34, .iload_n 1, 1), (35, .ifCond .ge 7, 3), (38, .iconst 0, 1), (39, .goto 4, 3), (42, .iload_n 2, 1), (43, .putfield 213, 3), (46, .iconst 1, 1), (47, .ireturn, 1)]
def Y_Mod_login : ax_Y := (⟨"MethodWardenModel", "login", "(II)Z"⟩, prog_14_method_21_code, 3, some .boolean, tb_Mod_login)
theorem yok_Mod_login : yOK Y_Mod_login := ⟨by decide +kernel, by decide +kernel, inWG 1354 (by decide +kernel) (by decide +kernel), inWG 107 (by decide +kernel) (by decide +kernel), by decide +kernel⟩
theorem fl_Mod_32 : fldOK "MethodWardenModel" 32 11 13 false := ⟨_, _, _, cls_Mod, by decide, by decide, rfl, Or.inl (inWG 1100 (by decide +kernel) (by decide +kernel))⟩
theorem fl_Mod_213 : fldOK "MethodWardenModel" 213 11 14 false := ⟨_, _, _, cls_Mod, by decide, by decide, rfl, Or.inl (inWG 1101 (by decide +kernel) (by decide +kernel))⟩
def f_Mod_login_28 (l1 : Int32) (l2 : Int32) (M : ax_M) : Option (Int32 × ax_M) :=
  kM (mI M 184 13 l1) (fun M4 => if 0 ≤ l1 then (kM (mI M4 184 14 l2) (fun M6 => some (1, M6))) else (kM (mI M4 184 14 0) (fun M7 => some (1, M7))))
set_option maxHeartbeats 4000000 in
set_option maxRecDepth 100000 in
theorem o_Mod_login_28 {l : Launch} {g : ax_G} (l1 : Int32) (l2 : Int32) (M : ax_M) (r : Int32) (M' : ax_M) (h : f_Mod_login_28  l1 l2 M = some (r, M')) : AW l g true Y_Mod_login 1 (some (vI r), M') 28 [(0, vA 184), (1, vI l1), (2, vI l2)] [] M := by
  unfold f_Mod_login_28 at h
  refine A_aload_n 0 rfl rfl rfl ?_
  refine A_iload_n 1 rfl rfl rfl ?_
  refine A_putI rfl (Or.inl fl_Mod_32) rfl (by decide) (Or.inl rfl) rfl ?_
  obtain ⟨M4, hM4, h⟩ := kM_out h
  refine A_mem hM4 ?_
  refine A_aload_n 0 rfl rfl rfl ?_
  refine A_iload_n 1 rfl rfl rfl ?_
  refine A_pc (pc' := 35) rfl ?_
  refine A_if_ge (tgt := 42) rfl (by decide) (fun hc5 => ?_) (fun hc5 => ?_)
  · rw [if_pos hc5] at h
    refine A_iload_n 2 rfl rfl rfl ?_
    refine A_putI rfl (Or.inl fl_Mod_213) rfl (by decide) (Or.inl rfl) rfl ?_
    obtain ⟨M6, hM6, h⟩ := kM_out h
    refine A_mem hM6 ?_
    refine A_iconst (v := 1) rfl (by decide) ?_
    obtain ⟨rfl, rfl⟩ := leaf h
    exact A_zret rfl rfl (Or.inr rfl)
  · rw [if_neg hc5] at h
    refine A_pc (pc' := 38) rfl ?_
    refine A_iconst (v := 0) rfl (by decide) ?_
    refine A_goto (tgt := 43) rfl (by decide) ?_
    refine A_putI rfl (Or.inl fl_Mod_213) rfl (by decide) (Or.inl rfl) rfl ?_
    obtain ⟨M7, hM7, h⟩ := kM_out h
    refine A_mem hM7 ?_
    refine A_iconst (v := 1) rfl (by decide) ?_
    obtain ⟨rfl, rfl⟩ := leaf h
    exact A_zret rfl rfl (Or.inr rfl)
def f_Mod_login (a1 : Int32) (a2 : Int32) (M : ax_M) : Option (Int32 × ax_M) :=
  if a1 < ((-1)) then (some (0, M)) else (if 999 < a1 then (some (0, M)) else (if a1 < 0 then (f_Mod_login_28 a1 a2 M) else (if a2 < 0 then (some (0, M)) else (if a2 ≤ 65535 then (f_Mod_login_28 a1 a2 M) else (some (0, M))))))
set_option maxHeartbeats 4000000 in
set_option maxRecDepth 100000 in
theorem c_Mod_login {l : Launch} {g : ax_G} {a1 : Int32} {a2 : Int32} {M : ax_M} {r : Int32} {M' : ax_M} (h : f_Mod_login a1 a2 M = some (r, M')) : Ctr l g true Y_Mod_login 1 [vA 184, vI a1, vI a2] M (some (vI r), M') := by
  refine Ctr.ofAW yok_Mod_login (Nat.le_of_ble_eq_true rfl) (Or.inl rfl) ?_
  show AW l g true Y_Mod_login 1 (some (vI r), M') 0 [(0, vA 184), (1, vI a1), (2, vI a2)] [] M
  unfold f_Mod_login at h
  refine A_iload_n 1 rfl rfl rfl ?_
  refine A_iconst (v := (-1)) rfl (by decide) ?_
  refine A_icmp_lt (tgt := 26) rfl (by decide) (fun hc1 => ?_) (fun hc1 => ?_)
  · rw [if_pos hc1] at h
    refine A_iconst (v := 0) rfl (by decide) ?_
    obtain ⟨rfl, rfl⟩ := leaf h
    exact A_zret rfl rfl (Or.inl rfl)
  · rw [if_neg hc1] at h
    refine A_pc (pc' := 5) rfl ?_
    refine A_iload_n 1 rfl rfl rfl ?_
    refine A_sipush (v := 999) rfl (by decide) ?_
    refine A_icmp_gt (tgt := 26) rfl (by decide) (fun hc2 => ?_) (fun hc2 => ?_)
    · rw [if_pos hc2] at h
      refine A_iconst (v := 0) rfl (by decide) ?_
      obtain ⟨rfl, rfl⟩ := leaf h
      exact A_zret rfl rfl (Or.inl rfl)
    · rw [if_neg hc2] at h
      refine A_pc (pc' := 12) rfl ?_
      refine A_iload_n 1 rfl rfl rfl ?_
      refine A_if_lt (tgt := 28) rfl (by decide) (fun hc3 => ?_) (fun hc3 => ?_)
      · rw [if_pos hc3] at h
        refine A_pc (pc' := 28) rfl ?_
        refine A_sub (Ls' := [(0, vA 184), (1, vI a1), (2, vI a2)]) [0, 1, 2] rfl ?_
        exact o_Mod_login_28  _ _ _ _ _ h
      · rw [if_neg hc3] at h
        refine A_pc (pc' := 16) rfl ?_
        refine A_iload_n 2 rfl rfl rfl ?_
        refine A_if_lt (tgt := 26) rfl (by decide) (fun hc8 => ?_) (fun hc8 => ?_)
        · rw [if_pos hc8] at h
          refine A_iconst (v := 0) rfl (by decide) ?_
          obtain ⟨rfl, rfl⟩ := leaf h
          exact A_zret rfl rfl (Or.inl rfl)
        · rw [if_neg hc8] at h
          refine A_pc (pc' := 20) rfl ?_
          refine A_iload_n 2 rfl rfl rfl ?_
          refine A_ldc (v := 65535) rfl (inWG 1355 (by decide +kernel) (by decide +kernel)) ?_
          refine A_icmp_le (tgt := 28) rfl (by decide) (fun hc9 => ?_) (fun hc9 => ?_)
          · rw [if_pos hc9] at h
            refine A_pc (pc' := 28) rfl ?_
            refine A_sub (Ls' := [(0, vA 184), (1, vI a1), (2, vI a2)]) [0, 1, 2] rfl ?_
            exact o_Mod_login_28  _ _ _ _ _ h
          · rw [if_neg hc9] at h
            refine A_pc (pc' := 26) rfl ?_
            refine A_iconst (v := 0) rfl (by decide) ?_
            obtain ⟨rfl, rfl⟩ := leaf h
            exact A_zret rfl rfl (Or.inl rfl)
def tb_Mod_context : List (Nat × Instr × Nat) := [(0, .aload_n 0, 1), (1, .getfield 32, 3), (4, .ifCond .ge 7, 3), (7, .iconst (-1), 1), (8, .goto 19, 3), (11, .aload_n 0, 1), (12, .getfield 32, 3), (15, .ldc 216, 2), (17, .imul, 1), (18, .aload_n 0, 1), (19, .aload_n 0, 1), (20, .getfield 213, 3), (23, .invokevirtual 209, 3), (26, .iadd, 1), (27, .ireturn, 1)]
def Y_Mod_context : ax_Y := (⟨"MethodWardenModel", "context", "()I"⟩, prog_14_method_22_code, 1, some .int, tb_Mod_context)
theorem yok_Mod_context : yOK Y_Mod_context := ⟨by decide +kernel, by decide +kernel, inWG 1359 (by decide +kernel) (by decide +kernel), inWG 107 (by decide +kernel) (by decide +kernel), by decide +kernel⟩
def f_Mod_context  (M : ax_M) : Option (Int32 × ax_M) :=
  if 0 ≤ (gI M 184 13) then (bnd (f_Mod_closure (gI M 184 14) M) (fun q2 M3 => some (((gI M 184 13) * 65536) + q2, M3))) else (some ((-1), M))
set_option maxHeartbeats 4000000 in
set_option maxRecDepth 100000 in
theorem c_Mod_context {l : Launch} {g : ax_G}  {M : ax_M} {r : Int32} {M' : ax_M} (h : f_Mod_context  M = some (r, M')) : Ctr l g true Y_Mod_context 2 [vA 184] M (some (vI r), M') := by
  refine Ctr.ofAW yok_Mod_context (Nat.le_of_ble_eq_true rfl) (Or.inl rfl) ?_
  show AW l g true Y_Mod_context 2 (some (vI r), M') 0 [(0, vA 184)] [] M
  unfold f_Mod_context at h
  refine A_aload_n 0 rfl rfl rfl ?_
  refine A_getI rfl fl_Mod_32 rfl (by decide) (Or.inl rfl) ?_
  refine A_if_ge (tgt := 11) rfl (by decide) (fun hc1 => ?_) (fun hc1 => ?_)
  · rw [if_pos hc1] at h
    refine A_aload_n 0 rfl rfl rfl ?_
    refine A_getI rfl fl_Mod_32 rfl (by decide) (Or.inl rfl) ?_
    refine A_ldc (v := 65536) rfl (inWG 1360 (by decide +kernel) (by decide +kernel)) ?_
    refine A_imul rfl ?_
    refine A_aload_n 0 rfl rfl rfl ?_
    refine A_pc (pc' := 19) rfl ?_
    refine A_aload_n 0 rfl rfl rfl ?_
    refine A_getI rfl fl_Mod_213 rfl (by decide) (Or.inl rfl) ?_
    obtain ⟨q2, M3, hcq2, h⟩ := bnd_out h
    refine A_callV (ci := 11) (as := [vI (gI M 184 14)]) (st' := [vI ((gI M 184 13) * 65536)]) (r1 := (some (vI q2), M3)) rfl ml_Mod_209 rfl (by decide) (by decide) (Or.inl rfl) rfl rfl (Nat.le_of_ble_eq_true rfl) (by decide) (c_Mod_closure hcq2) (Or.inl rfl) ?_
    refine A_pc (pc' := 26) rfl ?_
    refine A_stk (st' := [vI q2, vI ((gI M 184 13) * 65536)]) rfl ?_
    refine A_iadd rfl ?_
    obtain ⟨rfl, rfl⟩ := leaf h
    exact A_iret rfl rfl
  · rw [if_neg hc1] at h
    refine A_pc (pc' := 7) rfl ?_
    refine A_iconst (v := (-1)) rfl (by decide) ?_
    refine A_goto (tgt := 27) rfl (by decide) ?_
    obtain ⟨rfl, rfl⟩ := leaf h
    exact A_iret rfl rfl
def tb_Mod_add : List (Nat × Instr × Nat) := [(0, .aload_n 0, 1), (1, .getfield 217, 3), (4, .iconst 5, 1), (5, .if_icmp .lt 5, 3), (8, .iconst 0, 1), (9, .ireturn, 1), (10, .aload_n 0, 1), (11, .getfield 36, 3), (14, .aload_n 0, 1), (15, .getfield 217, 3), (18, .iload_n 1, 1), (19, .iastore, 1), (20, .aload_n 0, 1), (21, .dup, 1), (22, .getfield 217, 3), (25, .iconst 1, 1), (26, .iadd, 1), (27, .putfield 217, 3), (30, .iconst 1, 1), (31, .ireturn, 1)]
def Y_Mod_add : ax_Y := (⟨"MethodWardenModel", "add", "(I)Z"⟩, prog_14_method_23_code, 2, some .boolean, tb_Mod_add)
theorem yok_Mod_add : yOK Y_Mod_add := ⟨by decide +kernel, by decide +kernel, inWG 1364 (by decide +kernel) (by decide +kernel), inWG 107 (by decide +kernel) (by decide +kernel), by decide +kernel⟩
theorem fl_Mod_217 : fldOK "MethodWardenModel" 217 11 16 false := ⟨_, _, _, cls_Mod, by decide, by decide, rfl, Or.inl (inWG 1103 (by decide +kernel) (by decide +kernel))⟩
theorem fl_Mod_36 : fldOK "MethodWardenModel" 36 11 15 false := ⟨_, _, _, cls_Mod, by decide, by decide, rfl, Or.inl (inWG 1102 (by decide +kernel) (by decide +kernel))⟩
def f_Mod_add (a1 : Int32) (M : ax_M) : Option (Int32 × ax_M) :=
  if (gI M 184 16) < 5 then (gi (gI M 184 16) 5 (kM (mI M 192 (gI M 184 16).toNatClampNeg a1) (fun M3 => kM (mI M3 184 16 ((gI M3 184 16) + 1)) (fun M4 => some (1, M4))))) else (some (0, M))
set_option maxHeartbeats 4000000 in
set_option maxRecDepth 100000 in
theorem c_Mod_add {l : Launch} {g : ax_G} {a1 : Int32} {M : ax_M} {r : Int32} {M' : ax_M} (h : f_Mod_add a1 M = some (r, M')) : Ctr l g true Y_Mod_add 1 [vA 184, vI a1] M (some (vI r), M') := by
  refine Ctr.ofAW yok_Mod_add (Nat.le_of_ble_eq_true rfl) (Or.inl rfl) ?_
  show AW l g true Y_Mod_add 1 (some (vI r), M') 0 [(0, vA 184), (1, vI a1)] [] M
  unfold f_Mod_add at h
  refine A_aload_n 0 rfl rfl rfl ?_
  refine A_getI rfl fl_Mod_217 rfl (by decide) (Or.inl rfl) ?_
  refine A_iconst (v := 5) rfl (by decide) ?_
  refine A_icmp_lt (tgt := 10) rfl (by decide) (fun hc1 => ?_) (fun hc1 => ?_)
  · rw [if_pos hc1] at h
    refine A_aload_n 0 rfl rfl rfl ?_
    refine A_getL (r := 192) rfl fl_Mod_36 rfl (by decide) rfl rfl ?_
    refine A_aload_n 0 rfl rfl rfl ?_
    refine A_getI rfl fl_Mod_217 rfl (by decide) (Or.inl rfl) ?_
    refine A_iload_n 1 rfl rfl rfl ?_
    refine A_pc (pc' := 19) rfl ?_
    obtain ⟨hg2, h⟩ := gi_out h
    refine A_iast (n := 5) rfl (by decide) (by decide) (Or.inl rfl) hg2 ?_
    obtain ⟨M3, hM3, h⟩ := kM_out h
    refine A_mem hM3 ?_
    refine A_aload_n 0 rfl rfl rfl ?_
    refine A_dup rfl rfl ?_
    refine A_getI rfl fl_Mod_217 rfl (by decide) (Or.inl rfl) ?_
    refine A_iconst (v := 1) rfl (by decide) ?_
    refine A_iadd rfl ?_
    refine A_pc (pc' := 27) rfl ?_
    refine A_putI rfl (Or.inl fl_Mod_217) rfl (by decide) (Or.inl rfl) rfl ?_
    obtain ⟨M4, hM4, h⟩ := kM_out h
    refine A_mem hM4 ?_
    refine A_iconst (v := 1) rfl (by decide) ?_
    obtain ⟨rfl, rfl⟩ := leaf h
    exact A_zret rfl rfl (Or.inr rfl)
  · rw [if_neg hc1] at h
    refine A_pc (pc' := 8) rfl ?_
    refine A_iconst (v := 0) rfl (by decide) ?_
    obtain ⟨rfl, rfl⟩ := leaf h
    exact A_zret rfl rfl (Or.inl rfl)
def tb_Mod_empty : List (Nat × Instr × Nat) := [(0, .aload_n 0, 1), (1, .iconst 0, 1), (2, .putfield 217, 3), (5, .return_, 1)]
def Y_Mod_empty : ax_Y := (⟨"MethodWardenModel", "empty", "()V"⟩, prog_14_method_24_code, 1, none, tb_Mod_empty)
theorem yok_Mod_empty : yOK Y_Mod_empty := ⟨by decide +kernel, by decide +kernel, inWG 1368 (by decide +kernel) (by decide +kernel), inWG 107 (by decide +kernel) (by decide +kernel), by decide +kernel⟩
def f_Mod_empty  (M : ax_M) : Option (Unit × ax_M) :=
  kM (mI M 184 16 0) (fun M1 => some ((), M1))
set_option maxHeartbeats 4000000 in
set_option maxRecDepth 100000 in
theorem c_Mod_empty {l : Launch} {g : ax_G}  {M : ax_M} {r : Unit} {M' : ax_M} (h : f_Mod_empty  M = some (r, M')) : Ctr l g true Y_Mod_empty 1 [vA 184] M (none, M') := by
  refine Ctr.ofAW yok_Mod_empty (Nat.le_of_ble_eq_true rfl) (Or.inl rfl) ?_
  show AW l g true Y_Mod_empty 1 (none, M') 0 [(0, vA 184)] [] M
  unfold f_Mod_empty at h
  refine A_aload_n 0 rfl rfl rfl ?_
  refine A_iconst (v := 0) rfl (by decide) ?_
  refine A_putI rfl (Or.inl fl_Mod_217) rfl (by decide) (Or.inl rfl) rfl ?_
  obtain ⟨M1, hM1, h⟩ := kM_out h
  refine A_mem hM1 ?_
  obtain ⟨rfl, rfl⟩ := leaf h
  exact A_vret rfl rfl
def tb_Mod_written : List (Nat × Instr × Nat) := [(0, .iload_n 1, 1), (1, .ifCond .lt 22, 3), (4, .iload_n 1, 1), (5, .bipush 7, 2), (7, .if_icmp .gt 16, 3), (10, .aload_n 0, 1), (11, .getfield 20, 3), (14, .iload_n 1, 1), (15, .iaload, 1), (16, .ifCond .le 7, 3), (19, .iconst 1, 1), (20, .goto 4, 3), (23, .iconst 0, 1), (24, .ireturn, 1)]
def Y_Mod_written : ax_Y := (⟨"MethodWardenModel", "written", "(I)Z"⟩, prog_14_method_26_code, 2, some .boolean, tb_Mod_written)
theorem yok_Mod_written : yOK Y_Mod_written := ⟨by decide +kernel, by decide +kernel, inWG 1376 (by decide +kernel) (by decide +kernel), inWG 107 (by decide +kernel) (by decide +kernel), by decide +kernel⟩
def f_Mod_written (a1 : Int32) (M : ax_M) : Option (Int32 × ax_M) :=
  if a1 < 0 then (some (0, M)) else (if 7 < a1 then (some (0, M)) else (gi a1 9 (if (gI M 188 a1.toNatClampNeg) ≤ 0 then (some (0, M)) else (some (1, M)))))
set_option maxHeartbeats 4000000 in
set_option maxRecDepth 100000 in
theorem c_Mod_written {l : Launch} {g : ax_G} {a1 : Int32} {M : ax_M} {r : Int32} {M' : ax_M} (h : f_Mod_written a1 M = some (r, M')) : Ctr l g true Y_Mod_written 1 [vA 184, vI a1] M (some (vI r), M') := by
  refine Ctr.ofAW yok_Mod_written (Nat.le_of_ble_eq_true rfl) (Or.inl rfl) ?_
  show AW l g true Y_Mod_written 1 (some (vI r), M') 0 [(0, vA 184), (1, vI a1)] [] M
  unfold f_Mod_written at h
  refine A_iload_n 1 rfl rfl rfl ?_
  refine A_if_lt (tgt := 23) rfl (by decide) (fun hc1 => ?_) (fun hc1 => ?_)
  · rw [if_pos hc1] at h
    refine A_iconst (v := 0) rfl (by decide) ?_
    obtain ⟨rfl, rfl⟩ := leaf h
    exact A_zret rfl rfl (Or.inl rfl)
  · rw [if_neg hc1] at h
    refine A_pc (pc' := 4) rfl ?_
    refine A_iload_n 1 rfl rfl rfl ?_
    refine A_bipush (v := 7) rfl (by decide) ?_
    refine A_icmp_gt (tgt := 23) rfl (by decide) (fun hc2 => ?_) (fun hc2 => ?_)
    · rw [if_pos hc2] at h
      refine A_iconst (v := 0) rfl (by decide) ?_
      obtain ⟨rfl, rfl⟩ := leaf h
      exact A_zret rfl rfl (Or.inl rfl)
    · rw [if_neg hc2] at h
      refine A_pc (pc' := 10) rfl ?_
      refine A_aload_n 0 rfl rfl rfl ?_
      refine A_getL (r := 188) rfl fl_Mod_20 rfl (by decide) rfl rfl ?_
      refine A_iload_n 1 rfl rfl rfl ?_
      obtain ⟨hg3, h⟩ := gi_out h
      refine A_iald (n := 9) rfl (by decide) (by decide) (Or.inl rfl) hg3 ?_
      refine A_if_le (tgt := 23) rfl (by decide) (fun hc4 => ?_) (fun hc4 => ?_)
      · rw [if_pos hc4] at h
        refine A_iconst (v := 0) rfl (by decide) ?_
        obtain ⟨rfl, rfl⟩ := leaf h
        exact A_zret rfl rfl (Or.inl rfl)
      · rw [if_neg hc4] at h
        refine A_pc (pc' := 19) rfl ?_
        refine A_iconst (v := 1) rfl (by decide) ?_
        refine A_goto (tgt := 24) rfl (by decide) ?_
        obtain ⟨rfl, rfl⟩ := leaf h
        exact A_zret rfl rfl (Or.inr rfl)
def tb_Mod_guard : List (Nat × Instr × Nat) := [(0, .iload_n 1, 1), (1, .ifCond .lt 18, 3), (4, .iload_n 1, 1), (5, .bipush 9, 2), (7, .if_icmp .gt 12, 3), (10, .iload_n 2, 1), (11, .ifCond .lt 8, 3), (14, .iload_n 2, 1), (15, .iconst 4, 1), (16, .if_icmp .le 5, 3), (19, .iconst 0, 1), (20, .ireturn, 1), (21, .iload_n 2, 1), (22, .iconst 3, 1), (23, .if_icmp .ne 13, 3), (26, .iload_n 3, 1), (27, .ifCond .lt 22, 3), (30, .iload_n 3, 1), (31, .ldc 212, 2), (33, .if_icmp .gt 16, 3), (36, .iload_n 2, 1), (37, .iconst 4, 1), (38, .if_icmp .ne 13, 3), (41, .aload_n 0, 1), (42, .iload_n 3, 1), (43, .invokevirtual 220, 3), (46, .ifCond .ne 5, 3), (49, .iconst 0, 1), (50, .ireturn, 1), (51, .iload_n 2, 1), (52, .ifCond .ne 15, 3), (55, .aload_n 0, 1), (56, .getfield 39, 3), (59, .iload_n 1, 1), (60, .iaload, 1), (61, .ifCond .ne 27, 3), (64, .goto 22, 3), (67, .aload_n 0, 1), (68, .getfield 39, 3), (71, .iload_n 1, 1), (72, .iaload, 1), (73, .ifCond .eq 15, 3), (76, .aload_n 0, 1), (77, .getfield 39, 3), (80, .iload_n 1, 1), (81, .iaload, 1), (82, .iload_n 2, 1), (83, .if_icmp .eq 5, 3), (86, .iconst 0, 1), (87, .ireturn, 1), (88, .aload_n 0, 1), (89, .getfield 39, 3), (92, .iload_n 1, 1), (93, .iload_n 2, 1), (94, .iastore, 1), (95, .aload_n 0, 1), (96, .getfield 42, 3), (99, .iload_n 1, 1), (100, .iload_n 3, 1), (101, .iastore, 1), (102, .iconst 1, 1), (103, .ireturn, 1)]
def Y_Mod_guard : ax_Y := (⟨"MethodWardenModel", "guard", "(III)Z"⟩, prog_14_method_25_code, 4, some .boolean, tb_Mod_guard)
theorem yok_Mod_guard : yOK Y_Mod_guard := ⟨by decide +kernel, by decide +kernel, inWG 1372 (by decide +kernel) (by decide +kernel), inWG 107 (by decide +kernel) (by decide +kernel), by decide +kernel⟩
theorem fl_Mod_39 : fldOK "MethodWardenModel" 39 11 17 false := ⟨_, _, _, cls_Mod, by decide, by decide, rfl, Or.inl (inWG 1104 (by decide +kernel) (by decide +kernel))⟩
theorem fl_Mod_42 : fldOK "MethodWardenModel" 42 11 18 false := ⟨_, _, _, cls_Mod, by decide, by decide, rfl, Or.inl (inWG 1105 (by decide +kernel) (by decide +kernel))⟩
theorem ml_Mod_220 : mlV "MethodWardenModel" 220 Y_Mod_written 1 := ⟨⟨yok_Mod_written, by decide +kernel, by decide⟩, Or.inl (inWG 1373 (by decide +kernel) (by decide +kernel)), inWG 1375 (by decide +kernel) (by decide +kernel), inWG 68 (by decide +kernel) (by decide +kernel)⟩
def f_Mod_guard_88 (l1 : Int32) (l2 : Int32) (l3 : Int32) (M : ax_M) : Option (Int32 × ax_M) :=
  gi l1 10 (kM (mI M 193 l1.toNatClampNeg l2) (fun M11 => kM (mI M11 194 l1.toNatClampNeg l3) (fun M12 => some (1, M12))))
set_option maxHeartbeats 4000000 in
set_option maxRecDepth 100000 in
theorem o_Mod_guard_88 {l : Launch} {g : ax_G} (l1 : Int32) (l2 : Int32) (l3 : Int32) (M : ax_M) (r : Int32) (M' : ax_M) (h : f_Mod_guard_88  l1 l2 l3 M = some (r, M')) : AW l g true Y_Mod_guard 2 (some (vI r), M') 88 [(0, vA 184), (1, vI l1), (2, vI l2), (3, vI l3)] [] M := by
  unfold f_Mod_guard_88 at h
  refine A_aload_n 0 rfl rfl rfl ?_
  refine A_getL (r := 193) rfl fl_Mod_39 rfl (by decide) rfl rfl ?_
  refine A_iload_n 1 rfl rfl rfl ?_
  refine A_iload_n 2 rfl rfl rfl ?_
  obtain ⟨hg10, h⟩ := gi_out h
  refine A_iast (n := 10) rfl (by decide) (by decide) (Or.inl rfl) hg10 ?_
  obtain ⟨M11, hM11, h⟩ := kM_out h
  refine A_mem hM11 ?_
  refine A_pc (pc' := 95) rfl ?_
  refine A_aload_n 0 rfl rfl rfl ?_
  refine A_getL (r := 194) rfl fl_Mod_42 rfl (by decide) rfl rfl ?_
  refine A_iload_n 1 rfl rfl rfl ?_
  refine A_iload_n 3 rfl rfl rfl ?_
  refine A_iast (n := 10) rfl (by decide) (by decide) (Or.inl rfl) hg10 ?_
  obtain ⟨M12, hM12, h⟩ := kM_out h
  refine A_mem hM12 ?_
  refine A_iconst (v := 1) rfl (by decide) ?_
  refine A_pc (pc' := 103) rfl ?_
  obtain ⟨rfl, rfl⟩ := leaf h
  exact A_zret rfl rfl (Or.inr rfl)
def f_Mod_guard_51 (l1 : Int32) (l2 : Int32) (l3 : Int32) (M : ax_M) : Option (Int32 × ax_M) :=
  if l2 = 0 then (gi l1 10 (if (gI M 193 l1.toNatClampNeg) = 0 then (some (0, M)) else (f_Mod_guard_88 l1 l2 l3 M))) else (gi l1 10 (if (gI M 193 l1.toNatClampNeg) = 0 then (f_Mod_guard_88 l1 l2 l3 M) else (if (gI M 193 l1.toNatClampNeg) = l2 then (f_Mod_guard_88 l1 l2 l3 M) else (some (0, M)))))
set_option maxHeartbeats 4000000 in
set_option maxRecDepth 100000 in
theorem o_Mod_guard_51 {l : Launch} {g : ax_G} (l1 : Int32) (l2 : Int32) (l3 : Int32) (M : ax_M) (r : Int32) (M' : ax_M) (h : f_Mod_guard_51  l1 l2 l3 M = some (r, M')) : AW l g true Y_Mod_guard 2 (some (vI r), M') 51 [(0, vA 184), (1, vI l1), (2, vI l2), (3, vI l3)] [] M := by
  unfold f_Mod_guard_51 at h
  refine A_iload_n 2 rfl rfl rfl ?_
  refine A_if_ne (tgt := 67) rfl (by decide) (fun hc7 => ?_) (fun hc7 => ?_)
  · rw [if_neg hc7] at h
    refine A_aload_n 0 rfl rfl rfl ?_
    refine A_getL (r := 193) rfl fl_Mod_39 rfl (by decide) rfl rfl ?_
    refine A_iload_n 1 rfl rfl rfl ?_
    obtain ⟨hg8, h⟩ := gi_out h
    refine A_iald (n := 10) rfl (by decide) (by decide) (Or.inl rfl) hg8 ?_
    refine A_if_eq (tgt := 88) rfl (by decide) (fun hc9 => ?_) (fun hc9 => ?_)
    · rw [if_pos hc9] at h
      refine A_pc (pc' := 88) rfl ?_
      refine A_sub (Ls' := [(0, vA 184), (1, vI l1), (2, vI l2), (3, vI l3)]) [0, 1, 2, 3] rfl ?_
      exact o_Mod_guard_88  _ _ _ _ _ _ h
    · rw [if_neg hc9] at h
      refine A_pc (pc' := 76) rfl ?_
      refine A_aload_n 0 rfl rfl rfl ?_
      refine A_getL (r := 193) rfl fl_Mod_39 rfl (by decide) rfl rfl ?_
      refine A_iload_n 1 rfl rfl rfl ?_
      refine A_iald (n := 10) rfl (by decide) (by decide) (Or.inl rfl) hg8 ?_
      refine A_iload_n 2 rfl rfl rfl ?_
      refine A_pc (pc' := 83) rfl ?_
      refine A_icmp_eq (tgt := 88) rfl (by decide) (fun hc13 => ?_) (fun hc13 => ?_)
      · rw [if_pos hc13] at h
        refine A_pc (pc' := 88) rfl ?_
        refine A_sub (Ls' := [(0, vA 184), (1, vI l1), (2, vI l2), (3, vI l3)]) [0, 1, 2, 3] rfl ?_
        exact o_Mod_guard_88  _ _ _ _ _ _ h
      · rw [if_neg hc13] at h
        refine A_pc (pc' := 86) rfl ?_
        refine A_iconst (v := 0) rfl (by decide) ?_
        obtain ⟨rfl, rfl⟩ := leaf h
        exact A_zret rfl rfl (Or.inl rfl)
  · rw [if_pos hc7] at h
    refine A_pc (pc' := 55) rfl ?_
    refine A_aload_n 0 rfl rfl rfl ?_
    refine A_getL (r := 193) rfl fl_Mod_39 rfl (by decide) rfl rfl ?_
    refine A_iload_n 1 rfl rfl rfl ?_
    obtain ⟨hg14, h⟩ := gi_out h
    refine A_iald (n := 10) rfl (by decide) (by decide) (Or.inl rfl) hg14 ?_
    refine A_if_ne (tgt := 88) rfl (by decide) (fun hc15 => ?_) (fun hc15 => ?_)
    · rw [if_neg hc15] at h
      refine A_pc (pc' := 88) rfl ?_
      refine A_sub (Ls' := [(0, vA 184), (1, vI l1), (2, vI l2), (3, vI l3)]) [0, 1, 2, 3] rfl ?_
      exact o_Mod_guard_88  _ _ _ _ _ _ h
    · rw [if_pos hc15] at h
      refine A_pc (pc' := 64) rfl ?_
      refine A_goto (tgt := 86) rfl (by decide) ?_
      refine A_iconst (v := 0) rfl (by decide) ?_
      obtain ⟨rfl, rfl⟩ := leaf h
      exact A_zret rfl rfl (Or.inl rfl)
def f_Mod_guard (a1 : Int32) (a2 : Int32) (a3 : Int32) (M : ax_M) : Option (Int32 × ax_M) :=
  if a1 < 0 then (some (0, M)) else (if 9 < a1 then (some (0, M)) else (if a2 < 0 then (some (0, M)) else (if a2 ≤ 4 then (if a2 = 3 then (if a3 < 0 then (some (0, M)) else (if 65535 < a3 then (some (0, M)) else (if a2 = 4 then (bnd (f_Mod_written a3 M) (fun q22 M23 => if q22 = 0 then (some (0, M23)) else (f_Mod_guard_51 a1 a2 a3 M23))) else (f_Mod_guard_51 a1 a2 a3 M)))) else (if a2 = 4 then (bnd (f_Mod_written a3 M) (fun q16 M17 => if q16 = 0 then (some (0, M17)) else (f_Mod_guard_51 a1 a2 a3 M17))) else (f_Mod_guard_51 a1 a2 a3 M))) else (some (0, M)))))
set_option maxHeartbeats 4000000 in
set_option maxRecDepth 100000 in
theorem c_Mod_guard {l : Launch} {g : ax_G} {a1 : Int32} {a2 : Int32} {a3 : Int32} {M : ax_M} {r : Int32} {M' : ax_M} (h : f_Mod_guard a1 a2 a3 M = some (r, M')) : Ctr l g true Y_Mod_guard 2 [vA 184, vI a1, vI a2, vI a3] M (some (vI r), M') := by
  refine Ctr.ofAW yok_Mod_guard (Nat.le_of_ble_eq_true rfl) (Or.inl rfl) ?_
  show AW l g true Y_Mod_guard 2 (some (vI r), M') 0 [(0, vA 184), (1, vI a1), (2, vI a2), (3, vI a3)] [] M
  unfold f_Mod_guard at h
  refine A_iload_n 1 rfl rfl rfl ?_
  refine A_if_lt (tgt := 19) rfl (by decide) (fun hc1 => ?_) (fun hc1 => ?_)
  · rw [if_pos hc1] at h
    refine A_iconst (v := 0) rfl (by decide) ?_
    obtain ⟨rfl, rfl⟩ := leaf h
    exact A_zret rfl rfl (Or.inl rfl)
  · rw [if_neg hc1] at h
    refine A_pc (pc' := 4) rfl ?_
    refine A_iload_n 1 rfl rfl rfl ?_
    refine A_bipush (v := 9) rfl (by decide) ?_
    refine A_icmp_gt (tgt := 19) rfl (by decide) (fun hc2 => ?_) (fun hc2 => ?_)
    · rw [if_pos hc2] at h
      refine A_iconst (v := 0) rfl (by decide) ?_
      obtain ⟨rfl, rfl⟩ := leaf h
      exact A_zret rfl rfl (Or.inl rfl)
    · rw [if_neg hc2] at h
      refine A_pc (pc' := 10) rfl ?_
      refine A_iload_n 2 rfl rfl rfl ?_
      refine A_if_lt (tgt := 19) rfl (by decide) (fun hc3 => ?_) (fun hc3 => ?_)
      · rw [if_pos hc3] at h
        refine A_iconst (v := 0) rfl (by decide) ?_
        obtain ⟨rfl, rfl⟩ := leaf h
        exact A_zret rfl rfl (Or.inl rfl)
      · rw [if_neg hc3] at h
        refine A_pc (pc' := 14) rfl ?_
        refine A_iload_n 2 rfl rfl rfl ?_
        refine A_iconst (v := 4) rfl (by decide) ?_
        refine A_icmp_le (tgt := 21) rfl (by decide) (fun hc4 => ?_) (fun hc4 => ?_)
        · rw [if_pos hc4] at h
          refine A_iload_n 2 rfl rfl rfl ?_
          refine A_iconst (v := 3) rfl (by decide) ?_
          refine A_icmp_ne (tgt := 36) rfl (by decide) (fun hc5 => ?_) (fun hc5 => ?_)
          · rw [if_neg hc5] at h
            refine A_iload_n 2 rfl rfl rfl ?_
            refine A_iconst (v := 4) rfl (by decide) ?_
            refine A_icmp_ne (tgt := 51) rfl (by decide) (fun hc6 => ?_) (fun hc6 => ?_)
            · rw [if_neg hc6] at h
              refine A_pc (pc' := 51) rfl ?_
              refine A_sub (Ls' := [(0, vA 184), (1, vI a1), (2, vI a2), (3, vI a3)]) [0, 1, 2, 3] rfl ?_
              exact o_Mod_guard_51  _ _ _ _ _ _ h
            · rw [if_pos hc6] at h
              refine A_pc (pc' := 41) rfl ?_
              refine A_aload_n 0 rfl rfl rfl ?_
              refine A_iload_n 3 rfl rfl rfl ?_
              obtain ⟨q16, M17, hcq16, h⟩ := bnd_out h
              refine A_callV (ci := 11) (as := [vI a3]) (st' := []) (r1 := (some (vI q16), M17)) rfl ml_Mod_220 rfl (by decide) (by decide) (Or.inl rfl) rfl rfl (Nat.le_of_ble_eq_true rfl) (by decide) (c_Mod_written hcq16) (Or.inl rfl) ?_
              refine A_pc (pc' := 46) rfl ?_
              refine A_stk (st' := [vI q16]) rfl ?_
              refine A_if_ne (tgt := 51) rfl (by decide) (fun hc18 => ?_) (fun hc18 => ?_)
              · rw [if_neg hc18] at h
                refine A_pc (pc' := 51) rfl ?_
                refine A_sub (Ls' := [(0, vA 184), (1, vI a1), (2, vI a2), (3, vI a3)]) [0, 1, 2, 3] rfl ?_
                exact o_Mod_guard_51  _ _ _ _ _ _ h
              · rw [if_pos hc18] at h
                refine A_pc (pc' := 49) rfl ?_
                refine A_iconst (v := 0) rfl (by decide) ?_
                obtain ⟨rfl, rfl⟩ := leaf h
                exact A_zret rfl rfl (Or.inl rfl)
          · rw [if_pos hc5] at h
            refine A_pc (pc' := 26) rfl ?_
            refine A_iload_n 3 rfl rfl rfl ?_
            refine A_if_lt (tgt := 49) rfl (by decide) (fun hc19 => ?_) (fun hc19 => ?_)
            · rw [if_pos hc19] at h
              refine A_iconst (v := 0) rfl (by decide) ?_
              obtain ⟨rfl, rfl⟩ := leaf h
              exact A_zret rfl rfl (Or.inl rfl)
            · rw [if_neg hc19] at h
              refine A_pc (pc' := 30) rfl ?_
              refine A_iload_n 3 rfl rfl rfl ?_
              refine A_ldc (v := 65535) rfl (inWG 1355 (by decide +kernel) (by decide +kernel)) ?_
              refine A_icmp_gt (tgt := 49) rfl (by decide) (fun hc20 => ?_) (fun hc20 => ?_)
              · rw [if_pos hc20] at h
                refine A_iconst (v := 0) rfl (by decide) ?_
                obtain ⟨rfl, rfl⟩ := leaf h
                exact A_zret rfl rfl (Or.inl rfl)
              · rw [if_neg hc20] at h
                refine A_pc (pc' := 36) rfl ?_
                refine A_iload_n 2 rfl rfl rfl ?_
                refine A_iconst (v := 4) rfl (by decide) ?_
                refine A_icmp_ne (tgt := 51) rfl (by decide) (fun hc21 => ?_) (fun hc21 => ?_)
                · rw [if_neg hc21] at h
                  refine A_pc (pc' := 51) rfl ?_
                  refine A_sub (Ls' := [(0, vA 184), (1, vI a1), (2, vI a2), (3, vI a3)]) [0, 1, 2, 3] rfl ?_
                  exact o_Mod_guard_51  _ _ _ _ _ _ h
                · rw [if_pos hc21] at h
                  refine A_pc (pc' := 41) rfl ?_
                  refine A_aload_n 0 rfl rfl rfl ?_
                  refine A_iload_n 3 rfl rfl rfl ?_
                  obtain ⟨q22, M23, hcq22, h⟩ := bnd_out h
                  refine A_callV (ci := 11) (as := [vI a3]) (st' := []) (r1 := (some (vI q22), M23)) rfl ml_Mod_220 rfl (by decide) (by decide) (Or.inl rfl) rfl rfl (Nat.le_of_ble_eq_true rfl) (by decide) (c_Mod_written hcq22) (Or.inl rfl) ?_
                  refine A_pc (pc' := 46) rfl ?_
                  refine A_stk (st' := [vI q22]) rfl ?_
                  refine A_if_ne (tgt := 51) rfl (by decide) (fun hc24 => ?_) (fun hc24 => ?_)
                  · rw [if_neg hc24] at h
                    refine A_pc (pc' := 51) rfl ?_
                    refine A_sub (Ls' := [(0, vA 184), (1, vI a1), (2, vI a2), (3, vI a3)]) [0, 1, 2, 3] rfl ?_
                    exact o_Mod_guard_51  _ _ _ _ _ _ h
                  · rw [if_pos hc24] at h
                    refine A_pc (pc' := 49) rfl ?_
                    refine A_iconst (v := 0) rfl (by decide) ?_
                    obtain ⟨rfl, rfl⟩ := leaf h
                    exact A_zret rfl rfl (Or.inl rfl)
        · rw [if_neg hc4] at h
          refine A_pc (pc' := 19) rfl ?_
          refine A_iconst (v := 0) rfl (by decide) ?_
          obtain ⟨rfl, rfl⟩ := leaf h
          exact A_zret rfl rfl (Or.inl rfl)
def tb_Mod_rules : List (Nat × Instr × Nat) := [(0, .iload_n 1, 1), (1, .ifCond .lt 50, 3), (4, .iload_n 1, 1), (5, .bipush 7, 2), (7, .if_icmp .gt 44, 3), (10, .iload_n 2, 1), (11, .iconst (-1), 1), (12, .if_icmp .eq 11, 3), (15, .aload_n 0, 1), (16, .iload_n 2, 1), (17, .invokevirtual 220, 3), (20, .ifCond .eq 31, 3), (23, .iload_n 3, 1), (24, .iconst (-1), 1), (25, .if_icmp .eq 11, 3), (28, .aload_n 0, 1), (29, .iload_n 3, 1), (30, .invokevirtual 220, 3), (33, .ifCond .eq 18, 3), (36, .iload 4, 2), (38, .iconst (-1), 1), (39, .if_icmp .eq 14, 3), (42, .aload_n 0, 1), (43, .iload 4, 2), (45, .invokevirtual 220, 3), (48, .ifCond .ne 5, 3), (51, .iconst 0, 1), (52, .ireturn, 1), (53, .aload_n 0, 1), (54, .getfield 45, 3), (57, .iload_n 1, 1), (58, .iload_n 2, 1), (59, .iastore, 1), (60, .aload_n 0, 1), (61, .getfield 48, 3), (64, .iload_n 1, 1), (65, .iload_n 3, 1), (66, .iastore, 1), (67, .aload_n 0, 1), (68, .getfield 51, 3), (71, .iload_n 1, 1), (72, .iload 4, 2), (74, .iastore, 1), (75, .iconst 1, 1), (76, .ireturn, 1)]
def Y_Mod_rules : ax_Y := (⟨"MethodWardenModel", "rules", "(IIII)Z"⟩, prog_14_method_27_code, 5, some .boolean, tb_Mod_rules)
theorem yok_Mod_rules : yOK Y_Mod_rules := ⟨by decide +kernel, by decide +kernel, inWG 1380 (by decide +kernel) (by decide +kernel), inWG 107 (by decide +kernel) (by decide +kernel), by decide +kernel⟩
theorem fl_Mod_45 : fldOK "MethodWardenModel" 45 11 19 false := ⟨_, _, _, cls_Mod, by decide, by decide, rfl, Or.inl (inWG 1106 (by decide +kernel) (by decide +kernel))⟩
theorem fl_Mod_48 : fldOK "MethodWardenModel" 48 11 20 false := ⟨_, _, _, cls_Mod, by decide, by decide, rfl, Or.inl (inWG 1107 (by decide +kernel) (by decide +kernel))⟩
theorem fl_Mod_51 : fldOK "MethodWardenModel" 51 11 21 false := ⟨_, _, _, cls_Mod, by decide, by decide, rfl, Or.inl (inWG 1108 (by decide +kernel) (by decide +kernel))⟩
def f_Mod_rules_53 (l1 : Int32) (l2 : Int32) (l3 : Int32) (l4 : Int32) (M : ax_M) : Option (Int32 × ax_M) :=
  gi l1 8 (kM (mI M 195 l1.toNatClampNeg l2) (fun M7 => kM (mI M7 196 l1.toNatClampNeg l3) (fun M8 => kM (mI M8 197 l1.toNatClampNeg l4) (fun M9 => some (1, M9)))))
set_option maxHeartbeats 4000000 in
set_option maxRecDepth 100000 in
theorem o_Mod_rules_53 {l : Launch} {g : ax_G} (l1 : Int32) (l2 : Int32) (l3 : Int32) (l4 : Int32) (M : ax_M) (r : Int32) (M' : ax_M) (h : f_Mod_rules_53  l1 l2 l3 l4 M = some (r, M')) : AW l g true Y_Mod_rules 2 (some (vI r), M') 53 [(0, vA 184), (1, vI l1), (2, vI l2), (3, vI l3), (4, vI l4)] [] M := by
  unfold f_Mod_rules_53 at h
  refine A_aload_n 0 rfl rfl rfl ?_
  refine A_getL (r := 195) rfl fl_Mod_45 rfl (by decide) rfl rfl ?_
  refine A_iload_n 1 rfl rfl rfl ?_
  refine A_iload_n 2 rfl rfl rfl ?_
  obtain ⟨hg6, h⟩ := gi_out h
  refine A_iast (n := 8) rfl (by decide) (by decide) (Or.inl rfl) hg6 ?_
  obtain ⟨M7, hM7, h⟩ := kM_out h
  refine A_mem hM7 ?_
  refine A_pc (pc' := 60) rfl ?_
  refine A_aload_n 0 rfl rfl rfl ?_
  refine A_getL (r := 196) rfl fl_Mod_48 rfl (by decide) rfl rfl ?_
  refine A_iload_n 1 rfl rfl rfl ?_
  refine A_iload_n 3 rfl rfl rfl ?_
  refine A_iast (n := 8) rfl (by decide) (by decide) (Or.inl rfl) hg6 ?_
  obtain ⟨M8, hM8, h⟩ := kM_out h
  refine A_mem hM8 ?_
  refine A_aload_n 0 rfl rfl rfl ?_
  refine A_pc (pc' := 68) rfl ?_
  refine A_getL (r := 197) rfl fl_Mod_51 rfl (by decide) rfl rfl ?_
  refine A_iload_n 1 rfl rfl rfl ?_
  refine A_iload 4 rfl rfl ?_
  refine A_iast (n := 8) rfl (by decide) (by decide) (Or.inl rfl) hg6 ?_
  obtain ⟨M9, hM9, h⟩ := kM_out h
  refine A_mem hM9 ?_
  refine A_iconst (v := 1) rfl (by decide) ?_
  obtain ⟨rfl, rfl⟩ := leaf h
  exact A_zret rfl rfl (Or.inr rfl)
def f_Mod_rules_23 (l1 : Int32) (l2 : Int32) (l3 : Int32) (l4 : Int32) (M : ax_M) : Option (Int32 × ax_M) :=
  if l3 = ((-1)) then (if l4 = ((-1)) then (f_Mod_rules_53 l1 l2 l3 l4 M) else (bnd (f_Mod_written l4 M) (fun q10 M11 => if q10 = 0 then (some (0, M11)) else (f_Mod_rules_53 l1 l2 l3 l4 M11)))) else (bnd (f_Mod_written l3 M) (fun q13 M14 => if q13 = 0 then (some (0, M14)) else (if l4 = ((-1)) then (f_Mod_rules_53 l1 l2 l3 l4 M14) else (bnd (f_Mod_written l4 M14) (fun q17 M18 => if q17 = 0 then (some (0, M18)) else (f_Mod_rules_53 l1 l2 l3 l4 M18))))))
set_option maxHeartbeats 4000000 in
set_option maxRecDepth 100000 in
theorem o_Mod_rules_23 {l : Launch} {g : ax_G} (l1 : Int32) (l2 : Int32) (l3 : Int32) (l4 : Int32) (M : ax_M) (r : Int32) (M' : ax_M) (h : f_Mod_rules_23  l1 l2 l3 l4 M = some (r, M')) : AW l g true Y_Mod_rules 2 (some (vI r), M') 23 [(0, vA 184), (1, vI l1), (2, vI l2), (3, vI l3), (4, vI l4)] [] M := by
  unfold f_Mod_rules_23 at h
  refine A_iload_n 3 rfl rfl rfl ?_
  refine A_iconst (v := (-1)) rfl (by decide) ?_
  refine A_icmp_eq (tgt := 36) rfl (by decide) (fun hc4 => ?_) (fun hc4 => ?_)
  · rw [if_pos hc4] at h
    refine A_iload 4 rfl rfl ?_
    refine A_iconst (v := (-1)) rfl (by decide) ?_
    refine A_icmp_eq (tgt := 53) rfl (by decide) (fun hc5 => ?_) (fun hc5 => ?_)
    · rw [if_pos hc5] at h
      refine A_pc (pc' := 53) rfl ?_
      refine A_sub (Ls' := [(0, vA 184), (1, vI l1), (2, vI l2), (3, vI l3), (4, vI l4)]) [0, 1, 2, 3, 4] rfl ?_
      exact o_Mod_rules_53  _ _ _ _ _ _ _ h
    · rw [if_neg hc5] at h
      refine A_pc (pc' := 42) rfl ?_
      refine A_aload_n 0 rfl rfl rfl ?_
      refine A_iload 4 rfl rfl ?_
      obtain ⟨q10, M11, hcq10, h⟩ := bnd_out h
      refine A_callV (ci := 11) (as := [vI l4]) (st' := []) (r1 := (some (vI q10), M11)) rfl ml_Mod_220 rfl (by decide) (by decide) (Or.inl rfl) rfl rfl (Nat.le_of_ble_eq_true rfl) (by decide) (c_Mod_written hcq10) (Or.inl rfl) ?_
      refine A_pc (pc' := 48) rfl ?_
      refine A_stk (st' := [vI q10]) rfl ?_
      refine A_if_ne (tgt := 53) rfl (by decide) (fun hc12 => ?_) (fun hc12 => ?_)
      · rw [if_neg hc12] at h
        refine A_pc (pc' := 53) rfl ?_
        refine A_sub (Ls' := [(0, vA 184), (1, vI l1), (2, vI l2), (3, vI l3), (4, vI l4)]) [0, 1, 2, 3, 4] rfl ?_
        exact o_Mod_rules_53  _ _ _ _ _ _ _ h
      · rw [if_pos hc12] at h
        refine A_pc (pc' := 51) rfl ?_
        refine A_iconst (v := 0) rfl (by decide) ?_
        obtain ⟨rfl, rfl⟩ := leaf h
        exact A_zret rfl rfl (Or.inl rfl)
  · rw [if_neg hc4] at h
    refine A_pc (pc' := 28) rfl ?_
    refine A_aload_n 0 rfl rfl rfl ?_
    refine A_iload_n 3 rfl rfl rfl ?_
    obtain ⟨q13, M14, hcq13, h⟩ := bnd_out h
    refine A_callV (ci := 11) (as := [vI l3]) (st' := []) (r1 := (some (vI q13), M14)) rfl ml_Mod_220 rfl (by decide) (by decide) (Or.inl rfl) rfl rfl (Nat.le_of_ble_eq_true rfl) (by decide) (c_Mod_written hcq13) (Or.inl rfl) ?_
    refine A_pc (pc' := 33) rfl ?_
    refine A_stk (st' := [vI q13]) rfl ?_
    refine A_if_eq (tgt := 51) rfl (by decide) (fun hc15 => ?_) (fun hc15 => ?_)
    · rw [if_pos hc15] at h
      refine A_iconst (v := 0) rfl (by decide) ?_
      obtain ⟨rfl, rfl⟩ := leaf h
      exact A_zret rfl rfl (Or.inl rfl)
    · rw [if_neg hc15] at h
      refine A_pc (pc' := 36) rfl ?_
      refine A_iload 4 rfl rfl ?_
      refine A_iconst (v := (-1)) rfl (by decide) ?_
      refine A_icmp_eq (tgt := 53) rfl (by decide) (fun hc16 => ?_) (fun hc16 => ?_)
      · rw [if_pos hc16] at h
        refine A_pc (pc' := 53) rfl ?_
        refine A_sub (Ls' := [(0, vA 184), (1, vI l1), (2, vI l2), (3, vI l3), (4, vI l4)]) [0, 1, 2, 3, 4] rfl ?_
        exact o_Mod_rules_53  _ _ _ _ _ _ _ h
      · rw [if_neg hc16] at h
        refine A_pc (pc' := 42) rfl ?_
        refine A_aload_n 0 rfl rfl rfl ?_
        refine A_iload 4 rfl rfl ?_
        obtain ⟨q17, M18, hcq17, h⟩ := bnd_out h
        refine A_callV (ci := 11) (as := [vI l4]) (st' := []) (r1 := (some (vI q17), M18)) rfl ml_Mod_220 rfl (by decide) (by decide) (Or.inl rfl) rfl rfl (Nat.le_of_ble_eq_true rfl) (by decide) (c_Mod_written hcq17) (Or.inl rfl) ?_
        refine A_pc (pc' := 48) rfl ?_
        refine A_stk (st' := [vI q17]) rfl ?_
        refine A_if_ne (tgt := 53) rfl (by decide) (fun hc19 => ?_) (fun hc19 => ?_)
        · rw [if_neg hc19] at h
          refine A_pc (pc' := 53) rfl ?_
          refine A_sub (Ls' := [(0, vA 184), (1, vI l1), (2, vI l2), (3, vI l3), (4, vI l4)]) [0, 1, 2, 3, 4] rfl ?_
          exact o_Mod_rules_53  _ _ _ _ _ _ _ h
        · rw [if_pos hc19] at h
          refine A_pc (pc' := 51) rfl ?_
          refine A_iconst (v := 0) rfl (by decide) ?_
          obtain ⟨rfl, rfl⟩ := leaf h
          exact A_zret rfl rfl (Or.inl rfl)
def f_Mod_rules (a1 : Int32) (a2 : Int32) (a3 : Int32) (a4 : Int32) (M : ax_M) : Option (Int32 × ax_M) :=
  if a1 < 0 then (some (0, M)) else (if 7 < a1 then (some (0, M)) else (if a2 = ((-1)) then (f_Mod_rules_23 a1 a2 a3 a4 M) else (bnd (f_Mod_written a2 M) (fun q20 M21 => if q20 = 0 then (some (0, M21)) else (f_Mod_rules_23 a1 a2 a3 a4 M21)))))
set_option maxHeartbeats 4000000 in
set_option maxRecDepth 100000 in
theorem c_Mod_rules {l : Launch} {g : ax_G} {a1 : Int32} {a2 : Int32} {a3 : Int32} {a4 : Int32} {M : ax_M} {r : Int32} {M' : ax_M} (h : f_Mod_rules a1 a2 a3 a4 M = some (r, M')) : Ctr l g true Y_Mod_rules 2 [vA 184, vI a1, vI a2, vI a3, vI a4] M (some (vI r), M') := by
  refine Ctr.ofAW yok_Mod_rules (Nat.le_of_ble_eq_true rfl) (Or.inl rfl) ?_
  show AW l g true Y_Mod_rules 2 (some (vI r), M') 0 [(0, vA 184), (1, vI a1), (2, vI a2), (3, vI a3), (4, vI a4)] [] M
  unfold f_Mod_rules at h
  refine A_iload_n 1 rfl rfl rfl ?_
  refine A_if_lt (tgt := 51) rfl (by decide) (fun hc1 => ?_) (fun hc1 => ?_)
  · rw [if_pos hc1] at h
    refine A_iconst (v := 0) rfl (by decide) ?_
    obtain ⟨rfl, rfl⟩ := leaf h
    exact A_zret rfl rfl (Or.inl rfl)
  · rw [if_neg hc1] at h
    refine A_pc (pc' := 4) rfl ?_
    refine A_iload_n 1 rfl rfl rfl ?_
    refine A_bipush (v := 7) rfl (by decide) ?_
    refine A_icmp_gt (tgt := 51) rfl (by decide) (fun hc2 => ?_) (fun hc2 => ?_)
    · rw [if_pos hc2] at h
      refine A_iconst (v := 0) rfl (by decide) ?_
      obtain ⟨rfl, rfl⟩ := leaf h
      exact A_zret rfl rfl (Or.inl rfl)
    · rw [if_neg hc2] at h
      refine A_pc (pc' := 10) rfl ?_
      refine A_iload_n 2 rfl rfl rfl ?_
      refine A_iconst (v := (-1)) rfl (by decide) ?_
      refine A_icmp_eq (tgt := 23) rfl (by decide) (fun hc3 => ?_) (fun hc3 => ?_)
      · rw [if_pos hc3] at h
        refine A_pc (pc' := 23) rfl ?_
        refine A_sub (Ls' := [(0, vA 184), (1, vI a1), (2, vI a2), (3, vI a3), (4, vI a4)]) [0, 1, 2, 3, 4] rfl ?_
        exact o_Mod_rules_23  _ _ _ _ _ _ _ h
      · rw [if_neg hc3] at h
        refine A_pc (pc' := 15) rfl ?_
        refine A_aload_n 0 rfl rfl rfl ?_
        refine A_iload_n 2 rfl rfl rfl ?_
        obtain ⟨q20, M21, hcq20, h⟩ := bnd_out h
        refine A_callV (ci := 11) (as := [vI a2]) (st' := []) (r1 := (some (vI q20), M21)) rfl ml_Mod_220 rfl (by decide) (by decide) (Or.inl rfl) rfl rfl (Nat.le_of_ble_eq_true rfl) (by decide) (c_Mod_written hcq20) (Or.inl rfl) ?_
        refine A_pc (pc' := 20) rfl ?_
        refine A_stk (st' := [vI q20]) rfl ?_
        refine A_if_eq (tgt := 51) rfl (by decide) (fun hc22 => ?_) (fun hc22 => ?_)
        · rw [if_pos hc22] at h
          refine A_iconst (v := 0) rfl (by decide) ?_
          obtain ⟨rfl, rfl⟩ := leaf h
          exact A_zret rfl rfl (Or.inl rfl)
        · rw [if_neg hc22] at h
          refine A_pc (pc' := 23) rfl ?_
          refine A_pc (pc' := 23) rfl ?_
          refine A_sub (Ls' := [(0, vA 184), (1, vI a1), (2, vI a2), (3, vI a3), (4, vI a4)]) [0, 1, 2, 3, 4] rfl ?_
          exact o_Mod_rules_23  _ _ _ _ _ _ _ h
def tb_Mod_target : List (Nat × Instr × Nat) := [(0, .iload_n 1, 1), (1, .ifCond .lt 31, 3), (4, .iload_n 1, 1), (5, .bipush 7, 2), (7, .if_icmp .gt 25, 3), (10, .iload_n 2, 1), (11, .ifCond .lt 21, 3), (14, .iload_n 2, 1), (15, .bipush 6, 2), (17, .if_icmp .gt 15, 3), (20, .iload 4, 2), (22, .ifCond .lt 10, 3), (25, .iload 4, 2), (27, .ldc 212, 2), (29, .if_icmp .le 5, 3), (32, .iconst 0, 1), (33, .ireturn, 1), (34, .iload_n 2, 1), (35, .iconst 4, 1), (36, .if_icmp .ne 14, 3), (39, .iload_n 3, 1), (40, .ifCond .lt 25, 3), (43, .iload_n 3, 1), (44, .sipush 999, 3), (47, .if_icmp .gt 18, 3), (50, .iload_n 2, 1), (51, .iconst 5, 1), (52, .if_icmp .lt 15, 3), (55, .iload_n 3, 1), (56, .ifCond .lt 9, 3), (59, .iload_n 3, 1), (60, .bipush 7, 2), (62, .if_icmp .le 5, 3), (65, .iconst 0, 1), (66, .ireturn, 1), (67, .aload_n 0, 1), (68, .getfield 54, 3), (71, .iload_n 1, 1), (72, .iload_n 2, 1), (73, .iastore, 1), (74, .aload_n 0, 1), (75, .getfield 57, 3), (78, .iload_n 1, 1), (79, .iload_n 3, 1), (80, .iastore, 1), (81, .aload_n 0, 1), (82, .getfield 60, 3), (85, .iload_n 1, 1), (86, .iload 4, 2), (88, .iastore, 1), (89, .iconst 1, 1), (90, .ireturn, 1)]
def Y_Mod_target : ax_Y := (⟨"MethodWardenModel", "target", "(IIII)Z"⟩, prog_14_method_28_code, 5, some .boolean, tb_Mod_target)
theorem yok_Mod_target : yOK Y_Mod_target := ⟨by decide +kernel, by decide +kernel, inWG 1384 (by decide +kernel) (by decide +kernel), inWG 107 (by decide +kernel) (by decide +kernel), by decide +kernel⟩
theorem fl_Mod_54 : fldOK "MethodWardenModel" 54 11 22 false := ⟨_, _, _, cls_Mod, by decide, by decide, rfl, Or.inl (inWG 1109 (by decide +kernel) (by decide +kernel))⟩
theorem fl_Mod_57 : fldOK "MethodWardenModel" 57 11 23 false := ⟨_, _, _, cls_Mod, by decide, by decide, rfl, Or.inl (inWG 1110 (by decide +kernel) (by decide +kernel))⟩
theorem fl_Mod_60 : fldOK "MethodWardenModel" 60 11 24 false := ⟨_, _, _, cls_Mod, by decide, by decide, rfl, Or.inl (inWG 1111 (by decide +kernel) (by decide +kernel))⟩
def f_Mod_target_67 (l1 : Int32) (l2 : Int32) (l3 : Int32) (l4 : Int32) (M : ax_M) : Option (Int32 × ax_M) :=
  gi l1 8 (kM (mI M 198 l1.toNatClampNeg l2) (fun M10 => kM (mI M10 199 l1.toNatClampNeg l3) (fun M11 => kM (mI M11 200 l1.toNatClampNeg l4) (fun M12 => some (1, M12)))))
set_option maxHeartbeats 4000000 in
set_option maxRecDepth 100000 in
theorem o_Mod_target_67 {l : Launch} {g : ax_G} (l1 : Int32) (l2 : Int32) (l3 : Int32) (l4 : Int32) (M : ax_M) (r : Int32) (M' : ax_M) (h : f_Mod_target_67  l1 l2 l3 l4 M = some (r, M')) : AW l g true Y_Mod_target 1 (some (vI r), M') 67 [(0, vA 184), (1, vI l1), (2, vI l2), (3, vI l3), (4, vI l4)] [] M := by
  unfold f_Mod_target_67 at h
  refine A_aload_n 0 rfl rfl rfl ?_
  refine A_getL (r := 198) rfl fl_Mod_54 rfl (by decide) rfl rfl ?_
  refine A_iload_n 1 rfl rfl rfl ?_
  refine A_iload_n 2 rfl rfl rfl ?_
  obtain ⟨hg9, h⟩ := gi_out h
  refine A_iast (n := 8) rfl (by decide) (by decide) (Or.inl rfl) hg9 ?_
  obtain ⟨M10, hM10, h⟩ := kM_out h
  refine A_mem hM10 ?_
  refine A_pc (pc' := 74) rfl ?_
  refine A_aload_n 0 rfl rfl rfl ?_
  refine A_getL (r := 199) rfl fl_Mod_57 rfl (by decide) rfl rfl ?_
  refine A_iload_n 1 rfl rfl rfl ?_
  refine A_iload_n 3 rfl rfl rfl ?_
  refine A_iast (n := 8) rfl (by decide) (by decide) (Or.inl rfl) hg9 ?_
  obtain ⟨M11, hM11, h⟩ := kM_out h
  refine A_mem hM11 ?_
  refine A_aload_n 0 rfl rfl rfl ?_
  refine A_pc (pc' := 82) rfl ?_
  refine A_getL (r := 200) rfl fl_Mod_60 rfl (by decide) rfl rfl ?_
  refine A_iload_n 1 rfl rfl rfl ?_
  refine A_iload 4 rfl rfl ?_
  refine A_iast (n := 8) rfl (by decide) (by decide) (Or.inl rfl) hg9 ?_
  obtain ⟨M12, hM12, h⟩ := kM_out h
  refine A_mem hM12 ?_
  refine A_iconst (v := 1) rfl (by decide) ?_
  obtain ⟨rfl, rfl⟩ := leaf h
  exact A_zret rfl rfl (Or.inr rfl)
def f_Mod_target (a1 : Int32) (a2 : Int32) (a3 : Int32) (a4 : Int32) (M : ax_M) : Option (Int32 × ax_M) :=
  if a1 < 0 then (some (0, M)) else (if 7 < a1 then (some (0, M)) else (if a2 < 0 then (some (0, M)) else (if 6 < a2 then (some (0, M)) else (if a4 < 0 then (some (0, M)) else (if a4 ≤ 65535 then (if a2 = 4 then (if a3 < 0 then (some (0, M)) else (if 999 < a3 then (some (0, M)) else (if a2 < 5 then (f_Mod_target_67 a1 a2 a3 a4 M) else (if a3 < 0 then (some (0, M)) else (if a3 ≤ 7 then (f_Mod_target_67 a1 a2 a3 a4 M) else (some (0, M))))))) else (if a2 < 5 then (f_Mod_target_67 a1 a2 a3 a4 M) else (if a3 < 0 then (some (0, M)) else (if a3 ≤ 7 then (f_Mod_target_67 a1 a2 a3 a4 M) else (some (0, M)))))) else (some (0, M)))))))
set_option maxHeartbeats 4000000 in
set_option maxRecDepth 100000 in
theorem c_Mod_target {l : Launch} {g : ax_G} {a1 : Int32} {a2 : Int32} {a3 : Int32} {a4 : Int32} {M : ax_M} {r : Int32} {M' : ax_M} (h : f_Mod_target a1 a2 a3 a4 M = some (r, M')) : Ctr l g true Y_Mod_target 1 [vA 184, vI a1, vI a2, vI a3, vI a4] M (some (vI r), M') := by
  refine Ctr.ofAW yok_Mod_target (Nat.le_of_ble_eq_true rfl) (Or.inl rfl) ?_
  show AW l g true Y_Mod_target 1 (some (vI r), M') 0 [(0, vA 184), (1, vI a1), (2, vI a2), (3, vI a3), (4, vI a4)] [] M
  unfold f_Mod_target at h
  refine A_iload_n 1 rfl rfl rfl ?_
  refine A_if_lt (tgt := 32) rfl (by decide) (fun hc1 => ?_) (fun hc1 => ?_)
  · rw [if_pos hc1] at h
    refine A_iconst (v := 0) rfl (by decide) ?_
    obtain ⟨rfl, rfl⟩ := leaf h
    exact A_zret rfl rfl (Or.inl rfl)
  · rw [if_neg hc1] at h
    refine A_pc (pc' := 4) rfl ?_
    refine A_iload_n 1 rfl rfl rfl ?_
    refine A_bipush (v := 7) rfl (by decide) ?_
    refine A_icmp_gt (tgt := 32) rfl (by decide) (fun hc2 => ?_) (fun hc2 => ?_)
    · rw [if_pos hc2] at h
      refine A_iconst (v := 0) rfl (by decide) ?_
      obtain ⟨rfl, rfl⟩ := leaf h
      exact A_zret rfl rfl (Or.inl rfl)
    · rw [if_neg hc2] at h
      refine A_pc (pc' := 10) rfl ?_
      refine A_iload_n 2 rfl rfl rfl ?_
      refine A_if_lt (tgt := 32) rfl (by decide) (fun hc3 => ?_) (fun hc3 => ?_)
      · rw [if_pos hc3] at h
        refine A_iconst (v := 0) rfl (by decide) ?_
        obtain ⟨rfl, rfl⟩ := leaf h
        exact A_zret rfl rfl (Or.inl rfl)
      · rw [if_neg hc3] at h
        refine A_pc (pc' := 14) rfl ?_
        refine A_iload_n 2 rfl rfl rfl ?_
        refine A_bipush (v := 6) rfl (by decide) ?_
        refine A_icmp_gt (tgt := 32) rfl (by decide) (fun hc4 => ?_) (fun hc4 => ?_)
        · rw [if_pos hc4] at h
          refine A_iconst (v := 0) rfl (by decide) ?_
          obtain ⟨rfl, rfl⟩ := leaf h
          exact A_zret rfl rfl (Or.inl rfl)
        · rw [if_neg hc4] at h
          refine A_pc (pc' := 20) rfl ?_
          refine A_iload 4 rfl rfl ?_
          refine A_if_lt (tgt := 32) rfl (by decide) (fun hc5 => ?_) (fun hc5 => ?_)
          · rw [if_pos hc5] at h
            refine A_iconst (v := 0) rfl (by decide) ?_
            obtain ⟨rfl, rfl⟩ := leaf h
            exact A_zret rfl rfl (Or.inl rfl)
          · rw [if_neg hc5] at h
            refine A_pc (pc' := 25) rfl ?_
            refine A_iload 4 rfl rfl ?_
            refine A_ldc (v := 65535) rfl (inWG 1355 (by decide +kernel) (by decide +kernel)) ?_
            refine A_icmp_le (tgt := 34) rfl (by decide) (fun hc6 => ?_) (fun hc6 => ?_)
            · rw [if_pos hc6] at h
              refine A_iload_n 2 rfl rfl rfl ?_
              refine A_iconst (v := 4) rfl (by decide) ?_
              refine A_icmp_ne (tgt := 50) rfl (by decide) (fun hc7 => ?_) (fun hc7 => ?_)
              · rw [if_neg hc7] at h
                refine A_iload_n 2 rfl rfl rfl ?_
                refine A_iconst (v := 5) rfl (by decide) ?_
                refine A_icmp_lt (tgt := 67) rfl (by decide) (fun hc8 => ?_) (fun hc8 => ?_)
                · rw [if_pos hc8] at h
                  refine A_pc (pc' := 67) rfl ?_
                  refine A_sub (Ls' := [(0, vA 184), (1, vI a1), (2, vI a2), (3, vI a3), (4, vI a4)]) [0, 1, 2, 3, 4] rfl ?_
                  exact o_Mod_target_67  _ _ _ _ _ _ _ h
                · rw [if_neg hc8] at h
                  refine A_pc (pc' := 55) rfl ?_
                  refine A_iload_n 3 rfl rfl rfl ?_
                  refine A_if_lt (tgt := 65) rfl (by decide) (fun hc13 => ?_) (fun hc13 => ?_)
                  · rw [if_pos hc13] at h
                    refine A_iconst (v := 0) rfl (by decide) ?_
                    obtain ⟨rfl, rfl⟩ := leaf h
                    exact A_zret rfl rfl (Or.inl rfl)
                  · rw [if_neg hc13] at h
                    refine A_pc (pc' := 59) rfl ?_
                    refine A_iload_n 3 rfl rfl rfl ?_
                    refine A_bipush (v := 7) rfl (by decide) ?_
                    refine A_icmp_le (tgt := 67) rfl (by decide) (fun hc14 => ?_) (fun hc14 => ?_)
                    · rw [if_pos hc14] at h
                      refine A_pc (pc' := 67) rfl ?_
                      refine A_sub (Ls' := [(0, vA 184), (1, vI a1), (2, vI a2), (3, vI a3), (4, vI a4)]) [0, 1, 2, 3, 4] rfl ?_
                      exact o_Mod_target_67  _ _ _ _ _ _ _ h
                    · rw [if_neg hc14] at h
                      refine A_pc (pc' := 65) rfl ?_
                      refine A_iconst (v := 0) rfl (by decide) ?_
                      obtain ⟨rfl, rfl⟩ := leaf h
                      exact A_zret rfl rfl (Or.inl rfl)
              · rw [if_pos hc7] at h
                refine A_pc (pc' := 39) rfl ?_
                refine A_iload_n 3 rfl rfl rfl ?_
                refine A_if_lt (tgt := 65) rfl (by decide) (fun hc15 => ?_) (fun hc15 => ?_)
                · rw [if_pos hc15] at h
                  refine A_iconst (v := 0) rfl (by decide) ?_
                  obtain ⟨rfl, rfl⟩ := leaf h
                  exact A_zret rfl rfl (Or.inl rfl)
                · rw [if_neg hc15] at h
                  refine A_pc (pc' := 43) rfl ?_
                  refine A_iload_n 3 rfl rfl rfl ?_
                  refine A_sipush (v := 999) rfl (by decide) ?_
                  refine A_icmp_gt (tgt := 65) rfl (by decide) (fun hc16 => ?_) (fun hc16 => ?_)
                  · rw [if_pos hc16] at h
                    refine A_iconst (v := 0) rfl (by decide) ?_
                    obtain ⟨rfl, rfl⟩ := leaf h
                    exact A_zret rfl rfl (Or.inl rfl)
                  · rw [if_neg hc16] at h
                    refine A_pc (pc' := 50) rfl ?_
                    refine A_iload_n 2 rfl rfl rfl ?_
                    refine A_iconst (v := 5) rfl (by decide) ?_
                    refine A_icmp_lt (tgt := 67) rfl (by decide) (fun hc17 => ?_) (fun hc17 => ?_)
                    · rw [if_pos hc17] at h
                      refine A_pc (pc' := 67) rfl ?_
                      refine A_sub (Ls' := [(0, vA 184), (1, vI a1), (2, vI a2), (3, vI a3), (4, vI a4)]) [0, 1, 2, 3, 4] rfl ?_
                      exact o_Mod_target_67  _ _ _ _ _ _ _ h
                    · rw [if_neg hc17] at h
                      refine A_pc (pc' := 55) rfl ?_
                      refine A_iload_n 3 rfl rfl rfl ?_
                      refine A_if_lt (tgt := 65) rfl (by decide) (fun hc18 => ?_) (fun hc18 => ?_)
                      · rw [if_pos hc18] at h
                        refine A_iconst (v := 0) rfl (by decide) ?_
                        obtain ⟨rfl, rfl⟩ := leaf h
                        exact A_zret rfl rfl (Or.inl rfl)
                      · rw [if_neg hc18] at h
                        refine A_pc (pc' := 59) rfl ?_
                        refine A_iload_n 3 rfl rfl rfl ?_
                        refine A_bipush (v := 7) rfl (by decide) ?_
                        refine A_icmp_le (tgt := 67) rfl (by decide) (fun hc19 => ?_) (fun hc19 => ?_)
                        · rw [if_pos hc19] at h
                          refine A_pc (pc' := 67) rfl ?_
                          refine A_sub (Ls' := [(0, vA 184), (1, vI a1), (2, vI a2), (3, vI a3), (4, vI a4)]) [0, 1, 2, 3, 4] rfl ?_
                          exact o_Mod_target_67  _ _ _ _ _ _ _ h
                        · rw [if_neg hc19] at h
                          refine A_pc (pc' := 65) rfl ?_
                          refine A_iconst (v := 0) rfl (by decide) ?_
                          obtain ⟨rfl, rfl⟩ := leaf h
                          exact A_zret rfl rfl (Or.inl rfl)
            · rw [if_neg hc6] at h
              refine A_pc (pc' := 32) rfl ?_
              refine A_iconst (v := 0) rfl (by decide) ?_
              obtain ⟨rfl, rfl⟩ := leaf h
              exact A_zret rfl rfl (Or.inl rfl)
