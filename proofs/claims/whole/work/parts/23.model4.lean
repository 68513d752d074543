/-! The reference: working out, again. Printed by gen_methods.py. -/
def tb_Mod_begin : List (Nat × Instr × Nat) := [(0, .aload_n 0, 1), (1, .getfield 13, 3), (4, .iload_n 2, 1), (5, .iload_n 1, 1), (6, .iadd, 1), (7, .iaload, 1), (8, .istore_n 3, 1), (9, .aload_n 0, 1), (10, .getfield 16, 3), (13, .iload_n 2, 1), (14, .iload_n 1, 1), (15, .iadd, 1), (16, .laload, 1), (17, .l2i, 1), (18, .iconst 1, 1), (19, .iadd, 1), (20, .istore 4, 2), (22, .aload_n 0, 1), (23, .dup, 1), (24, .getfield 223, 3), (27, .iconst 1, 1), (28, .isub, 1), (29, .putfield 223, 3), (32, .aload_n 0, 1), (33, .getfield 66, 3), (36, .aload_n 0, 1), (37, .getfield 223, 3), (40, .iaload, 1), (41, .iconst 4, 1), (42, .if_icmp .eq 12, 3), (45, .aload_n 0, 1), (46, .iconst (-1), 1), (47, .lconst 0, 1), (48, .invokevirtual 226, 3), (51, .iload 4, 2), (53, .ireturn, 1), (54, .aload_n 0, 1), (55, .getfield 69, 3), (58, .aload_n 0, 1), (59, .getfield 223, 3), (62, .laload, 1), (63, .l2i, 1), (64, .istore 5, 2), (66, .iload 5, 2), (68, .ifCond .ne 22, 3), (71, .aload_n 0, 1), (72, .iload_n 3, 1), (73, .bipush 16, 2), (75, .if_icmp .ne 7, 3), (78, .iconst 4, 1), (79, .goto 4, 3), (82, .iconst 0, 1), (83, .lconst 0, 1), (84, .invokevirtual 226, 3), (87, .iload 4, 2), (89, .ireturn, 1), (90, .iconst 0, 1), (91, .istore 6, 2), (93, .iload 6, 2), (95, .iload 5, 2), (97, .if_icmp .ge 37, 3), (100, .aload_n 0, 1), (101, .getfield 75, 3), (104, .iconst 5, 1), (105, .aload_n 0, 1), (106, .getfield 229, 3), (109, .imul, 1), (110, .iload 6, 2), (112, .iadd, 1), (113, .aload_n 0, 1), (114, .getfield 72, 3), (117, .iconst 5, 1), (118, .aload_n 0, 1), (119, .getfield 223, 3), (122, .imul, 1), (123, .iload 6, 2), (125, .iadd, 1), (126, .iaload, 1), (127, .iastore, 1), (128, .iinc 6 1, 3), (131, .goto (-38), 3), (134, .aload_n 0, 1), (135, .getfield 78, 3), (138, .aload_n 0, 1), (139, .getfield 229, 3), (142, .iload 5, 2), (144, .iastore, 1), (145, .aload_n 0, 1), (146, .getfield 81, 3), (149, .aload_n 0, 1), (150, .getfield 229, 3), (153, .iload_n 3, 1), (154, .bipush 18, 2), (156, .if_icmp .ne 10, 3), (159, .iload 5, 2), (161, .iconst 1, 1), (162, .isub, 1), (163, .goto 4, 3), (166, .iconst 0, 1), (167, .iastore, 1), (168, .aload_n 0, 1), (169, .getfield 87, 3), (172, .aload_n 0, 1), (173, .getfield 229, 3), (176, .iconst 0, 1), (177, .iastore, 1), (178, .aload_n 0, 1), (179, .getfield 90, 3), (182, .aload_n 0, 1), (183, .getfield 229, 3), (186, .aload_n 0, 1), (187, .getfield 242, 3), (190, .bastore, 1), (191, .aload_n 0, 1), (192, .getfield 94, 3), (195, .aload_n 0, 1), (196, .getfield 229, 3), (199, .aload_n 0, 1), (200, .getfield 246, 3), (203, .iastore, 1), (204, .aload_n 0, 1), (205, .iconst 1, 1), (206, .putfield 242, 3), (209, .aload_n 0, 1), (210, .aload_n 0, 1), (211, .getfield 75, 3), (214, .iconst 5, 1), (215, .aload_n 0, 1), (216, .getfield 229, 3), (219, .imul, 1), (220, .aload_n 0, 1), (221, .getfield 81, 3), (224, .aload_n 0, 1), (225, .getfield 229, 3), (228, .iaload, 1), (229, .iadd, 1), (230, .iaload, 1), (231, .putfield 246, 3), (234, .aload_n 0, 1), (235, .dup, 1), (236, .getfield 229, 3), (239, .iconst 1, 1), (240, .iadd, 1), (241, .putfield 229, 3), (244, .iload_n 1, 1), (245, .iconst 1, 1), (246, .iadd, 1), (247, .ireturn, 1)]
def Y_Mod_begin : ax_Y := (⟨"MethodWardenModel", "begin", "(II)I"⟩, prog_14_method_41_code, 7, some .int, tb_Mod_begin)
theorem yok_Mod_begin : yOK Y_Mod_begin := ⟨by decide +kernel, by decide +kernel, inWG 1420 (by decide +kernel) (by decide +kernel), inWG 107 (by decide +kernel) (by decide +kernel), by decide +kernel⟩
theorem fl_Mod_78 : fldOK "MethodWardenModel" 78 11 31 false := ⟨_, _, _, cls_Mod, by decide, by decide, rfl, Or.inl (inWG 1118 (by decide +kernel) (by decide +kernel))⟩
theorem fl_Mod_81 : fldOK "MethodWardenModel" 81 11 32 false := ⟨_, _, _, cls_Mod, by decide, by decide, rfl, Or.inl (inWG 1119 (by decide +kernel) (by decide +kernel))⟩
theorem fl_Mod_87 : fldOK "MethodWardenModel" 87 11 34 false := ⟨_, _, _, cls_Mod, by decide, by decide, rfl, Or.inl (inWG 1121 (by decide +kernel) (by decide +kernel))⟩
theorem fl_Mod_90 : fldOK "MethodWardenModel" 90 11 35 false := ⟨_, _, _, cls_Mod, by decide, by decide, rfl, Or.inl (inWG 1122 (by decide +kernel) (by decide +kernel))⟩
theorem fl_Mod_94 : fldOK "MethodWardenModel" 94 11 36 false := ⟨_, _, _, cls_Mod, by decide, by decide, rfl, Or.inl (inWG 1123 (by decide +kernel) (by decide +kernel))⟩
theorem fl_Mod_75 : fldOK "MethodWardenModel" 75 11 30 false := ⟨_, _, _, cls_Mod, by decide, by decide, rfl, Or.inl (inWG 1117 (by decide +kernel) (by decide +kernel))⟩
def f_Mod_begin_167 (l1 : Int32) (s0 : Int32) (s1 : Int32) (M : ax_M) : Option (Int32 × ax_M) :=
  gi s1 16 (kM (mI M 207 s1.toNatClampNeg s0) (fun M14 => gi (gI M14 184 37) 16 (kM (mI M14 209 (gI M14 184 37).toNatClampNeg 0) (fun M16 => gi (gI M16 184 37) 16 (g2 (gI M16 184 38) (kM (mI M16 210 (gI M16 184 37).toNatClampNeg (gI M16 184 38)) (fun M19 => gi (gI M19 184 37) 16 (kM (mI M19 211 (gI M19 184 37).toNatClampNeg (gI M19 184 39)) (fun M21 => kM (mI M21 184 38 1) (fun M22 => gi (gI M22 184 37) 16 (kM ((5 * (gI M22 184 37)) + (gI M22 207 (gI M22 184 37).toNatClampNeg)) (fun x24 => gi x24 80 (kM (mI M22 184 39 (gI M22 205 x24.toNatClampNeg)) (fun M26 => kM (mI M26 184 37 ((gI M26 184 37) + 1)) (fun M27 => some (l1 + 1, M27))))))))))))))))
set_option maxHeartbeats 4000000 in
set_option maxRecDepth 100000 in
theorem o_Mod_begin_167 {l : Launch} {g : ax_G} (l1 : Int32) (s0 : Int32) (s1 : Int32) (M : ax_M) (r : Int32) (M' : ax_M) (h : f_Mod_begin_167  l1 s0 s1 M = some (r, M')) : AW l g true Y_Mod_begin 2 (some (vI r), M') 167 [(0, vA 184), (1, vI l1)] [vI s0, vI s1, vA 207] M := by
  unfold f_Mod_begin_167 at h
  obtain ⟨hg13, h⟩ := gi_out h
  refine A_iast (n := 16) rfl (by decide) (by decide) (Or.inl rfl) hg13 ?_
  obtain ⟨M14, hM14, h⟩ := kM_out h
  refine A_mem hM14 ?_
  refine A_aload_n 0 rfl rfl rfl ?_
  refine A_getL (r := 209) rfl fl_Mod_87 rfl (by decide) rfl rfl ?_
  refine A_aload_n 0 rfl rfl rfl ?_
  refine A_getI rfl fl_Mod_229 rfl (by decide) (Or.inl rfl) ?_
  refine A_pc (pc' := 176) rfl ?_
  refine A_iconst (v := 0) rfl (by decide) ?_
  obtain ⟨hg15, h⟩ := gi_out h
  refine A_iast (n := 16) rfl (by decide) (by decide) (Or.inl rfl) hg15 ?_
  obtain ⟨M16, hM16, h⟩ := kM_out h
  refine A_mem hM16 ?_
  refine A_aload_n 0 rfl rfl rfl ?_
  refine A_getL (r := 210) rfl fl_Mod_90 rfl (by decide) rfl rfl ?_
  refine A_aload_n 0 rfl rfl rfl ?_
  refine A_getI rfl fl_Mod_229 rfl (by decide) (Or.inl rfl) ?_
  refine A_pc (pc' := 186) rfl ?_
  refine A_aload_n 0 rfl rfl rfl ?_
  refine A_getI rfl fl_Mod_242 rfl (by decide) (Or.inl rfl) ?_
  obtain ⟨hg17, h⟩ := gi_out h
  obtain ⟨hg18, h⟩ := g2_out h
  refine A_zast (n := 16) rfl (by decide) (by decide) (Or.inl rfl) hg17 (nb_of hg18) ?_
  obtain ⟨M19, hM19, h⟩ := kM_out h
  refine A_mem hM19 ?_
  refine A_aload_n 0 rfl rfl rfl ?_
  refine A_getL (r := 211) rfl fl_Mod_94 rfl (by decide) rfl rfl ?_
  refine A_aload_n 0 rfl rfl rfl ?_
  refine A_pc (pc' := 196) rfl ?_
  refine A_getI rfl fl_Mod_229 rfl (by decide) (Or.inl rfl) ?_
  refine A_aload_n 0 rfl rfl rfl ?_
  refine A_getI rfl fl_Mod_246 rfl (by decide) (Or.inl rfl) ?_
  obtain ⟨hg20, h⟩ := gi_out h
  refine A_iast (n := 16) rfl (by decide) (by decide) (Or.inl rfl) hg20 ?_
  obtain ⟨M21, hM21, h⟩ := kM_out h
  refine A_mem hM21 ?_
  refine A_aload_n 0 rfl rfl rfl ?_
  refine A_iconst (v := 1) rfl (by decide) ?_
  refine A_pc (pc' := 206) rfl ?_
  refine A_putZ rfl (Or.inl fl_Mod_242) rfl (by decide) (Or.inl rfl) rfl (Or.inr rfl) ?_
  obtain ⟨M22, hM22, h⟩ := kM_out h
  refine A_mem hM22 ?_
  refine A_aload_n 0 rfl rfl rfl ?_
  refine A_aload_n 0 rfl rfl rfl ?_
  refine A_getL (r := 205) rfl fl_Mod_75 rfl (by decide) rfl rfl ?_
  refine A_iconst (v := 5) rfl (by decide) ?_
  refine A_aload_n 0 rfl rfl rfl ?_
  refine A_pc (pc' := 216) rfl ?_
  refine A_getI rfl fl_Mod_229 rfl (by decide) (Or.inl rfl) ?_
  refine A_imul rfl ?_
  refine A_aload_n 0 rfl rfl rfl ?_
  refine A_getL (r := 207) rfl fl_Mod_81 rfl (by decide) rfl rfl ?_
  refine A_aload_n 0 rfl rfl rfl ?_
  refine A_getI rfl fl_Mod_229 rfl (by decide) (Or.inl rfl) ?_
  refine A_pc (pc' := 228) rfl ?_
  obtain ⟨hg23, h⟩ := gi_out h
  refine A_iald (n := 16) rfl (by decide) (by decide) (Or.inl rfl) hg23 ?_
  refine A_iadd rfl ?_
  obtain ⟨x24, hx24, h⟩ := kM_out h
  refine A_nI hx24 ?_
  obtain ⟨hg25, h⟩ := gi_out h
  refine A_iald (n := 80) rfl (by decide) (by decide) (Or.inl rfl) hg25 ?_
  refine A_putI rfl (Or.inl fl_Mod_246) rfl (by decide) (Or.inl rfl) rfl ?_
  obtain ⟨M26, hM26, h⟩ := kM_out h
  refine A_mem hM26 ?_
  refine A_aload_n 0 rfl rfl rfl ?_
  refine A_dup rfl rfl ?_
  refine A_pc (pc' := 236) rfl ?_
  refine A_getI rfl fl_Mod_229 rfl (by decide) (Or.inl rfl) ?_
  refine A_iconst (v := 1) rfl (by decide) ?_
  refine A_iadd rfl ?_
  refine A_putI rfl (Or.inl fl_Mod_229) rfl (by decide) (Or.inl rfl) rfl ?_
  obtain ⟨M27, hM27, h⟩ := kM_out h
  refine A_mem hM27 ?_
  refine A_iload_n 1 rfl rfl rfl ?_
  refine A_iconst (v := 1) rfl (by decide) ?_
  refine A_pc (pc' := 246) rfl ?_
  refine A_iadd rfl ?_
  obtain ⟨rfl, rfl⟩ := leaf h
  exact A_iret rfl rfl
def f_Mod_begin_93_b (K93 : Int32 → Int32 → Int32 → Int32 → ax_M → Option (Int32 × ax_M)) (l1 : Int32) (l3 : Int32) (l5 : Int32) (l6 : Int32) (M : ax_M) : Option (Int32 × ax_M) :=
  if l5 ≤ l6 then (gi (gI M 184 37) 16 (kM (mI M 206 (gI M 184 37).toNatClampNeg l5) (fun M11 => if l3 = 18 then (f_Mod_begin_167 l1 (l5 - 1) (gI M11 184 37) M11) else (f_Mod_begin_167 l1 0 (gI M11 184 37) M11)))) else (gi ((5 * (gI M 184 29)) + l6) 240 (gi ((5 * (gI M 184 37)) + l6) 80 (kM (mI M 205 ((5 * (gI M 184 37)) + l6).toNatClampNeg (gI M 204 ((5 * (gI M 184 29)) + l6).toNatClampNeg)) (fun M30 => kM (l6 + 1) (fun x31 => K93 l1 l3 l5 x31 M30)))))
def f_Mod_begin_93 : Nat → Int32 → Int32 → Int32 → Int32 → ax_M → Option (Int32 × ax_M)
  | 0, _, _, _, _, _ => none
  | n + 1, l1, l3, l5, l6, M => f_Mod_begin_93_b  (f_Mod_begin_93 n) l1 l3 l5 l6 M
set_option maxHeartbeats 4000000 in
set_option maxRecDepth 100000 in
theorem o_Mod_begin_93_b {l : Launch} {g : ax_G} (K93 : Int32 → Int32 → Int32 → Int32 → ax_M → Option (Int32 × ax_M)) (hK93 : ∀ (l1 : Int32) (l3 : Int32) (l5 : Int32) (l6 : Int32) (M : ax_M) (r : Int32) (M' : ax_M), K93 l1 l3 l5 l6 M = some (r, M') → AW l g true Y_Mod_begin 2 (some (vI r), M') 93 [(0, vA 184), (1, vI l1), (3, vI l3), (5, vI l5), (6, vI l6)] [] M) (l1 : Int32) (l3 : Int32) (l5 : Int32) (l6 : Int32) (M : ax_M) (r : Int32) (M' : ax_M) (h : f_Mod_begin_93_b  K93 l1 l3 l5 l6 M = some (r, M')) : AW l g true Y_Mod_begin 2 (some (vI r), M') 93 [(0, vA 184), (1, vI l1), (3, vI l3), (5, vI l5), (6, vI l6)] [] M := by
  unfold f_Mod_begin_93_b at h
  refine A_iload 4 rfl rfl ?_
  refine A_iload 3 rfl rfl ?_
  refine A_icmp_ge (tgt := 134) rfl (by decide) (fun hc9 => ?_) (fun hc9 => ?_)
  · rw [if_pos hc9] at h
    refine A_aload_n 0 rfl rfl rfl ?_
    refine A_getL (r := 206) rfl fl_Mod_78 rfl (by decide) rfl rfl ?_
    refine A_aload_n 0 rfl rfl rfl ?_
    refine A_getI rfl fl_Mod_229 rfl (by decide) (Or.inl rfl) ?_
    refine A_iload 3 rfl rfl ?_
    refine A_pc (pc' := 144) rfl ?_
    obtain ⟨hg10, h⟩ := gi_out h
    refine A_iast (n := 16) rfl (by decide) (by decide) (Or.inl rfl) hg10 ?_
    obtain ⟨M11, hM11, h⟩ := kM_out h
    refine A_mem hM11 ?_
    refine A_aload_n 0 rfl rfl rfl ?_
    refine A_getL (r := 207) rfl fl_Mod_81 rfl (by decide) rfl rfl ?_
    refine A_aload_n 0 rfl rfl rfl ?_
    refine A_getI rfl fl_Mod_229 rfl (by decide) (Or.inl rfl) ?_
    refine A_iload_n 2 rfl rfl rfl ?_
    refine A_pc (pc' := 154) rfl ?_
    refine A_bipush (v := 18) rfl (by decide) ?_
    refine A_icmp_ne (tgt := 166) rfl (by decide) (fun hc12 => ?_) (fun hc12 => ?_)
    · rw [if_neg hc12] at h
      refine A_iconst (v := 0) rfl (by decide) ?_
      refine A_pc (pc' := 167) rfl ?_
      refine A_sub (Ls' := [(0, vA 184), (1, vI l1)]) [0, 1] rfl ?_
      exact o_Mod_begin_167  _ _ _ _ _ _ h
    · rw [if_pos hc12] at h
      refine A_pc (pc' := 159) rfl ?_
      refine A_iload 3 rfl rfl ?_
      refine A_iconst (v := 1) rfl (by decide) ?_
      refine A_isub rfl ?_
      refine A_goto (tgt := 167) rfl (by decide) ?_
      refine A_pc (pc' := 167) rfl ?_
      refine A_sub (Ls' := [(0, vA 184), (1, vI l1)]) [0, 1] rfl ?_
      exact o_Mod_begin_167  _ _ _ _ _ _ h
  · rw [if_neg hc9] at h
    refine A_pc (pc' := 100) rfl ?_
    refine A_aload_n 0 rfl rfl rfl ?_
    refine A_getL (r := 205) rfl fl_Mod_75 rfl (by decide) rfl rfl ?_
    refine A_iconst (v := 5) rfl (by decide) ?_
    refine A_aload_n 0 rfl rfl rfl ?_
    refine A_getI rfl fl_Mod_229 rfl (by decide) (Or.inl rfl) ?_
    refine A_pc (pc' := 109) rfl ?_
    refine A_imul rfl ?_
    refine A_iload 4 rfl rfl ?_
    refine A_iadd rfl ?_
    refine A_aload_n 0 rfl rfl rfl ?_
    refine A_getL (r := 204) rfl fl_Mod_72 rfl (by decide) rfl rfl ?_
    refine A_iconst (v := 5) rfl (by decide) ?_
    refine A_pc (pc' := 118) rfl ?_
    refine A_aload_n 0 rfl rfl rfl ?_
    refine A_getI rfl fl_Mod_223 rfl (by decide) (Or.inl rfl) ?_
    refine A_imul rfl ?_
    refine A_iload 4 rfl rfl ?_
    refine A_iadd rfl ?_
    obtain ⟨hg28, h⟩ := gi_out h
    refine A_iald (n := 240) rfl (by decide) (by decide) (Or.inl rfl) hg28 ?_
    refine A_pc (pc' := 127) rfl ?_
    obtain ⟨hg29, h⟩ := gi_out h
    refine A_iast (n := 80) rfl (by decide) (by decide) (Or.inl rfl) hg29 ?_
    obtain ⟨M30, hM30, h⟩ := kM_out h
    refine A_mem hM30 ?_
    obtain ⟨x31, hx31, h⟩ := kM_out h
    refine A_iinc 4 (v := x31) (Ls' := [(6, vI x31), (0, vA 184), (1, vI l1), (3, vI l3), (5, vI l5)]) rfl rfl ((iiN (k := 1) (by decide) _).trans hx31) (by decide) rfl ?_
    refine A_goto (tgt := 93) rfl (by decide) ?_
    refine A_pc (pc' := 93) rfl ?_
    refine A_sub (Ls' := [(0, vA 184), (1, vI l1), (3, vI l3), (5, vI l5), (6, vI x31)]) [1, 2, 3, 4, 0] rfl ?_
    exact hK93 _ _ _ _ _ _ _ h
theorem o_Mod_begin_93 {l : Launch} {g : ax_G} : ∀ (n : Nat) (l1 : Int32) (l3 : Int32) (l5 : Int32) (l6 : Int32) (M : ax_M) (r : Int32) (M' : ax_M), f_Mod_begin_93  n l1 l3 l5 l6 M = some (r, M') → AW l g true Y_Mod_begin 2 (some (vI r), M') 93 [(0, vA 184), (1, vI l1), (3, vI l3), (5, vI l5), (6, vI l6)] [] M := by
  intro n
  induction n with
  | zero =>
    intro l1 l3 l5 l6 M r M' h
    cases h
  | succ n ih =>
    intro l1 l3 l5 l6 M r M' h
    exact o_Mod_begin_93_b  _ ih _ _ _ _ _ _ _ h
def f_Mod_begin (a1 : Int32) (a2 : Int32) (M : ax_M) : Option (Int32 × ax_M) :=
  gi (a2 + a1) 432 (kM (gI M 186 (a2 + a1).toNatClampNeg) (fun x2 => kM ((Int64.toInt32 (gJ M 187 (a2 + a1).toNatClampNeg)) + 1) (fun x3 => kM (mI M 184 29 ((gI M 184 29) - 1)) (fun M4 => gi (gI M4 184 29) 48 (if (gI M4 202 (gI M4 184 29).toNatClampNeg) = 4 then (kM (Int64.toInt32 (gJ M4 203 (gI M4 184 29).toNatClampNeg)) (fun x7 => if x7 = 0 then (if x2 = 16 then (bnd (f_Mod_push 4 0 M4) (fun q35 M36 => some (x3, M36))) else (bnd (f_Mod_push 0 0 M4) (fun q33 M34 => some (x3, M34)))) else (f_Mod_begin_93 64 a1 x2 x7 0 M4))) else (bnd (f_Mod_push ((-1)) 0 M4) (fun q37 M38 => some (x3, M38))))))))
set_option maxHeartbeats 4000000 in
set_option maxRecDepth 100000 in
theorem c_Mod_begin {l : Launch} {g : ax_G} {a1 : Int32} {a2 : Int32} {M : ax_M} {r : Int32} {M' : ax_M} (h : f_Mod_begin a1 a2 M = some (r, M')) : Ctr l g true Y_Mod_begin 2 [vA 184, vI a1, vI a2] M (some (vI r), M') := by
  refine Ctr.ofAW yok_Mod_begin (Nat.le_of_ble_eq_true rfl) (Or.inl rfl) ?_
  show AW l g true Y_Mod_begin 2 (some (vI r), M') 0 [(0, vA 184), (1, vI a1), (2, vI a2)] [] M
  unfold f_Mod_begin at h
  refine A_aload_n 0 rfl rfl rfl ?_
  refine A_getL (r := 186) rfl fl_Mod_13 rfl (by decide) rfl rfl ?_
  refine A_iload_n 2 rfl rfl rfl ?_
  refine A_iload_n 1 rfl rfl rfl ?_
  refine A_iadd rfl ?_
  refine A_pc (pc' := 7) rfl ?_
  obtain ⟨hg1, h⟩ := gi_out h
  refine A_iald (n := 432) rfl (by decide) (by decide) (Or.inl rfl) hg1 ?_
  obtain ⟨x2, hx2, h⟩ := kM_out h
  refine A_nI hx2 ?_
  refine A_istore_n (Ls' := [(3, vI x2), (0, vA 184), (1, vI a1), (2, vI a2)]) rfl rfl (by decide) rfl ?_
  refine A_aload_n 1 rfl rfl rfl ?_
  refine A_getL (r := 187) rfl fl_Mod_16 rfl (by decide) rfl rfl ?_
  refine A_iload_n 3 rfl rfl rfl ?_
  refine A_iload_n 2 rfl rfl rfl ?_
  refine A_pc (pc' := 15) rfl ?_
  refine A_iadd rfl ?_
  refine A_lald (n := 432) rfl (by decide) (by decide) (Or.inl rfl) hg1 ?_
  refine A_l2i rfl ?_
  refine A_iconst (v := 1) rfl (by decide) ?_
  refine A_iadd rfl ?_
  obtain ⟨x3, hx3, h⟩ := kM_out h
  refine A_nI hx3 ?_
  refine A_istore (Ls' := [(4, vI x3), (3, vI x2), (0, vA 184), (1, vI a1), (2, vI a2)]) rfl (by decide) rfl ?_
  refine A_pc (pc' := 22) rfl ?_
  refine A_aload_n 2 rfl rfl rfl ?_
  refine A_dup rfl rfl ?_
  refine A_getI rfl fl_Mod_223 rfl (by decide) (Or.inl rfl) ?_
  refine A_iconst (v := 1) rfl (by decide) ?_
  refine A_isub rfl ?_
  refine A_putI rfl (Or.inl fl_Mod_223) rfl (by decide) (Or.inl rfl) rfl ?_
  obtain ⟨M4, hM4, h⟩ := kM_out h
  refine A_mem hM4 ?_
  refine A_pc (pc' := 32) rfl ?_
  refine A_aload_n 2 rfl rfl rfl ?_
  refine A_getL (r := 202) rfl fl_Mod_66 rfl (by decide) rfl rfl ?_
  refine A_aload_n 2 rfl rfl rfl ?_
  refine A_getI rfl fl_Mod_223 rfl (by decide) (Or.inl rfl) ?_
  obtain ⟨hg5, h⟩ := gi_out h
  refine A_iald (n := 48) rfl (by decide) (by decide) (Or.inl rfl) hg5 ?_
  refine A_iconst (v := 4) rfl (by decide) ?_
  refine A_pc (pc' := 42) rfl ?_
  refine A_icmp_eq (tgt := 54) rfl (by decide) (fun hc6 => ?_) (fun hc6 => ?_)
  · rw [if_pos hc6] at h
    refine A_aload_n 2 rfl rfl rfl ?_
    refine A_getL (r := 203) rfl fl_Mod_69 rfl (by decide) rfl rfl ?_
    refine A_aload_n 2 rfl rfl rfl ?_
    refine A_getI rfl fl_Mod_223 rfl (by decide) (Or.inl rfl) ?_
    refine A_lald (n := 48) rfl (by decide) (by decide) (Or.inl rfl) hg5 ?_
    refine A_pc (pc' := 63) rfl ?_
    refine A_l2i rfl ?_
    obtain ⟨x7, hx7, h⟩ := kM_out h
    refine A_nI hx7 ?_
    refine A_istore (Ls' := [(5, vI x7), (4, vI x3), (3, vI x2), (0, vA 184), (1, vI a1), (2, vI a2)]) rfl (by decide) rfl ?_
    refine A_iload 0 rfl rfl ?_
    refine A_if_ne (tgt := 90) rfl (by decide) (fun hc8 => ?_) (fun hc8 => ?_)
    · rw [if_neg hc8] at h
      refine A_iconst (v := 0) rfl (by decide) ?_
      refine A_istore (Ls' := [(6, vI 0), (5, vI x7), (4, vI x3), (3, vI x2), (0, vA 184), (1, vI a1), (2, vI a2)]) rfl (by decide) rfl ?_
      refine A_pc (pc' := 93) rfl ?_
      refine A_sub (Ls' := [(0, vA 184), (1, vI a1), (3, vI x2), (5, vI x7), (6, vI 0)]) [4, 5, 3, 1, 0] rfl ?_
      exact o_Mod_begin_93  _ _ _ _ _ _ _ _ h
    · rw [if_pos hc8] at h
      refine A_pc (pc' := 71) rfl ?_
      refine A_aload_n 3 rfl rfl rfl ?_
      refine A_iload_n 2 rfl rfl rfl ?_
      refine A_bipush (v := 16) rfl (by decide) ?_
      refine A_icmp_ne (tgt := 82) rfl (by decide) (fun hc32 => ?_) (fun hc32 => ?_)
      · rw [if_neg hc32] at h
        refine A_iconst (v := 0) rfl (by decide) ?_
        refine A_lconst (v := 0) rfl (by decide) ?_
        obtain ⟨q33, M34, hcq33, h⟩ := bnd_out h
        refine A_callV (ci := 11) (as := [vI 0, vJ 0]) (st' := []) (r1 := (none, M34)) rfl ml_Mod_226 rfl (by decide) (by decide) (Or.inl rfl) rfl rfl (Nat.le_of_ble_eq_true rfl) (by decide) (c_Mod_push hcq33) (Or.inl rfl) ?_
        refine A_pc (pc' := 87) rfl ?_
        refine A_stk (st' := []) rfl ?_
        refine A_iload 1 rfl rfl ?_
        obtain ⟨rfl, rfl⟩ := leaf h
        exact A_iret rfl rfl
      · rw [if_pos hc32] at h
        refine A_pc (pc' := 78) rfl ?_
        refine A_iconst (v := 4) rfl (by decide) ?_
        refine A_goto (tgt := 83) rfl (by decide) ?_
        refine A_lconst (v := 0) rfl (by decide) ?_
        obtain ⟨q35, M36, hcq35, h⟩ := bnd_out h
        refine A_callV (ci := 11) (as := [vI 4, vJ 0]) (st' := []) (r1 := (none, M36)) rfl ml_Mod_226 rfl (by decide) (by decide) (Or.inl rfl) rfl rfl (Nat.le_of_ble_eq_true rfl) (by decide) (c_Mod_push hcq35) (Or.inl rfl) ?_
        refine A_pc (pc' := 87) rfl ?_
        refine A_stk (st' := []) rfl ?_
        refine A_iload 1 rfl rfl ?_
        refine A_pc (pc' := 89) rfl ?_
        obtain ⟨rfl, rfl⟩ := leaf h
        exact A_iret rfl rfl
  · rw [if_neg hc6] at h
    refine A_pc (pc' := 45) rfl ?_
    refine A_aload_n 2 rfl rfl rfl ?_
    refine A_iconst (v := (-1)) rfl (by decide) ?_
    refine A_lconst (v := 0) rfl (by decide) ?_
    obtain ⟨q37, M38, hcq37, h⟩ := bnd_out h
    refine A_callV (ci := 11) (as := [vI ((-1)), vJ 0]) (st' := []) (r1 := (none, M38)) rfl ml_Mod_226 rfl (by decide) (by decide) (Or.inl rfl) rfl rfl (Nat.le_of_ble_eq_true rfl) (by decide) (c_Mod_push hcq37) (Or.inl rfl) ?_
    refine A_pc (pc' := 51) rfl ?_
    refine A_stk (st' := []) rfl ?_
    refine A_iload 0 rfl rfl ?_
    refine A_pc (pc' := 53) rfl ?_
    obtain ⟨rfl, rfl⟩ := leaf h
    exact A_iret rfl rfl
def tb_Mod_again : List (Nat × Instr × Nat) := [(0, .aload_n 0, 1), (1, .getfield 16, 3), (4, .iload_n 2, 1), (5, .iload_n 1, 1), (6, .iadd, 1), (7, .laload, 1), (8, .l2i, 1), (9, .istore_n 3, 1), (10, .aload_n 0, 1), (11, .getfield 13, 3), (14, .iload_n 2, 1), (15, .iload_n 3, 1), (16, .iadd, 1), (17, .iaload, 1), (18, .istore 4, 2), (20, .aload_n 0, 1), (21, .getfield 229, 3), (24, .iconst 1, 1), (25, .isub, 1), (26, .istore 5, 2), (28, .aload_n 0, 1), (29, .dup, 1), (30, .getfield 223, 3), (33, .iconst 1, 1), (34, .isub, 1), (35, .putfield 223, 3), (38, .aload_n 0, 1), (39, .getfield 66, 3), (42, .aload_n 0, 1), (43, .getfield 223, 3), (46, .iaload, 1), (47, .iconst 1, 1), (48, .if_icmp .eq 7, 3), (51, .iconst 1, 1), (52, .goto 4, 3), (55, .iconst 0, 1), (56, .istore 6, 2), (58, .iload 6, 2), (60, .ifCond .ne 21, 3), (63, .aload_n 0, 1), (64, .getfield 69, 3), (67, .aload_n 0, 1), (68, .getfield 223, 3), (71, .laload, 1), (72, .lconst 1, 1), (73, .lcmp, 1), (74, .ifCond .ne 7, 3), (77, .iconst 1, 1), (78, .goto 4, 3), (81, .iconst 0, 1), (82, .istore 7, 2), (84, .aload_n 0, 1), (85, .getfield 75, 3), (88, .iconst 5, 1), (89, .iload 5, 2), (91, .imul, 1), (92, .aload_n 0, 1), (93, .getfield 81, 3), (96, .iload 5, 2), (98, .iaload, 1), (99, .iadd, 1), (100, .iaload, 1), (101, .istore 8, 2), (103, .iload 7, 2), (105, .ifCond .eq 40, 3), (108, .iload 4, 2), (110, .bipush 16, 2), (112, .if_icmp .ne 33, 3), (115, .aload_n 0, 1), (116, .getfield 84, 3), (119, .iconst 5, 1), (120, .iload 5, 2), (122, .imul, 1), (123, .aload_n 0, 1), (124, .getfield 87, 3), (127, .iload 5, 2), (129, .iaload, 1), (130, .iadd, 1), (131, .iload 8, 2), (133, .iastore, 1), (134, .aload_n 0, 1), (135, .getfield 87, 3), (138, .iload 5, 2), (140, .dup2, 1), (141, .iaload, 1), (142, .iconst 1, 1), (143, .iadd, 1), (144, .iastore, 1), (145, .aload_n 0, 1), (146, .getfield 81, 3), (149, .iload 5, 2), (151, .iload 4, 2), (153, .bipush 18, 2), (155, .if_icmp .ne 15, 3), (158, .aload_n 0, 1), (159, .getfield 81, 3), (162, .iload 5, 2), (164, .iaload, 1), (165, .iconst 1, 1), (166, .isub, 1), (167, .goto 12, 3), (170, .aload_n 0, 1), (171, .getfield 81, 3), (174, .iload 5, 2), (176, .iaload, 1), (177, .iconst 1, 1), (178, .iadd, 1), (179, .iastore, 1), (180, .iload 7, 2), (182, .ifCond .eq 14, 3), (185, .iload 4, 2), (187, .bipush 16, 2), (189, .if_icmp .eq 7, 3), (192, .iconst 1, 1), (193, .goto 4, 3), (196, .iconst 0, 1), (197, .istore 9, 2), (199, .iload 6, 2), (201, .ifCond .ne 60, 3), (204, .iload 9, 2), (206, .ifCond .ne 55, 3), (209, .aload_n 0, 1), (210, .getfield 81, 3), (213, .iload 5, 2), (215, .iaload, 1), (216, .ifCond .lt 45, 3), (219, .aload_n 0, 1), (220, .getfield 81, 3), (223, .iload 5, 2), (225, .iaload, 1), (226, .aload_n 0, 1), (227, .getfield 78, 3), (230, .iload 5, 2), (232, .iaload, 1), (233, .if_icmp .ge 28, 3), (236, .aload_n 0, 1), (237, .aload_n 0, 1), (238, .getfield 75, 3), (241, .iconst 5, 1), (242, .iload 5, 2), (244, .imul, 1), (245, .aload_n 0, 1), (246, .getfield 81, 3), (249, .iload 5, 2), (251, .iaload, 1), (252, .iadd, 1), (253, .iaload, 1), (254, .putfield 246, 3), (257, .iload_n 3, 1), (258, .iconst 1, 1), (259, .iadd, 1), (260, .ireturn, 1), (261, .iload 6, 2), (263, .ifCond .eq 12, 3), (266, .aload_n 0, 1), (267, .iconst (-1), 1), (268, .lconst 0, 1), (269, .invokevirtual 226, 3), (272, .goto 51, 3), (275, .iload 4, 2), (277, .bipush 16, 2), (279, .if_icmp .ne 18, 3), (282, .aload_n 0, 1), (283, .iconst 2, 1), (284, .aload_n 0, 1), (285, .getfield 87, 3), (288, .iload 5, 2), (290, .iaload, 1), (291, .invokevirtual 252, 3), (294, .goto 29, 3), (297, .aload_n 0, 1), (298, .iload 9, 2), (300, .ifCond .eq 7, 3), (303, .iconst 2, 1), (304, .goto 4, 3), (307, .iconst 0, 1), (308, .iload 9, 2), (310, .ifCond .eq 9, 3), (313, .iload 8, 2), (315, .i2l, 1), (316, .goto 4, 3), (319, .lconst 0, 1), (320, .invokevirtual 226, 3), (323, .aload_n 0, 1), (324, .aload_n 0, 1), (325, .getfield 90, 3), (328, .iload 5, 2), (330, .baload, 1), (331, .putfield 242, 3), (334, .aload_n 0, 1), (335, .aload_n 0, 1), (336, .getfield 94, 3), (339, .iload 5, 2), (341, .iaload, 1), (342, .putfield 246, 3), (345, .aload_n 0, 1), (346, .dup, 1), (347, .getfield 229, 3), (350, .iconst 1, 1), (351, .isub, 1), (352, .putfield 229, 3), (355, .iload_n 1, 1), (356, .iconst 1, 1), (357, .iadd, 1), (358, .ireturn, 1)]
def Y_Mod_again : ax_Y := (⟨"MethodWardenModel", "again", "(II)I"⟩, prog_14_method_42_code, 10, some .int, tb_Mod_again)
theorem yok_Mod_again : yOK Y_Mod_again := ⟨by decide +kernel, by decide +kernel, inWG 1428 (by decide +kernel) (by decide +kernel), inWG 107 (by decide +kernel) (by decide +kernel), by decide +kernel⟩
def f_Mod_again_323 (l1 : Int32) (l5 : Int32) (M : ax_M) : Option (Int32 × ax_M) :=
  gi l5 16 (g2 (gI M 210 l5.toNatClampNeg) (kM (mI M 184 38 (gI M 210 l5.toNatClampNeg)) (fun M27 => kM (mI M27 184 39 (gI M27 211 l5.toNatClampNeg)) (fun M28 => kM (mI M28 184 37 ((gI M28 184 37) - 1)) (fun M29 => some (l1 + 1, M29))))))
set_option maxHeartbeats 4000000 in
set_option maxRecDepth 100000 in
theorem o_Mod_again_323 {l : Launch} {g : ax_G} (l1 : Int32) (l5 : Int32) (M : ax_M) (r : Int32) (M' : ax_M) (h : f_Mod_again_323  l1 l5 M = some (r, M')) : AW l g true Y_Mod_again 3 (some (vI r), M') 323 [(0, vA 184), (1, vI l1), (5, vI l5)] [] M := by
  unfold f_Mod_again_323 at h
  refine A_aload_n 0 rfl rfl rfl ?_
  refine A_aload_n 0 rfl rfl rfl ?_
  refine A_getL (r := 210) rfl fl_Mod_90 rfl (by decide) rfl rfl ?_
  refine A_iload 2 rfl rfl ?_
  obtain ⟨hg25, h⟩ := gi_out h
  refine A_zald (n := 16) rfl (by decide) (by decide) (Or.inl rfl) hg25 ?_
  refine A_pc (pc' := 331) rfl ?_
  obtain ⟨hg26, h⟩ := g2_out h
  refine A_putZ rfl (Or.inl fl_Mod_242) rfl (by decide) (Or.inl rfl) rfl hg26 ?_
  obtain ⟨M27, hM27, h⟩ := kM_out h
  refine A_mem hM27 ?_
  refine A_aload_n 0 rfl rfl rfl ?_
  refine A_aload_n 0 rfl rfl rfl ?_
  refine A_getL (r := 211) rfl fl_Mod_94 rfl (by decide) rfl rfl ?_
  refine A_iload 2 rfl rfl ?_
  refine A_iald (n := 16) rfl (by decide) (by decide) (Or.inl rfl) hg25 ?_
  refine A_pc (pc' := 342) rfl ?_
  refine A_putI rfl (Or.inl fl_Mod_246) rfl (by decide) (Or.inl rfl) rfl ?_
  obtain ⟨M28, hM28, h⟩ := kM_out h
  refine A_mem hM28 ?_
  refine A_aload_n 0 rfl rfl rfl ?_
  refine A_dup rfl rfl ?_
  refine A_getI rfl fl_Mod_229 rfl (by decide) (Or.inl rfl) ?_
  refine A_iconst (v := 1) rfl (by decide) ?_
  refine A_isub rfl ?_
  refine A_pc (pc' := 352) rfl ?_
  refine A_putI rfl (Or.inl fl_Mod_229) rfl (by decide) (Or.inl rfl) rfl ?_
  obtain ⟨M29, hM29, h⟩ := kM_out h
  refine A_mem hM29 ?_
  refine A_iload_n 1 rfl rfl rfl ?_
  refine A_iconst (v := 1) rfl (by decide) ?_
  refine A_iadd rfl ?_
  obtain ⟨rfl, rfl⟩ := leaf h
  exact A_iret rfl rfl
def f_Mod_again_261 (l1 : Int32) (l4 : Int32) (l5 : Int32) (l6 : Int32) (l8 : Int32) (l9 : Int32) (M : ax_M) : Option (Int32 × ax_M) :=
  if l6 = 0 then (if l4 = 16 then (gi l5 16 (bnd (f_Mod_pushItems 2 (gI M 209 l5.toNatClampNeg) M) (fun q38 M39 => f_Mod_again_323 l1 l5 M39))) else (if l9 = 0 then (if l9 = 0 then (bnd (f_Mod_push 0 0 M) (fun q23 M24 => f_Mod_again_323 l1 l5 M24)) else (bnd (f_Mod_push 0 (Int32.toInt64 l8) M) (fun q30 M31 => f_Mod_again_323 l1 l5 M31))) else (if l9 = 0 then (bnd (f_Mod_push 2 0 M) (fun q33 M34 => f_Mod_again_323 l1 l5 M34)) else (bnd (f_Mod_push 2 (Int32.toInt64 l8) M) (fun q35 M36 => f_Mod_again_323 l1 l5 M36))))) else (bnd (f_Mod_push ((-1)) 0 M) (fun q40 M41 => f_Mod_again_323 l1 l5 M41))
set_option maxHeartbeats 4000000 in
set_option maxRecDepth 100000 in
theorem o_Mod_again_261 {l : Launch} {g : ax_G} (l1 : Int32) (l4 : Int32) (l5 : Int32) (l6 : Int32) (l8 : Int32) (l9 : Int32) (M : ax_M) (r : Int32) (M' : ax_M) (h : f_Mod_again_261  l1 l4 l5 l6 l8 l9 M = some (r, M')) : AW l g true Y_Mod_again 3 (some (vI r), M') 261 [(0, vA 184), (1, vI l1), (4, vI l4), (5, vI l5), (6, vI l6), (8, vI l8), (9, vI l9)] [] M := by
  unfold f_Mod_again_261 at h
  refine A_iload 4 rfl rfl ?_
  refine A_if_eq (tgt := 275) rfl (by decide) (fun hc19 => ?_) (fun hc19 => ?_)
  · rw [if_pos hc19] at h
    refine A_iload 2 rfl rfl ?_
    refine A_bipush (v := 16) rfl (by decide) ?_
    refine A_icmp_ne (tgt := 297) rfl (by decide) (fun hc20 => ?_) (fun hc20 => ?_)
    · rw [if_neg hc20] at h
      refine A_aload_n 0 rfl rfl rfl ?_
      refine A_iload 6 rfl rfl ?_
      refine A_if_eq (tgt := 307) rfl (by decide) (fun hc21 => ?_) (fun hc21 => ?_)
      · rw [if_pos hc21] at h
        refine A_iconst (v := 0) rfl (by decide) ?_
        refine A_iload 6 rfl rfl ?_
        refine A_if_eq (tgt := 319) rfl (by decide) (fun hc22 => ?_) (fun hc22 => ?_)
        · rw [if_pos hc22] at h
          refine A_lconst (v := 0) rfl (by decide) ?_
          obtain ⟨q23, M24, hcq23, h⟩ := bnd_out h
          refine A_callV (ci := 11) (as := [vI 0, vJ 0]) (st' := []) (r1 := (none, M24)) rfl ml_Mod_226 rfl (by decide) (by decide) (Or.inl rfl) rfl rfl (Nat.le_of_ble_eq_true rfl) (by decide) (c_Mod_push hcq23) (Or.inl rfl) ?_
          refine A_pc (pc' := 323) rfl ?_
          refine A_stk (st' := []) rfl ?_
          refine A_pc (pc' := 323) rfl ?_
          refine A_sub (Ls' := [(0, vA 184), (1, vI l1), (5, vI l5)]) [0, 1, 3] rfl ?_
          exact o_Mod_again_323  _ _ _ _ _ h
        · rw [if_neg hc22] at h
          refine A_pc (pc' := 313) rfl ?_
          refine A_iload 5 rfl rfl ?_
          refine A_i2l rfl ?_
          refine A_goto (tgt := 320) rfl (by decide) ?_
          obtain ⟨q30, M31, hcq30, h⟩ := bnd_out h
          refine A_callV (ci := 11) (as := [vI 0, vJ (Int32.toInt64 l8)]) (st' := []) (r1 := (none, M31)) rfl ml_Mod_226 rfl (by decide) (by decide) (Or.inl rfl) rfl rfl (Nat.le_of_ble_eq_true rfl) (by decide) (c_Mod_push hcq30) (Or.inl rfl) ?_
          refine A_pc (pc' := 323) rfl ?_
          refine A_stk (st' := []) rfl ?_
          refine A_pc (pc' := 323) rfl ?_
          refine A_sub (Ls' := [(0, vA 184), (1, vI l1), (5, vI l5)]) [0, 1, 3] rfl ?_
          exact o_Mod_again_323  _ _ _ _ _ h
      · rw [if_neg hc21] at h
        refine A_pc (pc' := 303) rfl ?_
        refine A_iconst (v := 2) rfl (by decide) ?_
        refine A_goto (tgt := 308) rfl (by decide) ?_
        refine A_iload 6 rfl rfl ?_
        refine A_if_eq (tgt := 319) rfl (by decide) (fun hc32 => ?_) (fun hc32 => ?_)
        · rw [if_pos hc32] at h
          refine A_lconst (v := 0) rfl (by decide) ?_
          obtain ⟨q33, M34, hcq33, h⟩ := bnd_out h
          refine A_callV (ci := 11) (as := [vI 2, vJ 0]) (st' := []) (r1 := (none, M34)) rfl ml_Mod_226 rfl (by decide) (by decide) (Or.inl rfl) rfl rfl (Nat.le_of_ble_eq_true rfl) (by decide) (c_Mod_push hcq33) (Or.inl rfl) ?_
          refine A_pc (pc' := 323) rfl ?_
          refine A_stk (st' := []) rfl ?_
          refine A_pc (pc' := 323) rfl ?_
          refine A_sub (Ls' := [(0, vA 184), (1, vI l1), (5, vI l5)]) [0, 1, 3] rfl ?_
          exact o_Mod_again_323  _ _ _ _ _ h
        · rw [if_neg hc32] at h
          refine A_pc (pc' := 313) rfl ?_
          refine A_iload 5 rfl rfl ?_
          refine A_i2l rfl ?_
          refine A_goto (tgt := 320) rfl (by decide) ?_
          obtain ⟨q35, M36, hcq35, h⟩ := bnd_out h
          refine A_callV (ci := 11) (as := [vI 2, vJ (Int32.toInt64 l8)]) (st' := []) (r1 := (none, M36)) rfl ml_Mod_226 rfl (by decide) (by decide) (Or.inl rfl) rfl rfl (Nat.le_of_ble_eq_true rfl) (by decide) (c_Mod_push hcq35) (Or.inl rfl) ?_
          refine A_pc (pc' := 323) rfl ?_
          refine A_stk (st' := []) rfl ?_
          refine A_pc (pc' := 323) rfl ?_
          refine A_sub (Ls' := [(0, vA 184), (1, vI l1), (5, vI l5)]) [0, 1, 3] rfl ?_
          exact o_Mod_again_323  _ _ _ _ _ h
    · rw [if_pos hc20] at h
      refine A_pc (pc' := 282) rfl ?_
      refine A_aload_n 0 rfl rfl rfl ?_
      refine A_iconst (v := 2) rfl (by decide) ?_
      refine A_aload_n 0 rfl rfl rfl ?_
      refine A_getL (r := 209) rfl fl_Mod_87 rfl (by decide) rfl rfl ?_
      refine A_iload 3 rfl rfl ?_
      refine A_pc (pc' := 290) rfl ?_
      obtain ⟨hg37, h⟩ := gi_out h
      refine A_iald (n := 16) rfl (by decide) (by decide) (Or.inl rfl) hg37 ?_
      obtain ⟨q38, M39, hcq38, h⟩ := bnd_out h
      refine A_callV (ci := 11) (as := [vI 2, vI (gI M 209 l5.toNatClampNeg)]) (st' := []) (r1 := (none, M39)) rfl ml_Mod_252 rfl (by decide) (by decide) (Or.inl rfl) rfl rfl (Nat.le_of_ble_eq_true rfl) (by decide) (c_Mod_pushItems hcq38) (Or.inl rfl) ?_
      refine A_pc (pc' := 294) rfl ?_
      refine A_stk (st' := []) rfl ?_
      refine A_goto (tgt := 323) rfl (by decide) ?_
      refine A_pc (pc' := 323) rfl ?_
      refine A_sub (Ls' := [(0, vA 184), (1, vI l1), (5, vI l5)]) [0, 1, 3] rfl ?_
      exact o_Mod_again_323  _ _ _ _ _ h
  · rw [if_neg hc19] at h
    refine A_pc (pc' := 266) rfl ?_
    refine A_aload_n 0 rfl rfl rfl ?_
    refine A_iconst (v := (-1)) rfl (by decide) ?_
    refine A_lconst (v := 0) rfl (by decide) ?_
    obtain ⟨q40, M41, hcq40, h⟩ := bnd_out h
    refine A_callV (ci := 11) (as := [vI ((-1)), vJ 0]) (st' := []) (r1 := (none, M41)) rfl ml_Mod_226 rfl (by decide) (by decide) (Or.inl rfl) rfl rfl (Nat.le_of_ble_eq_true rfl) (by decide) (c_Mod_push hcq40) (Or.inl rfl) ?_
    refine A_pc (pc' := 272) rfl ?_
    refine A_stk (st' := []) rfl ?_
    refine A_goto (tgt := 323) rfl (by decide) ?_
    refine A_pc (pc' := 323) rfl ?_
    refine A_sub (Ls' := [(0, vA 184), (1, vI l1), (5, vI l5)]) [0, 1, 3] rfl ?_
    exact o_Mod_again_323  _ _ _ _ _ h
def f_Mod_again_197 (l1 : Int32) (l3 : Int32) (l4 : Int32) (l5 : Int32) (l6 : Int32) (l8 : Int32) (s0 : Int32) (M : ax_M) : Option (Int32 × ax_M) :=
  if l6 = 0 then (if s0 = 0 then (gi l5 16 (if (gI M 207 l5.toNatClampNeg) < 0 then (f_Mod_again_261 l1 l4 l5 l6 l8 s0 M) else (if (gI M 206 l5.toNatClampNeg) ≤ (gI M 207 l5.toNatClampNeg) then (f_Mod_again_261 l1 l4 l5 l6 l8 s0 M) else (gi ((5 * l5) + (gI M 207 l5.toNatClampNeg)) 80 (kM (mI M 184 39 (gI M 205 ((5 * l5) + (gI M 207 l5.toNatClampNeg)).toNatClampNeg)) (fun M47 => some (l3 + 1, M47))))))) else (f_Mod_again_261 l1 l4 l5 l6 l8 s0 M)) else (f_Mod_again_261 l1 l4 l5 l6 l8 s0 M)
set_option maxHeartbeats 4000000 in
set_option maxRecDepth 100000 in
theorem o_Mod_again_197 {l : Launch} {g : ax_G} (l1 : Int32) (l3 : Int32) (l4 : Int32) (l5 : Int32) (l6 : Int32) (l8 : Int32) (s0 : Int32) (M : ax_M) (r : Int32) (M' : ax_M) (h : f_Mod_again_197  l1 l3 l4 l5 l6 l8 s0 M = some (r, M')) : AW l g true Y_Mod_again 3 (some (vI r), M') 197 [(0, vA 184), (1, vI l1), (3, vI l3), (4, vI l4), (5, vI l5), (6, vI l6), (8, vI l8)] [vI s0] M := by
  unfold f_Mod_again_197 at h
  refine A_istore (Ls' := [(9, vI s0), (0, vA 184), (1, vI l1), (3, vI l3), (4, vI l4), (5, vI l5), (6, vI l6), (8, vI l8)]) rfl (by decide) rfl ?_
  refine A_iload 6 rfl rfl ?_
  refine A_if_ne (tgt := 261) rfl (by decide) (fun hc18 => ?_) (fun hc18 => ?_)
  · rw [if_neg hc18] at h
    refine A_pc (pc' := 261) rfl ?_
    refine A_sub (Ls' := [(0, vA 184), (1, vI l1), (4, vI l4), (5, vI l5), (6, vI l6), (8, vI l8), (9, vI s0)]) [1, 2, 4, 5, 6, 7, 0] rfl ?_
    exact o_Mod_again_261  _ _ _ _ _ _ _ _ _ h
  · rw [if_pos hc18] at h
    refine A_pc (pc' := 204) rfl ?_
    refine A_iload 0 rfl rfl ?_
    refine A_if_ne (tgt := 261) rfl (by decide) (fun hc42 => ?_) (fun hc42 => ?_)
    · rw [if_neg hc42] at h
      refine A_pc (pc' := 261) rfl ?_
      refine A_sub (Ls' := [(0, vA 184), (1, vI l1), (4, vI l4), (5, vI l5), (6, vI l6), (8, vI l8), (9, vI s0)]) [1, 2, 4, 5, 6, 7, 0] rfl ?_
      exact o_Mod_again_261  _ _ _ _ _ _ _ _ _ h
    · rw [if_pos hc42] at h
      refine A_pc (pc' := 209) rfl ?_
      refine A_aload_n 1 rfl rfl rfl ?_
      refine A_getL (r := 207) rfl fl_Mod_81 rfl (by decide) rfl rfl ?_
      refine A_iload 5 rfl rfl ?_
      obtain ⟨hg43, h⟩ := gi_out h
      refine A_iald (n := 16) rfl (by decide) (by decide) (Or.inl rfl) hg43 ?_
      refine A_if_lt (tgt := 261) rfl (by decide) (fun hc44 => ?_) (fun hc44 => ?_)
      · rw [if_pos hc44] at h
        refine A_pc (pc' := 261) rfl ?_
        refine A_sub (Ls' := [(0, vA 184), (1, vI l1), (4, vI l4), (5, vI l5), (6, vI l6), (8, vI l8), (9, vI s0)]) [1, 2, 4, 5, 6, 7, 0] rfl ?_
        exact o_Mod_again_261  _ _ _ _ _ _ _ _ _ h
      · rw [if_neg hc44] at h
        refine A_pc (pc' := 219) rfl ?_
        refine A_aload_n 1 rfl rfl rfl ?_
        refine A_getL (r := 207) rfl fl_Mod_81 rfl (by decide) rfl rfl ?_
        refine A_iload 5 rfl rfl ?_
        refine A_iald (n := 16) rfl (by decide) (by decide) (Or.inl rfl) hg43 ?_
        refine A_aload_n 1 rfl rfl rfl ?_
        refine A_pc (pc' := 227) rfl ?_
        refine A_getL (r := 206) rfl fl_Mod_78 rfl (by decide) rfl rfl ?_
        refine A_iload 5 rfl rfl ?_
        refine A_iald (n := 16) rfl (by decide) (by decide) (Or.inl rfl) hg43 ?_
        refine A_icmp_ge (tgt := 261) rfl (by decide) (fun hc45 => ?_) (fun hc45 => ?_)
        · rw [if_pos hc45] at h
          refine A_pc (pc' := 261) rfl ?_
          refine A_sub (Ls' := [(0, vA 184), (1, vI l1), (4, vI l4), (5, vI l5), (6, vI l6), (8, vI l8), (9, vI s0)]) [1, 2, 4, 5, 6, 7, 0] rfl ?_
          exact o_Mod_again_261  _ _ _ _ _ _ _ _ _ h
        · rw [if_neg hc45] at h
          refine A_pc (pc' := 236) rfl ?_
          refine A_aload_n 1 rfl rfl rfl ?_
          refine A_aload_n 1 rfl rfl rfl ?_
          refine A_getL (r := 205) rfl fl_Mod_75 rfl (by decide) rfl rfl ?_
          refine A_iconst (v := 5) rfl (by decide) ?_
          refine A_iload 5 rfl rfl ?_
          refine A_pc (pc' := 244) rfl ?_
          refine A_imul rfl ?_
          refine A_aload_n 1 rfl rfl rfl ?_
          refine A_getL (r := 207) rfl fl_Mod_81 rfl (by decide) rfl rfl ?_
          refine A_iload 5 rfl rfl ?_
          refine A_iald (n := 16) rfl (by decide) (by decide) (Or.inl rfl) hg43 ?_
          refine A_iadd rfl ?_
          refine A_pc (pc' := 253) rfl ?_
          obtain ⟨hg46, h⟩ := gi_out h
          refine A_iald (n := 80) rfl (by decide) (by decide) (Or.inl rfl) hg46 ?_
          refine A_putI rfl (Or.inl fl_Mod_246) rfl (by decide) (Or.inl rfl) rfl ?_
          obtain ⟨M47, hM47, h⟩ := kM_out h
          refine A_mem hM47 ?_
          refine A_iload_n 3 rfl rfl rfl ?_
          refine A_iconst (v := 1) rfl (by decide) ?_
          refine A_iadd rfl ?_
          obtain ⟨rfl, rfl⟩ := leaf h
          exact A_iret rfl rfl
def f_Mod_again_145 (l1 : Int32) (l3 : Int32) (l4 : Int32) (l5 : Int32) (l6 : Int32) (l7 : Int32) (l8 : Int32) (M : ax_M) : Option (Int32 × ax_M) :=
  if l4 = 18 then (gi l5 16 (kM (mI M 207 l5.toNatClampNeg ((gI M 207 l5.toNatClampNeg) - 1)) (fun M50 => if l7 = 0 then (f_Mod_again_197 l1 l3 l4 l5 l6 l8 0 M50) else (if l4 = 16 then (f_Mod_again_197 l1 l3 l4 l5 l6 l8 0 M50) else (f_Mod_again_197 l1 l3 l4 l5 l6 l8 1 M50))))) else (gi l5 16 (kM (mI M 207 l5.toNatClampNeg ((gI M 207 l5.toNatClampNeg) + 1)) (fun M16 => if l7 = 0 then (f_Mod_again_197 l1 l3 l4 l5 l6 l8 0 M16) else (if l4 = 16 then (f_Mod_again_197 l1 l3 l4 l5 l6 l8 0 M16) else (f_Mod_again_197 l1 l3 l4 l5 l6 l8 1 M16)))))
set_option maxHeartbeats 4000000 in
set_option maxRecDepth 100000 in
theorem o_Mod_again_145 {l : Launch} {g : ax_G} (l1 : Int32) (l3 : Int32) (l4 : Int32) (l5 : Int32) (l6 : Int32) (l7 : Int32) (l8 : Int32) (M : ax_M) (r : Int32) (M' : ax_M) (h : f_Mod_again_145  l1 l3 l4 l5 l6 l7 l8 M = some (r, M')) : AW l g true Y_Mod_again 3 (some (vI r), M') 145 [(0, vA 184), (1, vI l1), (3, vI l3), (4, vI l4), (5, vI l5), (6, vI l6), (7, vI l7), (8, vI l8)] [] M := by
  unfold f_Mod_again_145 at h
  refine A_aload_n 0 rfl rfl rfl ?_
  refine A_getL (r := 207) rfl fl_Mod_81 rfl (by decide) rfl rfl ?_
  refine A_iload 4 rfl rfl ?_
  refine A_iload 3 rfl rfl ?_
  refine A_bipush (v := 18) rfl (by decide) ?_
  refine A_pc (pc' := 155) rfl ?_
  refine A_icmp_ne (tgt := 170) rfl (by decide) (fun hc14 => ?_) (fun hc14 => ?_)
  · rw [if_neg hc14] at h
    refine A_aload_n 0 rfl rfl rfl ?_
    refine A_getL (r := 207) rfl fl_Mod_81 rfl (by decide) rfl rfl ?_
    refine A_iload 4 rfl rfl ?_
    obtain ⟨hg15, h⟩ := gi_out h
    refine A_iald (n := 16) rfl (by decide) (by decide) (Or.inl rfl) hg15 ?_
    refine A_iconst (v := 1) rfl (by decide) ?_
    refine A_pc (pc' := 178) rfl ?_
    refine A_iadd rfl ?_
    refine A_iast (n := 16) rfl (by decide) (by decide) (Or.inl rfl) hg15 ?_
    obtain ⟨M16, hM16, h⟩ := kM_out h
    refine A_mem hM16 ?_
    refine A_iload 6 rfl rfl ?_
    refine A_if_eq (tgt := 196) rfl (by decide) (fun hc17 => ?_) (fun hc17 => ?_)
    · rw [if_pos hc17] at h
      refine A_iconst (v := 0) rfl (by decide) ?_
      refine A_pc (pc' := 197) rfl ?_
      refine A_sub (Ls' := [(0, vA 184), (1, vI l1), (3, vI l3), (4, vI l4), (5, vI l5), (6, vI l6), (8, vI l8)]) [0, 1, 2, 3, 4, 5, 7] rfl ?_
      exact o_Mod_again_197  _ _ _ _ _ _ _ _ _ _ h
    · rw [if_neg hc17] at h
      refine A_pc (pc' := 185) rfl ?_
      refine A_iload 3 rfl rfl ?_
      refine A_bipush (v := 16) rfl (by decide) ?_
      refine A_icmp_eq (tgt := 196) rfl (by decide) (fun hc48 => ?_) (fun hc48 => ?_)
      · rw [if_pos hc48] at h
        refine A_iconst (v := 0) rfl (by decide) ?_
        refine A_pc (pc' := 197) rfl ?_
        refine A_sub (Ls' := [(0, vA 184), (1, vI l1), (3, vI l3), (4, vI l4), (5, vI l5), (6, vI l6), (8, vI l8)]) [0, 1, 2, 3, 4, 5, 7] rfl ?_
        exact o_Mod_again_197  _ _ _ _ _ _ _ _ _ _ h
      · rw [if_neg hc48] at h
        refine A_pc (pc' := 192) rfl ?_
        refine A_iconst (v := 1) rfl (by decide) ?_
        refine A_goto (tgt := 197) rfl (by decide) ?_
        refine A_pc (pc' := 197) rfl ?_
        refine A_sub (Ls' := [(0, vA 184), (1, vI l1), (3, vI l3), (4, vI l4), (5, vI l5), (6, vI l6), (8, vI l8)]) [0, 1, 2, 3, 4, 5, 7] rfl ?_
        exact o_Mod_again_197  _ _ _ _ _ _ _ _ _ _ h
  · rw [if_pos hc14] at h
    refine A_pc (pc' := 158) rfl ?_
    refine A_aload_n 0 rfl rfl rfl ?_
    refine A_getL (r := 207) rfl fl_Mod_81 rfl (by decide) rfl rfl ?_
    refine A_iload 4 rfl rfl ?_
    obtain ⟨hg49, h⟩ := gi_out h
    refine A_iald (n := 16) rfl (by decide) (by decide) (Or.inl rfl) hg49 ?_
    refine A_iconst (v := 1) rfl (by decide) ?_
    refine A_pc (pc' := 166) rfl ?_
    refine A_isub rfl ?_
    refine A_goto (tgt := 179) rfl (by decide) ?_
    refine A_iast (n := 16) rfl (by decide) (by decide) (Or.inl rfl) hg49 ?_
    obtain ⟨M50, hM50, h⟩ := kM_out h
    refine A_mem hM50 ?_
    refine A_iload 6 rfl rfl ?_
    refine A_if_eq (tgt := 196) rfl (by decide) (fun hc51 => ?_) (fun hc51 => ?_)
    · rw [if_pos hc51] at h
      refine A_iconst (v := 0) rfl (by decide) ?_
      refine A_pc (pc' := 197) rfl ?_
      refine A_sub (Ls' := [(0, vA 184), (1, vI l1), (3, vI l3), (4, vI l4), (5, vI l5), (6, vI l6), (8, vI l8)]) [0, 1, 2, 3, 4, 5, 7] rfl ?_
      exact o_Mod_again_197  _ _ _ _ _ _ _ _ _ _ h
    · rw [if_neg hc51] at h
      refine A_pc (pc' := 185) rfl ?_
      refine A_iload 3 rfl rfl ?_
      refine A_bipush (v := 16) rfl (by decide) ?_
      refine A_icmp_eq (tgt := 196) rfl (by decide) (fun hc52 => ?_) (fun hc52 => ?_)
      · rw [if_pos hc52] at h
        refine A_iconst (v := 0) rfl (by decide) ?_
        refine A_pc (pc' := 197) rfl ?_
        refine A_sub (Ls' := [(0, vA 184), (1, vI l1), (3, vI l3), (4, vI l4), (5, vI l5), (6, vI l6), (8, vI l8)]) [0, 1, 2, 3, 4, 5, 7] rfl ?_
        exact o_Mod_again_197  _ _ _ _ _ _ _ _ _ _ h
      · rw [if_neg hc52] at h
        refine A_pc (pc' := 192) rfl ?_
        refine A_iconst (v := 1) rfl (by decide) ?_
        refine A_goto (tgt := 197) rfl (by decide) ?_
        refine A_pc (pc' := 197) rfl ?_
        refine A_sub (Ls' := [(0, vA 184), (1, vI l1), (3, vI l3), (4, vI l4), (5, vI l5), (6, vI l6), (8, vI l8)]) [0, 1, 2, 3, 4, 5, 7] rfl ?_
        exact o_Mod_again_197  _ _ _ _ _ _ _ _ _ _ h
def f_Mod_again_82 (l1 : Int32) (l3 : Int32) (l4 : Int32) (l5 : Int32) (l6 : Int32) (s0 : Int32) (M : ax_M) : Option (Int32 × ax_M) :=
  gi l5 16 (gi ((5 * l5) + (gI M 207 l5.toNatClampNeg)) 80 (kM (gI M 205 ((5 * l5) + (gI M 207 l5.toNatClampNeg)).toNatClampNeg) (fun x12 => if s0 = 0 then (f_Mod_again_145 l1 l3 l4 l5 l6 s0 x12 M) else (if l4 = 16 then (gi ((5 * l5) + (gI M 209 l5.toNatClampNeg)) 80 (kM (mI M 208 ((5 * l5) + (gI M 209 l5.toNatClampNeg)).toNatClampNeg x12) (fun M55 => kM (mI M55 209 l5.toNatClampNeg ((gI M55 209 l5.toNatClampNeg) + 1)) (fun M56 => f_Mod_again_145 l1 l3 l4 l5 l6 s0 x12 M56)))) else (f_Mod_again_145 l1 l3 l4 l5 l6 s0 x12 M)))))
set_option maxHeartbeats 4000000 in
set_option maxRecDepth 100000 in
theorem o_Mod_again_82 {l : Launch} {g : ax_G} (l1 : Int32) (l3 : Int32) (l4 : Int32) (l5 : Int32) (l6 : Int32) (s0 : Int32) (M : ax_M) (r : Int32) (M' : ax_M) (h : f_Mod_again_82  l1 l3 l4 l5 l6 s0 M = some (r, M')) : AW l g true Y_Mod_again 3 (some (vI r), M') 82 [(0, vA 184), (1, vI l1), (3, vI l3), (4, vI l4), (5, vI l5), (6, vI l6)] [vI s0] M := by
  unfold f_Mod_again_82 at h
  refine A_istore (Ls' := [(7, vI s0), (0, vA 184), (1, vI l1), (3, vI l3), (4, vI l4), (5, vI l5), (6, vI l6)]) rfl (by decide) rfl ?_
  refine A_aload_n 1 rfl rfl rfl ?_
  refine A_getL (r := 205) rfl fl_Mod_75 rfl (by decide) rfl rfl ?_
  refine A_iconst (v := 5) rfl (by decide) ?_
  refine A_iload 5 rfl rfl ?_
  refine A_pc (pc' := 91) rfl ?_
  refine A_imul rfl ?_
  refine A_aload_n 1 rfl rfl rfl ?_
  refine A_getL (r := 207) rfl fl_Mod_81 rfl (by decide) rfl rfl ?_
  refine A_iload 5 rfl rfl ?_
  obtain ⟨hg10, h⟩ := gi_out h
  refine A_iald (n := 16) rfl (by decide) (by decide) (Or.inl rfl) hg10 ?_
  refine A_iadd rfl ?_
  refine A_pc (pc' := 100) rfl ?_
  obtain ⟨hg11, h⟩ := gi_out h
  refine A_iald (n := 80) rfl (by decide) (by decide) (Or.inl rfl) hg11 ?_
  obtain ⟨x12, hx12, h⟩ := kM_out h
  refine A_nI hx12 ?_
  refine A_istore (Ls' := [(8, vI x12), (7, vI s0), (0, vA 184), (1, vI l1), (3, vI l3), (4, vI l4), (5, vI l5), (6, vI l6)]) rfl (by decide) rfl ?_
  refine A_iload 1 rfl rfl ?_
  refine A_if_eq (tgt := 145) rfl (by decide) (fun hc13 => ?_) (fun hc13 => ?_)
  · rw [if_pos hc13] at h
    refine A_pc (pc' := 145) rfl ?_
    refine A_sub (Ls' := [(0, vA 184), (1, vI l1), (3, vI l3), (4, vI l4), (5, vI l5), (6, vI l6), (7, vI s0), (8, vI x12)]) [2, 3, 4, 5, 6, 7, 1, 0] rfl ?_
    exact o_Mod_again_145  _ _ _ _ _ _ _ _ _ _ h
  · rw [if_neg hc13] at h
    refine A_pc (pc' := 108) rfl ?_
    refine A_iload 5 rfl rfl ?_
    refine A_bipush (v := 16) rfl (by decide) ?_
    refine A_icmp_ne (tgt := 145) rfl (by decide) (fun hc53 => ?_) (fun hc53 => ?_)
    · rw [if_neg hc53] at h
      refine A_pc (pc' := 145) rfl ?_
      refine A_sub (Ls' := [(0, vA 184), (1, vI l1), (3, vI l3), (4, vI l4), (5, vI l5), (6, vI l6), (7, vI s0), (8, vI x12)]) [2, 3, 4, 5, 6, 7, 1, 0] rfl ?_
      exact o_Mod_again_145  _ _ _ _ _ _ _ _ _ _ h
    · rw [if_pos hc53] at h
      refine A_pc (pc' := 115) rfl ?_
      refine A_aload_n 2 rfl rfl rfl ?_
      refine A_getL (r := 208) rfl fl_Mod_84 rfl (by decide) rfl rfl ?_
      refine A_iconst (v := 5) rfl (by decide) ?_
      refine A_iload 6 rfl rfl ?_
      refine A_imul rfl ?_
      refine A_pc (pc' := 123) rfl ?_
      refine A_aload_n 2 rfl rfl rfl ?_
      refine A_getL (r := 209) rfl fl_Mod_87 rfl (by decide) rfl rfl ?_
      refine A_iload 6 rfl rfl ?_
      refine A_iald (n := 16) rfl (by decide) (by decide) (Or.inl rfl) hg10 ?_
      refine A_iadd rfl ?_
      refine A_iload 0 rfl rfl ?_
      refine A_pc (pc' := 133) rfl ?_
      obtain ⟨hg54, h⟩ := gi_out h
      refine A_iast (n := 80) rfl (by decide) (by decide) (Or.inl rfl) hg54 ?_
      obtain ⟨M55, hM55, h⟩ := kM_out h
      refine A_mem hM55 ?_
      refine A_aload_n 2 rfl rfl rfl ?_
      refine A_getL (r := 209) rfl fl_Mod_87 rfl (by decide) rfl rfl ?_
      refine A_iload 6 rfl rfl ?_
      refine A_dup2 rfl rfl rfl ?_
      refine A_iald (n := 16) rfl (by decide) (by decide) (Or.inl rfl) hg10 ?_
      refine A_pc (pc' := 142) rfl ?_
      refine A_iconst (v := 1) rfl (by decide) ?_
      refine A_iadd rfl ?_
      refine A_iast (n := 16) rfl (by decide) (by decide) (Or.inl rfl) hg10 ?_
      obtain ⟨M56, hM56, h⟩ := kM_out h
      refine A_mem hM56 ?_
      refine A_pc (pc' := 145) rfl ?_
      refine A_sub (Ls' := [(0, vA 184), (1, vI l1), (3, vI l3), (4, vI l4), (5, vI l5), (6, vI l6), (7, vI s0), (8, vI x12)]) [2, 3, 4, 5, 6, 7, 1, 0] rfl ?_
      exact o_Mod_again_145  _ _ _ _ _ _ _ _ _ _ h
def f_Mod_again_56 (l1 : Int32) (l3 : Int32) (l4 : Int32) (l5 : Int32) (s0 : Int32) (M : ax_M) : Option (Int32 × ax_M) :=
  if s0 = 0 then (gi (gI M 184 29) 48 (if (lg_cmp (gJ M 203 (gI M 184 29).toNatClampNeg) 1) = 0 then (f_Mod_again_82 l1 l3 l4 l5 s0 1 M) else (f_Mod_again_82 l1 l3 l4 l5 s0 0 M))) else (f_Mod_again_82 l1 l3 l4 l5 s0 0 M)
set_option maxHeartbeats 4000000 in
set_option maxRecDepth 100000 in
theorem o_Mod_again_56 {l : Launch} {g : ax_G} (l1 : Int32) (l3 : Int32) (l4 : Int32) (l5 : Int32) (s0 : Int32) (M : ax_M) (r : Int32) (M' : ax_M) (h : f_Mod_again_56  l1 l3 l4 l5 s0 M = some (r, M')) : AW l g true Y_Mod_again 3 (some (vI r), M') 56 [(0, vA 184), (1, vI l1), (3, vI l3), (4, vI l4), (5, vI l5)] [vI s0] M := by
  unfold f_Mod_again_56 at h
  refine A_istore (Ls' := [(6, vI s0), (0, vA 184), (1, vI l1), (3, vI l3), (4, vI l4), (5, vI l5)]) rfl (by decide) rfl ?_
  refine A_iload 0 rfl rfl ?_
  refine A_if_ne (tgt := 81) rfl (by decide) (fun hc9 => ?_) (fun hc9 => ?_)
  · rw [if_neg hc9] at h
    refine A_iconst (v := 0) rfl (by decide) ?_
    refine A_pc (pc' := 82) rfl ?_
    refine A_sub (Ls' := [(0, vA 184), (1, vI l1), (3, vI l3), (4, vI l4), (5, vI l5), (6, vI s0)]) [1, 2, 3, 4, 5, 0] rfl ?_
    exact o_Mod_again_82  _ _ _ _ _ _ _ _ _ h
  · rw [if_pos hc9] at h
    refine A_pc (pc' := 63) rfl ?_
    refine A_aload_n 1 rfl rfl rfl ?_
    refine A_getL (r := 203) rfl fl_Mod_69 rfl (by decide) rfl rfl ?_
    refine A_aload_n 1 rfl rfl rfl ?_
    refine A_getI rfl fl_Mod_223 rfl (by decide) (Or.inl rfl) ?_
    obtain ⟨hg57, h⟩ := gi_out h
    refine A_lald (n := 48) rfl (by decide) (by decide) (Or.inl rfl) hg57 ?_
    refine A_pc (pc' := 72) rfl ?_
    refine A_lconst (v := 1) rfl (by decide) ?_
    refine A_lcmp rfl ?_
    refine A_if_ne (tgt := 81) rfl (by decide) (fun hc58 => ?_) (fun hc58 => ?_)
    · rw [if_neg hc58] at h
      refine A_iconst (v := 0) rfl (by decide) ?_
      refine A_pc (pc' := 82) rfl ?_
      refine A_sub (Ls' := [(0, vA 184), (1, vI l1), (3, vI l3), (4, vI l4), (5, vI l5), (6, vI s0)]) [1, 2, 3, 4, 5, 0] rfl ?_
      exact o_Mod_again_82  _ _ _ _ _ _ _ _ _ h
    · rw [if_pos hc58] at h
      refine A_pc (pc' := 77) rfl ?_
      refine A_iconst (v := 1) rfl (by decide) ?_
      refine A_goto (tgt := 82) rfl (by decide) ?_
      refine A_pc (pc' := 82) rfl ?_
      refine A_sub (Ls' := [(0, vA 184), (1, vI l1), (3, vI l3), (4, vI l4), (5, vI l5), (6, vI s0)]) [1, 2, 3, 4, 5, 0] rfl ?_
      exact o_Mod_again_82  _ _ _ _ _ _ _ _ _ h
def f_Mod_again (a1 : Int32) (a2 : Int32) (M : ax_M) : Option (Int32 × ax_M) :=
  gi (a2 + a1) 432 (kM (Int64.toInt32 (gJ M 187 (a2 + a1).toNatClampNeg)) (fun x2 => gi (a2 + x2) 432 (kM (gI M 186 (a2 + x2).toNatClampNeg) (fun x4 => kM ((gI M 184 37) - 1) (fun x5 => kM (mI M 184 29 ((gI M 184 29) - 1)) (fun M6 => gi (gI M6 184 29) 48 (if (gI M6 202 (gI M6 184 29).toNatClampNeg) = 1 then (f_Mod_again_56 a1 x2 x4 x5 0 M6) else (f_Mod_again_56 a1 x2 x4 x5 1 M6))))))))
set_option maxHeartbeats 4000000 in
set_option maxRecDepth 100000 in
theorem c_Mod_again {l : Launch} {g : ax_G} {a1 : Int32} {a2 : Int32} {M : ax_M} {r : Int32} {M' : ax_M} (h : f_Mod_again a1 a2 M = some (r, M')) : Ctr l g true Y_Mod_again 3 [vA 184, vI a1, vI a2] M (some (vI r), M') := by
  refine Ctr.ofAW yok_Mod_again (Nat.le_of_ble_eq_true rfl) (Or.inl rfl) ?_
  show AW l g true Y_Mod_again 3 (some (vI r), M') 0 [(0, vA 184), (1, vI a1), (2, vI a2)] [] M
  unfold f_Mod_again at h
  refine A_aload_n 0 rfl rfl rfl ?_
  refine A_getL (r := 187) rfl fl_Mod_16 rfl (by decide) rfl rfl ?_
  refine A_iload_n 2 rfl rfl rfl ?_
  refine A_iload_n 1 rfl rfl rfl ?_
  refine A_iadd rfl ?_
  refine A_pc (pc' := 7) rfl ?_
  obtain ⟨hg1, h⟩ := gi_out h
  refine A_lald (n := 432) rfl (by decide) (by decide) (Or.inl rfl) hg1 ?_
  refine A_l2i rfl ?_
  obtain ⟨x2, hx2, h⟩ := kM_out h
  refine A_nI hx2 ?_
  refine A_istore_n (Ls' := [(3, vI x2), (0, vA 184), (1, vI a1), (2, vI a2)]) rfl rfl (by decide) rfl ?_
  refine A_aload_n 1 rfl rfl rfl ?_
  refine A_getL (r := 186) rfl fl_Mod_13 rfl (by decide) rfl rfl ?_
  refine A_iload_n 3 rfl rfl rfl ?_
  refine A_pc (pc' := 15) rfl ?_
  refine A_iload_n 0 rfl rfl rfl ?_
  refine A_iadd rfl ?_
  obtain ⟨hg3, h⟩ := gi_out h
  refine A_iald (n := 432) rfl (by decide) (by decide) (Or.inl rfl) hg3 ?_
  obtain ⟨x4, hx4, h⟩ := kM_out h
  refine A_nI hx4 ?_
  refine A_istore (Ls' := [(4, vI x4), (3, vI x2), (0, vA 184), (1, vI a1), (2, vI a2)]) rfl (by decide) rfl ?_
  refine A_aload_n 2 rfl rfl rfl ?_
  refine A_getI rfl fl_Mod_229 rfl (by decide) (Or.inl rfl) ?_
  refine A_pc (pc' := 24) rfl ?_
  refine A_iconst (v := 1) rfl (by decide) ?_
  refine A_isub rfl ?_
  obtain ⟨x5, hx5, h⟩ := kM_out h
  refine A_nI hx5 ?_
  refine A_istore (Ls' := [(5, vI x5), (4, vI x4), (3, vI x2), (0, vA 184), (1, vI a1), (2, vI a2)]) rfl (by decide) rfl ?_
  refine A_aload_n 3 rfl rfl rfl ?_
  refine A_dup rfl rfl ?_
  refine A_getI rfl fl_Mod_223 rfl (by decide) (Or.inl rfl) ?_
  refine A_pc (pc' := 33) rfl ?_
  refine A_iconst (v := 1) rfl (by decide) ?_
  refine A_isub rfl ?_
  refine A_putI rfl (Or.inl fl_Mod_223) rfl (by decide) (Or.inl rfl) rfl ?_
  obtain ⟨M6, hM6, h⟩ := kM_out h
  refine A_mem hM6 ?_
  refine A_aload_n 3 rfl rfl rfl ?_
  refine A_getL (r := 202) rfl fl_Mod_66 rfl (by decide) rfl rfl ?_
  refine A_aload_n 3 rfl rfl rfl ?_
  refine A_pc (pc' := 43) rfl ?_
  refine A_getI rfl fl_Mod_223 rfl (by decide) (Or.inl rfl) ?_
  obtain ⟨hg7, h⟩ := gi_out h
  refine A_iald (n := 48) rfl (by decide) (by decide) (Or.inl rfl) hg7 ?_
  refine A_iconst (v := 1) rfl (by decide) ?_
  refine A_icmp_eq (tgt := 55) rfl (by decide) (fun hc8 => ?_) (fun hc8 => ?_)
  · rw [if_pos hc8] at h
    refine A_iconst (v := 0) rfl (by decide) ?_
    refine A_pc (pc' := 56) rfl ?_
    refine A_sub (Ls' := [(0, vA 184), (1, vI a1), (3, vI x2), (4, vI x4), (5, vI x5)]) [3, 4, 2, 1, 0] rfl ?_
    exact o_Mod_again_56  _ _ _ _ _ _ _ _ h
  · rw [if_neg hc8] at h
    refine A_pc (pc' := 51) rfl ?_
    refine A_iconst (v := 1) rfl (by decide) ?_
    refine A_goto (tgt := 56) rfl (by decide) ?_
    refine A_pc (pc' := 56) rfl ?_
    refine A_sub (Ls' := [(0, vA 184), (1, vI a1), (3, vI x2), (4, vI x4), (5, vI x5)]) [3, 4, 2, 1, 0] rfl ?_
    exact o_Mod_again_56  _ _ _ _ _ _ _ _ h
def tb_Mod_work : List (Nat × Instr × Nat) := [(0, .bipush 48, 2), (2, .iload_n 1, 1), (3, .imul, 1), (4, .istore_n 2, 1), (5, .aload_n 0, 1), (6, .iconst 0, 1), (7, .putfield 223, 3), (10, .aload_n 0, 1), (11, .iconst 0, 1), (12, .putfield 229, 3), (15, .iconst 0, 1), (16, .istore_n 3, 1), (17, .iload_n 3, 1), (18, .aload_n 0, 1), (19, .getfield 20, 3), (22, .iload_n 1, 1), (23, .iaload, 1), (24, .if_icmp .ge 164, 3), (27, .aload_n 0, 1), (28, .getfield 13, 3), (31, .iload_n 2, 1), (32, .iload_n 3, 1), (33, .iadd, 1), (34, .iaload, 1), (35, .istore 4, 2), (37, .iload 4, 2), (39, .bipush 16, 2), (41, .if_icmp .lt 20, 3), (44, .iload 4, 2), (46, .bipush 18, 2), (48, .if_icmp .gt 13, 3), (51, .aload_n 0, 1), (52, .iload_n 3, 1), (53, .iload_n 2, 1), (54, .invokevirtual 278, 3), (57, .istore_n 3, 1), (58, .goto 127, 3), (61, .iload 4, 2), (63, .bipush 19, 2), (65, .if_icmp .ne 13, 3), (68, .aload_n 0, 1), (69, .iload_n 3, 1), (70, .iload_n 2, 1), (71, .invokevirtual 282, 3), (74, .istore_n 3, 1), (75, .goto 110, 3), (78, .iload 4, 2), (80, .bipush 11, 2), (82, .if_icmp .gt 20, 3), (85, .aload_n 0, 1), (86, .iload 4, 2), (88, .aload_n 0, 1), (89, .getfield 16, 3), (92, .iload_n 2, 1), (93, .iload_n 3, 1), (94, .iadd, 1), (95, .laload, 1), (96, .invokevirtual 285, 3), (99, .goto 83, 3), (102, .iload 4, 2), (104, .bipush 12, 2), (106, .if_icmp .eq 31, 3), (109, .iload 4, 2), (111, .bipush 13, 2), (113, .if_icmp .eq 24, 3), (116, .iload 4, 2), (118, .bipush 14, 2), (120, .if_icmp .eq 17, 3), (123, .iload 4, 2), (125, .bipush 20, 2), (127, .if_icmp .eq 10, 3), (130, .iload 4, 2), (132, .bipush 21, 2), (134, .if_icmp .ne 12, 3), (137, .aload_n 0, 1), (138, .iload 4, 2), (140, .invokevirtual 288, 3), (143, .goto 39, 3), (146, .iload 4, 2), (148, .bipush 22, 2), (150, .if_icmp .eq 17, 3), (153, .iload 4, 2), (155, .bipush 23, 2), (157, .if_icmp .eq 10, 3), (160, .iload 4, 2), (162, .bipush 35, 2), (164, .if_icmp .lt 12, 3), (167, .aload_n 0, 1), (168, .iload 4, 2), (170, .invokevirtual 291, 3), (173, .goto 9, 3), (176, .aload_n 0, 1), (177, .iload 4, 2), (179, .invokevirtual 294, 3), (182, .iinc 3 1, 3), (185, .goto (-168), 3), (188, .return_, 1)]
def Y_Mod_work : ax_Y := (⟨"MethodWardenModel", "work", "(I)V"⟩, prog_14_method_43_code, 5, none, tb_Mod_work)
theorem yok_Mod_work : yOK Y_Mod_work := ⟨by decide +kernel, by decide +kernel, inWG 1416 (by decide +kernel) (by decide +kernel), inWG 107 (by decide +kernel) (by decide +kernel), by decide +kernel⟩
theorem ml_Mod_288 : mlV "MethodWardenModel" 288 Y_Mod_single 1 := ⟨⟨yok_Mod_single, by decide +kernel, by decide⟩, Or.inl (inWG 1441 (by decide +kernel) (by decide +kernel)), inWG 1443 (by decide +kernel) (by decide +kernel), inWG 82 (by decide +kernel) (by decide +kernel)⟩
theorem ml_Mod_291 : mlV "MethodWardenModel" 291 Y_Mod_choose 1 := ⟨⟨yok_Mod_choose, by decide +kernel, by decide⟩, Or.inl (inWG 1450 (by decide +kernel) (by decide +kernel)), inWG 1452 (by decide +kernel) (by decide +kernel), inWG 84 (by decide +kernel) (by decide +kernel)⟩
theorem ml_Mod_294 : mlV "MethodWardenModel" 294 Y_Mod_pair 1 := ⟨⟨yok_Mod_pair, by decide +kernel, by decide⟩, Or.inl (inWG 1458 (by decide +kernel) (by decide +kernel)), inWG 1460 (by decide +kernel) (by decide +kernel), inWG 86 (by decide +kernel) (by decide +kernel)⟩
theorem ml_Mod_285 : mlV "MethodWardenModel" 285 Y_Mod_leaf 2 := ⟨⟨yok_Mod_leaf, by decide +kernel, by decide⟩, Or.inl (inWG 1433 (by decide +kernel) (by decide +kernel)), inWG 1435 (by decide +kernel) (by decide +kernel), inWG 80 (by decide +kernel) (by decide +kernel)⟩
theorem ml_Mod_282 : mlV "MethodWardenModel" 282 Y_Mod_again 2 := ⟨⟨yok_Mod_again, by decide +kernel, by decide⟩, Or.inl (inWG 1425 (by decide +kernel) (by decide +kernel)), inWG 1427 (by decide +kernel) (by decide +kernel), inWG 78 (by decide +kernel) (by decide +kernel)⟩
theorem ml_Mod_278 : mlV "MethodWardenModel" 278 Y_Mod_begin 2 := ⟨⟨yok_Mod_begin, by decide +kernel, by decide⟩, Or.inl (inWG 1417 (by decide +kernel) (by decide +kernel)), inWG 1419 (by decide +kernel) (by decide +kernel), inWG 76 (by decide +kernel) (by decide +kernel)⟩
def f_Mod_work_137 (K17 : Int32 → Int32 → Int32 → ax_M → Option (Unit × ax_M)) (l1 : Int32) (l2 : Int32) (l3 : Int32) (l4 : Int32) (M : ax_M) : Option (Unit × ax_M) :=
  bnd (f_Mod_single l4 M) (fun q12 M13 => kM (l3 + 1) (fun x14 => K17 l1 l2 x14 M13))
set_option maxHeartbeats 4000000 in
set_option maxRecDepth 100000 in
theorem o_Mod_work_137 {l : Launch} {g : ax_G} (K17 : Int32 → Int32 → Int32 → ax_M → Option (Unit × ax_M)) (hK17 : ∀ (l1 : Int32) (l2 : Int32) (l3 : Int32) (M : ax_M) (r : Unit) (M' : ax_M), K17 l1 l2 l3 M = some (r, M') → AW l g true Y_Mod_work 4 (none, M') 17 [(0, vA 184), (1, vI l1), (2, vI l2), (3, vI l3)] [] M) (l1 : Int32) (l2 : Int32) (l3 : Int32) (l4 : Int32) (M : ax_M) (r : Unit) (M' : ax_M) (h : f_Mod_work_137 K17 l1 l2 l3 l4 M = some (r, M')) : AW l g true Y_Mod_work 4 (none, M') 137 [(0, vA 184), (1, vI l1), (2, vI l2), (3, vI l3), (4, vI l4)] [] M := by
  unfold f_Mod_work_137 at h
  refine A_aload_n 0 rfl rfl rfl ?_
  refine A_iload 4 rfl rfl ?_
  obtain ⟨q12, M13, hcq12, h⟩ := bnd_out h
  refine A_callV (ci := 11) (as := [vI l4]) (st' := []) (r1 := (none, M13)) rfl ml_Mod_288 rfl (by decide) (by decide) (Or.inl rfl) rfl rfl (Nat.le_of_ble_eq_true rfl) (by decide) (c_Mod_single hcq12) (Or.inl rfl) ?_
  refine A_pc (pc' := 143) rfl ?_
  refine A_stk (st' := []) rfl ?_
  refine A_goto (tgt := 182) rfl (by decide) ?_
  obtain ⟨x14, hx14, h⟩ := kM_out h
  refine A_iinc 3 (v := x14) (Ls' := [(3, vI x14), (0, vA 184), (1, vI l1), (2, vI l2), (4, vI l4)]) rfl rfl ((iiN (k := 1) (by decide) _).trans hx14) (by decide) rfl ?_
  refine A_pc (pc' := 185) rfl ?_
  refine A_goto (tgt := 17) rfl (by decide) ?_
  refine A_pc (pc' := 17) rfl ?_
  refine A_sub (Ls' := [(0, vA 184), (1, vI l1), (2, vI l2), (3, vI x14)]) [1, 2, 3, 0] rfl ?_
  exact hK17 _ _ _ _ _ _ h
def f_Mod_work_61 (K17 : Int32 → Int32 → Int32 → ax_M → Option (Unit × ax_M)) (l1 : Int32) (l2 : Int32) (l3 : Int32) (l4 : Int32) (M : ax_M) : Option (Unit × ax_M) :=
  if l4 = 19 then (bnd (f_Mod_again l3 l2 M) (fun q38 M39 => K17 l1 l2 q38 M39)) else (if 11 < l4 then (if l4 = 12 then (f_Mod_work_137 K17 l1 l2 l3 l4 M) else (if l4 = 13 then (f_Mod_work_137 K17 l1 l2 l3 l4 M) else (if l4 = 14 then (f_Mod_work_137 K17 l1 l2 l3 l4 M) else (if l4 = 20 then (f_Mod_work_137 K17 l1 l2 l3 l4 M) else (if l4 = 21 then (f_Mod_work_137 K17 l1 l2 l3 l4 M) else (if l4 = 22 then (bnd (f_Mod_choose l4 M) (fun q20 M21 => kM (l3 + 1) (fun x22 => K17 l1 l2 x22 M21))) else (if l4 = 23 then (bnd (f_Mod_choose l4 M) (fun q24 M25 => kM (l3 + 1) (fun x26 => K17 l1 l2 x26 M25))) else (if l4 < 35 then (bnd (f_Mod_pair l4 M) (fun q28 M29 => kM (l3 + 1) (fun x30 => K17 l1 l2 x30 M29))) else (bnd (f_Mod_choose l4 M) (fun q31 M32 => kM (l3 + 1) (fun x33 => K17 l1 l2 x33 M32))))))))))) else (gi (l2 + l3) 432 (bnd (f_Mod_leaf l4 (gJ M 187 (l2 + l3).toNatClampNeg) M) (fun q35 M36 => kM (l3 + 1) (fun x37 => K17 l1 l2 x37 M36)))))
set_option maxHeartbeats 4000000 in
set_option maxRecDepth 100000 in
theorem o_Mod_work_61 {l : Launch} {g : ax_G} (K17 : Int32 → Int32 → Int32 → ax_M → Option (Unit × ax_M)) (hK17 : ∀ (l1 : Int32) (l2 : Int32) (l3 : Int32) (M : ax_M) (r : Unit) (M' : ax_M), K17 l1 l2 l3 M = some (r, M') → AW l g true Y_Mod_work 4 (none, M') 17 [(0, vA 184), (1, vI l1), (2, vI l2), (3, vI l3)] [] M) (l1 : Int32) (l2 : Int32) (l3 : Int32) (l4 : Int32) (M : ax_M) (r : Unit) (M' : ax_M) (h : f_Mod_work_61 K17 l1 l2 l3 l4 M = some (r, M')) : AW l g true Y_Mod_work 4 (none, M') 61 [(0, vA 184), (1, vI l1), (2, vI l2), (3, vI l3), (4, vI l4)] [] M := by
  unfold f_Mod_work_61 at h
  refine A_iload 4 rfl rfl ?_
  refine A_bipush (v := 19) rfl (by decide) ?_
  refine A_icmp_ne (tgt := 78) rfl (by decide) (fun hc9 => ?_) (fun hc9 => ?_)
  · rw [if_neg hc9] at h
    refine A_iload 4 rfl rfl ?_
    refine A_bipush (v := 11) rfl (by decide) ?_
    refine A_icmp_gt (tgt := 102) rfl (by decide) (fun hc10 => ?_) (fun hc10 => ?_)
    · rw [if_pos hc10] at h
      refine A_iload 4 rfl rfl ?_
      refine A_bipush (v := 12) rfl (by decide) ?_
      refine A_icmp_eq (tgt := 137) rfl (by decide) (fun hc11 => ?_) (fun hc11 => ?_)
      · rw [if_pos hc11] at h
        refine A_pc (pc' := 137) rfl ?_
        refine A_sub (Ls' := [(0, vA 184), (1, vI l1), (2, vI l2), (3, vI l3), (4, vI l4)]) [0, 1, 2, 3, 4] rfl ?_
        exact o_Mod_work_137 K17 hK17 _ _ _ _ _ _ _ h
      · rw [if_neg hc11] at h
        refine A_pc (pc' := 109) rfl ?_
        refine A_iload 4 rfl rfl ?_
        refine A_bipush (v := 13) rfl (by decide) ?_
        refine A_icmp_eq (tgt := 137) rfl (by decide) (fun hc15 => ?_) (fun hc15 => ?_)
        · rw [if_pos hc15] at h
          refine A_pc (pc' := 137) rfl ?_
          refine A_sub (Ls' := [(0, vA 184), (1, vI l1), (2, vI l2), (3, vI l3), (4, vI l4)]) [0, 1, 2, 3, 4] rfl ?_
          exact o_Mod_work_137 K17 hK17 _ _ _ _ _ _ _ h
        · rw [if_neg hc15] at h
          refine A_pc (pc' := 116) rfl ?_
          refine A_iload 4 rfl rfl ?_
          refine A_bipush (v := 14) rfl (by decide) ?_
          refine A_icmp_eq (tgt := 137) rfl (by decide) (fun hc16 => ?_) (fun hc16 => ?_)
          · rw [if_pos hc16] at h
            refine A_pc (pc' := 137) rfl ?_
            refine A_sub (Ls' := [(0, vA 184), (1, vI l1), (2, vI l2), (3, vI l3), (4, vI l4)]) [0, 1, 2, 3, 4] rfl ?_
            exact o_Mod_work_137 K17 hK17 _ _ _ _ _ _ _ h
          · rw [if_neg hc16] at h
            refine A_pc (pc' := 123) rfl ?_
            refine A_iload 4 rfl rfl ?_
            refine A_bipush (v := 20) rfl (by decide) ?_
            refine A_icmp_eq (tgt := 137) rfl (by decide) (fun hc17 => ?_) (fun hc17 => ?_)
            · rw [if_pos hc17] at h
              refine A_pc (pc' := 137) rfl ?_
              refine A_sub (Ls' := [(0, vA 184), (1, vI l1), (2, vI l2), (3, vI l3), (4, vI l4)]) [0, 1, 2, 3, 4] rfl ?_
              exact o_Mod_work_137 K17 hK17 _ _ _ _ _ _ _ h
            · rw [if_neg hc17] at h
              refine A_pc (pc' := 130) rfl ?_
              refine A_iload 4 rfl rfl ?_
              refine A_bipush (v := 21) rfl (by decide) ?_
              refine A_icmp_ne (tgt := 146) rfl (by decide) (fun hc18 => ?_) (fun hc18 => ?_)
              · rw [if_neg hc18] at h
                refine A_iload 4 rfl rfl ?_
                refine A_bipush (v := 22) rfl (by decide) ?_
                refine A_icmp_eq (tgt := 167) rfl (by decide) (fun hc19 => ?_) (fun hc19 => ?_)
                · rw [if_pos hc19] at h
                  refine A_aload_n 0 rfl rfl rfl ?_
                  refine A_iload 4 rfl rfl ?_
                  obtain ⟨q20, M21, hcq20, h⟩ := bnd_out h
                  refine A_callV (ci := 11) (as := [vI l4]) (st' := []) (r1 := (none, M21)) rfl ml_Mod_291 rfl (by decide) (by decide) (Or.inl rfl) rfl rfl (Nat.le_of_ble_eq_true rfl) (by decide) (c_Mod_choose hcq20) (Or.inl rfl) ?_
                  refine A_pc (pc' := 173) rfl ?_
                  refine A_stk (st' := []) rfl ?_
                  refine A_goto (tgt := 182) rfl (by decide) ?_
                  obtain ⟨x22, hx22, h⟩ := kM_out h
                  refine A_iinc 3 (v := x22) (Ls' := [(3, vI x22), (0, vA 184), (1, vI l1), (2, vI l2), (4, vI l4)]) rfl rfl ((iiN (k := 1) (by decide) _).trans hx22) (by decide) rfl ?_
                  refine A_pc (pc' := 185) rfl ?_
                  refine A_goto (tgt := 17) rfl (by decide) ?_
                  refine A_pc (pc' := 17) rfl ?_
                  refine A_sub (Ls' := [(0, vA 184), (1, vI l1), (2, vI l2), (3, vI x22)]) [1, 2, 3, 0] rfl ?_
                  exact hK17 _ _ _ _ _ _ h
                · rw [if_neg hc19] at h
                  refine A_pc (pc' := 153) rfl ?_
                  refine A_iload 4 rfl rfl ?_
                  refine A_bipush (v := 23) rfl (by decide) ?_
                  refine A_icmp_eq (tgt := 167) rfl (by decide) (fun hc23 => ?_) (fun hc23 => ?_)
                  · rw [if_pos hc23] at h
                    refine A_aload_n 0 rfl rfl rfl ?_
                    refine A_iload 4 rfl rfl ?_
                    obtain ⟨q24, M25, hcq24, h⟩ := bnd_out h
                    refine A_callV (ci := 11) (as := [vI l4]) (st' := []) (r1 := (none, M25)) rfl ml_Mod_291 rfl (by decide) (by decide) (Or.inl rfl) rfl rfl (Nat.le_of_ble_eq_true rfl) (by decide) (c_Mod_choose hcq24) (Or.inl rfl) ?_
                    refine A_pc (pc' := 173) rfl ?_
                    refine A_stk (st' := []) rfl ?_
                    refine A_goto (tgt := 182) rfl (by decide) ?_
                    obtain ⟨x26, hx26, h⟩ := kM_out h
                    refine A_iinc 3 (v := x26) (Ls' := [(3, vI x26), (0, vA 184), (1, vI l1), (2, vI l2), (4, vI l4)]) rfl rfl ((iiN (k := 1) (by decide) _).trans hx26) (by decide) rfl ?_
                    refine A_pc (pc' := 185) rfl ?_
                    refine A_goto (tgt := 17) rfl (by decide) ?_
                    refine A_pc (pc' := 17) rfl ?_
                    refine A_sub (Ls' := [(0, vA 184), (1, vI l1), (2, vI l2), (3, vI x26)]) [1, 2, 3, 0] rfl ?_
                    exact hK17 _ _ _ _ _ _ h
                  · rw [if_neg hc23] at h
                    refine A_pc (pc' := 160) rfl ?_
                    refine A_iload 4 rfl rfl ?_
                    refine A_bipush (v := 35) rfl (by decide) ?_
                    refine A_icmp_lt (tgt := 176) rfl (by decide) (fun hc27 => ?_) (fun hc27 => ?_)
                    · rw [if_pos hc27] at h
                      refine A_aload_n 0 rfl rfl rfl ?_
                      refine A_iload 4 rfl rfl ?_
                      obtain ⟨q28, M29, hcq28, h⟩ := bnd_out h
                      refine A_callV (ci := 11) (as := [vI l4]) (st' := []) (r1 := (none, M29)) rfl ml_Mod_294 rfl (by decide) (by decide) (Or.inl rfl) rfl rfl (Nat.le_of_ble_eq_true rfl) (by decide) (c_Mod_pair hcq28) (Or.inl rfl) ?_
                      refine A_pc (pc' := 182) rfl ?_
                      refine A_stk (st' := []) rfl ?_
                      obtain ⟨x30, hx30, h⟩ := kM_out h
                      refine A_iinc 3 (v := x30) (Ls' := [(3, vI x30), (0, vA 184), (1, vI l1), (2, vI l2), (4, vI l4)]) rfl rfl ((iiN (k := 1) (by decide) _).trans hx30) (by decide) rfl ?_
                      refine A_goto (tgt := 17) rfl (by decide) ?_
                      refine A_pc (pc' := 17) rfl ?_
                      refine A_sub (Ls' := [(0, vA 184), (1, vI l1), (2, vI l2), (3, vI x30)]) [1, 2, 3, 0] rfl ?_
                      exact hK17 _ _ _ _ _ _ h
                    · rw [if_neg hc27] at h
                      refine A_pc (pc' := 167) rfl ?_
                      refine A_aload_n 0 rfl rfl rfl ?_
                      refine A_iload 4 rfl rfl ?_
                      obtain ⟨q31, M32, hcq31, h⟩ := bnd_out h
                      refine A_callV (ci := 11) (as := [vI l4]) (st' := []) (r1 := (none, M32)) rfl ml_Mod_291 rfl (by decide) (by decide) (Or.inl rfl) rfl rfl (Nat.le_of_ble_eq_true rfl) (by decide) (c_Mod_choose hcq31) (Or.inl rfl) ?_
                      refine A_pc (pc' := 173) rfl ?_
                      refine A_stk (st' := []) rfl ?_
                      refine A_goto (tgt := 182) rfl (by decide) ?_
                      obtain ⟨x33, hx33, h⟩ := kM_out h
                      refine A_iinc 3 (v := x33) (Ls' := [(3, vI x33), (0, vA 184), (1, vI l1), (2, vI l2), (4, vI l4)]) rfl rfl ((iiN (k := 1) (by decide) _).trans hx33) (by decide) rfl ?_
                      refine A_pc (pc' := 185) rfl ?_
                      refine A_goto (tgt := 17) rfl (by decide) ?_
                      refine A_pc (pc' := 17) rfl ?_
                      refine A_sub (Ls' := [(0, vA 184), (1, vI l1), (2, vI l2), (3, vI x33)]) [1, 2, 3, 0] rfl ?_
                      exact hK17 _ _ _ _ _ _ h
              · rw [if_pos hc18] at h
                refine A_pc (pc' := 137) rfl ?_
                refine A_pc (pc' := 137) rfl ?_
                refine A_sub (Ls' := [(0, vA 184), (1, vI l1), (2, vI l2), (3, vI l3), (4, vI l4)]) [0, 1, 2, 3, 4] rfl ?_
                exact o_Mod_work_137 K17 hK17 _ _ _ _ _ _ _ h
    · rw [if_neg hc10] at h
      refine A_pc (pc' := 85) rfl ?_
      refine A_aload_n 0 rfl rfl rfl ?_
      refine A_iload 4 rfl rfl ?_
      refine A_aload_n 0 rfl rfl rfl ?_
      refine A_getL (r := 187) rfl fl_Mod_16 rfl (by decide) rfl rfl ?_
      refine A_iload_n 2 rfl rfl rfl ?_
      refine A_pc (pc' := 93) rfl ?_
      refine A_iload_n 3 rfl rfl rfl ?_
      refine A_iadd rfl ?_
      obtain ⟨hg34, h⟩ := gi_out h
      refine A_lald (n := 432) rfl (by decide) (by decide) (Or.inl rfl) hg34 ?_
      obtain ⟨q35, M36, hcq35, h⟩ := bnd_out h
      refine A_callV (ci := 11) (as := [vI l4, vJ (gJ M 187 (l2 + l3).toNatClampNeg)]) (st' := []) (r1 := (none, M36)) rfl ml_Mod_285 rfl (by decide) (by decide) (Or.inl rfl) rfl rfl (Nat.le_of_ble_eq_true rfl) (by decide) (c_Mod_leaf hcq35) (Or.inl rfl) ?_
      refine A_pc (pc' := 99) rfl ?_
      refine A_stk (st' := []) rfl ?_
      refine A_goto (tgt := 182) rfl (by decide) ?_
      obtain ⟨x37, hx37, h⟩ := kM_out h
      refine A_iinc 3 (v := x37) (Ls' := [(3, vI x37), (0, vA 184), (1, vI l1), (2, vI l2), (4, vI l4)]) rfl rfl ((iiN (k := 1) (by decide) _).trans hx37) (by decide) rfl ?_
      refine A_pc (pc' := 185) rfl ?_
      refine A_goto (tgt := 17) rfl (by decide) ?_
      refine A_pc (pc' := 17) rfl ?_
      refine A_sub (Ls' := [(0, vA 184), (1, vI l1), (2, vI l2), (3, vI x37)]) [1, 2, 3, 0] rfl ?_
      exact hK17 _ _ _ _ _ _ h
  · rw [if_pos hc9] at h
    refine A_pc (pc' := 68) rfl ?_
    refine A_aload_n 0 rfl rfl rfl ?_
    refine A_iload_n 3 rfl rfl rfl ?_
    refine A_iload_n 2 rfl rfl rfl ?_
    obtain ⟨q38, M39, hcq38, h⟩ := bnd_out h
    refine A_callV (ci := 11) (as := [vI l3, vI l2]) (st' := []) (r1 := (some (vI q38), M39)) rfl ml_Mod_282 rfl (by decide) (by decide) (Or.inl rfl) rfl rfl (Nat.le_of_ble_eq_true rfl) (by decide) (c_Mod_again hcq38) (Or.inl rfl) ?_
    refine A_pc (pc' := 74) rfl ?_
    refine A_stk (st' := [vI q38]) rfl ?_
    refine A_istore_n (Ls' := [(3, vI q38), (0, vA 184), (1, vI l1), (2, vI l2), (4, vI l4)]) rfl rfl (by decide) rfl ?_
    refine A_pc (pc' := 75) rfl ?_
    refine A_goto (tgt := 185) rfl (by decide) ?_
    refine A_goto (tgt := 17) rfl (by decide) ?_
    refine A_pc (pc' := 17) rfl ?_
    refine A_sub (Ls' := [(0, vA 184), (1, vI l1), (2, vI l2), (3, vI q38)]) [1, 2, 3, 0] rfl ?_
    exact hK17 _ _ _ _ _ _ h
def f_Mod_work_17_b (K17 : Int32 → Int32 → Int32 → ax_M → Option (Unit × ax_M)) (l1 : Int32) (l2 : Int32) (l3 : Int32) (M : ax_M) : Option (Unit × ax_M) :=
  gi l1 9 (if (gI M 188 l1.toNatClampNeg) ≤ l3 then (some ((), M)) else (gi (l2 + l3) 432 (kM (gI M 186 (l2 + l3).toNatClampNeg) (fun x7 => if x7 < 16 then (f_Mod_work_61 K17 l1 l2 l3 x7 M) else (if 18 < x7 then (f_Mod_work_61 K17 l1 l2 l3 x7 M) else (bnd (f_Mod_begin l3 l2 M) (fun q41 M42 => K17 l1 l2 q41 M42)))))))
def f_Mod_work_17 : Nat → Int32 → Int32 → Int32 → ax_M → Option (Unit × ax_M)
  | 0, _, _, _, _ => none
  | n + 1, l1, l2, l3, M => f_Mod_work_17_b  (f_Mod_work_17 n) l1 l2 l3 M
set_option maxHeartbeats 4000000 in
set_option maxRecDepth 100000 in
theorem o_Mod_work_17_b {l : Launch} {g : ax_G} (K17 : Int32 → Int32 → Int32 → ax_M → Option (Unit × ax_M)) (hK17 : ∀ (l1 : Int32) (l2 : Int32) (l3 : Int32) (M : ax_M) (r : Unit) (M' : ax_M), K17 l1 l2 l3 M = some (r, M') → AW l g true Y_Mod_work 4 (none, M') 17 [(0, vA 184), (1, vI l1), (2, vI l2), (3, vI l3)] [] M) (l1 : Int32) (l2 : Int32) (l3 : Int32) (M : ax_M) (r : Unit) (M' : ax_M) (h : f_Mod_work_17_b  K17 l1 l2 l3 M = some (r, M')) : AW l g true Y_Mod_work 4 (none, M') 17 [(0, vA 184), (1, vI l1), (2, vI l2), (3, vI l3)] [] M := by
  unfold f_Mod_work_17_b at h
  refine A_iload_n 3 rfl rfl rfl ?_
  refine A_aload_n 0 rfl rfl rfl ?_
  refine A_getL (r := 188) rfl fl_Mod_20 rfl (by decide) rfl rfl ?_
  refine A_iload_n 1 rfl rfl rfl ?_
  obtain ⟨hg4, h⟩ := gi_out h
  refine A_iald (n := 9) rfl (by decide) (by decide) (Or.inl rfl) hg4 ?_
  refine A_pc (pc' := 24) rfl ?_
  refine A_icmp_ge (tgt := 188) rfl (by decide) (fun hc5 => ?_) (fun hc5 => ?_)
  · rw [if_pos hc5] at h
    obtain ⟨rfl, rfl⟩ := leaf h
    exact A_vret rfl rfl
  · rw [if_neg hc5] at h
    refine A_pc (pc' := 27) rfl ?_
    refine A_aload_n 0 rfl rfl rfl ?_
    refine A_getL (r := 186) rfl fl_Mod_13 rfl (by decide) rfl rfl ?_
    refine A_iload_n 2 rfl rfl rfl ?_
    refine A_iload_n 3 rfl rfl rfl ?_
    refine A_iadd rfl ?_
    refine A_pc (pc' := 34) rfl ?_
    obtain ⟨hg6, h⟩ := gi_out h
    refine A_iald (n := 432) rfl (by decide) (by decide) (Or.inl rfl) hg6 ?_
    obtain ⟨x7, hx7, h⟩ := kM_out h
    refine A_nI hx7 ?_
    refine A_istore (Ls' := [(4, vI x7), (0, vA 184), (1, vI l1), (2, vI l2), (3, vI l3)]) rfl (by decide) rfl ?_
    refine A_iload 0 rfl rfl ?_
    refine A_bipush (v := 16) rfl (by decide) ?_
    refine A_icmp_lt (tgt := 61) rfl (by decide) (fun hc8 => ?_) (fun hc8 => ?_)
    · rw [if_pos hc8] at h
      refine A_pc (pc' := 61) rfl ?_
      refine A_sub (Ls' := [(0, vA 184), (1, vI l1), (2, vI l2), (3, vI l3), (4, vI x7)]) [1, 2, 3, 4, 0] rfl ?_
      exact o_Mod_work_61 K17 hK17 _ _ _ _ _ _ _ h
    · rw [if_neg hc8] at h
      refine A_pc (pc' := 44) rfl ?_
      refine A_iload 0 rfl rfl ?_
      refine A_bipush (v := 18) rfl (by decide) ?_
      refine A_icmp_gt (tgt := 61) rfl (by decide) (fun hc40 => ?_) (fun hc40 => ?_)
      · rw [if_pos hc40] at h
        refine A_pc (pc' := 61) rfl ?_
        refine A_sub (Ls' := [(0, vA 184), (1, vI l1), (2, vI l2), (3, vI l3), (4, vI x7)]) [1, 2, 3, 4, 0] rfl ?_
        exact o_Mod_work_61 K17 hK17 _ _ _ _ _ _ _ h
      · rw [if_neg hc40] at h
        refine A_pc (pc' := 51) rfl ?_
        refine A_aload_n 1 rfl rfl rfl ?_
        refine A_iload_n 4 rfl rfl rfl ?_
        refine A_iload_n 3 rfl rfl rfl ?_
        obtain ⟨q41, M42, hcq41, h⟩ := bnd_out h
        refine A_callV (ci := 11) (as := [vI l3, vI l2]) (st' := []) (r1 := (some (vI q41), M42)) rfl ml_Mod_278 rfl (by decide) (by decide) (Or.inl rfl) rfl rfl (Nat.le_of_ble_eq_true rfl) (by decide) (c_Mod_begin hcq41) (Or.inl rfl) ?_
        refine A_pc (pc' := 57) rfl ?_
        refine A_stk (st' := [vI q41]) rfl ?_
        refine A_istore_n (Ls' := [(3, vI q41), (4, vI x7), (0, vA 184), (1, vI l1), (2, vI l2)]) rfl rfl (by decide) rfl ?_
        refine A_pc (pc' := 58) rfl ?_
        refine A_goto (tgt := 185) rfl (by decide) ?_
        refine A_goto (tgt := 17) rfl (by decide) ?_
        refine A_pc (pc' := 17) rfl ?_
        refine A_sub (Ls' := [(0, vA 184), (1, vI l1), (2, vI l2), (3, vI q41)]) [2, 3, 4, 0] rfl ?_
        exact hK17 _ _ _ _ _ _ h
theorem o_Mod_work_17 {l : Launch} {g : ax_G} : ∀ (n : Nat) (l1 : Int32) (l2 : Int32) (l3 : Int32) (M : ax_M) (r : Unit) (M' : ax_M), f_Mod_work_17  n l1 l2 l3 M = some (r, M') → AW l g true Y_Mod_work 4 (none, M') 17 [(0, vA 184), (1, vI l1), (2, vI l2), (3, vI l3)] [] M := by
  intro n
  induction n with
  | zero =>
    intro l1 l2 l3 M r M' h
    cases h
  | succ n ih =>
    intro l1 l2 l3 M r M' h
    exact o_Mod_work_17_b  _ ih _ _ _ _ _ _ h
def f_Mod_work (a1 : Int32) (M : ax_M) : Option (Unit × ax_M) :=
  kM (48 * a1) (fun x1 => kM (mI M 184 29 0) (fun M2 => kM (mI M2 184 37 0) (fun M3 => f_Mod_work_17 1000000000000000000 a1 x1 0 M3)))
set_option maxHeartbeats 4000000 in
set_option maxRecDepth 100000 in
theorem c_Mod_work {l : Launch} {g : ax_G} {a1 : Int32} {M : ax_M} {r : Unit} {M' : ax_M} (h : f_Mod_work a1 M = some (r, M')) : Ctr l g true Y_Mod_work 4 [vA 184, vI a1] M (none, M') := by
  refine Ctr.ofAW yok_Mod_work (Nat.le_of_ble_eq_true rfl) (Or.inl rfl) ?_
  show AW l g true Y_Mod_work 4 (none, M') 0 [(0, vA 184), (1, vI a1)] [] M
  unfold f_Mod_work at h
  refine A_bipush (v := 48) rfl (by decide) ?_
  refine A_iload_n 1 rfl rfl rfl ?_
  refine A_imul rfl ?_
  obtain ⟨x1, hx1, h⟩ := kM_out h
  refine A_nI hx1 ?_
  refine A_istore_n (Ls' := [(2, vI x1), (0, vA 184), (1, vI a1)]) rfl rfl (by decide) rfl ?_
  refine A_aload_n 1 rfl rfl rfl ?_
  refine A_pc (pc' := 6) rfl ?_
  refine A_iconst (v := 0) rfl (by decide) ?_
  refine A_putI rfl (Or.inl fl_Mod_223) rfl (by decide) (Or.inl rfl) rfl ?_
  obtain ⟨M2, hM2, h⟩ := kM_out h
  refine A_mem hM2 ?_
  refine A_aload_n 1 rfl rfl rfl ?_
  refine A_iconst (v := 0) rfl (by decide) ?_
  refine A_putI rfl (Or.inl fl_Mod_229) rfl (by decide) (Or.inl rfl) rfl ?_
  obtain ⟨M3, hM3, h⟩ := kM_out h
  refine A_mem hM3 ?_
  refine A_iconst (v := 0) rfl (by decide) ?_
  refine A_pc (pc' := 16) rfl ?_
  refine A_istore_n (Ls' := [(3, vI 0), (2, vI x1), (0, vA 184), (1, vI a1)]) rfl rfl (by decide) rfl ?_
  refine A_pc (pc' := 17) rfl ?_
  refine A_sub (Ls' := [(0, vA 184), (1, vI a1), (2, vI x1), (3, vI 0)]) [2, 3, 1, 0] rfl ?_
  exact o_Mod_work_17  _ _ _ _ _ _ _ h
def tb_Mod_holds : List (Nat × Instr × Nat) := [(0, .aload_n 0, 1), (1, .iload_n 1, 1), (2, .invokevirtual 297, 3), (5, .aload_n 0, 1), (6, .getfield 66, 3), (9, .iconst 0, 1), (10, .iaload, 1), (11, .iconst 1, 1), (12, .if_icmp .ne 18, 3), (15, .aload_n 0, 1), (16, .getfield 69, 3), (19, .iconst 0, 1), (20, .laload, 1), (21, .lconst 1, 1), (22, .lcmp, 1), (23, .ifCond .ne 7, 3), (26, .iconst 1, 1), (27, .goto 4, 3), (30, .iconst 0, 1), (31, .ireturn, 1)]
def Y_Mod_holds : ax_Y := (⟨"MethodWardenModel", "holds", "(I)Z"⟩, prog_14_method_44_code, 2, some .boolean, tb_Mod_holds)
theorem yok_Mod_holds : yOK Y_Mod_holds := ⟨by decide +kernel, by decide +kernel, inWG 1481 (by decide +kernel) (by decide +kernel), inWG 107 (by decide +kernel) (by decide +kernel), by decide +kernel⟩
theorem ml_Mod_297 : mlV "MethodWardenModel" 297 Y_Mod_work 1 := ⟨⟨yok_Mod_work, by decide +kernel, by decide⟩, Or.inl (inWG 1413 (by decide +kernel) (by decide +kernel)), inWG 1415 (by decide +kernel) (by decide +kernel), inWG 75 (by decide +kernel) (by decide +kernel)⟩
def f_Mod_holds (a1 : Int32) (M : ax_M) : Option (Int32 × ax_M) :=
  bnd (f_Mod_work a1 M) (fun q1 M2 => if (gI M2 202 (Int32.toNatClampNeg 0)) = 1 then (if (lg_cmp (gJ M2 203 (Int32.toNatClampNeg 0)) 1) = 0 then (some (1, M2)) else (some (0, M2))) else (some (0, M2)))
set_option maxHeartbeats 4000000 in
set_option maxRecDepth 100000 in
theorem c_Mod_holds {l : Launch} {g : ax_G} {a1 : Int32} {M : ax_M} {r : Int32} {M' : ax_M} (h : f_Mod_holds a1 M = some (r, M')) : Ctr l g true Y_Mod_holds 5 [vA 184, vI a1] M (some (vI r), M') := by
  refine Ctr.ofAW yok_Mod_holds (Nat.le_of_ble_eq_true rfl) (Or.inl rfl) ?_
  show AW l g true Y_Mod_holds 5 (some (vI r), M') 0 [(0, vA 184), (1, vI a1)] [] M
  unfold f_Mod_holds at h
  refine A_aload_n 0 rfl rfl rfl ?_
  refine A_iload_n 1 rfl rfl rfl ?_
  obtain ⟨q1, M2, hcq1, h⟩ := bnd_out h
  refine A_callV (ci := 11) (as := [vI a1]) (st' := []) (r1 := (none, M2)) rfl ml_Mod_297 rfl (by decide) (by decide) (Or.inl rfl) rfl rfl (Nat.le_of_ble_eq_true rfl) (by decide) (c_Mod_work hcq1) (Or.inl rfl) ?_
  refine A_pc (pc' := 5) rfl ?_
  refine A_stk (st' := []) rfl ?_
  refine A_aload_n 0 rfl rfl rfl ?_
  refine A_getL (r := 202) rfl fl_Mod_66 rfl (by decide) rfl rfl ?_
  refine A_pc (pc' := 9) rfl ?_
  refine A_iconst (v := 0) rfl (by decide) ?_
  refine A_iald (n := 48) rfl (by decide) (by decide) (Or.inl rfl) (show vp_in 0 48 from by unfold vp_in; decide) ?_
  refine A_iconst (v := 1) rfl (by decide) ?_
  refine A_icmp_ne (tgt := 30) rfl (by decide) (fun hc3 => ?_) (fun hc3 => ?_)
  · rw [if_neg hc3] at h
    refine A_iconst (v := 0) rfl (by decide) ?_
    obtain ⟨rfl, rfl⟩ := leaf h
    exact A_zret rfl rfl (Or.inl rfl)
  · rw [if_pos hc3] at h
    refine A_pc (pc' := 15) rfl ?_
    refine A_aload_n 0 rfl rfl rfl ?_
    refine A_getL (r := 203) rfl fl_Mod_69 rfl (by decide) rfl rfl ?_
    refine A_iconst (v := 0) rfl (by decide) ?_
    refine A_lald (n := 48) rfl (by decide) (by decide) (Or.inl rfl) (show vp_in 0 48 from by unfold vp_in; decide) ?_
    refine A_lconst (v := 1) rfl (by decide) ?_
    refine A_pc (pc' := 22) rfl ?_
    refine A_lcmp rfl ?_
    refine A_if_ne (tgt := 30) rfl (by decide) (fun hc4 => ?_) (fun hc4 => ?_)
    · rw [if_neg hc4] at h
      refine A_iconst (v := 0) rfl (by decide) ?_
      obtain ⟨rfl, rfl⟩ := leaf h
      exact A_zret rfl rfl (Or.inl rfl)
    · rw [if_pos hc4] at h
      refine A_pc (pc' := 26) rfl ?_
      refine A_iconst (v := 1) rfl (by decide) ?_
      refine A_goto (tgt := 31) rfl (by decide) ?_
      obtain ⟨rfl, rfl⟩ := leaf h
      exact A_zret rfl rfl (Or.inr rfl)
def tb_Mod_guardOf : List (Nat × Instr × Nat) := [(0, .aload_n 0, 1), (1, .getfield 39, 3), (4, .iload_n 1, 1), (5, .iaload, 1), (6, .ifCond .eq 7, 3), (9, .iload_n 1, 1), (10, .goto 15, 3), (13, .iload_n 1, 1), (14, .iconst 4, 1), (15, .if_icmp .ge 8, 3), (18, .bipush 8, 2), (20, .goto 5, 3), (23, .bipush 9, 2), (25, .ireturn, 1)]
def Y_Mod_guardOf : ax_Y := (⟨"MethodWardenModel", "guardOf", "(I)I"⟩, prog_14_method_45_code, 2, some .int, tb_Mod_guardOf)
theorem yok_Mod_guardOf : yOK Y_Mod_guardOf := ⟨by decide +kernel, by decide +kernel, inWG 1404 (by decide +kernel) (by decide +kernel), inWG 107 (by decide +kernel) (by decide +kernel), by decide +kernel⟩
def f_Mod_guardOf (a1 : Int32) (M : ax_M) : Option (Int32 × ax_M) :=
  gi a1 10 (if (gI M 193 a1.toNatClampNeg) = 0 then (if 4 ≤ a1 then (some (9, M)) else (some (8, M))) else (some (a1, M)))
set_option maxHeartbeats 4000000 in
set_option maxRecDepth 100000 in
theorem c_Mod_guardOf {l : Launch} {g : ax_G} {a1 : Int32} {M : ax_M} {r : Int32} {M' : ax_M} (h : f_Mod_guardOf a1 M = some (r, M')) : Ctr l g true Y_Mod_guardOf 1 [vA 184, vI a1] M (some (vI r), M') := by
  refine Ctr.ofAW yok_Mod_guardOf (Nat.le_of_ble_eq_true rfl) (Or.inl rfl) ?_
  show AW l g true Y_Mod_guardOf 1 (some (vI r), M') 0 [(0, vA 184), (1, vI a1)] [] M
  unfold f_Mod_guardOf at h
  refine A_aload_n 0 rfl rfl rfl ?_
  refine A_getL (r := 193) rfl fl_Mod_39 rfl (by decide) rfl rfl ?_
  refine A_iload_n 1 rfl rfl rfl ?_
  obtain ⟨hg1, h⟩ := gi_out h
  refine A_iald (n := 10) rfl (by decide) (by decide) (Or.inl rfl) hg1 ?_
  refine A_if_eq (tgt := 13) rfl (by decide) (fun hc2 => ?_) (fun hc2 => ?_)
  · rw [if_pos hc2] at h
    refine A_iload_n 1 rfl rfl rfl ?_
    refine A_iconst (v := 4) rfl (by decide) ?_
    refine A_icmp_ge (tgt := 23) rfl (by decide) (fun hc3 => ?_) (fun hc3 => ?_)
    · rw [if_pos hc3] at h
      refine A_bipush (v := 9) rfl (by decide) ?_
      obtain ⟨rfl, rfl⟩ := leaf h
      exact A_iret rfl rfl
    · rw [if_neg hc3] at h
      refine A_pc (pc' := 18) rfl ?_
      refine A_bipush (v := 8) rfl (by decide) ?_
      refine A_goto (tgt := 25) rfl (by decide) ?_
      obtain ⟨rfl, rfl⟩ := leaf h
      exact A_iret rfl rfl
  · rw [if_neg hc2] at h
    refine A_pc (pc' := 9) rfl ?_
    refine A_iload_n 1 rfl rfl rfl ?_
    refine A_goto (tgt := 25) rfl (by decide) ?_
    obtain ⟨rfl, rfl⟩ := leaf h
    exact A_iret rfl rfl
def tb_Mod_opens : List (Nat × Instr × Nat) := [(0, .aload_n 0, 1), (1, .getfield 39, 3), (4, .iload_n 1, 1), (5, .iaload, 1), (6, .istore_n 2, 1), (7, .aload_n 0, 1), (8, .getfield 42, 3), (11, .iload_n 1, 1), (12, .iaload, 1), (13, .istore_n 3, 1), (14, .iload_n 2, 1), (15, .iconst 2, 1), (16, .if_icmp .lt 41, 3), (19, .iload_n 2, 1), (20, .iconst 3, 1), (21, .if_icmp .ne 23, 3), (24, .aload_n 0, 1), (25, .getfield 32, 3), (28, .ifCond .lt 16, 3), (31, .aload_n 0, 1), (32, .aload_n 0, 1), (33, .getfield 213, 3), (36, .invokevirtual 209, 3), (39, .iload_n 3, 1), (40, .iand, 1), (41, .ifCond .ne 16, 3), (44, .iload_n 2, 1), (45, .iconst 4, 1), (46, .if_icmp .ne 15, 3), (49, .aload_n 0, 1), (50, .iload_n 3, 1), (51, .invokevirtual 300, 3), (54, .ifCond .eq 7, 3), (57, .iconst 1, 1), (58, .goto 4, 3), (61, .iconst 0, 1), (62, .ireturn, 1)]
def Y_Mod_opens : ax_Y := (⟨"MethodWardenModel", "opens", "(I)Z"⟩, prog_14_method_46_code, 4, some .boolean, tb_Mod_opens)
theorem yok_Mod_opens : yOK Y_Mod_opens := ⟨by decide +kernel, by decide +kernel, inWG 1477 (by decide +kernel) (by decide +kernel), inWG 107 (by decide +kernel) (by decide +kernel), by decide +kernel⟩
theorem ml_Mod_300 : mlV "MethodWardenModel" 300 Y_Mod_holds 1 := ⟨⟨yok_Mod_holds, by decide +kernel, by decide⟩, Or.inl (inWG 1478 (by decide +kernel) (by decide +kernel)), inWG 1480 (by decide +kernel) (by decide +kernel), inWG 91 (by decide +kernel) (by decide +kernel)⟩
def f_Mod_opens_44 (l2 : Int32) (l3 : Int32) (M : ax_M) : Option (Int32 × ax_M) :=
  if l2 = 4 then (bnd (f_Mod_holds l3 M) (fun q7 M8 => if q7 = 0 then (some (0, M8)) else (some (1, M8)))) else (some (0, M))
set_option maxHeartbeats 4000000 in
set_option maxRecDepth 100000 in
theorem o_Mod_opens_44 {l : Launch} {g : ax_G} (l2 : Int32) (l3 : Int32) (M : ax_M) (r : Int32) (M' : ax_M) (h : f_Mod_opens_44  l2 l3 M = some (r, M')) : AW l g true Y_Mod_opens 6 (some (vI r), M') 44 [(0, vA 184), (2, vI l2), (3, vI l3)] [] M := by
  unfold f_Mod_opens_44 at h
  refine A_iload_n 1 rfl rfl rfl ?_
  refine A_iconst (v := 4) rfl (by decide) ?_
  refine A_icmp_ne (tgt := 61) rfl (by decide) (fun hc6 => ?_) (fun hc6 => ?_)
  · rw [if_neg hc6] at h
    refine A_iconst (v := 0) rfl (by decide) ?_
    obtain ⟨rfl, rfl⟩ := leaf h
    exact A_zret rfl rfl (Or.inl rfl)
  · rw [if_pos hc6] at h
    refine A_pc (pc' := 49) rfl ?_
    refine A_aload_n 0 rfl rfl rfl ?_
    refine A_iload_n 2 rfl rfl rfl ?_
    obtain ⟨q7, M8, hcq7, h⟩ := bnd_out h
    refine A_callV (ci := 11) (as := [vI l3]) (st' := []) (r1 := (some (vI q7), M8)) rfl ml_Mod_300 rfl (by decide) (by decide) (Or.inl rfl) rfl rfl (Nat.le_of_ble_eq_true rfl) (by decide) (c_Mod_holds hcq7) (Or.inl rfl) ?_
    refine A_pc (pc' := 54) rfl ?_
    refine A_stk (st' := [vI q7]) rfl ?_
    refine A_if_eq (tgt := 61) rfl (by decide) (fun hc9 => ?_) (fun hc9 => ?_)
    · rw [if_pos hc9] at h
      refine A_iconst (v := 0) rfl (by decide) ?_
      obtain ⟨rfl, rfl⟩ := leaf h
      exact A_zret rfl rfl (Or.inl rfl)
    · rw [if_neg hc9] at h
      refine A_pc (pc' := 57) rfl ?_
      refine A_iconst (v := 1) rfl (by decide) ?_
      refine A_goto (tgt := 62) rfl (by decide) ?_
      obtain ⟨rfl, rfl⟩ := leaf h
      exact A_zret rfl rfl (Or.inr rfl)
def f_Mod_opens (a1 : Int32) (M : ax_M) : Option (Int32 × ax_M) :=
  gi a1 10 (kM (gI M 193 a1.toNatClampNeg) (fun x2 => kM (gI M 194 a1.toNatClampNeg) (fun x3 => if x2 < 2 then (some (1, M)) else (if x2 = 3 then (if (gI M 184 13) < 0 then (f_Mod_opens_44 x2 x3 M) else (bnd (f_Mod_closure (gI M 184 14) M) (fun q11 M12 => if (q11 &&& x3) = 0 then (f_Mod_opens_44 x2 x3 M12) else (some (1, M12))))) else (f_Mod_opens_44 x2 x3 M)))))
set_option maxHeartbeats 4000000 in
set_option maxRecDepth 100000 in
theorem c_Mod_opens {l : Launch} {g : ax_G} {a1 : Int32} {M : ax_M} {r : Int32} {M' : ax_M} (h : f_Mod_opens a1 M = some (r, M')) : Ctr l g true Y_Mod_opens 6 [vA 184, vI a1] M (some (vI r), M') := by
  refine Ctr.ofAW yok_Mod_opens (Nat.le_of_ble_eq_true rfl) (Or.inl rfl) ?_
  show AW l g true Y_Mod_opens 6 (some (vI r), M') 0 [(0, vA 184), (1, vI a1)] [] M
  unfold f_Mod_opens at h
  refine A_aload_n 0 rfl rfl rfl ?_
  refine A_getL (r := 193) rfl fl_Mod_39 rfl (by decide) rfl rfl ?_
  refine A_iload_n 1 rfl rfl rfl ?_
  obtain ⟨hg1, h⟩ := gi_out h
  refine A_iald (n := 10) rfl (by decide) (by decide) (Or.inl rfl) hg1 ?_
  obtain ⟨x2, hx2, h⟩ := kM_out h
  refine A_nI hx2 ?_
  refine A_istore_n (Ls' := [(2, vI x2), (0, vA 184), (1, vI a1)]) rfl rfl (by decide) rfl ?_
  refine A_pc (pc' := 7) rfl ?_
  refine A_aload_n 1 rfl rfl rfl ?_
  refine A_getL (r := 194) rfl fl_Mod_42 rfl (by decide) rfl rfl ?_
  refine A_iload_n 2 rfl rfl rfl ?_
  refine A_iald (n := 10) rfl (by decide) (by decide) (Or.inl rfl) hg1 ?_
  obtain ⟨x3, hx3, h⟩ := kM_out h
  refine A_nI hx3 ?_
  refine A_istore_n (Ls' := [(3, vI x3), (2, vI x2), (0, vA 184), (1, vI a1)]) rfl rfl (by decide) rfl ?_
  refine A_iload_n 1 rfl rfl rfl ?_
  refine A_pc (pc' := 15) rfl ?_
  refine A_iconst (v := 2) rfl (by decide) ?_
  refine A_icmp_lt (tgt := 57) rfl (by decide) (fun hc4 => ?_) (fun hc4 => ?_)
  · rw [if_pos hc4] at h
    refine A_iconst (v := 1) rfl (by decide) ?_
    refine A_goto (tgt := 62) rfl (by decide) ?_
    obtain ⟨rfl, rfl⟩ := leaf h
    exact A_zret rfl rfl (Or.inr rfl)
  · rw [if_neg hc4] at h
    refine A_pc (pc' := 19) rfl ?_
    refine A_iload_n 1 rfl rfl rfl ?_
    refine A_iconst (v := 3) rfl (by decide) ?_
    refine A_icmp_ne (tgt := 44) rfl (by decide) (fun hc5 => ?_) (fun hc5 => ?_)
    · rw [if_neg hc5] at h
      refine A_pc (pc' := 44) rfl ?_
      refine A_sub (Ls' := [(0, vA 184), (2, vI x2), (3, vI x3)]) [2, 1, 0] rfl ?_
      exact o_Mod_opens_44  _ _ _ _ _ h
    · rw [if_pos hc5] at h
      refine A_pc (pc' := 24) rfl ?_
      refine A_aload_n 2 rfl rfl rfl ?_
      refine A_getI rfl fl_Mod_32 rfl (by decide) (Or.inl rfl) ?_
      refine A_if_lt (tgt := 44) rfl (by decide) (fun hc10 => ?_) (fun hc10 => ?_)
      · rw [if_pos hc10] at h
        refine A_pc (pc' := 44) rfl ?_
        refine A_sub (Ls' := [(0, vA 184), (2, vI x2), (3, vI x3)]) [2, 1, 0] rfl ?_
        exact o_Mod_opens_44  _ _ _ _ _ h
      · rw [if_neg hc10] at h
        refine A_pc (pc' := 31) rfl ?_
        refine A_aload_n 2 rfl rfl rfl ?_
        refine A_aload_n 2 rfl rfl rfl ?_
        refine A_getI rfl fl_Mod_213 rfl (by decide) (Or.inl rfl) ?_
        obtain ⟨q11, M12, hcq11, h⟩ := bnd_out h
        refine A_callV (ci := 11) (as := [vI (gI M 184 14)]) (st' := []) (r1 := (some (vI q11), M12)) rfl ml_Mod_209 rfl (by decide) (by decide) (Or.inl rfl) rfl rfl (Nat.le_of_ble_eq_true rfl) (by decide) (c_Mod_closure hcq11) (Or.inl rfl) ?_
        refine A_pc (pc' := 39) rfl ?_
        refine A_stk (st' := [vI q11]) rfl ?_
        refine A_iload_n 0 rfl rfl rfl ?_
        refine A_pc (pc' := 40) rfl ?_
        refine A_iand rfl ?_
        refine A_if_ne (tgt := 57) rfl (by decide) (fun hc13 => ?_) (fun hc13 => ?_)
        · rw [if_neg hc13] at h
          refine A_iconst (v := 1) rfl (by decide) ?_
          refine A_goto (tgt := 62) rfl (by decide) ?_
          obtain ⟨rfl, rfl⟩ := leaf h
          exact A_zret rfl rfl (Or.inr rfl)
        · rw [if_pos hc13] at h
          refine A_pc (pc' := 44) rfl ?_
          refine A_pc (pc' := 44) rfl ?_
          refine A_sub (Ls' := [(0, vA 184), (2, vI x2), (3, vI x3)]) [2, 1, 0] rfl ?_
          exact o_Mod_opens_44  _ _ _ _ _ h
def tb_Mod_see : List (Nat × Instr × Nat) := [(0, .aload_n 0, 1), (1, .getfield 303, 3), (4, .iconst 1, 1), (5, .isub, 1), (6, .istore_n 1, 1), (7, .aload_n 0, 1), (8, .aload_n 0, 1), (9, .getfield 112, 3), (12, .iload_n 1, 1), (13, .iaload, 1), (14, .putfield 249, 3), (17, .iconst 0, 1), (18, .istore_n 2, 1), (19, .iload_n 2, 1), (20, .aload_n 0, 1), (21, .getfield 249, 3), (24, .if_icmp .ge 25, 3), (27, .aload_n 0, 1), (28, .getfield 97, 3), (31, .iload_n 2, 1), (32, .aload_n 0, 1), (33, .getfield 109, 3), (36, .iconst 5, 1), (37, .iload_n 1, 1), (38, .imul, 1), (39, .iload_n 2, 1), (40, .iadd, 1), (41, .iaload, 1), (42, .iastore, 1), (43, .iinc 2 1, 3), (46, .goto (-27), 3), (49, .aload_n 0, 1), (50, .iconst 0, 1), (51, .putfield 242, 3), (54, .aload_n 0, 1), (55, .iconst (-1), 1), (56, .putfield 100, 3), (59, .aload_n 0, 1), (60, .iconst 0, 1), (61, .putfield 256, 3), (64, .return_, 1)]
def Y_Mod_see : ax_Y := (⟨"MethodWardenModel", "see", "()V"⟩, prog_14_method_47_code, 3, none, tb_Mod_see)
theorem yok_Mod_see : yOK Y_Mod_see := ⟨by decide +kernel, by decide +kernel, inWG 1408 (by decide +kernel) (by decide +kernel), inWG 107 (by decide +kernel) (by decide +kernel), by decide +kernel⟩
theorem fl_Mod_303 : fldOK "MethodWardenModel" 303 11 52 false := ⟨_, _, _, cls_Mod, by decide, by decide, rfl, Or.inl (inWG 1139 (by decide +kernel) (by decide +kernel))⟩
theorem fl_Mod_112 : fldOK "MethodWardenModel" 112 11 49 false := ⟨_, _, _, cls_Mod, by decide, by decide, rfl, Or.inl (inWG 1136 (by decide +kernel) (by decide +kernel))⟩
theorem fl_Mod_109 : fldOK "MethodWardenModel" 109 11 48 false := ⟨_, _, _, cls_Mod, by decide, by decide, rfl, Or.inl (inWG 1135 (by decide +kernel) (by decide +kernel))⟩
def f_Mod_see_19_b (K19 : Int32 → Int32 → ax_M → Option (Unit × ax_M)) (l1 : Int32) (l2 : Int32) (M : ax_M) : Option (Unit × ax_M) :=
  if (gI M 184 43) ≤ l2 then (kM (mI M 184 38 0) (fun M5 => kM (mI M5 184 44 ((-1))) (fun M6 => kM (mI M6 184 45 0) (fun M7 => some ((), M7))))) else (gi ((5 * l1) + l2) 40 (gi l2 5 (kM (mI M 212 l2.toNatClampNeg (gI M 215 ((5 * l1) + l2).toNatClampNeg)) (fun M10 => kM (l2 + 1) (fun x11 => K19 l1 x11 M10)))))
def f_Mod_see_19 : Nat → Int32 → Int32 → ax_M → Option (Unit × ax_M)
  | 0, _, _, _ => none
  | n + 1, l1, l2, M => f_Mod_see_19_b  (f_Mod_see_19 n) l1 l2 M
set_option maxHeartbeats 4000000 in
set_option maxRecDepth 100000 in
theorem o_Mod_see_19_b {l : Launch} {g : ax_G} (K19 : Int32 → Int32 → ax_M → Option (Unit × ax_M)) (hK19 : ∀ (l1 : Int32) (l2 : Int32) (M : ax_M) (r : Unit) (M' : ax_M), K19 l1 l2 M = some (r, M') → AW l g true Y_Mod_see 1 (none, M') 19 [(0, vA 184), (1, vI l1), (2, vI l2)] [] M) (l1 : Int32) (l2 : Int32) (M : ax_M) (r : Unit) (M' : ax_M) (h : f_Mod_see_19_b  K19 l1 l2 M = some (r, M')) : AW l g true Y_Mod_see 1 (none, M') 19 [(0, vA 184), (1, vI l1), (2, vI l2)] [] M := by
  unfold f_Mod_see_19_b at h
  refine A_iload_n 2 rfl rfl rfl ?_
  refine A_aload_n 0 rfl rfl rfl ?_
  refine A_getI rfl fl_Mod_249 rfl (by decide) (Or.inl rfl) ?_
  refine A_icmp_ge (tgt := 49) rfl (by decide) (fun hc4 => ?_) (fun hc4 => ?_)
  · rw [if_pos hc4] at h
    refine A_aload_n 0 rfl rfl rfl ?_
    refine A_iconst (v := 0) rfl (by decide) ?_
    refine A_putZ rfl (Or.inl fl_Mod_242) rfl (by decide) (Or.inl rfl) rfl (Or.inl rfl) ?_
    obtain ⟨M5, hM5, h⟩ := kM_out h
    refine A_mem hM5 ?_
    refine A_aload_n 0 rfl rfl rfl ?_
    refine A_iconst (v := (-1)) rfl (by decide) ?_
    refine A_pc (pc' := 56) rfl ?_
    refine A_putI rfl (Or.inl fl_Mod_100) rfl (by decide) (Or.inl rfl) rfl ?_
    obtain ⟨M6, hM6, h⟩ := kM_out h
    refine A_mem hM6 ?_
    refine A_aload_n 0 rfl rfl rfl ?_
    refine A_iconst (v := 0) rfl (by decide) ?_
    refine A_putI rfl (Or.inl fl_Mod_256) rfl (by decide) (Or.inl rfl) rfl ?_
    obtain ⟨M7, hM7, h⟩ := kM_out h
    refine A_mem hM7 ?_
    obtain ⟨rfl, rfl⟩ := leaf h
    exact A_vret rfl rfl
  · rw [if_neg hc4] at h
    refine A_pc (pc' := 27) rfl ?_
    refine A_aload_n 0 rfl rfl rfl ?_
    refine A_getL (r := 212) rfl fl_Mod_97 rfl (by decide) rfl rfl ?_
    refine A_iload_n 2 rfl rfl rfl ?_
    refine A_aload_n 0 rfl rfl rfl ?_
    refine A_getL (r := 215) rfl fl_Mod_109 rfl (by decide) rfl rfl ?_
    refine A_pc (pc' := 36) rfl ?_
    refine A_iconst (v := 5) rfl (by decide) ?_
    refine A_iload_n 1 rfl rfl rfl ?_
    refine A_imul rfl ?_
    refine A_iload_n 2 rfl rfl rfl ?_
    refine A_iadd rfl ?_
    obtain ⟨hg8, h⟩ := gi_out h
    refine A_iald (n := 40) rfl (by decide) (by decide) (Or.inl rfl) hg8 ?_
    refine A_pc (pc' := 42) rfl ?_
    obtain ⟨hg9, h⟩ := gi_out h
    refine A_iast (n := 5) rfl (by decide) (by decide) (Or.inl rfl) hg9 ?_
    obtain ⟨M10, hM10, h⟩ := kM_out h
    refine A_mem hM10 ?_
    obtain ⟨x11, hx11, h⟩ := kM_out h
    refine A_iinc 2 (v := x11) (Ls' := [(2, vI x11), (0, vA 184), (1, vI l1)]) rfl rfl ((iiN (k := 1) (by decide) _).trans hx11) (by decide) rfl ?_
    refine A_goto (tgt := 19) rfl (by decide) ?_
    refine A_pc (pc' := 19) rfl ?_
    refine A_sub (Ls' := [(0, vA 184), (1, vI l1), (2, vI x11)]) [1, 2, 0] rfl ?_
    exact hK19 _ _ _ _ _ h
theorem o_Mod_see_19 {l : Launch} {g : ax_G} : ∀ (n : Nat) (l1 : Int32) (l2 : Int32) (M : ax_M) (r : Unit) (M' : ax_M), f_Mod_see_19  n l1 l2 M = some (r, M') → AW l g true Y_Mod_see 1 (none, M') 19 [(0, vA 184), (1, vI l1), (2, vI l2)] [] M := by
  intro n
  induction n with
  | zero =>
    intro l1 l2 M r M' h
    cases h
  | succ n ih =>
    intro l1 l2 M r M' h
    exact o_Mod_see_19_b  _ ih _ _ _ _ _ h
def f_Mod_see  (M : ax_M) : Option (Unit × ax_M) :=
  kM ((gI M 184 52) - 1) (fun x1 => gi x1 8 (kM (mI M 184 43 (gI M 216 x1.toNatClampNeg)) (fun M3 => f_Mod_see_19 64 x1 0 M3)))
set_option maxHeartbeats 4000000 in
set_option maxRecDepth 100000 in
theorem c_Mod_see {l : Launch} {g : ax_G}  {M : ax_M} {r : Unit} {M' : ax_M} (h : f_Mod_see  M = some (r, M')) : Ctr l g true Y_Mod_see 1 [vA 184] M (none, M') := by
  refine Ctr.ofAW yok_Mod_see (Nat.le_of_ble_eq_true rfl) (Or.inl rfl) ?_
  show AW l g true Y_Mod_see 1 (none, M') 0 [(0, vA 184)] [] M
  unfold f_Mod_see at h
  refine A_aload_n 0 rfl rfl rfl ?_
  refine A_getI rfl fl_Mod_303 rfl (by decide) (Or.inl rfl) ?_
  refine A_iconst (v := 1) rfl (by decide) ?_
  refine A_isub rfl ?_
  obtain ⟨x1, hx1, h⟩ := kM_out h
  refine A_nI hx1 ?_
  refine A_istore_n (Ls' := [(1, vI x1), (0, vA 184)]) rfl rfl (by decide) rfl ?_
  refine A_pc (pc' := 7) rfl ?_
  refine A_aload_n 1 rfl rfl rfl ?_
  refine A_aload_n 1 rfl rfl rfl ?_
  refine A_getL (r := 216) rfl fl_Mod_112 rfl (by decide) rfl rfl ?_
  refine A_iload_n 0 rfl rfl rfl ?_
  obtain ⟨hg2, h⟩ := gi_out h
  refine A_iald (n := 8) rfl (by decide) (by decide) (Or.inl rfl) hg2 ?_
  refine A_putI rfl (Or.inl fl_Mod_249) rfl (by decide) (Or.inl rfl) rfl ?_
  obtain ⟨M3, hM3, h⟩ := kM_out h
  refine A_mem hM3 ?_
  refine A_pc (pc' := 17) rfl ?_
  refine A_iconst (v := 0) rfl (by decide) ?_
  refine A_istore_n (Ls' := [(2, vI 0), (1, vI x1), (0, vA 184)]) rfl rfl (by decide) rfl ?_
  refine A_pc (pc' := 19) rfl ?_
  refine A_sub (Ls' := [(0, vA 184), (1, vI x1), (2, vI 0)]) [2, 1, 0] rfl ?_
  exact o_Mod_see_19  _ _ _ _ _ _ h
def tb_Mod_sift : List (Nat × Instr × Nat) := [(0, .iload_n 2, 1), (1, .ifCond .ne 10, 3), (4, .aload_n 0, 1), (5, .getfield 249, 3), (8, .goto 7, 3), (11, .aload_n 0, 1), (12, .getfield 306, 3), (15, .istore_n 3, 1), (16, .iconst 0, 1), (17, .istore 4, 2), (19, .iconst 0, 1), (20, .istore 5, 2), (22, .iload 5, 2), (24, .iload_n 3, 1), (25, .if_icmp .ge 83, 3), (28, .iload_n 2, 1), (29, .ifCond .ne 13, 3), (32, .aload_n 0, 1), (33, .getfield 97, 3), (36, .iload 5, 2), (38, .iaload, 1), (39, .goto 10, 3), (42, .aload_n 0, 1), (43, .getfield 124, 3), (46, .iload 5, 2), (48, .iaload, 1), (49, .istore 6, 2), (51, .aload_n 0, 1), (52, .iconst 1, 1), (53, .putfield 242, 3), (56, .aload_n 0, 1), (57, .iload 6, 2), (59, .putfield 246, 3), (62, .aload_n 0, 1), (63, .iload_n 1, 1), (64, .invokevirtual 297, 3), (67, .aload_n 0, 1), (68, .getfield 66, 3), (71, .iconst 0, 1), (72, .iaload, 1), (73, .iconst 1, 1), (74, .if_icmp .eq 5, 3), (77, .iconst (-1), 1), (78, .ireturn, 1), (79, .aload_n 0, 1), (80, .getfield 69, 3), (83, .iconst 0, 1), (84, .laload, 1), (85, .lconst 1, 1), (86, .lcmp, 1), (87, .ifCond .ne 15, 3), (90, .aload_n 0, 1), (91, .getfield 121, 3), (94, .iload 4, 2), (96, .iload 6, 2), (98, .iastore, 1), (99, .iinc 4 1, 3), (102, .iinc 5 1, 3), (105, .goto (-83), 3), (108, .iload 4, 2), (110, .ireturn, 1)]
def Y_Mod_sift : ax_Y := (⟨"MethodWardenModel", "sift", "(II)I"⟩, prog_14_method_48_code, 7, some .int, tb_Mod_sift)
theorem yok_Mod_sift : yOK Y_Mod_sift := ⟨by decide +kernel, by decide +kernel, inWG 1412 (by decide +kernel) (by decide +kernel), inWG 107 (by decide +kernel) (by decide +kernel), by decide +kernel⟩
theorem fl_Mod_306 : fldOK "MethodWardenModel" 306 11 55 false := ⟨_, _, _, cls_Mod, by decide, by decide, rfl, Or.inl (inWG 1142 (by decide +kernel) (by decide +kernel))⟩
theorem fl_Mod_124 : fldOK "MethodWardenModel" 124 11 56 false := ⟨_, _, _, cls_Mod, by decide, by decide, rfl, Or.inl (inWG 1143 (by decide +kernel) (by decide +kernel))⟩
theorem fl_Mod_121 : fldOK "MethodWardenModel" 121 11 53 false := ⟨_, _, _, cls_Mod, by decide, by decide, rfl, Or.inl (inWG 1140 (by decide +kernel) (by decide +kernel))⟩
def f_Mod_sift_49 (K22 : Int32 → Int32 → Int32 → Int32 → Int32 → ax_M → Option (Int32 × ax_M)) (l1 : Int32) (l2 : Int32) (l3 : Int32) (l4 : Int32) (l5 : Int32) (s0 : Int32) (M : ax_M) : Option (Int32 × ax_M) :=
  kM (mI M 184 38 1) (fun M6 => kM (mI M6 184 39 s0) (fun M7 => bnd (f_Mod_work l1 M7) (fun q8 M9 => if (gI M9 202 (Int32.toNatClampNeg 0)) = 1 then (if (lg_cmp (gJ M9 203 (Int32.toNatClampNeg 0)) 1) = 0 then (gi l4 5 (kM (mI M9 219 l4.toNatClampNeg s0) (fun M14 => kM (l4 + 1) (fun x15 => kM (l5 + 1) (fun x16 => K22 l1 l2 l3 x15 x16 M14))))) else (kM (l5 + 1) (fun x12 => K22 l1 l2 l3 l4 x12 M9))) else (some ((-1), M9)))))
set_option maxHeartbeats 4000000 in
set_option maxRecDepth 100000 in
theorem o_Mod_sift_49 {l : Launch} {g : ax_G} (K22 : Int32 → Int32 → Int32 → Int32 → Int32 → ax_M → Option (Int32 × ax_M)) (hK22 : ∀ (l1 : Int32) (l2 : Int32) (l3 : Int32) (l4 : Int32) (l5 : Int32) (M : ax_M) (r : Int32) (M' : ax_M), K22 l1 l2 l3 l4 l5 M = some (r, M') → AW l g true Y_Mod_sift 5 (some (vI r), M') 22 [(0, vA 184), (1, vI l1), (2, vI l2), (3, vI l3), (4, vI l4), (5, vI l5)] [] M) (l1 : Int32) (l2 : Int32) (l3 : Int32) (l4 : Int32) (l5 : Int32) (s0 : Int32) (M : ax_M) (r : Int32) (M' : ax_M) (h : f_Mod_sift_49 K22 l1 l2 l3 l4 l5 s0 M = some (r, M')) : AW l g true Y_Mod_sift 5 (some (vI r), M') 49 [(0, vA 184), (1, vI l1), (2, vI l2), (3, vI l3), (4, vI l4), (5, vI l5)] [vI s0] M := by
  unfold f_Mod_sift_49 at h
  refine A_istore (Ls' := [(6, vI s0), (0, vA 184), (1, vI l1), (2, vI l2), (3, vI l3), (4, vI l4), (5, vI l5)]) rfl (by decide) rfl ?_
  refine A_aload_n 1 rfl rfl rfl ?_
  refine A_iconst (v := 1) rfl (by decide) ?_
  refine A_putZ rfl (Or.inl fl_Mod_242) rfl (by decide) (Or.inl rfl) rfl (Or.inr rfl) ?_
  obtain ⟨M6, hM6, h⟩ := kM_out h
  refine A_mem hM6 ?_
  refine A_aload_n 1 rfl rfl rfl ?_
  refine A_pc (pc' := 57) rfl ?_
  refine A_iload 0 rfl rfl ?_
  refine A_putI rfl (Or.inl fl_Mod_246) rfl (by decide) (Or.inl rfl) rfl ?_
  obtain ⟨M7, hM7, h⟩ := kM_out h
  refine A_mem hM7 ?_
  refine A_aload_n 1 rfl rfl rfl ?_
  refine A_iload_n 2 rfl rfl rfl ?_
  obtain ⟨q8, M9, hcq8, h⟩ := bnd_out h
  refine A_callV (ci := 11) (as := [vI l1]) (st' := []) (r1 := (none, M9)) rfl ml_Mod_297 rfl (by decide) (by decide) (Or.inl rfl) rfl rfl (Nat.le_of_ble_eq_true rfl) (by decide) (c_Mod_work hcq8) (Or.inl rfl) ?_
  refine A_pc (pc' := 67) rfl ?_
  refine A_stk (st' := []) rfl ?_
  refine A_aload_n 1 rfl rfl rfl ?_
  refine A_pc (pc' := 68) rfl ?_
  refine A_getL (r := 202) rfl fl_Mod_66 rfl (by decide) rfl rfl ?_
  refine A_iconst (v := 0) rfl (by decide) ?_
  refine A_iald (n := 48) rfl (by decide) (by decide) (Or.inl rfl) (show vp_in 0 48 from by unfold vp_in; decide) ?_
  refine A_iconst (v := 1) rfl (by decide) ?_
  refine A_icmp_eq (tgt := 79) rfl (by decide) (fun hc10 => ?_) (fun hc10 => ?_)
  · rw [if_pos hc10] at h
    refine A_aload_n 1 rfl rfl rfl ?_
    refine A_getL (r := 203) rfl fl_Mod_69 rfl (by decide) rfl rfl ?_
    refine A_iconst (v := 0) rfl (by decide) ?_
    refine A_lald (n := 48) rfl (by decide) (by decide) (Or.inl rfl) (show vp_in 0 48 from by unfold vp_in; decide) ?_
    refine A_lconst (v := 1) rfl (by decide) ?_
    refine A_pc (pc' := 86) rfl ?_
    refine A_lcmp rfl ?_
    refine A_if_ne (tgt := 102) rfl (by decide) (fun hc11 => ?_) (fun hc11 => ?_)
    · rw [if_neg hc11] at h
      obtain ⟨x12, hx12, h⟩ := kM_out h
      refine A_iinc 6 (v := x12) (Ls' := [(5, vI x12), (6, vI s0), (0, vA 184), (1, vI l1), (2, vI l2), (3, vI l3), (4, vI l4)]) rfl rfl ((iiN (k := 1) (by decide) _).trans hx12) (by decide) rfl ?_
      refine A_goto (tgt := 22) rfl (by decide) ?_
      refine A_pc (pc' := 22) rfl ?_
      refine A_sub (Ls' := [(0, vA 184), (1, vI l1), (2, vI l2), (3, vI l3), (4, vI l4), (5, vI x12)]) [2, 3, 4, 5, 6, 0] rfl ?_
      exact hK22 _ _ _ _ _ _ _ _ h
    · rw [if_pos hc11] at h
      refine A_pc (pc' := 90) rfl ?_
      refine A_aload_n 1 rfl rfl rfl ?_
      refine A_getL (r := 219) rfl fl_Mod_121 rfl (by decide) rfl rfl ?_
      refine A_iload 5 rfl rfl ?_
      refine A_iload 0 rfl rfl ?_
      obtain ⟨hg13, h⟩ := gi_out h
      refine A_iast (n := 5) rfl (by decide) (by decide) (Or.inl rfl) hg13 ?_
      obtain ⟨M14, hM14, h⟩ := kM_out h
      refine A_mem hM14 ?_
      refine A_pc (pc' := 99) rfl ?_
      obtain ⟨x15, hx15, h⟩ := kM_out h
      refine A_iinc 5 (v := x15) (Ls' := [(4, vI x15), (6, vI s0), (0, vA 184), (1, vI l1), (2, vI l2), (3, vI l3), (5, vI l5)]) rfl rfl ((iiN (k := 1) (by decide) _).trans hx15) (by decide) rfl ?_
      obtain ⟨x16, hx16, h⟩ := kM_out h
      refine A_iinc 6 (v := x16) (Ls' := [(5, vI x16), (4, vI x15), (6, vI s0), (0, vA 184), (1, vI l1), (2, vI l2), (3, vI l3)]) rfl rfl ((iiN (k := 1) (by decide) _).trans hx16) (by decide) rfl ?_
      refine A_goto (tgt := 22) rfl (by decide) ?_
      refine A_pc (pc' := 22) rfl ?_
      refine A_sub (Ls' := [(0, vA 184), (1, vI l1), (2, vI l2), (3, vI l3), (4, vI x15), (5, vI x16)]) [3, 4, 5, 6, 1, 0] rfl ?_
      exact hK22 _ _ _ _ _ _ _ _ h
  · rw [if_neg hc10] at h
    refine A_pc (pc' := 77) rfl ?_
    refine A_iconst (v := (-1)) rfl (by decide) ?_
    obtain ⟨rfl, rfl⟩ := leaf h
    exact A_iret rfl rfl
def f_Mod_sift_22_b (K22 : Int32 → Int32 → Int32 → Int32 → Int32 → ax_M → Option (Int32 × ax_M)) (l1 : Int32) (l2 : Int32) (l3 : Int32) (l4 : Int32) (l5 : Int32) (M : ax_M) : Option (Int32 × ax_M) :=
  if l3 ≤ l5 then (some (l4, M)) else (if l2 = 0 then (gi l5 5 (f_Mod_sift_49 K22 l1 l2 l3 l4 l5 (gI M 212 l5.toNatClampNeg) M)) else (gi l5 5 (f_Mod_sift_49 K22 l1 l2 l3 l4 l5 (gI M 220 l5.toNatClampNeg) M)))
def f_Mod_sift_22 : Nat → Int32 → Int32 → Int32 → Int32 → Int32 → ax_M → Option (Int32 × ax_M)
  | 0, _, _, _, _, _, _ => none
  | n + 1, l1, l2, l3, l4, l5, M => f_Mod_sift_22_b  (f_Mod_sift_22 n) l1 l2 l3 l4 l5 M
set_option maxHeartbeats 4000000 in
set_option maxRecDepth 100000 in
theorem o_Mod_sift_22_b {l : Launch} {g : ax_G} (K22 : Int32 → Int32 → Int32 → Int32 → Int32 → ax_M → Option (Int32 × ax_M)) (hK22 : ∀ (l1 : Int32) (l2 : Int32) (l3 : Int32) (l4 : Int32) (l5 : Int32) (M : ax_M) (r : Int32) (M' : ax_M), K22 l1 l2 l3 l4 l5 M = some (r, M') → AW l g true Y_Mod_sift 5 (some (vI r), M') 22 [(0, vA 184), (1, vI l1), (2, vI l2), (3, vI l3), (4, vI l4), (5, vI l5)] [] M) (l1 : Int32) (l2 : Int32) (l3 : Int32) (l4 : Int32) (l5 : Int32) (M : ax_M) (r : Int32) (M' : ax_M) (h : f_Mod_sift_22_b  K22 l1 l2 l3 l4 l5 M = some (r, M')) : AW l g true Y_Mod_sift 5 (some (vI r), M') 22 [(0, vA 184), (1, vI l1), (2, vI l2), (3, vI l3), (4, vI l4), (5, vI l5)] [] M := by
  unfold f_Mod_sift_22_b at h
  refine A_iload 5 rfl rfl ?_
  refine A_iload_n 3 rfl rfl rfl ?_
  refine A_icmp_ge (tgt := 108) rfl (by decide) (fun hc3 => ?_) (fun hc3 => ?_)
  · rw [if_pos hc3] at h
    refine A_iload 4 rfl rfl ?_
    obtain ⟨rfl, rfl⟩ := leaf h
    exact A_iret rfl rfl
  · rw [if_neg hc3] at h
    refine A_pc (pc' := 28) rfl ?_
    refine A_iload_n 2 rfl rfl rfl ?_
    refine A_if_ne (tgt := 42) rfl (by decide) (fun hc4 => ?_) (fun hc4 => ?_)
    · rw [if_neg hc4] at h
      refine A_aload_n 0 rfl rfl rfl ?_
      refine A_getL (r := 220) rfl fl_Mod_124 rfl (by decide) rfl rfl ?_
      refine A_iload 5 rfl rfl ?_
      obtain ⟨hg5, h⟩ := gi_out h
      refine A_iald (n := 5) rfl (by decide) (by decide) (Or.inl rfl) hg5 ?_
      refine A_pc (pc' := 49) rfl ?_
      refine A_sub (Ls' := [(0, vA 184), (1, vI l1), (2, vI l2), (3, vI l3), (4, vI l4), (5, vI l5)]) [0, 1, 2, 3, 4, 5] rfl ?_
      exact o_Mod_sift_49 K22 hK22 _ _ _ _ _ _ _ _ _ h
    · rw [if_pos hc4] at h
      refine A_pc (pc' := 32) rfl ?_
      refine A_aload_n 0 rfl rfl rfl ?_
      refine A_getL (r := 212) rfl fl_Mod_97 rfl (by decide) rfl rfl ?_
      refine A_iload 5 rfl rfl ?_
      obtain ⟨hg17, h⟩ := gi_out h
      refine A_iald (n := 5) rfl (by decide) (by decide) (Or.inl rfl) hg17 ?_
      refine A_goto (tgt := 49) rfl (by decide) ?_
      refine A_pc (pc' := 49) rfl ?_
      refine A_sub (Ls' := [(0, vA 184), (1, vI l1), (2, vI l2), (3, vI l3), (4, vI l4), (5, vI l5)]) [0, 1, 2, 3, 4, 5] rfl ?_
      exact o_Mod_sift_49 K22 hK22 _ _ _ _ _ _ _ _ _ h
theorem o_Mod_sift_22 {l : Launch} {g : ax_G} : ∀ (n : Nat) (l1 : Int32) (l2 : Int32) (l3 : Int32) (l4 : Int32) (l5 : Int32) (M : ax_M) (r : Int32) (M' : ax_M), f_Mod_sift_22  n l1 l2 l3 l4 l5 M = some (r, M') → AW l g true Y_Mod_sift 5 (some (vI r), M') 22 [(0, vA 184), (1, vI l1), (2, vI l2), (3, vI l3), (4, vI l4), (5, vI l5)] [] M := by
  intro n
  induction n with
  | zero =>
    intro l1 l2 l3 l4 l5 M r M' h
    cases h
  | succ n ih =>
    intro l1 l2 l3 l4 l5 M r M' h
    exact o_Mod_sift_22_b  _ ih _ _ _ _ _ _ _ _ h
def f_Mod_sift (a1 : Int32) (a2 : Int32) (M : ax_M) : Option (Int32 × ax_M) :=
  if a2 = 0 then (kM (gI M 184 43) (fun x18 => f_Mod_sift_22 64 a1 a2 x18 0 0 M)) else (kM (gI M 184 55) (fun x2 => f_Mod_sift_22 64 a1 a2 x2 0 0 M))
set_option maxHeartbeats 4000000 in
set_option maxRecDepth 100000 in
theorem c_Mod_sift {l : Launch} {g : ax_G} {a1 : Int32} {a2 : Int32} {M : ax_M} {r : Int32} {M' : ax_M} (h : f_Mod_sift a1 a2 M = some (r, M')) : Ctr l g true Y_Mod_sift 5 [vA 184, vI a1, vI a2] M (some (vI r), M') := by
  refine Ctr.ofAW yok_Mod_sift (Nat.le_of_ble_eq_true rfl) (Or.inl rfl) ?_
  show AW l g true Y_Mod_sift 5 (some (vI r), M') 0 [(0, vA 184), (1, vI a1), (2, vI a2)] [] M
  unfold f_Mod_sift at h
  refine A_iload_n 2 rfl rfl rfl ?_
  refine A_if_ne (tgt := 11) rfl (by decide) (fun hc1 => ?_) (fun hc1 => ?_)
  · rw [if_neg hc1] at h
    refine A_aload_n 0 rfl rfl rfl ?_
    refine A_getI rfl fl_Mod_306 rfl (by decide) (Or.inl rfl) ?_
    obtain ⟨x2, hx2, h⟩ := kM_out h
    refine A_nI hx2 ?_
    refine A_istore_n (Ls' := [(3, vI x2), (0, vA 184), (1, vI a1), (2, vI a2)]) rfl rfl (by decide) rfl ?_
    refine A_iconst (v := 0) rfl (by decide) ?_
    refine A_istore (Ls' := [(4, vI 0), (3, vI x2), (0, vA 184), (1, vI a1), (2, vI a2)]) rfl (by decide) rfl ?_
    refine A_pc (pc' := 19) rfl ?_
    refine A_iconst (v := 0) rfl (by decide) ?_
    refine A_istore (Ls' := [(5, vI 0), (4, vI 0), (3, vI x2), (0, vA 184), (1, vI a1), (2, vI a2)]) rfl (by decide) rfl ?_
    refine A_pc (pc' := 22) rfl ?_
    refine A_sub (Ls' := [(0, vA 184), (1, vI a1), (2, vI a2), (3, vI x2), (4, vI 0), (5, vI 0)]) [3, 4, 5, 2, 1, 0] rfl ?_
    exact o_Mod_sift_22  _ _ _ _ _ _ _ _ _ h
  · rw [if_pos hc1] at h
    refine A_pc (pc' := 4) rfl ?_
    refine A_aload_n 0 rfl rfl rfl ?_
    refine A_getI rfl fl_Mod_249 rfl (by decide) (Or.inl rfl) ?_
    refine A_goto (tgt := 15) rfl (by decide) ?_
    obtain ⟨x18, hx18, h⟩ := kM_out h
    refine A_nI hx18 ?_
    refine A_istore_n (Ls' := [(3, vI x18), (0, vA 184), (1, vI a1), (2, vI a2)]) rfl rfl (by decide) rfl ?_
    refine A_iconst (v := 0) rfl (by decide) ?_
    refine A_pc (pc' := 17) rfl ?_
    refine A_istore (Ls' := [(4, vI 0), (3, vI x18), (0, vA 184), (1, vI a1), (2, vI a2)]) rfl (by decide) rfl ?_
    refine A_iconst (v := 0) rfl (by decide) ?_
    refine A_istore (Ls' := [(5, vI 0), (4, vI 0), (3, vI x18), (0, vA 184), (1, vI a1), (2, vI a2)]) rfl (by decide) rfl ?_
    refine A_pc (pc' := 22) rfl ?_
    refine A_sub (Ls' := [(0, vA 184), (1, vI a1), (2, vI a2), (3, vI x18), (4, vI 0), (5, vI 0)]) [3, 4, 5, 2, 1, 0] rfl ?_
    exact o_Mod_sift_22  _ _ _ _ _ _ _ _ _ h
def tb_Mod_open : List (Nat × Instr × Nat) := [(0, .aload_n 0, 1), (1, .getfield 303, 3), (4, .istore_n 2, 1), (5, .aload_n 0, 1), (6, .getfield 106, 3), (9, .iload_n 2, 1), (10, .iload_n 1, 1), (11, .iastore, 1), (12, .aload_n 0, 1), (13, .getfield 112, 3), (16, .iload_n 2, 1), (17, .aload_n 0, 1), (18, .getfield 249, 3), (21, .iastore, 1), (22, .iconst 0, 1), (23, .istore_n 3, 1), (24, .iload_n 3, 1), (25, .aload_n 0, 1), (26, .getfield 249, 3), (29, .if_icmp .ge 25, 3), (32, .aload_n 0, 1), (33, .getfield 109, 3), (36, .iconst 5, 1), (37, .iload_n 2, 1), (38, .imul, 1), (39, .iload_n 3, 1), (40, .iadd, 1), (41, .aload_n 0, 1), (42, .getfield 97, 3), (45, .iload_n 3, 1), (46, .iaload, 1), (47, .iastore, 1), (48, .iinc 3 1, 3), (51, .goto (-27), 3), (54, .aload_n 0, 1), (55, .getfield 115, 3), (58, .iload_n 2, 1), (59, .aload_n 0, 1), (60, .getfield 32, 3), (63, .iastore, 1), (64, .aload_n 0, 1), (65, .getfield 118, 3), (68, .iload_n 2, 1), (69, .aload_n 0, 1), (70, .getfield 213, 3), (73, .iastore, 1), (74, .aload_n 0, 1), (75, .dup, 1), (76, .getfield 303, 3), (79, .iconst 1, 1), (80, .iadd, 1), (81, .putfield 303, 3), (84, .return_, 1)]
def Y_Mod_open : ax_Y := (⟨"MethodWardenModel", "open", "(I)V"⟩, prog_14_method_49_code, 4, none, tb_Mod_open)
theorem yok_Mod_open : yOK Y_Mod_open := ⟨by decide +kernel, by decide +kernel, inWG 1396 (by decide +kernel) (by decide +kernel), inWG 107 (by decide +kernel) (by decide +kernel), by decide +kernel⟩
theorem fl_Mod_106 : fldOK "MethodWardenModel" 106 11 47 false := ⟨_, _, _, cls_Mod, by decide, by decide, rfl, Or.inl (inWG 1134 (by decide +kernel) (by decide +kernel))⟩
theorem fl_Mod_115 : fldOK "MethodWardenModel" 115 11 50 false := ⟨_, _, _, cls_Mod, by decide, by decide, rfl, Or.inl (inWG 1137 (by decide +kernel) (by decide +kernel))⟩
theorem fl_Mod_118 : fldOK "MethodWardenModel" 118 11 51 false := ⟨_, _, _, cls_Mod, by decide, by decide, rfl, Or.inl (inWG 1138 (by decide +kernel) (by decide +kernel))⟩
def f_Mod_open_24_b (K24 : Int32 → Int32 → ax_M → Option (Unit × ax_M)) (l2 : Int32) (l3 : Int32) (M : ax_M) : Option (Unit × ax_M) :=
  if (gI M 184 43) ≤ l3 then (gi l2 8 (kM (mI M 217 l2.toNatClampNeg (gI M 184 13)) (fun M7 => kM (mI M7 218 l2.toNatClampNeg (gI M7 184 14)) (fun M8 => kM (mI M8 184 52 ((gI M8 184 52) + 1)) (fun M9 => some ((), M9)))))) else (gi l3 5 (gi ((5 * l2) + l3) 40 (kM (mI M 215 ((5 * l2) + l3).toNatClampNeg (gI M 212 l3.toNatClampNeg)) (fun M12 => kM (l3 + 1) (fun x13 => K24 l2 x13 M12)))))
def f_Mod_open_24 : Nat → Int32 → Int32 → ax_M → Option (Unit × ax_M)
  | 0, _, _, _ => none
  | n + 1, l2, l3, M => f_Mod_open_24_b  (f_Mod_open_24 n) l2 l3 M
set_option maxHeartbeats 4000000 in
set_option maxRecDepth 100000 in
theorem o_Mod_open_24_b {l : Launch} {g : ax_G} (K24 : Int32 → Int32 → ax_M → Option (Unit × ax_M)) (hK24 : ∀ (l2 : Int32) (l3 : Int32) (M : ax_M) (r : Unit) (M' : ax_M), K24 l2 l3 M = some (r, M') → AW l g true Y_Mod_open 1 (none, M') 24 [(0, vA 184), (2, vI l2), (3, vI l3)] [] M) (l2 : Int32) (l3 : Int32) (M : ax_M) (r : Unit) (M' : ax_M) (h : f_Mod_open_24_b  K24 l2 l3 M = some (r, M')) : AW l g true Y_Mod_open 1 (none, M') 24 [(0, vA 184), (2, vI l2), (3, vI l3)] [] M := by
  unfold f_Mod_open_24_b at h
  refine A_iload_n 2 rfl rfl rfl ?_
  refine A_aload_n 0 rfl rfl rfl ?_
  refine A_getI rfl fl_Mod_249 rfl (by decide) (Or.inl rfl) ?_
  refine A_icmp_ge (tgt := 54) rfl (by decide) (fun hc5 => ?_) (fun hc5 => ?_)
  · rw [if_pos hc5] at h
    refine A_aload_n 0 rfl rfl rfl ?_
    refine A_getL (r := 217) rfl fl_Mod_115 rfl (by decide) rfl rfl ?_
    refine A_iload_n 1 rfl rfl rfl ?_
    refine A_aload_n 0 rfl rfl rfl ?_
    refine A_getI rfl fl_Mod_32 rfl (by decide) (Or.inl rfl) ?_
    refine A_pc (pc' := 63) rfl ?_
    obtain ⟨hg6, h⟩ := gi_out h
    refine A_iast (n := 8) rfl (by decide) (by decide) (Or.inl rfl) hg6 ?_
    obtain ⟨M7, hM7, h⟩ := kM_out h
    refine A_mem hM7 ?_
    refine A_aload_n 0 rfl rfl rfl ?_
    refine A_getL (r := 218) rfl fl_Mod_118 rfl (by decide) rfl rfl ?_
    refine A_iload_n 1 rfl rfl rfl ?_
    refine A_aload_n 0 rfl rfl rfl ?_
    refine A_getI rfl fl_Mod_213 rfl (by decide) (Or.inl rfl) ?_
    refine A_pc (pc' := 73) rfl ?_
    refine A_iast (n := 8) rfl (by decide) (by decide) (Or.inl rfl) hg6 ?_
    obtain ⟨M8, hM8, h⟩ := kM_out h
    refine A_mem hM8 ?_
    refine A_aload_n 0 rfl rfl rfl ?_
    refine A_dup rfl rfl ?_
    refine A_getI rfl fl_Mod_303 rfl (by decide) (Or.inl rfl) ?_
    refine A_iconst (v := 1) rfl (by decide) ?_
    refine A_iadd rfl ?_
    refine A_pc (pc' := 81) rfl ?_
    refine A_putI rfl (Or.inl fl_Mod_303) rfl (by decide) (Or.inl rfl) rfl ?_
    obtain ⟨M9, hM9, h⟩ := kM_out h
    refine A_mem hM9 ?_
    obtain ⟨rfl, rfl⟩ := leaf h
    exact A_vret rfl rfl
  · rw [if_neg hc5] at h
    refine A_pc (pc' := 32) rfl ?_
    refine A_aload_n 0 rfl rfl rfl ?_
    refine A_getL (r := 215) rfl fl_Mod_109 rfl (by decide) rfl rfl ?_
    refine A_iconst (v := 5) rfl (by decide) ?_
    refine A_iload_n 1 rfl rfl rfl ?_
    refine A_imul rfl ?_
    refine A_pc (pc' := 39) rfl ?_
    refine A_iload_n 2 rfl rfl rfl ?_
    refine A_iadd rfl ?_
    refine A_aload_n 0 rfl rfl rfl ?_
    refine A_getL (r := 212) rfl fl_Mod_97 rfl (by decide) rfl rfl ?_
    refine A_iload_n 2 rfl rfl rfl ?_
    obtain ⟨hg10, h⟩ := gi_out h
    refine A_iald (n := 5) rfl (by decide) (by decide) (Or.inl rfl) hg10 ?_
    refine A_pc (pc' := 47) rfl ?_
    obtain ⟨hg11, h⟩ := gi_out h
    refine A_iast (n := 40) rfl (by decide) (by decide) (Or.inl rfl) hg11 ?_
    obtain ⟨M12, hM12, h⟩ := kM_out h
    refine A_mem hM12 ?_
    obtain ⟨x13, hx13, h⟩ := kM_out h
    refine A_iinc 2 (v := x13) (Ls' := [(3, vI x13), (0, vA 184), (2, vI l2)]) rfl rfl ((iiN (k := 1) (by decide) _).trans hx13) (by decide) rfl ?_
    refine A_goto (tgt := 24) rfl (by decide) ?_
    refine A_pc (pc' := 24) rfl ?_
    refine A_sub (Ls' := [(0, vA 184), (2, vI l2), (3, vI x13)]) [1, 2, 0] rfl ?_
    exact hK24 _ _ _ _ _ h
theorem o_Mod_open_24 {l : Launch} {g : ax_G} : ∀ (n : Nat) (l2 : Int32) (l3 : Int32) (M : ax_M) (r : Unit) (M' : ax_M), f_Mod_open_24  n l2 l3 M = some (r, M') → AW l g true Y_Mod_open 1 (none, M') 24 [(0, vA 184), (2, vI l2), (3, vI l3)] [] M := by
  intro n
  induction n with
  | zero =>
    intro l2 l3 M r M' h
    cases h
  | succ n ih =>
    intro l2 l3 M r M' h
    exact o_Mod_open_24_b  _ ih _ _ _ _ _ h
def f_Mod_open (a1 : Int32) (M : ax_M) : Option (Unit × ax_M) :=
  kM (gI M 184 52) (fun x1 => gi x1 8 (kM (mI M 214 x1.toNatClampNeg a1) (fun M3 => kM (mI M3 216 x1.toNatClampNeg (gI M3 184 43)) (fun M4 => f_Mod_open_24 64 x1 0 M4))))
set_option maxHeartbeats 4000000 in
set_option maxRecDepth 100000 in
theorem c_Mod_open {l : Launch} {g : ax_G} {a1 : Int32} {M : ax_M} {r : Unit} {M' : ax_M} (h : f_Mod_open a1 M = some (r, M')) : Ctr l g true Y_Mod_open 1 [vA 184, vI a1] M (none, M') := by
  refine Ctr.ofAW yok_Mod_open (Nat.le_of_ble_eq_true rfl) (Or.inl rfl) ?_
  show AW l g true Y_Mod_open 1 (none, M') 0 [(0, vA 184), (1, vI a1)] [] M
  unfold f_Mod_open at h
  refine A_aload_n 0 rfl rfl rfl ?_
  refine A_getI rfl fl_Mod_303 rfl (by decide) (Or.inl rfl) ?_
  obtain ⟨x1, hx1, h⟩ := kM_out h
  refine A_nI hx1 ?_
  refine A_istore_n (Ls' := [(2, vI x1), (0, vA 184), (1, vI a1)]) rfl rfl (by decide) rfl ?_
  refine A_aload_n 1 rfl rfl rfl ?_
  refine A_getL (r := 214) rfl fl_Mod_106 rfl (by decide) rfl rfl ?_
  refine A_pc (pc' := 9) rfl ?_
  refine A_iload_n 0 rfl rfl rfl ?_
  refine A_iload_n 2 rfl rfl rfl ?_
  obtain ⟨hg2, h⟩ := gi_out h
  refine A_iast (n := 8) rfl (by decide) (by decide) (Or.inl rfl) hg2 ?_
  obtain ⟨M3, hM3, h⟩ := kM_out h
  refine A_mem hM3 ?_
  refine A_aload_n 1 rfl rfl rfl ?_
  refine A_getL (r := 216) rfl fl_Mod_112 rfl (by decide) rfl rfl ?_
  refine A_iload_n 0 rfl rfl rfl ?_
  refine A_pc (pc' := 17) rfl ?_
  refine A_aload_n 1 rfl rfl rfl ?_
  refine A_getI rfl fl_Mod_249 rfl (by decide) (Or.inl rfl) ?_
  refine A_iast (n := 8) rfl (by decide) (by decide) (Or.inl rfl) hg2 ?_
  obtain ⟨M4, hM4, h⟩ := kM_out h
  refine A_mem hM4 ?_
  refine A_iconst (v := 0) rfl (by decide) ?_
  refine A_istore_n (Ls' := [(3, vI 0), (2, vI x1), (0, vA 184), (1, vI a1)]) rfl rfl (by decide) rfl ?_
  refine A_pc (pc' := 24) rfl ?_
  refine A_sub (Ls' := [(0, vA 184), (2, vI x1), (3, vI 0)]) [2, 1, 0] rfl ?_
  exact o_Mod_open_24  _ _ _ _ _ _ h
def tb_Mod_give : List (Nat × Instr × Nat) := [(0, .aload_n 0, 1), (1, .getfield 54, 3), (4, .iload_n 1, 1), (5, .iaload, 1), (6, .istore_n 2, 1), (7, .iload_n 2, 1), (8, .iconst 3, 1), (9, .if_icmp .eq 8, 3), (12, .iload_n 2, 1), (13, .iconst 5, 1), (14, .if_icmp .lt 24, 3), (17, .aload_n 0, 1), (18, .iload_n 2, 1), (19, .iconst 3, 1), (20, .if_icmp .ne 12, 3), (23, .aload_n 0, 1), (24, .getfield 57, 3), (27, .iload_n 1, 1), (28, .iaload, 1), (29, .goto 4, 3), (32, .iconst (-1), 1), (33, .putfield 306, 3), (36, .iconst 1, 1), (37, .ireturn, 1), (38, .aload_n 0, 1), (39, .iload_n 2, 1), (40, .ifCond .ne 7, 3), (43, .iconst 0, 1), (44, .goto 13, 3), (47, .iload_n 2, 1), (48, .iconst 1, 1), (49, .if_icmp .ne 7, 3), (52, .iconst 2, 1), (53, .goto 4, 3), (56, .iconst 4, 1), (57, .putfield 327, 3), (60, .aload_n 0, 1), (61, .iload_n 2, 1), (62, .ifCond .ne 7, 3), (65, .iconst 0, 1), (66, .goto 26, 3), (69, .iload_n 2, 1), (70, .iconst 1, 1), (71, .if_icmp .ne 17, 3), (74, .aload_n 0, 1), (75, .getfield 236, 3), (78, .aload_n 0, 1), (79, .getfield 57, 3), (82, .iload_n 1, 1), (83, .iaload, 1), (84, .iadd, 1), (85, .goto 7, 3), (88, .aload_n 0, 1), (89, .getfield 249, 3), (92, .putfield 306, 3), (95, .iconst 0, 1), (96, .istore_n 3, 1), (97, .iload_n 2, 1), (98, .iconst 1, 1), (99, .if_icmp .le 50, 3), (102, .iload_n 3, 1), (103, .aload_n 0, 1), (104, .getfield 249, 3), (107, .if_icmp .ge 42, 3), (110, .aload_n 0, 1), (111, .getfield 124, 3), (114, .iload_n 3, 1), (115, .iload_n 2, 1), (116, .iconst 2, 1), (117, .if_icmp .ne 19, 3), (120, .aload_n 0, 1), (121, .getfield 97, 3), (124, .iload_n 3, 1), (125, .iaload, 1), (126, .aload_n 0, 1), (127, .getfield 57, 3), (130, .iload_n 1, 1), (131, .iaload, 1), (132, .iadd, 1), (133, .goto 9, 3), (136, .aload_n 0, 1), (137, .getfield 97, 3), (140, .iload_n 3, 1), (141, .iaload, 1), (142, .iastore, 1), (143, .iinc 3 1, 3), (146, .goto (-49), 3), (149, .iconst 0, 1), (150, .ireturn, 1)]
def Y_Mod_give : ax_Y := (⟨"MethodWardenModel", "give", "(I)I"⟩, prog_14_method_51_code, 4, some .int, tb_Mod_give)
theorem yok_Mod_give : yOK Y_Mod_give := ⟨by decide +kernel, by decide +kernel, inWG 1485 (by decide +kernel) (by decide +kernel), inWG 107 (by decide +kernel) (by decide +kernel), by decide +kernel⟩
theorem fl_Mod_327 : fldOK "MethodWardenModel" 327 11 54 false := ⟨_, _, _, cls_Mod, by decide, by decide, rfl, Or.inl (inWG 1141 (by decide +kernel) (by decide +kernel))⟩
def f_Mod_give_17 (l1 : Int32) (l2 : Int32) (M : ax_M) : Option (Int32 × ax_M) :=
  if l2 = 3 then (gi l1 8 (kM (mI M 184 55 (gI M 199 l1.toNatClampNeg)) (fun M7 => some (1, M7)))) else (kM (mI M 184 55 ((-1))) (fun M5 => some (1, M5)))
set_option maxHeartbeats 4000000 in
set_option maxRecDepth 100000 in
theorem o_Mod_give_17 {l : Launch} {g : ax_G} (l1 : Int32) (l2 : Int32) (M : ax_M) (r : Int32) (M' : ax_M) (h : f_Mod_give_17  l1 l2 M = some (r, M')) : AW l g true Y_Mod_give 1 (some (vI r), M') 17 [(0, vA 184), (1, vI l1), (2, vI l2)] [] M := by
  unfold f_Mod_give_17 at h
  refine A_aload_n 0 rfl rfl rfl ?_
  refine A_iload_n 2 rfl rfl rfl ?_
  refine A_iconst (v := 3) rfl (by decide) ?_
  refine A_icmp_ne (tgt := 32) rfl (by decide) (fun hc4 => ?_) (fun hc4 => ?_)
  · rw [if_neg hc4] at h
    refine A_iconst (v := (-1)) rfl (by decide) ?_
    refine A_putI rfl (Or.inl fl_Mod_306) rfl (by decide) (Or.inl rfl) rfl ?_
    obtain ⟨M5, hM5, h⟩ := kM_out h
    refine A_mem hM5 ?_
    refine A_iconst (v := 1) rfl (by decide) ?_
    obtain ⟨rfl, rfl⟩ := leaf h
    exact A_iret rfl rfl
  · rw [if_pos hc4] at h
    refine A_pc (pc' := 23) rfl ?_
    refine A_aload_n 0 rfl rfl rfl ?_
    refine A_getL (r := 199) rfl fl_Mod_57 rfl (by decide) rfl rfl ?_
    refine A_iload_n 1 rfl rfl rfl ?_
    obtain ⟨hg6, h⟩ := gi_out h
    refine A_iald (n := 8) rfl (by decide) (by decide) (Or.inl rfl) hg6 ?_
    refine A_goto (tgt := 33) rfl (by decide) ?_
    refine A_pc (pc' := 33) rfl ?_
    refine A_putI rfl (Or.inl fl_Mod_306) rfl (by decide) (Or.inl rfl) rfl ?_
    obtain ⟨M7, hM7, h⟩ := kM_out h
    refine A_mem hM7 ?_
    refine A_iconst (v := 1) rfl (by decide) ?_
    obtain ⟨rfl, rfl⟩ := leaf h
    exact A_iret rfl rfl
def f_Mod_give_97_b (K97 : Int32 → Int32 → Int32 → ax_M → Option (Int32 × ax_M)) (l1 : Int32) (l2 : Int32) (l3 : Int32) (M : ax_M) : Option (Int32 × ax_M) :=
  if l2 ≤ 1 then (some (0, M)) else (if (gI M 184 43) ≤ l3 then (some (0, M)) else (if l2 = 2 then (gi l3 5 (gi l1 8 (kM (mI M 220 l3.toNatClampNeg ((gI M 212 l3.toNatClampNeg) + (gI M 199 l1.toNatClampNeg))) (fun M23 => kM (l3 + 1) (fun x24 => K97 l1 l2 x24 M23))))) else (gi l3 5 (kM (mI M 220 l3.toNatClampNeg (gI M 212 l3.toNatClampNeg)) (fun M19 => kM (l3 + 1) (fun x20 => K97 l1 l2 x20 M19))))))
def f_Mod_give_97 : Nat → Int32 → Int32 → Int32 → ax_M → Option (Int32 × ax_M)
  | 0, _, _, _, _ => none
  | n + 1, l1, l2, l3, M => f_Mod_give_97_b  (f_Mod_give_97 n) l1 l2 l3 M
set_option maxHeartbeats 4000000 in
set_option maxRecDepth 100000 in
theorem o_Mod_give_97_b {l : Launch} {g : ax_G} (K97 : Int32 → Int32 → Int32 → ax_M → Option (Int32 × ax_M)) (hK97 : ∀ (l1 : Int32) (l2 : Int32) (l3 : Int32) (M : ax_M) (r : Int32) (M' : ax_M), K97 l1 l2 l3 M = some (r, M') → AW l g true Y_Mod_give 1 (some (vI r), M') 97 [(0, vA 184), (1, vI l1), (2, vI l2), (3, vI l3)] [] M) (l1 : Int32) (l2 : Int32) (l3 : Int32) (M : ax_M) (r : Int32) (M' : ax_M) (h : f_Mod_give_97_b  K97 l1 l2 l3 M = some (r, M')) : AW l g true Y_Mod_give 1 (some (vI r), M') 97 [(0, vA 184), (1, vI l1), (2, vI l2), (3, vI l3)] [] M := by
  unfold f_Mod_give_97_b at h
  refine A_iload_n 2 rfl rfl rfl ?_
  refine A_iconst (v := 1) rfl (by decide) ?_
  refine A_icmp_le (tgt := 149) rfl (by decide) (fun hc15 => ?_) (fun hc15 => ?_)
  · rw [if_pos hc15] at h
    refine A_iconst (v := 0) rfl (by decide) ?_
    obtain ⟨rfl, rfl⟩ := leaf h
    exact A_iret rfl rfl
  · rw [if_neg hc15] at h
    refine A_pc (pc' := 102) rfl ?_
    refine A_iload_n 3 rfl rfl rfl ?_
    refine A_aload_n 0 rfl rfl rfl ?_
    refine A_getI rfl fl_Mod_249 rfl (by decide) (Or.inl rfl) ?_
    refine A_icmp_ge (tgt := 149) rfl (by decide) (fun hc16 => ?_) (fun hc16 => ?_)
    · rw [if_pos hc16] at h
      refine A_iconst (v := 0) rfl (by decide) ?_
      obtain ⟨rfl, rfl⟩ := leaf h
      exact A_iret rfl rfl
    · rw [if_neg hc16] at h
      refine A_pc (pc' := 110) rfl ?_
      refine A_aload_n 0 rfl rfl rfl ?_
      refine A_getL (r := 220) rfl fl_Mod_124 rfl (by decide) rfl rfl ?_
      refine A_iload_n 3 rfl rfl rfl ?_
      refine A_iload_n 2 rfl rfl rfl ?_
      refine A_iconst (v := 2) rfl (by decide) ?_
      refine A_pc (pc' := 117) rfl ?_
      refine A_icmp_ne (tgt := 136) rfl (by decide) (fun hc17 => ?_) (fun hc17 => ?_)
      · rw [if_neg hc17] at h
        refine A_aload_n 0 rfl rfl rfl ?_
        refine A_getL (r := 212) rfl fl_Mod_97 rfl (by decide) rfl rfl ?_
        refine A_iload_n 3 rfl rfl rfl ?_
        obtain ⟨hg18, h⟩ := gi_out h
        refine A_iald (n := 5) rfl (by decide) (by decide) (Or.inl rfl) hg18 ?_
        refine A_iast (n := 5) rfl (by decide) (by decide) (Or.inl rfl) hg18 ?_
        obtain ⟨M19, hM19, h⟩ := kM_out h
        refine A_mem hM19 ?_
        refine A_pc (pc' := 143) rfl ?_
        obtain ⟨x20, hx20, h⟩ := kM_out h
        refine A_iinc 3 (v := x20) (Ls' := [(3, vI x20), (0, vA 184), (1, vI l1), (2, vI l2)]) rfl rfl ((iiN (k := 1) (by decide) _).trans hx20) (by decide) rfl ?_
        refine A_goto (tgt := 97) rfl (by decide) ?_
        refine A_pc (pc' := 97) rfl ?_
        refine A_sub (Ls' := [(0, vA 184), (1, vI l1), (2, vI l2), (3, vI x20)]) [1, 2, 3, 0] rfl ?_
        exact hK97 _ _ _ _ _ _ h
      · rw [if_pos hc17] at h
        refine A_pc (pc' := 120) rfl ?_
        refine A_aload_n 0 rfl rfl rfl ?_
        refine A_getL (r := 212) rfl fl_Mod_97 rfl (by decide) rfl rfl ?_
        refine A_iload_n 3 rfl rfl rfl ?_
        obtain ⟨hg21, h⟩ := gi_out h
        refine A_iald (n := 5) rfl (by decide) (by decide) (Or.inl rfl) hg21 ?_
        refine A_aload_n 0 rfl rfl rfl ?_
        refine A_pc (pc' := 127) rfl ?_
        refine A_getL (r := 199) rfl fl_Mod_57 rfl (by decide) rfl rfl ?_
        refine A_iload_n 1 rfl rfl rfl ?_
        obtain ⟨hg22, h⟩ := gi_out h
        refine A_iald (n := 8) rfl (by decide) (by decide) (Or.inl rfl) hg22 ?_
        refine A_iadd rfl ?_
        refine A_goto (tgt := 142) rfl (by decide) ?_
        refine A_iast (n := 5) rfl (by decide) (by decide) (Or.inl rfl) hg21 ?_
        obtain ⟨M23, hM23, h⟩ := kM_out h
        refine A_mem hM23 ?_
        refine A_pc (pc' := 143) rfl ?_
        obtain ⟨x24, hx24, h⟩ := kM_out h
        refine A_iinc 3 (v := x24) (Ls' := [(3, vI x24), (0, vA 184), (1, vI l1), (2, vI l2)]) rfl rfl ((iiN (k := 1) (by decide) _).trans hx24) (by decide) rfl ?_
        refine A_goto (tgt := 97) rfl (by decide) ?_
        refine A_pc (pc' := 97) rfl ?_
        refine A_sub (Ls' := [(0, vA 184), (1, vI l1), (2, vI l2), (3, vI x24)]) [1, 2, 3, 0] rfl ?_
        exact hK97 _ _ _ _ _ _ h
theorem o_Mod_give_97 {l : Launch} {g : ax_G} : ∀ (n : Nat) (l1 : Int32) (l2 : Int32) (l3 : Int32) (M : ax_M) (r : Int32) (M' : ax_M), f_Mod_give_97  n l1 l2 l3 M = some (r, M') → AW l g true Y_Mod_give 1 (some (vI r), M') 97 [(0, vA 184), (1, vI l1), (2, vI l2), (3, vI l3)] [] M := by
  intro n
  induction n with
  | zero =>
    intro l1 l2 l3 M r M' h
    cases h
  | succ n ih =>
    intro l1 l2 l3 M r M' h
    exact o_Mod_give_97_b  _ ih _ _ _ _ _ _ h
def f_Mod_give_57 (l1 : Int32) (l2 : Int32) (s0 : Int32) (M : ax_M) : Option (Int32 × ax_M) :=
  kM (mI M 184 54 s0) (fun M11 => if l2 = 0 then (kM (mI M11 184 55 0) (fun M27 => f_Mod_give_97 64 l1 l2 0 M27)) else (if l2 = 1 then (gi l1 8 (kM (mI M11 184 55 ((gI M11 184 40) + (gI M11 199 l1.toNatClampNeg))) (fun M26 => f_Mod_give_97 64 l1 l2 0 M26))) else (kM (mI M11 184 55 (gI M11 184 43)) (fun M14 => f_Mod_give_97 64 l1 l2 0 M14))))
set_option maxHeartbeats 4000000 in
set_option maxRecDepth 100000 in
theorem o_Mod_give_57 {l : Launch} {g : ax_G} (l1 : Int32) (l2 : Int32) (s0 : Int32) (M : ax_M) (r : Int32) (M' : ax_M) (h : f_Mod_give_57  l1 l2 s0 M = some (r, M')) : AW l g true Y_Mod_give 1 (some (vI r), M') 57 [(0, vA 184), (1, vI l1), (2, vI l2)] [vI s0, vA 184] M := by
  unfold f_Mod_give_57 at h
  refine A_putI rfl (Or.inl fl_Mod_327) rfl (by decide) (Or.inl rfl) rfl ?_
  obtain ⟨M11, hM11, h⟩ := kM_out h
  refine A_mem hM11 ?_
  refine A_aload_n 0 rfl rfl rfl ?_
  refine A_iload_n 2 rfl rfl rfl ?_
  refine A_if_ne (tgt := 69) rfl (by decide) (fun hc12 => ?_) (fun hc12 => ?_)
  · rw [if_neg hc12] at h
    refine A_iload_n 2 rfl rfl rfl ?_
    refine A_iconst (v := 1) rfl (by decide) ?_
    refine A_icmp_ne (tgt := 88) rfl (by decide) (fun hc13 => ?_) (fun hc13 => ?_)
    · rw [if_neg hc13] at h
      refine A_aload_n 0 rfl rfl rfl ?_
      refine A_getI rfl fl_Mod_249 rfl (by decide) (Or.inl rfl) ?_
      refine A_putI rfl (Or.inl fl_Mod_306) rfl (by decide) (Or.inl rfl) rfl ?_
      obtain ⟨M14, hM14, h⟩ := kM_out h
      refine A_mem hM14 ?_
      refine A_iconst (v := 0) rfl (by decide) ?_
      refine A_istore_n (Ls' := [(3, vI 0), (0, vA 184), (1, vI l1), (2, vI l2)]) rfl rfl (by decide) rfl ?_
      refine A_pc (pc' := 97) rfl ?_
      refine A_sub (Ls' := [(0, vA 184), (1, vI l1), (2, vI l2), (3, vI 0)]) [1, 2, 3, 0] rfl ?_
      exact o_Mod_give_97  _ _ _ _ _ _ _ h
    · rw [if_pos hc13] at h
      refine A_pc (pc' := 74) rfl ?_
      refine A_aload_n 0 rfl rfl rfl ?_
      refine A_getI rfl fl_Mod_236 rfl (by decide) (Or.inl rfl) ?_
      refine A_aload_n 0 rfl rfl rfl ?_
      refine A_getL (r := 199) rfl fl_Mod_57 rfl (by decide) rfl rfl ?_
      refine A_iload_n 1 rfl rfl rfl ?_
      refine A_pc (pc' := 83) rfl ?_
      obtain ⟨hg25, h⟩ := gi_out h
      refine A_iald (n := 8) rfl (by decide) (by decide) (Or.inl rfl) hg25 ?_
      refine A_iadd rfl ?_
      refine A_goto (tgt := 92) rfl (by decide) ?_
      refine A_putI rfl (Or.inl fl_Mod_306) rfl (by decide) (Or.inl rfl) rfl ?_
      obtain ⟨M26, hM26, h⟩ := kM_out h
      refine A_mem hM26 ?_
      refine A_iconst (v := 0) rfl (by decide) ?_
      refine A_istore_n (Ls' := [(3, vI 0), (0, vA 184), (1, vI l1), (2, vI l2)]) rfl rfl (by decide) rfl ?_
      refine A_pc (pc' := 97) rfl ?_
      refine A_sub (Ls' := [(0, vA 184), (1, vI l1), (2, vI l2), (3, vI 0)]) [1, 2, 3, 0] rfl ?_
      exact o_Mod_give_97  _ _ _ _ _ _ _ h
  · rw [if_pos hc12] at h
    refine A_pc (pc' := 65) rfl ?_
    refine A_iconst (v := 0) rfl (by decide) ?_
    refine A_goto (tgt := 92) rfl (by decide) ?_
    refine A_putI rfl (Or.inl fl_Mod_306) rfl (by decide) (Or.inl rfl) rfl ?_
    obtain ⟨M27, hM27, h⟩ := kM_out h
    refine A_mem hM27 ?_
    refine A_iconst (v := 0) rfl (by decide) ?_
    refine A_istore_n (Ls' := [(3, vI 0), (0, vA 184), (1, vI l1), (2, vI l2)]) rfl rfl (by decide) rfl ?_
    refine A_pc (pc' := 97) rfl ?_
    refine A_sub (Ls' := [(0, vA 184), (1, vI l1), (2, vI l2), (3, vI 0)]) [1, 2, 3, 0] rfl ?_
    exact o_Mod_give_97  _ _ _ _ _ _ _ h
def f_Mod_give (a1 : Int32) (M : ax_M) : Option (Int32 × ax_M) :=
  gi a1 8 (kM (gI M 198 a1.toNatClampNeg) (fun x2 => if x2 = 3 then (f_Mod_give_17 a1 x2 M) else (if x2 < 5 then (if x2 = 0 then (f_Mod_give_57 a1 x2 0 M) else (if x2 = 1 then (f_Mod_give_57 a1 x2 2 M) else (f_Mod_give_57 a1 x2 4 M))) else (f_Mod_give_17 a1 x2 M))))
set_option maxHeartbeats 4000000 in
set_option maxRecDepth 100000 in
theorem c_Mod_give {l : Launch} {g : ax_G} {a1 : Int32} {M : ax_M} {r : Int32} {M' : ax_M} (h : f_Mod_give a1 M = some (r, M')) : Ctr l g true Y_Mod_give 1 [vA 184, vI a1] M (some (vI r), M') := by
  refine Ctr.ofAW yok_Mod_give (Nat.le_of_ble_eq_true rfl) (Or.inl rfl) ?_
  show AW l g true Y_Mod_give 1 (some (vI r), M') 0 [(0, vA 184), (1, vI a1)] [] M
  unfold f_Mod_give at h
  refine A_aload_n 0 rfl rfl rfl ?_
  refine A_getL (r := 198) rfl fl_Mod_54 rfl (by decide) rfl rfl ?_
  refine A_iload_n 1 rfl rfl rfl ?_
  obtain ⟨hg1, h⟩ := gi_out h
  refine A_iald (n := 8) rfl (by decide) (by decide) (Or.inl rfl) hg1 ?_
  obtain ⟨x2, hx2, h⟩ := kM_out h
  refine A_nI hx2 ?_
  refine A_istore_n (Ls' := [(2, vI x2), (0, vA 184), (1, vI a1)]) rfl rfl (by decide) rfl ?_
  refine A_pc (pc' := 7) rfl ?_
  refine A_iload_n 0 rfl rfl rfl ?_
  refine A_iconst (v := 3) rfl (by decide) ?_
  refine A_icmp_eq (tgt := 17) rfl (by decide) (fun hc3 => ?_) (fun hc3 => ?_)
  · rw [if_pos hc3] at h
    refine A_pc (pc' := 17) rfl ?_
    refine A_sub (Ls' := [(0, vA 184), (1, vI a1), (2, vI x2)]) [1, 2, 0] rfl ?_
    exact o_Mod_give_17  _ _ _ _ _ h
  · rw [if_neg hc3] at h
    refine A_pc (pc' := 12) rfl ?_
    refine A_iload_n 0 rfl rfl rfl ?_
    refine A_iconst (v := 5) rfl (by decide) ?_
    refine A_icmp_lt (tgt := 38) rfl (by decide) (fun hc8 => ?_) (fun hc8 => ?_)
    · rw [if_pos hc8] at h
      refine A_aload_n 1 rfl rfl rfl ?_
      refine A_iload_n 0 rfl rfl rfl ?_
      refine A_if_ne (tgt := 47) rfl (by decide) (fun hc9 => ?_) (fun hc9 => ?_)
      · rw [if_neg hc9] at h
        refine A_iload_n 0 rfl rfl rfl ?_
        refine A_iconst (v := 1) rfl (by decide) ?_
        refine A_icmp_ne (tgt := 56) rfl (by decide) (fun hc10 => ?_) (fun hc10 => ?_)
        · rw [if_neg hc10] at h
          refine A_iconst (v := 4) rfl (by decide) ?_
          refine A_pc (pc' := 57) rfl ?_
          refine A_sub (Ls' := [(0, vA 184), (1, vI a1), (2, vI x2)]) [1, 2, 0] rfl ?_
          exact o_Mod_give_57  _ _ _ _ _ _ h
        · rw [if_pos hc10] at h
          refine A_pc (pc' := 52) rfl ?_
          refine A_iconst (v := 2) rfl (by decide) ?_
          refine A_goto (tgt := 57) rfl (by decide) ?_
          refine A_pc (pc' := 57) rfl ?_
          refine A_sub (Ls' := [(0, vA 184), (1, vI a1), (2, vI x2)]) [1, 2, 0] rfl ?_
          exact o_Mod_give_57  _ _ _ _ _ _ h
      · rw [if_pos hc9] at h
        refine A_pc (pc' := 43) rfl ?_
        refine A_iconst (v := 0) rfl (by decide) ?_
        refine A_goto (tgt := 57) rfl (by decide) ?_
        refine A_pc (pc' := 57) rfl ?_
        refine A_sub (Ls' := [(0, vA 184), (1, vI a1), (2, vI x2)]) [1, 2, 0] rfl ?_
        exact o_Mod_give_57  _ _ _ _ _ _ h
    · rw [if_neg hc8] at h
      refine A_pc (pc' := 17) rfl ?_
      refine A_pc (pc' := 17) rfl ?_
      refine A_sub (Ls' := [(0, vA 184), (1, vI a1), (2, vI x2)]) [1, 2, 0] rfl ?_
      exact o_Mod_give_17  _ _ _ _ _ h
