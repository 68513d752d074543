/-! The reference: tokens. Printed by gen_methods.py. -/
def tb_Mod_type : List (Nat × Instr × Nat) := [(0, .iload_n 1, 1), (1, .bipush 32, 2), (3, .if_icmp .lt 18, 3), (6, .iload_n 1, 1), (7, .bipush 126, 2), (9, .if_icmp .gt 12, 3), (12, .aload_n 0, 1), (13, .getfield 133, 3), (16, .bipush 48, 2), (18, .if_icmp .lt 5, 3), (21, .iconst 0, 1), (22, .ireturn, 1), (23, .aload_n 0, 1), (24, .getfield 7, 3), (27, .aload_n 0, 1), (28, .getfield 133, 3), (31, .iload_n 1, 1), (32, .iastore, 1), (33, .aload_n 0, 1), (34, .dup, 1), (35, .getfield 133, 3), (38, .iconst 1, 1), (39, .iadd, 1), (40, .putfield 133, 3), (43, .iconst 1, 1), (44, .ireturn, 1)]
def Y_Mod_type : ax_Y := (⟨"MethodWardenModel", "type", "(C)Z"⟩, prog_14_method_2_code, 2, some .boolean, tb_Mod_type)
theorem yok_Mod_type : yOK Y_Mod_type := ⟨by decide +kernel, by decide +kernel, inWG 1275 (by decide +kernel) (by decide +kernel), inWG 107 (by decide +kernel) (by decide +kernel), by decide +kernel⟩
theorem fl_Mod_133 : fldOK "MethodWardenModel" 133 11 1 false := ⟨_, _, _, cls_Mod, by decide, by decide, rfl, Or.inl (inWG 1088 (by decide +kernel) (by decide +kernel))⟩
theorem fl_Mod_7 : fldOK "MethodWardenModel" 7 11 0 false := ⟨_, _, _, cls_Mod, by decide, by decide, rfl, Or.inl (inWG 1087 (by decide +kernel) (by decide +kernel))⟩
def f_Mod_type (a1 : Int32) (M : ax_M) : Option (Int32 × ax_M) :=
  if a1 < 32 then (some (0, M)) else (if 126 < a1 then (some (0, M)) else (if (gI M 184 1) < 48 then (gi (gI M 184 1) 48 (kM (mI M 185 (gI M 184 1).toNatClampNeg a1) (fun M5 => kM (mI M5 184 1 ((gI M5 184 1) + 1)) (fun M6 => some (1, M6))))) else (some (0, M))))
set_option maxHeartbeats 4000000 in
set_option maxRecDepth 100000 in
theorem c_Mod_type {l : Launch} {g : ax_G} {a1 : Int32} {M : ax_M} {r : Int32} {M' : ax_M} (h : f_Mod_type a1 M = some (r, M')) : Ctr l g true Y_Mod_type 1 [vA 184, vI a1] M (some (vI r), M') := by
  refine Ctr.ofAW yok_Mod_type (Nat.le_of_ble_eq_true rfl) (Or.inl rfl) ?_
  show AW l g true Y_Mod_type 1 (some (vI r), M') 0 [(0, vA 184), (1, vI a1)] [] M
  unfold f_Mod_type at h
  refine A_iload_n 1 rfl rfl rfl ?_
  refine A_bipush (v := 32) rfl (by decide) ?_
  refine A_icmp_lt (tgt := 21) rfl (by decide) (fun hc1 => ?_) (fun hc1 => ?_)
  · rw [if_pos hc1] at h
    refine A_iconst (v := 0) rfl (by decide) ?_
    obtain ⟨rfl, rfl⟩ := leaf h
    exact A_zret rfl rfl (Or.inl rfl)
  · rw [if_neg hc1] at h
    refine A_pc (pc' := 6) rfl ?_
    refine A_iload_n 1 rfl rfl rfl ?_
    refine A_bipush (v := 126) rfl (by decide) ?_
    refine A_icmp_gt (tgt := 21) rfl (by decide) (fun hc2 => ?_) (fun hc2 => ?_)
    · rw [if_pos hc2] at h
      refine A_iconst (v := 0) rfl (by decide) ?_
      obtain ⟨rfl, rfl⟩ := leaf h
      exact A_zret rfl rfl (Or.inl rfl)
    · rw [if_neg hc2] at h
      refine A_pc (pc' := 12) rfl ?_
      refine A_aload_n 0 rfl rfl rfl ?_
      refine A_getI rfl fl_Mod_133 rfl (by decide) (Or.inl rfl) ?_
      refine A_bipush (v := 48) rfl (by decide) ?_
      refine A_icmp_lt (tgt := 23) rfl (by decide) (fun hc3 => ?_) (fun hc3 => ?_)
      · rw [if_pos hc3] at h
        refine A_aload_n 0 rfl rfl rfl ?_
        refine A_getL (r := 185) rfl fl_Mod_7 rfl (by decide) rfl rfl ?_
        refine A_aload_n 0 rfl rfl rfl ?_
        refine A_getI rfl fl_Mod_133 rfl (by decide) (Or.inl rfl) ?_
        refine A_iload_n 1 rfl rfl rfl ?_
        refine A_pc (pc' := 32) rfl ?_
        obtain ⟨hg4, h⟩ := gi_out h
        refine A_iast (n := 48) rfl (by decide) (by decide) (Or.inl rfl) hg4 ?_
        obtain ⟨M5, hM5, h⟩ := kM_out h
        refine A_mem hM5 ?_
        refine A_aload_n 0 rfl rfl rfl ?_
        refine A_dup rfl rfl ?_
        refine A_getI rfl fl_Mod_133 rfl (by decide) (Or.inl rfl) ?_
        refine A_iconst (v := 1) rfl (by decide) ?_
        refine A_iadd rfl ?_
        refine A_pc (pc' := 40) rfl ?_
        refine A_putI rfl (Or.inl fl_Mod_133) rfl (by decide) (Or.inl rfl) rfl ?_
        obtain ⟨M6, hM6, h⟩ := kM_out h
        refine A_mem hM6 ?_
        refine A_iconst (v := 1) rfl (by decide) ?_
        obtain ⟨rfl, rfl⟩ := leaf h
        exact A_zret rfl rfl (Or.inr rfl)
      · rw [if_neg hc3] at h
        refine A_pc (pc' := 21) rfl ?_
        refine A_iconst (v := 0) rfl (by decide) ?_
        obtain ⟨rfl, rfl⟩ := leaf h
        exact A_zret rfl rfl (Or.inl rfl)
def tb_Mod_at : List (Nat × Instr × Nat) := [(0, .iload_n 1, 1), (1, .aload_n 0, 1), (2, .getfield 133, 3), (5, .if_icmp .ge 12, 3), (8, .aload_n 0, 1), (9, .getfield 7, 3), (12, .iload_n 1, 1), (13, .iaload, 1), (14, .goto 4, 3), (17, .iconst 0, 1), (18, .ireturn, 1)]
def Y_Mod_at : ax_Y := (⟨"MethodWardenModel", "at", "(I)I"⟩, prog_14_method_3_code, 2, some .int, tb_Mod_at)
theorem yok_Mod_at : yOK Y_Mod_at := ⟨by decide +kernel, by decide +kernel, inWG 1287 (by decide +kernel) (by decide +kernel), inWG 107 (by decide +kernel) (by decide +kernel), by decide +kernel⟩
def f_Mod_at (a1 : Int32) (M : ax_M) : Option (Int32 × ax_M) :=
  if (gI M 184 1) ≤ a1 then (some (0, M)) else (gi a1 48 (some (gI M 185 a1.toNatClampNeg, M)))
set_option maxHeartbeats 4000000 in
set_option maxRecDepth 100000 in
theorem c_Mod_at {l : Launch} {g : ax_G} {a1 : Int32} {M : ax_M} {r : Int32} {M' : ax_M} (h : f_Mod_at a1 M = some (r, M')) : Ctr l g true Y_Mod_at 1 [vA 184, vI a1] M (some (vI r), M') := by
  refine Ctr.ofAW yok_Mod_at (Nat.le_of_ble_eq_true rfl) (Or.inl rfl) ?_
  show AW l g true Y_Mod_at 1 (some (vI r), M') 0 [(0, vA 184), (1, vI a1)] [] M
  unfold f_Mod_at at h
  refine A_iload_n 1 rfl rfl rfl ?_
  refine A_aload_n 0 rfl rfl rfl ?_
  refine A_getI rfl fl_Mod_133 rfl (by decide) (Or.inl rfl) ?_
  refine A_icmp_ge (tgt := 17) rfl (by decide) (fun hc1 => ?_) (fun hc1 => ?_)
  · rw [if_pos hc1] at h
    refine A_iconst (v := 0) rfl (by decide) ?_
    obtain ⟨rfl, rfl⟩ := leaf h
    exact A_iret rfl rfl
  · rw [if_neg hc1] at h
    refine A_pc (pc' := 8) rfl ?_
    refine A_aload_n 0 rfl rfl rfl ?_
    refine A_getL (r := 185) rfl fl_Mod_7 rfl (by decide) rfl rfl ?_
    refine A_iload_n 1 rfl rfl rfl ?_
    obtain ⟨hg2, h⟩ := gi_out h
    refine A_iald (n := 48) rfl (by decide) (by decide) (Or.inl rfl) hg2 ?_
    refine A_goto (tgt := 18) rfl (by decide) ?_
    refine A_pc (pc' := 18) rfl ?_
    obtain ⟨rfl, rfl⟩ := leaf h
    exact A_iret rfl rfl
def tb_Mod_digit : List (Nat × Instr × Nat) := [(0, .aload_n 0, 1), (1, .iload_n 1, 1), (2, .invokevirtual 136, 3), (5, .bipush 48, 2), (7, .if_icmp .lt 17, 3), (10, .aload_n 0, 1), (11, .iload_n 1, 1), (12, .invokevirtual 136, 3), (15, .bipush 57, 2), (17, .if_icmp .gt 7, 3), (20, .iconst 1, 1), (21, .goto 4, 3), (24, .iconst 0, 1), (25, .ireturn, 1)]
def Y_Mod_digit : ax_Y := (⟨"MethodWardenModel", "digit", "(I)Z"⟩, prog_14_method_4_code, 2, some .boolean, tb_Mod_digit)
theorem yok_Mod_digit : yOK Y_Mod_digit := ⟨by decide +kernel, by decide +kernel, inWG 1303 (by decide +kernel) (by decide +kernel), inWG 107 (by decide +kernel) (by decide +kernel), by decide +kernel⟩
theorem ml_Mod_136 : mlV "MethodWardenModel" 136 Y_Mod_at 1 := ⟨⟨yok_Mod_at, by decide +kernel, by decide⟩, Or.inl (inWG 1284 (by decide +kernel) (by decide +kernel)), inWG 1286 (by decide +kernel) (by decide +kernel), inWG 53 (by decide +kernel) (by decide +kernel)⟩
def f_Mod_digit (a1 : Int32) (M : ax_M) : Option (Int32 × ax_M) :=
  bnd (f_Mod_at a1 M) (fun q1 M2 => if q1 < 48 then (some (0, M2)) else (bnd (f_Mod_at a1 M2) (fun q4 M5 => if 57 < q4 then (some (0, M5)) else (some (1, M5)))))
set_option maxHeartbeats 4000000 in
set_option maxRecDepth 100000 in
theorem c_Mod_digit {l : Launch} {g : ax_G} {a1 : Int32} {M : ax_M} {r : Int32} {M' : ax_M} (h : f_Mod_digit a1 M = some (r, M')) : Ctr l g true Y_Mod_digit 2 [vA 184, vI a1] M (some (vI r), M') := by
  refine Ctr.ofAW yok_Mod_digit (Nat.le_of_ble_eq_true rfl) (Or.inl rfl) ?_
  show AW l g true Y_Mod_digit 2 (some (vI r), M') 0 [(0, vA 184), (1, vI a1)] [] M
  unfold f_Mod_digit at h
  refine A_aload_n 0 rfl rfl rfl ?_
  refine A_iload_n 1 rfl rfl rfl ?_
  obtain ⟨q1, M2, hcq1, h⟩ := bnd_out h
  refine A_callV (ci := 11) (as := [vI a1]) (st' := []) (r1 := (some (vI q1), M2)) rfl ml_Mod_136 rfl (by decide) (by decide) (Or.inl rfl) rfl rfl (Nat.le_of_ble_eq_true rfl) (by decide) (c_Mod_at hcq1) (Or.inl rfl) ?_
  refine A_pc (pc' := 5) rfl ?_
  refine A_stk (st' := [vI q1]) rfl ?_
  refine A_bipush (v := 48) rfl (by decide) ?_
  refine A_icmp_lt (tgt := 24) rfl (by decide) (fun hc3 => ?_) (fun hc3 => ?_)
  · rw [if_pos hc3] at h
    refine A_iconst (v := 0) rfl (by decide) ?_
    obtain ⟨rfl, rfl⟩ := leaf h
    exact A_zret rfl rfl (Or.inl rfl)
  · rw [if_neg hc3] at h
    refine A_pc (pc' := 10) rfl ?_
    refine A_aload_n 0 rfl rfl rfl ?_
    refine A_iload_n 1 rfl rfl rfl ?_
    obtain ⟨q4, M5, hcq4, h⟩ := bnd_out h
    refine A_callV (ci := 11) (as := [vI a1]) (st' := []) (r1 := (some (vI q4), M5)) rfl ml_Mod_136 rfl (by decide) (by decide) (Or.inl rfl) rfl rfl (Nat.le_of_ble_eq_true rfl) (by decide) (c_Mod_at hcq4) (Or.inl rfl) ?_
    refine A_pc (pc' := 15) rfl ?_
    refine A_stk (st' := [vI q4]) rfl ?_
    refine A_bipush (v := 57) rfl (by decide) ?_
    refine A_icmp_gt (tgt := 24) rfl (by decide) (fun hc6 => ?_) (fun hc6 => ?_)
    · rw [if_pos hc6] at h
      refine A_iconst (v := 0) rfl (by decide) ?_
      obtain ⟨rfl, rfl⟩ := leaf h
      exact A_zret rfl rfl (Or.inl rfl)
    · rw [if_neg hc6] at h
      refine A_pc (pc' := 20) rfl ?_
      refine A_iconst (v := 1) rfl (by decide) ?_
      refine A_goto (tgt := 25) rfl (by decide) ?_
      obtain ⟨rfl, rfl⟩ := leaf h
      exact A_zret rfl rfl (Or.inr rfl)
def tb_Mod_small : List (Nat × Instr × Nat) := [(0, .aload_n 0, 1), (1, .iload_n 1, 1), (2, .invokevirtual 136, 3), (5, .bipush 97, 2), (7, .if_icmp .lt 17, 3), (10, .aload_n 0, 1), (11, .iload_n 1, 1), (12, .invokevirtual 136, 3), (15, .bipush 122, 2), (17, .if_icmp .gt 7, 3), (20, .iconst 1, 1), (21, .goto 4, 3), (24, .iconst 0, 1), (25, .ireturn, 1)]
def Y_Mod_small : ax_Y := (⟨"MethodWardenModel", "small", "(I)Z"⟩, prog_14_method_5_code, 2, some .boolean, tb_Mod_small)
theorem yok_Mod_small : yOK Y_Mod_small := ⟨by decide +kernel, by decide +kernel, inWG 1314 (by decide +kernel) (by decide +kernel), inWG 107 (by decide +kernel) (by decide +kernel), by decide +kernel⟩
def f_Mod_small (a1 : Int32) (M : ax_M) : Option (Int32 × ax_M) :=
  bnd (f_Mod_at a1 M) (fun q1 M2 => if q1 < 97 then (some (0, M2)) else (bnd (f_Mod_at a1 M2) (fun q4 M5 => if 122 < q4 then (some (0, M5)) else (some (1, M5)))))
set_option maxHeartbeats 4000000 in
set_option maxRecDepth 100000 in
theorem c_Mod_small {l : Launch} {g : ax_G} {a1 : Int32} {M : ax_M} {r : Int32} {M' : ax_M} (h : f_Mod_small a1 M = some (r, M')) : Ctr l g true Y_Mod_small 2 [vA 184, vI a1] M (some (vI r), M') := by
  refine Ctr.ofAW yok_Mod_small (Nat.le_of_ble_eq_true rfl) (Or.inl rfl) ?_
  show AW l g true Y_Mod_small 2 (some (vI r), M') 0 [(0, vA 184), (1, vI a1)] [] M
  unfold f_Mod_small at h
  refine A_aload_n 0 rfl rfl rfl ?_
  refine A_iload_n 1 rfl rfl rfl ?_
  obtain ⟨q1, M2, hcq1, h⟩ := bnd_out h
  refine A_callV (ci := 11) (as := [vI a1]) (st' := []) (r1 := (some (vI q1), M2)) rfl ml_Mod_136 rfl (by decide) (by decide) (Or.inl rfl) rfl rfl (Nat.le_of_ble_eq_true rfl) (by decide) (c_Mod_at hcq1) (Or.inl rfl) ?_
  refine A_pc (pc' := 5) rfl ?_
  refine A_stk (st' := [vI q1]) rfl ?_
  refine A_bipush (v := 97) rfl (by decide) ?_
  refine A_icmp_lt (tgt := 24) rfl (by decide) (fun hc3 => ?_) (fun hc3 => ?_)
  · rw [if_pos hc3] at h
    refine A_iconst (v := 0) rfl (by decide) ?_
    obtain ⟨rfl, rfl⟩ := leaf h
    exact A_zret rfl rfl (Or.inl rfl)
  · rw [if_neg hc3] at h
    refine A_pc (pc' := 10) rfl ?_
    refine A_aload_n 0 rfl rfl rfl ?_
    refine A_iload_n 1 rfl rfl rfl ?_
    obtain ⟨q4, M5, hcq4, h⟩ := bnd_out h
    refine A_callV (ci := 11) (as := [vI a1]) (st' := []) (r1 := (some (vI q4), M5)) rfl ml_Mod_136 rfl (by decide) (by decide) (Or.inl rfl) rfl rfl (Nat.le_of_ble_eq_true rfl) (by decide) (c_Mod_at hcq4) (Or.inl rfl) ?_
    refine A_pc (pc' := 15) rfl ?_
    refine A_stk (st' := [vI q4]) rfl ?_
    refine A_bipush (v := 122) rfl (by decide) ?_
    refine A_icmp_gt (tgt := 24) rfl (by decide) (fun hc6 => ?_) (fun hc6 => ?_)
    · rw [if_pos hc6] at h
      refine A_iconst (v := 0) rfl (by decide) ?_
      obtain ⟨rfl, rfl⟩ := leaf h
      exact A_zret rfl rfl (Or.inl rfl)
    · rw [if_neg hc6] at h
      refine A_pc (pc' := 20) rfl ?_
      refine A_iconst (v := 1) rfl (by decide) ?_
      refine A_goto (tgt := 25) rfl (by decide) ?_
      obtain ⟨rfl, rfl⟩ := leaf h
      exact A_zret rfl rfl (Or.inr rfl)
def tb_Mod_numeral : List (Nat × Instr × Nat) := [(0, .lconst 0, 1), (1, .lstore_n 1, 1), (2, .iconst 0, 1), (3, .istore_n 3, 1), (4, .aload_n 0, 1), (5, .aload_n 0, 1), (6, .getfield 140, 3), (9, .invokevirtual 143, 3), (12, .ifCond .eq 80, 3), (15, .aload_n 0, 1), (16, .aload_n 0, 1), (17, .getfield 140, 3), (20, .invokevirtual 136, 3), (23, .bipush 48, 2), (25, .isub, 1), (26, .istore 4, 2), (28, .iload_n 3, 1), (29, .ifCond .ne 26, 3), (32, .lload_n 1, 1), (33, .ldc2_w 147, 3), (36, .lcmp, 1), (37, .ifCond .gt 18, 3), (40, .lload_n 1, 1), (41, .ldc2_w 147, 3), (44, .lcmp, 1), (45, .ifCond .ne 14, 3), (48, .iload 4, 2), (50, .bipush 7, 2), (52, .if_icmp .le 7, 3), (55, .iconst 1, 1), (56, .goto 4, 3), (59, .iconst 0, 1), (60, .istore_n 3, 1), (61, .iload_n 3, 1), (62, .ifCond .eq 7, 3), (65, .lconst 0, 1), (66, .goto 12, 3), (69, .ldc2_w 149, 3), (72, .lload_n 1, 1), (73, .lmul, 1), (74, .iload 4, 2), (76, .i2l, 1), (77, .ladd, 1), (78, .lstore_n 1, 1), (79, .aload_n 0, 1), (80, .dup, 1), (81, .getfield 140, 3), (84, .iconst 1, 1), (85, .iadd, 1), (86, .putfield 140, 3), (89, .goto (-85), 3), (92, .aload_n 0, 1), (93, .lload_n 1, 1), (94, .putfield 151, 3), (97, .aload_n 0, 1), (98, .aload_n 0, 1), (99, .getfield 140, 3), (102, .invokevirtual 136, 3), (105, .bipush 76, 2), (107, .if_icmp .ne 23, 3), (110, .aload_n 0, 1), (111, .dup, 1), (112, .getfield 140, 3), (115, .iconst 1, 1), (116, .iadd, 1), (117, .putfield 140, 3), (120, .iload_n 3, 1), (121, .ifCond .eq 7, 3), (124, .iconst 0, 1), (125, .goto 4, 3), (128, .iconst 2, 1), (129, .ireturn, 1), (130, .iload_n 3, 1), (131, .ifCond .ne 11, 3), (134, .lload_n 1, 1), (135, .ldc2_w 155, 3), (138, .lcmp, 1), (139, .ifCond .le 7, 3), (142, .iconst 0, 1), (143, .goto 4, 3), (146, .iconst 1, 1), (147, .ireturn, 1)]
def Y_Mod_numeral : ax_Y := (⟨"MethodWardenModel", "numeral", "()I"⟩, prog_14_method_6_code, 5, some .int, tb_Mod_numeral)
theorem yok_Mod_numeral : yOK Y_Mod_numeral := ⟨by decide +kernel, by decide +kernel, inWG 1307 (by decide +kernel) (by decide +kernel), inWG 107 (by decide +kernel) (by decide +kernel), by decide +kernel⟩
theorem fl_Mod_140 : fldOK "MethodWardenModel" 140 11 5 false := ⟨_, _, _, cls_Mod, by decide, by decide, rfl, Or.inl (inWG 1092 (by decide +kernel) (by decide +kernel))⟩
theorem fl_Mod_151 : fldOK "MethodWardenModel" 151 11 6 false := ⟨_, _, _, cls_Mod, by decide, by decide, rfl, Or.inl (inWG 1093 (by decide +kernel) (by decide +kernel))⟩
theorem ml_Mod_143 : mlV "MethodWardenModel" 143 Y_Mod_digit 1 := ⟨⟨yok_Mod_digit, by decide +kernel, by decide⟩, Or.inl (inWG 1300 (by decide +kernel) (by decide +kernel)), inWG 1302 (by decide +kernel) (by decide +kernel), inWG 57 (by decide +kernel) (by decide +kernel)⟩
def f_Mod_numeral_60 (K4 : Int64 → Int32 → ax_M → Option (Int32 × ax_M)) (l1 : Int64) (l4 : Int32) (s0 : Int32) (M : ax_M) : Option (Int32 × ax_M) :=
  if s0 = 0 then (kM ((10 * l1) + (Int32.toInt64 l4)) (fun j17 => kM (mI M 184 5 ((gI M 184 5) + 1)) (fun M18 => K4 j17 s0 M18))) else (kM (mI M 184 5 ((gI M 184 5) + 1)) (fun M19 => K4 0 s0 M19))
set_option maxHeartbeats 4000000 in
set_option maxRecDepth 100000 in
theorem o_Mod_numeral_60 {l : Launch} {g : ax_G} (K4 : Int64 → Int32 → ax_M → Option (Int32 × ax_M)) (hK4 : ∀ (l1 : Int64) (l3 : Int32) (M : ax_M) (r : Int32) (M' : ax_M), K4 l1 l3 M = some (r, M') → AW l g true Y_Mod_numeral 3 (some (vI r), M') 4 [(0, vA 184), (1, vJ l1), (3, vI l3)] [] M) (l1 : Int64) (l4 : Int32) (s0 : Int32) (M : ax_M) (r : Int32) (M' : ax_M) (h : f_Mod_numeral_60 K4 l1 l4 s0 M = some (r, M')) : AW l g true Y_Mod_numeral 3 (some (vI r), M') 60 [(0, vA 184), (1, vJ l1), (4, vI l4)] [vI s0] M := by
  unfold f_Mod_numeral_60 at h
  refine A_istore_n (Ls' := [(3, vI s0), (0, vA 184), (1, vJ l1), (4, vI l4)]) rfl rfl (by decide) rfl ?_
  refine A_iload_n 0 rfl rfl rfl ?_
  refine A_if_eq (tgt := 69) rfl (by decide) (fun hc16 => ?_) (fun hc16 => ?_)
  · rw [if_pos hc16] at h
    refine A_ldc2 (v := 10) rfl (inWG 1309 (by decide +kernel) (by decide +kernel)) ?_
    refine A_lload_n 2 rfl rfl rfl ?_
    refine A_lmul rfl ?_
    refine A_iload 3 rfl rfl ?_
    refine A_i2l rfl ?_
    refine A_pc (pc' := 77) rfl ?_
    refine A_ladd rfl ?_
    obtain ⟨j17, hj17, h⟩ := kM_out h
    refine A_nJ hj17 ?_
    refine A_lstore_n (Ls' := [(1, vJ j17), (3, vI s0), (0, vA 184), (4, vI l4)]) rfl rfl (by decide) rfl ?_
    refine A_aload_n 2 rfl rfl rfl ?_
    refine A_dup rfl rfl ?_
    refine A_getI rfl fl_Mod_140 rfl (by decide) (Or.inl rfl) ?_
    refine A_iconst (v := 1) rfl (by decide) ?_
    refine A_pc (pc' := 85) rfl ?_
    refine A_iadd rfl ?_
    refine A_putI rfl (Or.inl fl_Mod_140) rfl (by decide) (Or.inl rfl) rfl ?_
    obtain ⟨M18, hM18, h⟩ := kM_out h
    refine A_mem hM18 ?_
    refine A_goto (tgt := 4) rfl (by decide) ?_
    refine A_pc (pc' := 4) rfl ?_
    refine A_sub (Ls' := [(0, vA 184), (1, vJ j17), (3, vI s0)]) [2, 0, 1] rfl ?_
    exact hK4 _ _ _ _ _ h
  · rw [if_neg hc16] at h
    refine A_pc (pc' := 65) rfl ?_
    refine A_lconst (v := 0) rfl (by decide) ?_
    refine A_goto (tgt := 78) rfl (by decide) ?_
    refine A_lstore_n (Ls' := [(1, vJ 0), (3, vI s0), (0, vA 184), (4, vI l4)]) rfl rfl (by decide) rfl ?_
    refine A_aload_n 2 rfl rfl rfl ?_
    refine A_dup rfl rfl ?_
    refine A_pc (pc' := 81) rfl ?_
    refine A_getI rfl fl_Mod_140 rfl (by decide) (Or.inl rfl) ?_
    refine A_iconst (v := 1) rfl (by decide) ?_
    refine A_iadd rfl ?_
    refine A_putI rfl (Or.inl fl_Mod_140) rfl (by decide) (Or.inl rfl) rfl ?_
    obtain ⟨M19, hM19, h⟩ := kM_out h
    refine A_mem hM19 ?_
    refine A_goto (tgt := 4) rfl (by decide) ?_
    refine A_pc (pc' := 4) rfl ?_
    refine A_sub (Ls' := [(0, vA 184), (1, vJ 0), (3, vI s0)]) [2, 0, 1] rfl ?_
    exact hK4 _ _ _ _ _ h
def f_Mod_numeral_4_b (K4 : Int64 → Int32 → ax_M → Option (Int32 × ax_M)) (l1 : Int64) (l3 : Int32) (M : ax_M) : Option (Int32 × ax_M) :=
  bnd (f_Mod_digit (gI M 184 5) M) (fun q1 M2 => if q1 = 0 then (kM (mJ M2 184 6 l1) (fun M4 => bnd (f_Mod_at (gI M4 184 5) M4) (fun q5 M6 => if q5 = 76 then (kM (mI M6 184 5 ((gI M6 184 5) + 1)) (fun M10 => if l3 = 0 then (some (2, M10)) else (some (0, M10)))) else (if l3 = 0 then (if (lg_cmp l1 2147483647) ≤ 0 then (some (1, M6)) else (some (0, M6))) else (some (0, M6)))))) else (bnd (f_Mod_at (gI M2 184 5) M2) (fun q12 M13 => kM (q12 - 48) (fun x14 => if l3 = 0 then (if 0 < (lg_cmp l1 922337203685477580) then (f_Mod_numeral_60 K4 l1 x14 1 M13) else (if (lg_cmp l1 922337203685477580) = 0 then (if x14 ≤ 7 then (f_Mod_numeral_60 K4 l1 x14 0 M13) else (f_Mod_numeral_60 K4 l1 x14 1 M13)) else (f_Mod_numeral_60 K4 l1 x14 0 M13))) else (f_Mod_numeral_60 K4 l1 x14 1 M13)))))
def f_Mod_numeral_4 : Nat → Int64 → Int32 → ax_M → Option (Int32 × ax_M)
  | 0, _, _, _ => none
  | n + 1, l1, l3, M => f_Mod_numeral_4_b  (f_Mod_numeral_4 n) l1 l3 M
set_option maxHeartbeats 4000000 in
set_option maxRecDepth 100000 in
theorem o_Mod_numeral_4_b {l : Launch} {g : ax_G} (K4 : Int64 → Int32 → ax_M → Option (Int32 × ax_M)) (hK4 : ∀ (l1 : Int64) (l3 : Int32) (M : ax_M) (r : Int32) (M' : ax_M), K4 l1 l3 M = some (r, M') → AW l g true Y_Mod_numeral 3 (some (vI r), M') 4 [(0, vA 184), (1, vJ l1), (3, vI l3)] [] M) (l1 : Int64) (l3 : Int32) (M : ax_M) (r : Int32) (M' : ax_M) (h : f_Mod_numeral_4_b  K4 l1 l3 M = some (r, M')) : AW l g true Y_Mod_numeral 3 (some (vI r), M') 4 [(0, vA 184), (1, vJ l1), (3, vI l3)] [] M := by
  unfold f_Mod_numeral_4_b at h
  refine A_aload_n 0 rfl rfl rfl ?_
  refine A_aload_n 0 rfl rfl rfl ?_
  refine A_getI rfl fl_Mod_140 rfl (by decide) (Or.inl rfl) ?_
  obtain ⟨q1, M2, hcq1, h⟩ := bnd_out h
  refine A_callV (ci := 11) (as := [vI (gI M 184 5)]) (st' := []) (r1 := (some (vI q1), M2)) rfl ml_Mod_143 rfl (by decide) (by decide) (Or.inl rfl) rfl rfl (Nat.le_of_ble_eq_true rfl) (by decide) (c_Mod_digit hcq1) (Or.inl rfl) ?_
  refine A_pc (pc' := 12) rfl ?_
  refine A_stk (st' := [vI q1]) rfl ?_
  refine A_if_eq (tgt := 92) rfl (by decide) (fun hc3 => ?_) (fun hc3 => ?_)
  · rw [if_pos hc3] at h
    refine A_aload_n 0 rfl rfl rfl ?_
    refine A_lload_n 1 rfl rfl rfl ?_
    refine A_putJ rfl (Or.inl fl_Mod_151) rfl (by decide) (Or.inl rfl) rfl ?_
    obtain ⟨M4, hM4, h⟩ := kM_out h
    refine A_mem hM4 ?_
    refine A_aload_n 0 rfl rfl rfl ?_
    refine A_aload_n 0 rfl rfl rfl ?_
    refine A_pc (pc' := 99) rfl ?_
    refine A_getI rfl fl_Mod_140 rfl (by decide) (Or.inl rfl) ?_
    obtain ⟨q5, M6, hcq5, h⟩ := bnd_out h
    refine A_callV (ci := 11) (as := [vI (gI M4 184 5)]) (st' := []) (r1 := (some (vI q5), M6)) rfl ml_Mod_136 rfl (by decide) (by decide) (Or.inl rfl) rfl rfl (Nat.le_of_ble_eq_true rfl) (by decide) (c_Mod_at hcq5) (Or.inl rfl) ?_
    refine A_pc (pc' := 105) rfl ?_
    refine A_stk (st' := [vI q5]) rfl ?_
    refine A_bipush (v := 76) rfl (by decide) ?_
    refine A_icmp_ne (tgt := 130) rfl (by decide) (fun hc7 => ?_) (fun hc7 => ?_)
    · rw [if_neg hc7] at h
      refine A_iload_n 2 rfl rfl rfl ?_
      refine A_if_ne (tgt := 142) rfl (by decide) (fun hc8 => ?_) (fun hc8 => ?_)
      · rw [if_neg hc8] at h
        refine A_iconst (v := 0) rfl (by decide) ?_
        refine A_goto (tgt := 147) rfl (by decide) ?_
        obtain ⟨rfl, rfl⟩ := leaf h
        exact A_iret rfl rfl
      · rw [if_pos hc8] at h
        refine A_pc (pc' := 134) rfl ?_
        refine A_lload_n 1 rfl rfl rfl ?_
        refine A_ldc2 (v := 2147483647) rfl (inWG 1310 (by decide +kernel) (by decide +kernel)) ?_
        refine A_lcmp rfl ?_
        refine A_if_le (tgt := 146) rfl (by decide) (fun hc9 => ?_) (fun hc9 => ?_)
        · rw [if_pos hc9] at h
          refine A_iconst (v := 1) rfl (by decide) ?_
          obtain ⟨rfl, rfl⟩ := leaf h
          exact A_iret rfl rfl
        · rw [if_neg hc9] at h
          refine A_pc (pc' := 142) rfl ?_
          refine A_iconst (v := 0) rfl (by decide) ?_
          refine A_goto (tgt := 147) rfl (by decide) ?_
          obtain ⟨rfl, rfl⟩ := leaf h
          exact A_iret rfl rfl
    · rw [if_pos hc7] at h
      refine A_pc (pc' := 110) rfl ?_
      refine A_aload_n 0 rfl rfl rfl ?_
      refine A_dup rfl rfl ?_
      refine A_getI rfl fl_Mod_140 rfl (by decide) (Or.inl rfl) ?_
      refine A_iconst (v := 1) rfl (by decide) ?_
      refine A_iadd rfl ?_
      refine A_pc (pc' := 117) rfl ?_
      refine A_putI rfl (Or.inl fl_Mod_140) rfl (by decide) (Or.inl rfl) rfl ?_
      obtain ⟨M10, hM10, h⟩ := kM_out h
      refine A_mem hM10 ?_
      refine A_iload_n 2 rfl rfl rfl ?_
      refine A_if_eq (tgt := 128) rfl (by decide) (fun hc11 => ?_) (fun hc11 => ?_)
      · rw [if_pos hc11] at h
        refine A_iconst (v := 2) rfl (by decide) ?_
        obtain ⟨rfl, rfl⟩ := leaf h
        exact A_iret rfl rfl
      · rw [if_neg hc11] at h
        refine A_pc (pc' := 124) rfl ?_
        refine A_iconst (v := 0) rfl (by decide) ?_
        refine A_goto (tgt := 129) rfl (by decide) ?_
        obtain ⟨rfl, rfl⟩ := leaf h
        exact A_iret rfl rfl
  · rw [if_neg hc3] at h
    refine A_pc (pc' := 15) rfl ?_
    refine A_aload_n 0 rfl rfl rfl ?_
    refine A_aload_n 0 rfl rfl rfl ?_
    refine A_getI rfl fl_Mod_140 rfl (by decide) (Or.inl rfl) ?_
    obtain ⟨q12, M13, hcq12, h⟩ := bnd_out h
    refine A_callV (ci := 11) (as := [vI (gI M2 184 5)]) (st' := []) (r1 := (some (vI q12), M13)) rfl ml_Mod_136 rfl (by decide) (by decide) (Or.inl rfl) rfl rfl (Nat.le_of_ble_eq_true rfl) (by decide) (c_Mod_at hcq12) (Or.inl rfl) ?_
    refine A_pc (pc' := 23) rfl ?_
    refine A_stk (st' := [vI q12]) rfl ?_
    refine A_bipush (v := 48) rfl (by decide) ?_
    refine A_pc (pc' := 25) rfl ?_
    refine A_isub rfl ?_
    obtain ⟨x14, hx14, h⟩ := kM_out h
    refine A_nI hx14 ?_
    refine A_istore (Ls' := [(4, vI x14), (0, vA 184), (1, vJ l1), (3, vI l3)]) rfl (by decide) rfl ?_
    refine A_iload_n 3 rfl rfl rfl ?_
    refine A_if_ne (tgt := 55) rfl (by decide) (fun hc15 => ?_) (fun hc15 => ?_)
    · rw [if_neg hc15] at h
      refine A_iconst (v := 1) rfl (by decide) ?_
      refine A_goto (tgt := 60) rfl (by decide) ?_
      refine A_pc (pc' := 60) rfl ?_
      refine A_sub (Ls' := [(0, vA 184), (1, vJ l1), (4, vI x14)]) [1, 2, 0] rfl ?_
      exact o_Mod_numeral_60 K4 hK4 _ _ _ _ _ _ h
    · rw [if_pos hc15] at h
      refine A_pc (pc' := 32) rfl ?_
      refine A_lload_n 2 rfl rfl rfl ?_
      refine A_ldc2 (v := 922337203685477580) rfl (inWG 1308 (by decide +kernel) (by decide +kernel)) ?_
      refine A_lcmp rfl ?_
      refine A_if_gt (tgt := 55) rfl (by decide) (fun hc20 => ?_) (fun hc20 => ?_)
      · rw [if_pos hc20] at h
        refine A_iconst (v := 1) rfl (by decide) ?_
        refine A_goto (tgt := 60) rfl (by decide) ?_
        refine A_pc (pc' := 60) rfl ?_
        refine A_sub (Ls' := [(0, vA 184), (1, vJ l1), (4, vI x14)]) [1, 2, 0] rfl ?_
        exact o_Mod_numeral_60 K4 hK4 _ _ _ _ _ _ h
      · rw [if_neg hc20] at h
        refine A_pc (pc' := 40) rfl ?_
        refine A_lload_n 2 rfl rfl rfl ?_
        refine A_ldc2 (v := 922337203685477580) rfl (inWG 1308 (by decide +kernel) (by decide +kernel)) ?_
        refine A_lcmp rfl ?_
        refine A_if_ne (tgt := 59) rfl (by decide) (fun hc21 => ?_) (fun hc21 => ?_)
        · rw [if_neg hc21] at h
          refine A_iconst (v := 0) rfl (by decide) ?_
          refine A_pc (pc' := 60) rfl ?_
          refine A_sub (Ls' := [(0, vA 184), (1, vJ l1), (4, vI x14)]) [1, 2, 0] rfl ?_
          exact o_Mod_numeral_60 K4 hK4 _ _ _ _ _ _ h
        · rw [if_pos hc21] at h
          refine A_pc (pc' := 48) rfl ?_
          refine A_iload 0 rfl rfl ?_
          refine A_bipush (v := 7) rfl (by decide) ?_
          refine A_icmp_le (tgt := 59) rfl (by decide) (fun hc22 => ?_) (fun hc22 => ?_)
          · rw [if_pos hc22] at h
            refine A_iconst (v := 0) rfl (by decide) ?_
            refine A_pc (pc' := 60) rfl ?_
            refine A_sub (Ls' := [(0, vA 184), (1, vJ l1), (4, vI x14)]) [1, 2, 0] rfl ?_
            exact o_Mod_numeral_60 K4 hK4 _ _ _ _ _ _ h
          · rw [if_neg hc22] at h
            refine A_pc (pc' := 55) rfl ?_
            refine A_iconst (v := 1) rfl (by decide) ?_
            refine A_goto (tgt := 60) rfl (by decide) ?_
            refine A_pc (pc' := 60) rfl ?_
            refine A_sub (Ls' := [(0, vA 184), (1, vJ l1), (4, vI x14)]) [1, 2, 0] rfl ?_
            exact o_Mod_numeral_60 K4 hK4 _ _ _ _ _ _ h
theorem o_Mod_numeral_4 {l : Launch} {g : ax_G} : ∀ (n : Nat) (l1 : Int64) (l3 : Int32) (M : ax_M) (r : Int32) (M' : ax_M), f_Mod_numeral_4  n l1 l3 M = some (r, M') → AW l g true Y_Mod_numeral 3 (some (vI r), M') 4 [(0, vA 184), (1, vJ l1), (3, vI l3)] [] M := by
  intro n
  induction n with
  | zero =>
    intro l1 l3 M r M' h
    cases h
  | succ n ih =>
    intro l1 l3 M r M' h
    exact o_Mod_numeral_4_b  _ ih _ _ _ _ _ h
def f_Mod_numeral  (M : ax_M) : Option (Int32 × ax_M) :=
  f_Mod_numeral_4 64 0 0 M
set_option maxHeartbeats 4000000 in
set_option maxRecDepth 100000 in
theorem c_Mod_numeral {l : Launch} {g : ax_G}  {M : ax_M} {r : Int32} {M' : ax_M} (h : f_Mod_numeral  M = some (r, M')) : Ctr l g true Y_Mod_numeral 3 [vA 184] M (some (vI r), M') := by
  refine Ctr.ofAW yok_Mod_numeral (Nat.le_of_ble_eq_true rfl) (Or.inl rfl) ?_
  show AW l g true Y_Mod_numeral 3 (some (vI r), M') 0 [(0, vA 184)] [] M
  unfold f_Mod_numeral at h
  refine A_lconst (v := 0) rfl (by decide) ?_
  refine A_lstore_n (Ls' := [(1, vJ 0), (0, vA 184)]) rfl rfl (by decide) rfl ?_
  refine A_iconst (v := 0) rfl (by decide) ?_
  refine A_istore_n (Ls' := [(3, vI 0), (1, vJ 0), (0, vA 184)]) rfl rfl (by decide) rfl ?_
  refine A_pc (pc' := 4) rfl ?_
  refine A_sub (Ls' := [(0, vA 184), (1, vJ 0), (3, vI 0)]) [2, 1, 0] rfl ?_
  exact o_Mod_numeral_4  _ _ _ _ _ _ h
def tb_Mod_letters : List (Nat × Instr × Nat) := [(0, .iload_n 1, 1), (1, .bipush 32, 2), (3, .imul, 1), (4, .iload_n 2, 1), (5, .iadd, 1), (6, .bipush 32, 2), (8, .imul, 1), (9, .iload_n 3, 1), (10, .iadd, 1), (11, .bipush 32, 2), (13, .imul, 1), (14, .iload 4, 2), (16, .iadd, 1), (17, .ireturn, 1)]
def Y_Mod_letters : ax_Y := (⟨"MethodWardenModel", "letters", "(IIII)I"⟩, prog_14_method_7_code, 5, some .int, tb_Mod_letters)
theorem yok_Mod_letters : yOK Y_Mod_letters := ⟨by decide +kernel, by decide +kernel, inWG 1322 (by decide +kernel) (by decide +kernel), inWG 107 (by decide +kernel) (by decide +kernel), by decide +kernel⟩
def f_Mod_letters (a1 : Int32) (a2 : Int32) (a3 : Int32) (a4 : Int32) (M : ax_M) : Option (Int32 × ax_M) :=
  some ((((((a1 * 32) + a2) * 32) + a3) * 32) + a4, M)
set_option maxHeartbeats 4000000 in
set_option maxRecDepth 100000 in
theorem c_Mod_letters {l : Launch} {g : ax_G} {a1 : Int32} {a2 : Int32} {a3 : Int32} {a4 : Int32} {M : ax_M} {r : Int32} {M' : ax_M} (h : f_Mod_letters a1 a2 a3 a4 M = some (r, M')) : Ctr l g true Y_Mod_letters 1 [vA 184, vI a1, vI a2, vI a3, vI a4] M (some (vI r), M') := by
  refine Ctr.ofAW yok_Mod_letters (Nat.le_of_ble_eq_true rfl) (Or.inl rfl) ?_
  show AW l g true Y_Mod_letters 1 (some (vI r), M') 0 [(0, vA 184), (1, vI a1), (2, vI a2), (3, vI a3), (4, vI a4)] [] M
  unfold f_Mod_letters at h
  refine A_iload_n 1 rfl rfl rfl ?_
  refine A_bipush (v := 32) rfl (by decide) ?_
  refine A_imul rfl ?_
  refine A_iload_n 2 rfl rfl rfl ?_
  refine A_iadd rfl ?_
  refine A_pc (pc' := 6) rfl ?_
  refine A_bipush (v := 32) rfl (by decide) ?_
  refine A_imul rfl ?_
  refine A_iload_n 3 rfl rfl rfl ?_
  refine A_iadd rfl ?_
  refine A_bipush (v := 32) rfl (by decide) ?_
  refine A_imul rfl ?_
  refine A_pc (pc' := 14) rfl ?_
  refine A_iload 4 rfl rfl ?_
  refine A_iadd rfl ?_
  obtain ⟨rfl, rfl⟩ := leaf h
  exact A_iret rfl rfl
def tb_Mod_word : List (Nat × Instr × Nat) := [(0, .iconst 0, 1), (1, .istore_n 1, 1), (2, .iconst 0, 1), (3, .istore_n 2, 1), (4, .aload_n 0, 1), (5, .aload_n 0, 1), (6, .getfield 140, 3), (9, .invokevirtual 157, 3), (12, .ifCond .eq 45, 3), (15, .iload_n 2, 1), (16, .iconst 5, 1), (17, .if_icmp .ge 22, 3), (20, .iload_n 1, 1), (21, .bipush 32, 2), (23, .imul, 1), (24, .aload_n 0, 1), (25, .aload_n 0, 1), (26, .getfield 140, 3), (29, .invokevirtual 136, 3), (32, .iadd, 1), (33, .bipush 96, 2), (35, .isub, 1), (36, .goto 4, 3), (39, .iconst 0, 1), (40, .istore_n 1, 1), (41, .iinc 2 1, 3), (44, .aload_n 0, 1), (45, .dup, 1), (46, .getfield 140, 3), (49, .iconst 1, 1), (50, .iadd, 1), (51, .putfield 140, 3), (54, .goto (-50), 3), (57, .iload_n 2, 1), (58, .iconst 5, 1), (59, .if_icmp .le 5, 3), (62, .iconst 0, 1), (63, .ireturn, 1), (64, .iload_n 1, 1), (65, .aload_n 0, 1), (66, .bipush 20, 2), (68, .bipush 18, 2), (70, .bipush 21, 2), (72, .iconst 5, 1), (73, .invokevirtual 160, 3), (76, .if_icmp .ne 7, 3), (79, .iconst 3, 1), (80, .goto 66, 3), (83, .iload_n 1, 1), (84, .aload_n 0, 1), (85, .bipush 6, 2), (87, .iconst 1, 1), (88, .bipush 12, 2), (90, .bipush 19, 2), (92, .invokevirtual 160, 3), (95, .bipush 32, 2), (97, .imul, 1), (98, .iconst 5, 1), (99, .iadd, 1), (100, .if_icmp .ne 7, 3), (103, .iconst 4, 1), (104, .goto 42, 3), (107, .iload_n 1, 1), (108, .aload_n 0, 1), (109, .bipush 14, 2), (111, .bipush 21, 2), (113, .bipush 12, 2), (115, .bipush 12, 2), (117, .invokevirtual 160, 3), (120, .if_icmp .ne 7, 3), (123, .iconst 5, 1), (124, .goto 22, 3), (127, .iload_n 1, 1), (128, .aload_n 0, 1), (129, .iconst 0, 1), (130, .iconst 0, 1), (131, .bipush 13, 2), (133, .iconst 5, 1), (134, .invokevirtual 160, 3), (137, .if_icmp .ne 8, 3), (140, .bipush 6, 2), (142, .goto 4, 3), (145, .iconst 0, 1), (146, .istore_n 3, 1), (147, .iload_n 1, 1), (148, .iconst 1, 1), (149, .if_icmp .ne 8, 3), (152, .bipush 7, 2), (154, .goto 52, 3), (157, .iload_n 1, 1), (158, .iconst 2, 1), (159, .if_icmp .ne 8, 3), (162, .bipush 8, 2), (164, .goto 42, 3), (167, .iload_n 1, 1), (168, .aload_n 0, 1), (169, .iconst 0, 1), (170, .iconst 0, 1), (171, .bipush 9, 2), (173, .bipush 20, 2), (175, .invokevirtual 160, 3), (178, .if_icmp .ne 8, 3), (181, .bipush 9, 2), (183, .goto 23, 3), (186, .iload_n 1, 1), (187, .aload_n 0, 1), (188, .iconst 0, 1), (189, .bipush 18, 2), (191, .iconst 5, 1), (192, .bipush 20, 2), (194, .invokevirtual 160, 3), (197, .if_icmp .ne 8, 3), (200, .bipush 10, 2), (202, .goto 4, 3), (205, .iload_n 3, 1), (206, .istore_n 3, 1), (207, .iload_n 1, 1), (208, .aload_n 0, 1), (209, .bipush 12, 2), (211, .bipush 9, 2), (213, .bipush 19, 2), (215, .bipush 20, 2), (217, .invokevirtual 160, 3), (220, .if_icmp .ne 8, 3), (223, .bipush 11, 2), (225, .goto 44, 3), (228, .iload_n 1, 1), (229, .aload_n 0, 1), (230, .bipush 18, 2), (232, .bipush 15, 2), (234, .bipush 12, 2), (236, .iconst 5, 1), (237, .invokevirtual 160, 3), (240, .if_icmp .ne 8, 3), (243, .bipush 12, 2), (245, .goto 24, 3), (248, .iload_n 1, 1), (249, .aload_n 0, 1), (250, .bipush 19, 2), (252, .bipush 9, 2), (254, .bipush 26, 2), (256, .iconst 5, 1), (257, .invokevirtual 160, 3), (260, .if_icmp .ne 8, 3), (263, .bipush 13, 2), (265, .goto 4, 3), (268, .iload_n 3, 1), (269, .ireturn, 1)]
def Y_Mod_word : ax_Y := (⟨"MethodWardenModel", "word", "()I"⟩, prog_14_method_8_code, 4, some .int, tb_Mod_word)
theorem yok_Mod_word : yOK Y_Mod_word := ⟨by decide +kernel, by decide +kernel, inWG 1318 (by decide +kernel) (by decide +kernel), inWG 107 (by decide +kernel) (by decide +kernel), by decide +kernel⟩
theorem ml_Mod_157 : mlV "MethodWardenModel" 157 Y_Mod_small 1 := ⟨⟨yok_Mod_small, by decide +kernel, by decide⟩, Or.inl (inWG 1311 (by decide +kernel) (by decide +kernel)), inWG 1313 (by decide +kernel) (by decide +kernel), inWG 59 (by decide +kernel) (by decide +kernel)⟩
theorem ml_Mod_160 : mlV "MethodWardenModel" 160 Y_Mod_letters 4 := ⟨⟨yok_Mod_letters, by decide +kernel, by decide⟩, Or.inl (inWG 1319 (by decide +kernel) (by decide +kernel)), inWG 1321 (by decide +kernel) (by decide +kernel), inWG 61 (by decide +kernel) (by decide +kernel)⟩
def f_Mod_word_206 (l1 : Int32) (s0 : Int32) (M : ax_M) : Option (Int32 × ax_M) :=
  bnd (f_Mod_letters 12 9 19 20 M) (fun q25 M26 => if l1 = q25 then (some (11, M26)) else (bnd (f_Mod_letters 18 15 12 5 M26) (fun q28 M29 => if l1 = q28 then (some (12, M29)) else (bnd (f_Mod_letters 19 9 26 5 M29) (fun q31 M32 => if l1 = q31 then (some (13, M32)) else (some (s0, M32)))))))
set_option maxHeartbeats 4000000 in
set_option maxRecDepth 100000 in
theorem o_Mod_word_206 {l : Launch} {g : ax_G} (l1 : Int32) (s0 : Int32) (M : ax_M) (r : Int32) (M' : ax_M) (h : f_Mod_word_206  l1 s0 M = some (r, M')) : AW l g true Y_Mod_word 3 (some (vI r), M') 206 [(0, vA 184), (1, vI l1)] [vI s0] M := by
  unfold f_Mod_word_206 at h
  refine A_istore_n (Ls' := [(3, vI s0), (0, vA 184), (1, vI l1)]) rfl rfl (by decide) rfl ?_
  refine A_iload_n 2 rfl rfl rfl ?_
  refine A_aload_n 1 rfl rfl rfl ?_
  refine A_bipush (v := 12) rfl (by decide) ?_
  refine A_bipush (v := 9) rfl (by decide) ?_
  refine A_pc (pc' := 213) rfl ?_
  refine A_bipush (v := 19) rfl (by decide) ?_
  refine A_bipush (v := 20) rfl (by decide) ?_
  obtain ⟨q25, M26, hcq25, h⟩ := bnd_out h
  refine A_callV (ci := 11) (as := [vI 12, vI 9, vI 19, vI 20]) (st' := [vI l1]) (r1 := (some (vI q25), M26)) rfl ml_Mod_160 rfl (by decide) (by decide) (Or.inl rfl) rfl rfl (Nat.le_of_ble_eq_true rfl) (by decide) (c_Mod_letters hcq25) (Or.inl rfl) ?_
  refine A_pc (pc' := 220) rfl ?_
  refine A_stk (st' := [vI q25, vI l1]) rfl ?_
  refine A_icmp_ne (tgt := 228) rfl (by decide) (fun hc27 => ?_) (fun hc27 => ?_)
  · rw [if_neg hc27] at h
    refine A_iload_n 2 rfl rfl rfl ?_
    refine A_aload_n 1 rfl rfl rfl ?_
    refine A_bipush (v := 18) rfl (by decide) ?_
    refine A_bipush (v := 15) rfl (by decide) ?_
    refine A_bipush (v := 12) rfl (by decide) ?_
    refine A_pc (pc' := 236) rfl ?_
    refine A_iconst (v := 5) rfl (by decide) ?_
    obtain ⟨q28, M29, hcq28, h⟩ := bnd_out h
    refine A_callV (ci := 11) (as := [vI 18, vI 15, vI 12, vI 5]) (st' := [vI l1]) (r1 := (some (vI q28), M29)) rfl ml_Mod_160 rfl (by decide) (by decide) (Or.inl rfl) rfl rfl (Nat.le_of_ble_eq_true rfl) (by decide) (c_Mod_letters hcq28) (Or.inl rfl) ?_
    refine A_pc (pc' := 240) rfl ?_
    refine A_stk (st' := [vI q28, vI l1]) rfl ?_
    refine A_icmp_ne (tgt := 248) rfl (by decide) (fun hc30 => ?_) (fun hc30 => ?_)
    · rw [if_neg hc30] at h
      refine A_iload_n 2 rfl rfl rfl ?_
      refine A_aload_n 1 rfl rfl rfl ?_
      refine A_bipush (v := 19) rfl (by decide) ?_
      refine A_bipush (v := 9) rfl (by decide) ?_
      refine A_bipush (v := 26) rfl (by decide) ?_
      refine A_pc (pc' := 256) rfl ?_
      refine A_iconst (v := 5) rfl (by decide) ?_
      obtain ⟨q31, M32, hcq31, h⟩ := bnd_out h
      refine A_callV (ci := 11) (as := [vI 19, vI 9, vI 26, vI 5]) (st' := [vI l1]) (r1 := (some (vI q31), M32)) rfl ml_Mod_160 rfl (by decide) (by decide) (Or.inl rfl) rfl rfl (Nat.le_of_ble_eq_true rfl) (by decide) (c_Mod_letters hcq31) (Or.inl rfl) ?_
      refine A_pc (pc' := 260) rfl ?_
      refine A_stk (st' := [vI q31, vI l1]) rfl ?_
      refine A_icmp_ne (tgt := 268) rfl (by decide) (fun hc33 => ?_) (fun hc33 => ?_)
      · rw [if_neg hc33] at h
        refine A_iload_n 0 rfl rfl rfl ?_
        obtain ⟨rfl, rfl⟩ := leaf h
        exact A_iret rfl rfl
      · rw [if_pos hc33] at h
        refine A_pc (pc' := 263) rfl ?_
        refine A_bipush (v := 13) rfl (by decide) ?_
        refine A_goto (tgt := 269) rfl (by decide) ?_
        obtain ⟨rfl, rfl⟩ := leaf h
        exact A_iret rfl rfl
    · rw [if_pos hc30] at h
      refine A_pc (pc' := 243) rfl ?_
      refine A_bipush (v := 12) rfl (by decide) ?_
      refine A_goto (tgt := 269) rfl (by decide) ?_
      obtain ⟨rfl, rfl⟩ := leaf h
      exact A_iret rfl rfl
  · rw [if_pos hc27] at h
    refine A_pc (pc' := 223) rfl ?_
    refine A_bipush (v := 11) rfl (by decide) ?_
    refine A_goto (tgt := 269) rfl (by decide) ?_
    obtain ⟨rfl, rfl⟩ := leaf h
    exact A_iret rfl rfl
def f_Mod_word_146 (l1 : Int32) (s0 : Int32) (M : ax_M) : Option (Int32 × ax_M) :=
  if l1 = 1 then (f_Mod_word_206 l1 7 M) else (if l1 = 2 then (f_Mod_word_206 l1 8 M) else (bnd (f_Mod_letters 0 0 9 20 M) (fun q19 M20 => if l1 = q19 then (f_Mod_word_206 l1 9 M20) else (bnd (f_Mod_letters 0 18 5 20 M20) (fun q22 M23 => if l1 = q22 then (f_Mod_word_206 l1 10 M23) else (f_Mod_word_206 l1 s0 M23))))))
set_option maxHeartbeats 4000000 in
set_option maxRecDepth 100000 in
theorem o_Mod_word_146 {l : Launch} {g : ax_G} (l1 : Int32) (s0 : Int32) (M : ax_M) (r : Int32) (M' : ax_M) (h : f_Mod_word_146  l1 s0 M = some (r, M')) : AW l g true Y_Mod_word 3 (some (vI r), M') 146 [(0, vA 184), (1, vI l1)] [vI s0] M := by
  unfold f_Mod_word_146 at h
  refine A_istore_n (Ls' := [(3, vI s0), (0, vA 184), (1, vI l1)]) rfl rfl (by decide) rfl ?_
  refine A_iload_n 2 rfl rfl rfl ?_
  refine A_iconst (v := 1) rfl (by decide) ?_
  refine A_icmp_ne (tgt := 157) rfl (by decide) (fun hc17 => ?_) (fun hc17 => ?_)
  · rw [if_neg hc17] at h
    refine A_iload_n 2 rfl rfl rfl ?_
    refine A_iconst (v := 2) rfl (by decide) ?_
    refine A_icmp_ne (tgt := 167) rfl (by decide) (fun hc18 => ?_) (fun hc18 => ?_)
    · rw [if_neg hc18] at h
      refine A_iload_n 2 rfl rfl rfl ?_
      refine A_aload_n 1 rfl rfl rfl ?_
      refine A_iconst (v := 0) rfl (by decide) ?_
      refine A_iconst (v := 0) rfl (by decide) ?_
      refine A_bipush (v := 9) rfl (by decide) ?_
      refine A_pc (pc' := 173) rfl ?_
      refine A_bipush (v := 20) rfl (by decide) ?_
      obtain ⟨q19, M20, hcq19, h⟩ := bnd_out h
      refine A_callV (ci := 11) (as := [vI 0, vI 0, vI 9, vI 20]) (st' := [vI l1]) (r1 := (some (vI q19), M20)) rfl ml_Mod_160 rfl (by decide) (by decide) (Or.inl rfl) rfl rfl (Nat.le_of_ble_eq_true rfl) (by decide) (c_Mod_letters hcq19) (Or.inl rfl) ?_
      refine A_pc (pc' := 178) rfl ?_
      refine A_stk (st' := [vI q19, vI l1]) rfl ?_
      refine A_icmp_ne (tgt := 186) rfl (by decide) (fun hc21 => ?_) (fun hc21 => ?_)
      · rw [if_neg hc21] at h
        refine A_iload_n 2 rfl rfl rfl ?_
        refine A_aload_n 1 rfl rfl rfl ?_
        refine A_iconst (v := 0) rfl (by decide) ?_
        refine A_bipush (v := 18) rfl (by decide) ?_
        refine A_iconst (v := 5) rfl (by decide) ?_
        refine A_pc (pc' := 192) rfl ?_
        refine A_bipush (v := 20) rfl (by decide) ?_
        obtain ⟨q22, M23, hcq22, h⟩ := bnd_out h
        refine A_callV (ci := 11) (as := [vI 0, vI 18, vI 5, vI 20]) (st' := [vI l1]) (r1 := (some (vI q22), M23)) rfl ml_Mod_160 rfl (by decide) (by decide) (Or.inl rfl) rfl rfl (Nat.le_of_ble_eq_true rfl) (by decide) (c_Mod_letters hcq22) (Or.inl rfl) ?_
        refine A_pc (pc' := 197) rfl ?_
        refine A_stk (st' := [vI q22, vI l1]) rfl ?_
        refine A_icmp_ne (tgt := 205) rfl (by decide) (fun hc24 => ?_) (fun hc24 => ?_)
        · rw [if_neg hc24] at h
          refine A_iload_n 0 rfl rfl rfl ?_
          refine A_pc (pc' := 206) rfl ?_
          refine A_sub (Ls' := [(0, vA 184), (1, vI l1)]) [1, 2] rfl ?_
          exact o_Mod_word_206  _ _ _ _ _ h
        · rw [if_pos hc24] at h
          refine A_pc (pc' := 200) rfl ?_
          refine A_bipush (v := 10) rfl (by decide) ?_
          refine A_goto (tgt := 206) rfl (by decide) ?_
          refine A_pc (pc' := 206) rfl ?_
          refine A_sub (Ls' := [(0, vA 184), (1, vI l1)]) [1, 2] rfl ?_
          exact o_Mod_word_206  _ _ _ _ _ h
      · rw [if_pos hc21] at h
        refine A_pc (pc' := 181) rfl ?_
        refine A_bipush (v := 9) rfl (by decide) ?_
        refine A_goto (tgt := 206) rfl (by decide) ?_
        refine A_pc (pc' := 206) rfl ?_
        refine A_sub (Ls' := [(0, vA 184), (1, vI l1)]) [1, 2] rfl ?_
        exact o_Mod_word_206  _ _ _ _ _ h
    · rw [if_pos hc18] at h
      refine A_pc (pc' := 162) rfl ?_
      refine A_bipush (v := 8) rfl (by decide) ?_
      refine A_goto (tgt := 206) rfl (by decide) ?_
      refine A_pc (pc' := 206) rfl ?_
      refine A_sub (Ls' := [(0, vA 184), (1, vI l1)]) [1, 2] rfl ?_
      exact o_Mod_word_206  _ _ _ _ _ h
  · rw [if_pos hc17] at h
    refine A_pc (pc' := 152) rfl ?_
    refine A_bipush (v := 7) rfl (by decide) ?_
    refine A_goto (tgt := 206) rfl (by decide) ?_
    refine A_pc (pc' := 206) rfl ?_
    refine A_sub (Ls' := [(0, vA 184), (1, vI l1)]) [1, 2] rfl ?_
    exact o_Mod_word_206  _ _ _ _ _ h
def f_Mod_word_4_b (K4 : Int32 → Int32 → ax_M → Option (Int32 × ax_M)) (l1 : Int32) (l2 : Int32) (M : ax_M) : Option (Int32 × ax_M) :=
  bnd (f_Mod_small (gI M 184 5) M) (fun q1 M2 => if q1 = 0 then (if l2 ≤ 5 then (bnd (f_Mod_letters 20 18 21 5 M2) (fun q5 M6 => if l1 = q5 then (f_Mod_word_146 l1 3 M6) else (bnd (f_Mod_letters 6 1 12 19 M6) (fun q8 M9 => if l1 = ((q8 * 32) + 5) then (f_Mod_word_146 l1 4 M9) else (bnd (f_Mod_letters 14 21 12 12 M9) (fun q11 M12 => if l1 = q11 then (f_Mod_word_146 l1 5 M12) else (bnd (f_Mod_letters 0 0 13 5 M12) (fun q14 M15 => if l1 = q14 then (f_Mod_word_146 l1 6 M15) else (f_Mod_word_146 l1 0 M15))))))))) else (some (0, M2))) else (if 5 ≤ l2 then (kM (l2 + 1) (fun x35 => kM (mI M2 184 5 ((gI M2 184 5) + 1)) (fun M36 => K4 0 x35 M36))) else (bnd (f_Mod_at (gI M2 184 5) M2) (fun q37 M38 => kM (((l1 * 32) + q37) - 96) (fun x39 => kM (l2 + 1) (fun x40 => kM (mI M38 184 5 ((gI M38 184 5) + 1)) (fun M41 => K4 x39 x40 M41)))))))
def f_Mod_word_4 : Nat → Int32 → Int32 → ax_M → Option (Int32 × ax_M)
  | 0, _, _, _ => none
  | n + 1, l1, l2, M => f_Mod_word_4_b  (f_Mod_word_4 n) l1 l2 M
set_option maxHeartbeats 4000000 in
set_option maxRecDepth 100000 in
theorem o_Mod_word_4_b {l : Launch} {g : ax_G} (K4 : Int32 → Int32 → ax_M → Option (Int32 × ax_M)) (hK4 : ∀ (l1 : Int32) (l2 : Int32) (M : ax_M) (r : Int32) (M' : ax_M), K4 l1 l2 M = some (r, M') → AW l g true Y_Mod_word 3 (some (vI r), M') 4 [(0, vA 184), (1, vI l1), (2, vI l2)] [] M) (l1 : Int32) (l2 : Int32) (M : ax_M) (r : Int32) (M' : ax_M) (h : f_Mod_word_4_b  K4 l1 l2 M = some (r, M')) : AW l g true Y_Mod_word 3 (some (vI r), M') 4 [(0, vA 184), (1, vI l1), (2, vI l2)] [] M := by
  unfold f_Mod_word_4_b at h
  refine A_aload_n 0 rfl rfl rfl ?_
  refine A_aload_n 0 rfl rfl rfl ?_
  refine A_getI rfl fl_Mod_140 rfl (by decide) (Or.inl rfl) ?_
  obtain ⟨q1, M2, hcq1, h⟩ := bnd_out h
  refine A_callV (ci := 11) (as := [vI (gI M 184 5)]) (st' := []) (r1 := (some (vI q1), M2)) rfl ml_Mod_157 rfl (by decide) (by decide) (Or.inl rfl) rfl rfl (Nat.le_of_ble_eq_true rfl) (by decide) (c_Mod_small hcq1) (Or.inl rfl) ?_
  refine A_pc (pc' := 12) rfl ?_
  refine A_stk (st' := [vI q1]) rfl ?_
  refine A_if_eq (tgt := 57) rfl (by decide) (fun hc3 => ?_) (fun hc3 => ?_)
  · rw [if_pos hc3] at h
    refine A_iload_n 2 rfl rfl rfl ?_
    refine A_iconst (v := 5) rfl (by decide) ?_
    refine A_icmp_le (tgt := 64) rfl (by decide) (fun hc4 => ?_) (fun hc4 => ?_)
    · rw [if_pos hc4] at h
      refine A_iload_n 1 rfl rfl rfl ?_
      refine A_aload_n 0 rfl rfl rfl ?_
      refine A_bipush (v := 20) rfl (by decide) ?_
      refine A_bipush (v := 18) rfl (by decide) ?_
      refine A_bipush (v := 21) rfl (by decide) ?_
      refine A_pc (pc' := 72) rfl ?_
      refine A_iconst (v := 5) rfl (by decide) ?_
      obtain ⟨q5, M6, hcq5, h⟩ := bnd_out h
      refine A_callV (ci := 11) (as := [vI 20, vI 18, vI 21, vI 5]) (st' := [vI l1]) (r1 := (some (vI q5), M6)) rfl ml_Mod_160 rfl (by decide) (by decide) (Or.inl rfl) rfl rfl (Nat.le_of_ble_eq_true rfl) (by decide) (c_Mod_letters hcq5) (Or.inl rfl) ?_
      refine A_pc (pc' := 76) rfl ?_
      refine A_stk (st' := [vI q5, vI l1]) rfl ?_
      refine A_icmp_ne (tgt := 83) rfl (by decide) (fun hc7 => ?_) (fun hc7 => ?_)
      · rw [if_neg hc7] at h
        refine A_iload_n 1 rfl rfl rfl ?_
        refine A_aload_n 0 rfl rfl rfl ?_
        refine A_bipush (v := 6) rfl (by decide) ?_
        refine A_iconst (v := 1) rfl (by decide) ?_
        refine A_bipush (v := 12) rfl (by decide) ?_
        refine A_pc (pc' := 90) rfl ?_
        refine A_bipush (v := 19) rfl (by decide) ?_
        obtain ⟨q8, M9, hcq8, h⟩ := bnd_out h
        refine A_callV (ci := 11) (as := [vI 6, vI 1, vI 12, vI 19]) (st' := [vI l1]) (r1 := (some (vI q8), M9)) rfl ml_Mod_160 rfl (by decide) (by decide) (Or.inl rfl) rfl rfl (Nat.le_of_ble_eq_true rfl) (by decide) (c_Mod_letters hcq8) (Or.inl rfl) ?_
        refine A_pc (pc' := 95) rfl ?_
        refine A_stk (st' := [vI q8, vI l1]) rfl ?_
        refine A_bipush (v := 32) rfl (by decide) ?_
        refine A_imul rfl ?_
        refine A_iconst (v := 5) rfl (by decide) ?_
        refine A_iadd rfl ?_
        refine A_pc (pc' := 100) rfl ?_
        refine A_icmp_ne (tgt := 107) rfl (by decide) (fun hc10 => ?_) (fun hc10 => ?_)
        · rw [if_neg hc10] at h
          refine A_iload_n 1 rfl rfl rfl ?_
          refine A_aload_n 0 rfl rfl rfl ?_
          refine A_bipush (v := 14) rfl (by decide) ?_
          refine A_bipush (v := 21) rfl (by decide) ?_
          refine A_bipush (v := 12) rfl (by decide) ?_
          refine A_pc (pc' := 115) rfl ?_
          refine A_bipush (v := 12) rfl (by decide) ?_
          obtain ⟨q11, M12, hcq11, h⟩ := bnd_out h
          refine A_callV (ci := 11) (as := [vI 14, vI 21, vI 12, vI 12]) (st' := [vI l1]) (r1 := (some (vI q11), M12)) rfl ml_Mod_160 rfl (by decide) (by decide) (Or.inl rfl) rfl rfl (Nat.le_of_ble_eq_true rfl) (by decide) (c_Mod_letters hcq11) (Or.inl rfl) ?_
          refine A_pc (pc' := 120) rfl ?_
          refine A_stk (st' := [vI q11, vI l1]) rfl ?_
          refine A_icmp_ne (tgt := 127) rfl (by decide) (fun hc13 => ?_) (fun hc13 => ?_)
          · rw [if_neg hc13] at h
            refine A_iload_n 1 rfl rfl rfl ?_
            refine A_aload_n 0 rfl rfl rfl ?_
            refine A_iconst (v := 0) rfl (by decide) ?_
            refine A_iconst (v := 0) rfl (by decide) ?_
            refine A_bipush (v := 13) rfl (by decide) ?_
            refine A_pc (pc' := 133) rfl ?_
            refine A_iconst (v := 5) rfl (by decide) ?_
            obtain ⟨q14, M15, hcq14, h⟩ := bnd_out h
            refine A_callV (ci := 11) (as := [vI 0, vI 0, vI 13, vI 5]) (st' := [vI l1]) (r1 := (some (vI q14), M15)) rfl ml_Mod_160 rfl (by decide) (by decide) (Or.inl rfl) rfl rfl (Nat.le_of_ble_eq_true rfl) (by decide) (c_Mod_letters hcq14) (Or.inl rfl) ?_
            refine A_pc (pc' := 137) rfl ?_
            refine A_stk (st' := [vI q14, vI l1]) rfl ?_
            refine A_icmp_ne (tgt := 145) rfl (by decide) (fun hc16 => ?_) (fun hc16 => ?_)
            · rw [if_neg hc16] at h
              refine A_iconst (v := 0) rfl (by decide) ?_
              refine A_pc (pc' := 146) rfl ?_
              refine A_sub (Ls' := [(0, vA 184), (1, vI l1)]) [0, 1] rfl ?_
              exact o_Mod_word_146  _ _ _ _ _ h
            · rw [if_pos hc16] at h
              refine A_pc (pc' := 140) rfl ?_
              refine A_bipush (v := 6) rfl (by decide) ?_
              refine A_goto (tgt := 146) rfl (by decide) ?_
              refine A_pc (pc' := 146) rfl ?_
              refine A_sub (Ls' := [(0, vA 184), (1, vI l1)]) [0, 1] rfl ?_
              exact o_Mod_word_146  _ _ _ _ _ h
          · rw [if_pos hc13] at h
            refine A_pc (pc' := 123) rfl ?_
            refine A_iconst (v := 5) rfl (by decide) ?_
            refine A_goto (tgt := 146) rfl (by decide) ?_
            refine A_pc (pc' := 146) rfl ?_
            refine A_sub (Ls' := [(0, vA 184), (1, vI l1)]) [0, 1] rfl ?_
            exact o_Mod_word_146  _ _ _ _ _ h
        · rw [if_pos hc10] at h
          refine A_pc (pc' := 103) rfl ?_
          refine A_iconst (v := 4) rfl (by decide) ?_
          refine A_goto (tgt := 146) rfl (by decide) ?_
          refine A_pc (pc' := 146) rfl ?_
          refine A_sub (Ls' := [(0, vA 184), (1, vI l1)]) [0, 1] rfl ?_
          exact o_Mod_word_146  _ _ _ _ _ h
      · rw [if_pos hc7] at h
        refine A_pc (pc' := 79) rfl ?_
        refine A_iconst (v := 3) rfl (by decide) ?_
        refine A_goto (tgt := 146) rfl (by decide) ?_
        refine A_pc (pc' := 146) rfl ?_
        refine A_sub (Ls' := [(0, vA 184), (1, vI l1)]) [0, 1] rfl ?_
        exact o_Mod_word_146  _ _ _ _ _ h
    · rw [if_neg hc4] at h
      refine A_pc (pc' := 62) rfl ?_
      refine A_iconst (v := 0) rfl (by decide) ?_
      obtain ⟨rfl, rfl⟩ := leaf h
      exact A_iret rfl rfl
  · rw [if_neg hc3] at h
    refine A_pc (pc' := 15) rfl ?_
    refine A_iload_n 2 rfl rfl rfl ?_
    refine A_iconst (v := 5) rfl (by decide) ?_
    refine A_icmp_ge (tgt := 39) rfl (by decide) (fun hc34 => ?_) (fun hc34 => ?_)
    · rw [if_pos hc34] at h
      refine A_iconst (v := 0) rfl (by decide) ?_
      refine A_istore_n (Ls' := [(1, vI 0), (0, vA 184), (2, vI l2)]) rfl rfl (by decide) rfl ?_
      obtain ⟨x35, hx35, h⟩ := kM_out h
      refine A_iinc 2 (v := x35) (Ls' := [(2, vI x35), (1, vI 0), (0, vA 184)]) rfl rfl ((iiN (k := 1) (by decide) _).trans hx35) (by decide) rfl ?_
      refine A_aload_n 2 rfl rfl rfl ?_
      refine A_dup rfl rfl ?_
      refine A_pc (pc' := 46) rfl ?_
      refine A_getI rfl fl_Mod_140 rfl (by decide) (Or.inl rfl) ?_
      refine A_iconst (v := 1) rfl (by decide) ?_
      refine A_iadd rfl ?_
      refine A_putI rfl (Or.inl fl_Mod_140) rfl (by decide) (Or.inl rfl) rfl ?_
      obtain ⟨M36, hM36, h⟩ := kM_out h
      refine A_mem hM36 ?_
      refine A_goto (tgt := 4) rfl (by decide) ?_
      refine A_pc (pc' := 4) rfl ?_
      refine A_sub (Ls' := [(0, vA 184), (1, vI 0), (2, vI x35)]) [2, 1, 0] rfl ?_
      exact hK4 _ _ _ _ _ h
    · rw [if_neg hc34] at h
      refine A_pc (pc' := 20) rfl ?_
      refine A_iload_n 1 rfl rfl rfl ?_
      refine A_bipush (v := 32) rfl (by decide) ?_
      refine A_imul rfl ?_
      refine A_aload_n 0 rfl rfl rfl ?_
      refine A_aload_n 0 rfl rfl rfl ?_
      refine A_pc (pc' := 26) rfl ?_
      refine A_getI rfl fl_Mod_140 rfl (by decide) (Or.inl rfl) ?_
      obtain ⟨q37, M38, hcq37, h⟩ := bnd_out h
      refine A_callV (ci := 11) (as := [vI (gI M2 184 5)]) (st' := [vI (l1 * 32)]) (r1 := (some (vI q37), M38)) rfl ml_Mod_136 rfl (by decide) (by decide) (Or.inl rfl) rfl rfl (Nat.le_of_ble_eq_true rfl) (by decide) (c_Mod_at hcq37) (Or.inl rfl) ?_
      refine A_pc (pc' := 32) rfl ?_
      refine A_stk (st' := [vI q37, vI (l1 * 32)]) rfl ?_
      refine A_iadd rfl ?_
      refine A_bipush (v := 96) rfl (by decide) ?_
      refine A_isub rfl ?_
      refine A_goto (tgt := 40) rfl (by decide) ?_
      refine A_pc (pc' := 40) rfl ?_
      obtain ⟨x39, hx39, h⟩ := kM_out h
      refine A_nI hx39 ?_
      refine A_istore_n (Ls' := [(1, vI x39), (0, vA 184), (2, vI l2)]) rfl rfl (by decide) rfl ?_
      obtain ⟨x40, hx40, h⟩ := kM_out h
      refine A_iinc 2 (v := x40) (Ls' := [(2, vI x40), (1, vI x39), (0, vA 184)]) rfl rfl ((iiN (k := 1) (by decide) _).trans hx40) (by decide) rfl ?_
      refine A_aload_n 2 rfl rfl rfl ?_
      refine A_dup rfl rfl ?_
      refine A_getI rfl fl_Mod_140 rfl (by decide) (Or.inl rfl) ?_
      refine A_iconst (v := 1) rfl (by decide) ?_
      refine A_pc (pc' := 50) rfl ?_
      refine A_iadd rfl ?_
      refine A_putI rfl (Or.inl fl_Mod_140) rfl (by decide) (Or.inl rfl) rfl ?_
      obtain ⟨M41, hM41, h⟩ := kM_out h
      refine A_mem hM41 ?_
      refine A_goto (tgt := 4) rfl (by decide) ?_
      refine A_pc (pc' := 4) rfl ?_
      refine A_sub (Ls' := [(0, vA 184), (1, vI x39), (2, vI x40)]) [2, 1, 0] rfl ?_
      exact hK4 _ _ _ _ _ h
theorem o_Mod_word_4 {l : Launch} {g : ax_G} : ∀ (n : Nat) (l1 : Int32) (l2 : Int32) (M : ax_M) (r : Int32) (M' : ax_M), f_Mod_word_4  n l1 l2 M = some (r, M') → AW l g true Y_Mod_word 3 (some (vI r), M') 4 [(0, vA 184), (1, vI l1), (2, vI l2)] [] M := by
  intro n
  induction n with
  | zero =>
    intro l1 l2 M r M' h
    cases h
  | succ n ih =>
    intro l1 l2 M r M' h
    exact o_Mod_word_4_b  _ ih _ _ _ _ _ h
def f_Mod_word  (M : ax_M) : Option (Int32 × ax_M) :=
  f_Mod_word_4 64 0 0 M
set_option maxHeartbeats 4000000 in
set_option maxRecDepth 100000 in
theorem c_Mod_word {l : Launch} {g : ax_G}  {M : ax_M} {r : Int32} {M' : ax_M} (h : f_Mod_word  M = some (r, M')) : Ctr l g true Y_Mod_word 3 [vA 184] M (some (vI r), M') := by
  refine Ctr.ofAW yok_Mod_word (Nat.le_of_ble_eq_true rfl) (Or.inl rfl) ?_
  show AW l g true Y_Mod_word 3 (some (vI r), M') 0 [(0, vA 184)] [] M
  unfold f_Mod_word at h
  refine A_iconst (v := 0) rfl (by decide) ?_
  refine A_istore_n (Ls' := [(1, vI 0), (0, vA 184)]) rfl rfl (by decide) rfl ?_
  refine A_iconst (v := 0) rfl (by decide) ?_
  refine A_istore_n (Ls' := [(2, vI 0), (1, vI 0), (0, vA 184)]) rfl rfl (by decide) rfl ?_
  refine A_pc (pc' := 4) rfl ?_
  refine A_sub (Ls' := [(0, vA 184), (1, vI 0), (2, vI 0)]) [2, 1, 0] rfl ?_
  exact o_Mod_word_4  _ _ _ _ _ _ h
def tb_Mod_signToken : List (Nat × Instr × Nat) := [(0, .aload_n 0, 1), (1, .aload_n 0, 1), (2, .getfield 140, 3), (5, .invokevirtual 136, 3), (8, .istore_n 1, 1), (9, .aload_n 0, 1), (10, .aload_n 0, 1), (11, .getfield 140, 3), (14, .iconst 1, 1), (15, .iadd, 1), (16, .invokevirtual 136, 3), (19, .istore_n 2, 1), (20, .aload_n 0, 1), (21, .aload_n 0, 1), (22, .getfield 140, 3), (25, .iconst 2, 1), (26, .iadd, 1), (27, .invokevirtual 136, 3), (30, .istore_n 3, 1), (31, .iconst 1, 1), (32, .istore 4, 2), (34, .iload_n 1, 1), (35, .bipush 40, 2), (37, .if_icmp .ne 8, 3), (40, .bipush 60, 2), (42, .goto 125, 3), (45, .iload_n 1, 1), (46, .bipush 41, 2), (48, .if_icmp .ne 8, 3), (51, .bipush 61, 2), (53, .goto 114, 3), (56, .iload_n 1, 1), (57, .bipush 91, 2), (59, .if_icmp .ne 8, 3), (62, .bipush 62, 2), (64, .goto 103, 3), (67, .iload_n 1, 1), (68, .bipush 93, 2), (70, .if_icmp .ne 8, 3), (73, .bipush 63, 2), (75, .goto 92, 3), (78, .iload_n 1, 1), (79, .bipush 58, 2), (81, .if_icmp .ne 8, 3), (84, .bipush 64, 2), (86, .goto 81, 3), (89, .iload_n 1, 1), (90, .bipush 124, 2), (92, .if_icmp .ne 8, 3), (95, .bipush 22, 2), (97, .goto 70, 3), (100, .iload_n 1, 1), (101, .bipush 38, 2), (103, .if_icmp .ne 8, 3), (106, .bipush 23, 2), (108, .goto 59, 3), (111, .iload_n 1, 1), (112, .bipush 43, 2), (114, .if_icmp .ne 8, 3), (117, .bipush 30, 2), (119, .goto 48, 3), (122, .iload_n 1, 1), (123, .bipush 45, 2), (125, .if_icmp .ne 8, 3), (128, .bipush 31, 2), (130, .goto 37, 3), (133, .iload_n 1, 1), (134, .bipush 42, 2), (136, .if_icmp .ne 8, 3), (139, .bipush 32, 2), (141, .goto 26, 3), (144, .iload_n 1, 1), (145, .bipush 47, 2), (147, .if_icmp .ne 8, 3), (150, .bipush 33, 2), (152, .goto 15, 3), (155, .iload_n 1, 1), (156, .bipush 37, 2), (158, .if_icmp .ne 8, 3), (161, .bipush 34, 2), (163, .goto 4, 3), (166, .iconst 0, 1), (167, .istore 5, 2), (169, .iload_n 1, 1), (170, .bipush 60, 2), (172, .if_icmp .eq 9, 3), (175, .iload_n 1, 1), (176, .bipush 62, 2), (178, .if_icmp .ne 39, 3), (181, .iload_n 2, 1), (182, .bipush 61, 2), (184, .if_icmp .ne 7, 3), (187, .iconst 2, 1), (188, .goto 4, 3), (191, .iconst 1, 1), (192, .istore 4, 2), (194, .iload_n 1, 1), (195, .bipush 60, 2), (197, .if_icmp .ne 8, 3), (200, .bipush 26, 2), (202, .goto 5, 3), (205, .bipush 28, 2), (207, .iload 4, 2), (209, .iadd, 1), (210, .iconst 1, 1), (211, .isub, 1), (212, .istore 5, 2), (214, .goto 189, 3), (217, .iload_n 1, 1), (218, .bipush 61, 2), (220, .if_icmp .eq 9, 3), (223, .iload_n 1, 1), (224, .bipush 33, 2), (226, .if_icmp .ne 55, 3), (229, .iload_n 2, 1), (230, .bipush 61, 2), (232, .if_icmp .ne 7, 3), (235, .iconst 2, 1), (236, .goto 4, 3), (239, .iconst 1, 1), (240, .istore 4, 2), (242, .iload_n 1, 1), (243, .bipush 61, 2), (245, .if_icmp .ne 18, 3), (248, .iload 4, 2), (250, .iconst 2, 1), (251, .if_icmp .ne 8, 3), (254, .bipush 24, 2), (256, .goto 20, 3), (259, .iconst 0, 1), (260, .goto 16, 3), (263, .iload 4, 2), (265, .iconst 2, 1), (266, .if_icmp .ne 8, 3), (269, .bipush 25, 2), (271, .goto 5, 3), (274, .bipush 21, 2), (276, .istore 5, 2), (278, .goto 125, 3), (281, .iload_n 1, 1), (282, .bipush 63, 2), (284, .if_icmp .ne 51, 3), (287, .iload_n 2, 1), (288, .bipush 58, 2), (290, .if_icmp .eq 9, 3), (293, .iload_n 2, 1), (294, .bipush 46, 2), (296, .if_icmp .ne 7, 3), (299, .iconst 2, 1), (300, .goto 4, 3), (303, .iconst 1, 1), (304, .istore 4, 2), (306, .iload_n 2, 1), (307, .bipush 58, 2), (309, .if_icmp .ne 8, 3), (312, .bipush 36, 2), (314, .goto 16, 3), (317, .iload_n 2, 1), (318, .bipush 46, 2), (320, .if_icmp .ne 8, 3), (323, .bipush 66, 2), (325, .goto 5, 3), (328, .bipush 65, 2), (330, .istore 5, 2), (332, .goto 71, 3), (335, .iload_n 1, 1), (336, .bipush 46, 2), (338, .if_icmp .ne 65, 3), (341, .iload_n 3, 1), (342, .bipush 91, 2), (344, .if_icmp .eq 8, 3), (347, .bipush 67, 2), (349, .goto 38, 3), (352, .iload_n 2, 1), (353, .bipush 63, 2), (355, .if_icmp .ne 8, 3), (358, .bipush 16, 2), (360, .goto 27, 3), (363, .iload_n 2, 1), (364, .bipush 94, 2), (366, .if_icmp .ne 8, 3), (369, .bipush 17, 2), (371, .goto 16, 3), (374, .iload_n 2, 1), (375, .bipush 36, 2), (377, .if_icmp .ne 8, 3), (380, .bipush 18, 2), (382, .goto 5, 3), (385, .bipush 67, 2), (387, .istore 5, 2), (389, .iload 5, 2), (391, .bipush 67, 2), (393, .if_icmp .ne 7, 3), (396, .iconst 1, 1), (397, .goto 4, 3), (400, .iconst 3, 1), (401, .istore 4, 2), (403, .aload_n 0, 1), (404, .dup, 1), (405, .getfield 140, 3), (408, .iload 4, 2), (410, .iadd, 1), (411, .putfield 140, 3), (414, .iload 5, 2), (416, .ireturn, 1)]
def Y_Mod_signToken : ax_Y := (⟨"MethodWardenModel", "signToken", "()I"⟩, prog_14_method_9_code, 6, some .int, tb_Mod_signToken)
theorem yok_Mod_signToken : yOK Y_Mod_signToken := ⟨by decide +kernel, by decide +kernel, inWG 1326 (by decide +kernel) (by decide +kernel), inWG 107 (by decide +kernel) (by decide +kernel), by decide +kernel⟩
def f_Mod_signToken_403 (l4 : Int32) (l5 : Int32) (M : ax_M) : Option (Int32 × ax_M) :=
  kM (mI M 184 5 ((gI M 184 5) + l4)) (fun M23 => some (l5, M23))
set_option maxHeartbeats 4000000 in
set_option maxRecDepth 100000 in
theorem o_Mod_signToken_403 {l : Launch} {g : ax_G} (l4 : Int32) (l5 : Int32) (M : ax_M) (r : Int32) (M' : ax_M) (h : f_Mod_signToken_403  l4 l5 M = some (r, M')) : AW l g true Y_Mod_signToken 2 (some (vI r), M') 403 [(0, vA 184), (4, vI l4), (5, vI l5)] [] M := by
  unfold f_Mod_signToken_403 at h
  refine A_aload_n 0 rfl rfl rfl ?_
  refine A_dup rfl rfl ?_
  refine A_getI rfl fl_Mod_140 rfl (by decide) (Or.inl rfl) ?_
  refine A_iload 1 rfl rfl ?_
  refine A_iadd rfl ?_
  refine A_pc (pc' := 411) rfl ?_
  refine A_putI rfl (Or.inl fl_Mod_140) rfl (by decide) (Or.inl rfl) rfl ?_
  obtain ⟨M23, hM23, h⟩ := kM_out h
  refine A_mem hM23 ?_
  refine A_iload 2 rfl rfl ?_
  obtain ⟨rfl, rfl⟩ := leaf h
  exact A_iret rfl rfl
def f_Mod_signToken_192 (l1 : Int32) (s0 : Int32) (M : ax_M) : Option (Int32 × ax_M) :=
  if l1 = 60 then (kM ((26 + s0) - 1) (fun x24 => f_Mod_signToken_403 s0 x24 M)) else (kM ((28 + s0) - 1) (fun x22 => f_Mod_signToken_403 s0 x22 M))
set_option maxHeartbeats 4000000 in
set_option maxRecDepth 100000 in
theorem o_Mod_signToken_192 {l : Launch} {g : ax_G} (l1 : Int32) (s0 : Int32) (M : ax_M) (r : Int32) (M' : ax_M) (h : f_Mod_signToken_192  l1 s0 M = some (r, M')) : AW l g true Y_Mod_signToken 2 (some (vI r), M') 192 [(0, vA 184), (1, vI l1)] [vI s0] M := by
  unfold f_Mod_signToken_192 at h
  refine A_istore (Ls' := [(4, vI s0), (0, vA 184), (1, vI l1)]) rfl (by decide) rfl ?_
  refine A_iload_n 2 rfl rfl rfl ?_
  refine A_bipush (v := 60) rfl (by decide) ?_
  refine A_icmp_ne (tgt := 205) rfl (by decide) (fun hc21 => ?_) (fun hc21 => ?_)
  · rw [if_neg hc21] at h
    refine A_bipush (v := 28) rfl (by decide) ?_
    refine A_iload 0 rfl rfl ?_
    refine A_iadd rfl ?_
    refine A_iconst (v := 1) rfl (by decide) ?_
    refine A_isub rfl ?_
    refine A_pc (pc' := 212) rfl ?_
    obtain ⟨x22, hx22, h⟩ := kM_out h
    refine A_nI hx22 ?_
    refine A_istore (Ls' := [(5, vI x22), (4, vI s0), (0, vA 184), (1, vI l1)]) rfl (by decide) rfl ?_
    refine A_goto (tgt := 403) rfl (by decide) ?_
    refine A_pc (pc' := 403) rfl ?_
    refine A_sub (Ls' := [(0, vA 184), (4, vI s0), (5, vI x22)]) [2, 1, 0] rfl ?_
    exact o_Mod_signToken_403  _ _ _ _ _ h
  · rw [if_pos hc21] at h
    refine A_pc (pc' := 200) rfl ?_
    refine A_bipush (v := 26) rfl (by decide) ?_
    refine A_goto (tgt := 207) rfl (by decide) ?_
    refine A_iload 0 rfl rfl ?_
    refine A_iadd rfl ?_
    refine A_iconst (v := 1) rfl (by decide) ?_
    refine A_pc (pc' := 211) rfl ?_
    refine A_isub rfl ?_
    obtain ⟨x24, hx24, h⟩ := kM_out h
    refine A_nI hx24 ?_
    refine A_istore (Ls' := [(5, vI x24), (4, vI s0), (0, vA 184), (1, vI l1)]) rfl (by decide) rfl ?_
    refine A_goto (tgt := 403) rfl (by decide) ?_
    refine A_pc (pc' := 403) rfl ?_
    refine A_sub (Ls' := [(0, vA 184), (4, vI s0), (5, vI x24)]) [2, 1, 0] rfl ?_
    exact o_Mod_signToken_403  _ _ _ _ _ h
def f_Mod_signToken_240 (l1 : Int32) (s0 : Int32) (M : ax_M) : Option (Int32 × ax_M) :=
  if l1 = 61 then (if s0 = 2 then (f_Mod_signToken_403 s0 24 M) else (f_Mod_signToken_403 s0 0 M)) else (if s0 = 2 then (f_Mod_signToken_403 s0 25 M) else (f_Mod_signToken_403 s0 21 M))
set_option maxHeartbeats 4000000 in
set_option maxRecDepth 100000 in
theorem o_Mod_signToken_240 {l : Launch} {g : ax_G} (l1 : Int32) (s0 : Int32) (M : ax_M) (r : Int32) (M' : ax_M) (h : f_Mod_signToken_240  l1 s0 M = some (r, M')) : AW l g true Y_Mod_signToken 2 (some (vI r), M') 240 [(0, vA 184), (1, vI l1)] [vI s0] M := by
  unfold f_Mod_signToken_240 at h
  refine A_istore (Ls' := [(4, vI s0), (0, vA 184), (1, vI l1)]) rfl (by decide) rfl ?_
  refine A_iload_n 2 rfl rfl rfl ?_
  refine A_bipush (v := 61) rfl (by decide) ?_
  refine A_icmp_ne (tgt := 263) rfl (by decide) (fun hc28 => ?_) (fun hc28 => ?_)
  · rw [if_neg hc28] at h
    refine A_iload 0 rfl rfl ?_
    refine A_iconst (v := 2) rfl (by decide) ?_
    refine A_icmp_ne (tgt := 274) rfl (by decide) (fun hc29 => ?_) (fun hc29 => ?_)
    · rw [if_neg hc29] at h
      refine A_bipush (v := 21) rfl (by decide) ?_
      refine A_istore (Ls' := [(5, vI 21), (4, vI s0), (0, vA 184), (1, vI l1)]) rfl (by decide) rfl ?_
      refine A_goto (tgt := 403) rfl (by decide) ?_
      refine A_pc (pc' := 403) rfl ?_
      refine A_sub (Ls' := [(0, vA 184), (4, vI s0), (5, vI 21)]) [2, 1, 0] rfl ?_
      exact o_Mod_signToken_403  _ _ _ _ _ h
    · rw [if_pos hc29] at h
      refine A_pc (pc' := 269) rfl ?_
      refine A_bipush (v := 25) rfl (by decide) ?_
      refine A_goto (tgt := 276) rfl (by decide) ?_
      refine A_istore (Ls' := [(5, vI 25), (4, vI s0), (0, vA 184), (1, vI l1)]) rfl (by decide) rfl ?_
      refine A_goto (tgt := 403) rfl (by decide) ?_
      refine A_pc (pc' := 403) rfl ?_
      refine A_sub (Ls' := [(0, vA 184), (4, vI s0), (5, vI 25)]) [2, 1, 0] rfl ?_
      exact o_Mod_signToken_403  _ _ _ _ _ h
  · rw [if_pos hc28] at h
    refine A_pc (pc' := 248) rfl ?_
    refine A_iload 0 rfl rfl ?_
    refine A_iconst (v := 2) rfl (by decide) ?_
    refine A_icmp_ne (tgt := 259) rfl (by decide) (fun hc30 => ?_) (fun hc30 => ?_)
    · rw [if_neg hc30] at h
      refine A_iconst (v := 0) rfl (by decide) ?_
      refine A_goto (tgt := 276) rfl (by decide) ?_
      refine A_istore (Ls' := [(5, vI 0), (4, vI s0), (0, vA 184), (1, vI l1)]) rfl (by decide) rfl ?_
      refine A_goto (tgt := 403) rfl (by decide) ?_
      refine A_pc (pc' := 403) rfl ?_
      refine A_sub (Ls' := [(0, vA 184), (4, vI s0), (5, vI 0)]) [2, 1, 0] rfl ?_
      exact o_Mod_signToken_403  _ _ _ _ _ h
    · rw [if_pos hc30] at h
      refine A_pc (pc' := 254) rfl ?_
      refine A_bipush (v := 24) rfl (by decide) ?_
      refine A_goto (tgt := 276) rfl (by decide) ?_
      refine A_istore (Ls' := [(5, vI 24), (4, vI s0), (0, vA 184), (1, vI l1)]) rfl (by decide) rfl ?_
      refine A_goto (tgt := 403) rfl (by decide) ?_
      refine A_pc (pc' := 403) rfl ?_
      refine A_sub (Ls' := [(0, vA 184), (4, vI s0), (5, vI 24)]) [2, 1, 0] rfl ?_
      exact o_Mod_signToken_403  _ _ _ _ _ h
def f_Mod_signToken_387 (s0 : Int32) (M : ax_M) : Option (Int32 × ax_M) :=
  if s0 = 67 then (f_Mod_signToken_403 1 s0 M) else (f_Mod_signToken_403 3 s0 M)
set_option maxHeartbeats 4000000 in
set_option maxRecDepth 100000 in
theorem o_Mod_signToken_387 {l : Launch} {g : ax_G} (s0 : Int32) (M : ax_M) (r : Int32) (M' : ax_M) (h : f_Mod_signToken_387  s0 M = some (r, M')) : AW l g true Y_Mod_signToken 2 (some (vI r), M') 387 [(0, vA 184)] [vI s0] M := by
  unfold f_Mod_signToken_387 at h
  refine A_istore (Ls' := [(5, vI s0), (0, vA 184)]) rfl (by decide) rfl ?_
  refine A_iload 0 rfl rfl ?_
  refine A_bipush (v := 67) rfl (by decide) ?_
  refine A_icmp_ne (tgt := 400) rfl (by decide) (fun hc38 => ?_) (fun hc38 => ?_)
  · rw [if_neg hc38] at h
    refine A_iconst (v := 3) rfl (by decide) ?_
    refine A_istore (Ls' := [(4, vI 3), (5, vI s0), (0, vA 184)]) rfl (by decide) rfl ?_
    refine A_pc (pc' := 403) rfl ?_
    refine A_sub (Ls' := [(0, vA 184), (4, vI 3), (5, vI s0)]) [2, 0, 1] rfl ?_
    exact o_Mod_signToken_403  _ _ _ _ _ h
  · rw [if_pos hc38] at h
    refine A_pc (pc' := 396) rfl ?_
    refine A_iconst (v := 1) rfl (by decide) ?_
    refine A_goto (tgt := 401) rfl (by decide) ?_
    refine A_istore (Ls' := [(4, vI 1), (5, vI s0), (0, vA 184)]) rfl (by decide) rfl ?_
    refine A_pc (pc' := 403) rfl ?_
    refine A_sub (Ls' := [(0, vA 184), (4, vI 1), (5, vI s0)]) [2, 0, 1] rfl ?_
    exact o_Mod_signToken_403  _ _ _ _ _ h
def f_Mod_signToken_304 (l2 : Int32) (s0 : Int32) (M : ax_M) : Option (Int32 × ax_M) :=
  if l2 = 58 then (f_Mod_signToken_403 s0 36 M) else (if l2 = 46 then (f_Mod_signToken_403 s0 66 M) else (f_Mod_signToken_403 s0 65 M))
set_option maxHeartbeats 4000000 in
set_option maxRecDepth 100000 in
theorem o_Mod_signToken_304 {l : Launch} {g : ax_G} (l2 : Int32) (s0 : Int32) (M : ax_M) (r : Int32) (M' : ax_M) (h : f_Mod_signToken_304  l2 s0 M = some (r, M')) : AW l g true Y_Mod_signToken 2 (some (vI r), M') 304 [(0, vA 184), (2, vI l2)] [vI s0] M := by
  unfold f_Mod_signToken_304 at h
  refine A_istore (Ls' := [(4, vI s0), (0, vA 184), (2, vI l2)]) rfl (by decide) rfl ?_
  refine A_iload_n 2 rfl rfl rfl ?_
  refine A_bipush (v := 58) rfl (by decide) ?_
  refine A_icmp_ne (tgt := 317) rfl (by decide) (fun hc40 => ?_) (fun hc40 => ?_)
  · rw [if_neg hc40] at h
    refine A_iload_n 2 rfl rfl rfl ?_
    refine A_bipush (v := 46) rfl (by decide) ?_
    refine A_icmp_ne (tgt := 328) rfl (by decide) (fun hc41 => ?_) (fun hc41 => ?_)
    · rw [if_neg hc41] at h
      refine A_bipush (v := 65) rfl (by decide) ?_
      refine A_istore (Ls' := [(5, vI 65), (4, vI s0), (0, vA 184), (2, vI l2)]) rfl (by decide) rfl ?_
      refine A_goto (tgt := 403) rfl (by decide) ?_
      refine A_pc (pc' := 403) rfl ?_
      refine A_sub (Ls' := [(0, vA 184), (4, vI s0), (5, vI 65)]) [2, 1, 0] rfl ?_
      exact o_Mod_signToken_403  _ _ _ _ _ h
    · rw [if_pos hc41] at h
      refine A_pc (pc' := 323) rfl ?_
      refine A_bipush (v := 66) rfl (by decide) ?_
      refine A_goto (tgt := 330) rfl (by decide) ?_
      refine A_istore (Ls' := [(5, vI 66), (4, vI s0), (0, vA 184), (2, vI l2)]) rfl (by decide) rfl ?_
      refine A_goto (tgt := 403) rfl (by decide) ?_
      refine A_pc (pc' := 403) rfl ?_
      refine A_sub (Ls' := [(0, vA 184), (4, vI s0), (5, vI 66)]) [2, 1, 0] rfl ?_
      exact o_Mod_signToken_403  _ _ _ _ _ h
  · rw [if_pos hc40] at h
    refine A_pc (pc' := 312) rfl ?_
    refine A_bipush (v := 36) rfl (by decide) ?_
    refine A_goto (tgt := 330) rfl (by decide) ?_
    refine A_istore (Ls' := [(5, vI 36), (4, vI s0), (0, vA 184), (2, vI l2)]) rfl (by decide) rfl ?_
    refine A_goto (tgt := 403) rfl (by decide) ?_
    refine A_pc (pc' := 403) rfl ?_
    refine A_sub (Ls' := [(0, vA 184), (4, vI s0), (5, vI 36)]) [2, 1, 0] rfl ?_
    exact o_Mod_signToken_403  _ _ _ _ _ h
def f_Mod_signToken_167 (l1 : Int32) (l2 : Int32) (l3 : Int32) (l4 : Int32) (s0 : Int32) (M : ax_M) : Option (Int32 × ax_M) :=
  if l1 = 60 then (if l2 = 61 then (f_Mod_signToken_192 l1 2 M) else (f_Mod_signToken_192 l1 1 M)) else (if l1 = 62 then (if l2 = 61 then (f_Mod_signToken_192 l1 2 M) else (f_Mod_signToken_192 l1 1 M)) else (if l1 = 61 then (if l2 = 61 then (f_Mod_signToken_240 l1 2 M) else (f_Mod_signToken_240 l1 1 M)) else (if l1 = 33 then (if l2 = 61 then (f_Mod_signToken_240 l1 2 M) else (f_Mod_signToken_240 l1 1 M)) else (if l1 = 63 then (if l2 = 58 then (f_Mod_signToken_304 l2 2 M) else (if l2 = 46 then (f_Mod_signToken_304 l2 2 M) else (f_Mod_signToken_304 l2 1 M))) else (if l1 = 46 then (if l3 = 91 then (if l2 = 63 then (f_Mod_signToken_387 16 M) else (if l2 = 94 then (f_Mod_signToken_387 17 M) else (if l2 = 36 then (f_Mod_signToken_387 18 M) else (f_Mod_signToken_387 67 M)))) else (f_Mod_signToken_387 67 M)) else (f_Mod_signToken_403 l4 s0 M))))))
set_option maxHeartbeats 4000000 in
set_option maxRecDepth 100000 in
theorem o_Mod_signToken_167 {l : Launch} {g : ax_G} (l1 : Int32) (l2 : Int32) (l3 : Int32) (l4 : Int32) (s0 : Int32) (M : ax_M) (r : Int32) (M' : ax_M) (h : f_Mod_signToken_167  l1 l2 l3 l4 s0 M = some (r, M')) : AW l g true Y_Mod_signToken 2 (some (vI r), M') 167 [(0, vA 184), (1, vI l1), (2, vI l2), (3, vI l3), (4, vI l4)] [vI s0] M := by
  unfold f_Mod_signToken_167 at h
  refine A_istore (Ls' := [(5, vI s0), (0, vA 184), (1, vI l1), (2, vI l2), (3, vI l3), (4, vI l4)]) rfl (by decide) rfl ?_
  refine A_iload_n 2 rfl rfl rfl ?_
  refine A_bipush (v := 60) rfl (by decide) ?_
  refine A_icmp_eq (tgt := 181) rfl (by decide) (fun hc19 => ?_) (fun hc19 => ?_)
  · rw [if_pos hc19] at h
    refine A_iload_n 3 rfl rfl rfl ?_
    refine A_bipush (v := 61) rfl (by decide) ?_
    refine A_icmp_ne (tgt := 191) rfl (by decide) (fun hc20 => ?_) (fun hc20 => ?_)
    · rw [if_neg hc20] at h
      refine A_iconst (v := 1) rfl (by decide) ?_
      refine A_pc (pc' := 192) rfl ?_
      refine A_sub (Ls' := [(0, vA 184), (1, vI l1)]) [1, 2] rfl ?_
      exact o_Mod_signToken_192  _ _ _ _ _ h
    · rw [if_pos hc20] at h
      refine A_pc (pc' := 187) rfl ?_
      refine A_iconst (v := 2) rfl (by decide) ?_
      refine A_goto (tgt := 192) rfl (by decide) ?_
      refine A_pc (pc' := 192) rfl ?_
      refine A_sub (Ls' := [(0, vA 184), (1, vI l1)]) [1, 2] rfl ?_
      exact o_Mod_signToken_192  _ _ _ _ _ h
  · rw [if_neg hc19] at h
    refine A_pc (pc' := 175) rfl ?_
    refine A_iload_n 2 rfl rfl rfl ?_
    refine A_bipush (v := 62) rfl (by decide) ?_
    refine A_icmp_ne (tgt := 217) rfl (by decide) (fun hc25 => ?_) (fun hc25 => ?_)
    · rw [if_neg hc25] at h
      refine A_iload_n 2 rfl rfl rfl ?_
      refine A_bipush (v := 61) rfl (by decide) ?_
      refine A_icmp_eq (tgt := 229) rfl (by decide) (fun hc26 => ?_) (fun hc26 => ?_)
      · rw [if_pos hc26] at h
        refine A_iload_n 3 rfl rfl rfl ?_
        refine A_bipush (v := 61) rfl (by decide) ?_
        refine A_icmp_ne (tgt := 239) rfl (by decide) (fun hc27 => ?_) (fun hc27 => ?_)
        · rw [if_neg hc27] at h
          refine A_iconst (v := 1) rfl (by decide) ?_
          refine A_pc (pc' := 240) rfl ?_
          refine A_sub (Ls' := [(0, vA 184), (1, vI l1)]) [1, 2] rfl ?_
          exact o_Mod_signToken_240  _ _ _ _ _ h
        · rw [if_pos hc27] at h
          refine A_pc (pc' := 235) rfl ?_
          refine A_iconst (v := 2) rfl (by decide) ?_
          refine A_goto (tgt := 240) rfl (by decide) ?_
          refine A_pc (pc' := 240) rfl ?_
          refine A_sub (Ls' := [(0, vA 184), (1, vI l1)]) [1, 2] rfl ?_
          exact o_Mod_signToken_240  _ _ _ _ _ h
      · rw [if_neg hc26] at h
        refine A_pc (pc' := 223) rfl ?_
        refine A_iload_n 2 rfl rfl rfl ?_
        refine A_bipush (v := 33) rfl (by decide) ?_
        refine A_icmp_ne (tgt := 281) rfl (by decide) (fun hc31 => ?_) (fun hc31 => ?_)
        · rw [if_neg hc31] at h
          refine A_iload_n 2 rfl rfl rfl ?_
          refine A_bipush (v := 63) rfl (by decide) ?_
          refine A_icmp_ne (tgt := 335) rfl (by decide) (fun hc32 => ?_) (fun hc32 => ?_)
          · rw [if_neg hc32] at h
            refine A_iload_n 2 rfl rfl rfl ?_
            refine A_bipush (v := 46) rfl (by decide) ?_
            refine A_icmp_ne (tgt := 403) rfl (by decide) (fun hc33 => ?_) (fun hc33 => ?_)
            · rw [if_neg hc33] at h
              refine A_pc (pc' := 403) rfl ?_
              refine A_sub (Ls' := [(0, vA 184), (4, vI l4), (5, vI s0)]) [1, 5, 0] rfl ?_
              exact o_Mod_signToken_403  _ _ _ _ _ h
            · rw [if_pos hc33] at h
              refine A_pc (pc' := 341) rfl ?_
              refine A_iload_n 4 rfl rfl rfl ?_
              refine A_bipush (v := 91) rfl (by decide) ?_
              refine A_icmp_eq (tgt := 352) rfl (by decide) (fun hc34 => ?_) (fun hc34 => ?_)
              · rw [if_pos hc34] at h
                refine A_iload_n 3 rfl rfl rfl ?_
                refine A_bipush (v := 63) rfl (by decide) ?_
                refine A_icmp_ne (tgt := 363) rfl (by decide) (fun hc35 => ?_) (fun hc35 => ?_)
                · rw [if_neg hc35] at h
                  refine A_iload_n 3 rfl rfl rfl ?_
                  refine A_bipush (v := 94) rfl (by decide) ?_
                  refine A_icmp_ne (tgt := 374) rfl (by decide) (fun hc36 => ?_) (fun hc36 => ?_)
                  · rw [if_neg hc36] at h
                    refine A_iload_n 3 rfl rfl rfl ?_
                    refine A_bipush (v := 36) rfl (by decide) ?_
                    refine A_icmp_ne (tgt := 385) rfl (by decide) (fun hc37 => ?_) (fun hc37 => ?_)
                    · rw [if_neg hc37] at h
                      refine A_bipush (v := 67) rfl (by decide) ?_
                      refine A_pc (pc' := 387) rfl ?_
                      refine A_sub (Ls' := [(0, vA 184)]) [1] rfl ?_
                      exact o_Mod_signToken_387  _ _ _ _ h
                    · rw [if_pos hc37] at h
                      refine A_pc (pc' := 380) rfl ?_
                      refine A_bipush (v := 18) rfl (by decide) ?_
                      refine A_goto (tgt := 387) rfl (by decide) ?_
                      refine A_pc (pc' := 387) rfl ?_
                      refine A_sub (Ls' := [(0, vA 184)]) [1] rfl ?_
                      exact o_Mod_signToken_387  _ _ _ _ h
                  · rw [if_pos hc36] at h
                    refine A_pc (pc' := 369) rfl ?_
                    refine A_bipush (v := 17) rfl (by decide) ?_
                    refine A_goto (tgt := 387) rfl (by decide) ?_
                    refine A_pc (pc' := 387) rfl ?_
                    refine A_sub (Ls' := [(0, vA 184)]) [1] rfl ?_
                    exact o_Mod_signToken_387  _ _ _ _ h
                · rw [if_pos hc35] at h
                  refine A_pc (pc' := 358) rfl ?_
                  refine A_bipush (v := 16) rfl (by decide) ?_
                  refine A_goto (tgt := 387) rfl (by decide) ?_
                  refine A_pc (pc' := 387) rfl ?_
                  refine A_sub (Ls' := [(0, vA 184)]) [1] rfl ?_
                  exact o_Mod_signToken_387  _ _ _ _ h
              · rw [if_neg hc34] at h
                refine A_pc (pc' := 347) rfl ?_
                refine A_bipush (v := 67) rfl (by decide) ?_
                refine A_goto (tgt := 387) rfl (by decide) ?_
                refine A_pc (pc' := 387) rfl ?_
                refine A_sub (Ls' := [(0, vA 184)]) [1] rfl ?_
                exact o_Mod_signToken_387  _ _ _ _ h
          · rw [if_pos hc32] at h
            refine A_pc (pc' := 287) rfl ?_
            refine A_iload_n 3 rfl rfl rfl ?_
            refine A_bipush (v := 58) rfl (by decide) ?_
            refine A_icmp_eq (tgt := 299) rfl (by decide) (fun hc39 => ?_) (fun hc39 => ?_)
            · rw [if_pos hc39] at h
              refine A_iconst (v := 2) rfl (by decide) ?_
              refine A_goto (tgt := 304) rfl (by decide) ?_
              refine A_pc (pc' := 304) rfl ?_
              refine A_sub (Ls' := [(0, vA 184), (2, vI l2)]) [1, 3] rfl ?_
              exact o_Mod_signToken_304  _ _ _ _ _ h
            · rw [if_neg hc39] at h
              refine A_pc (pc' := 293) rfl ?_
              refine A_iload_n 3 rfl rfl rfl ?_
              refine A_bipush (v := 46) rfl (by decide) ?_
              refine A_icmp_ne (tgt := 303) rfl (by decide) (fun hc42 => ?_) (fun hc42 => ?_)
              · rw [if_neg hc42] at h
                refine A_iconst (v := 1) rfl (by decide) ?_
                refine A_pc (pc' := 304) rfl ?_
                refine A_sub (Ls' := [(0, vA 184), (2, vI l2)]) [1, 3] rfl ?_
                exact o_Mod_signToken_304  _ _ _ _ _ h
              · rw [if_pos hc42] at h
                refine A_pc (pc' := 299) rfl ?_
                refine A_iconst (v := 2) rfl (by decide) ?_
                refine A_goto (tgt := 304) rfl (by decide) ?_
                refine A_pc (pc' := 304) rfl ?_
                refine A_sub (Ls' := [(0, vA 184), (2, vI l2)]) [1, 3] rfl ?_
                exact o_Mod_signToken_304  _ _ _ _ _ h
        · rw [if_pos hc31] at h
          refine A_pc (pc' := 229) rfl ?_
          refine A_iload_n 3 rfl rfl rfl ?_
          refine A_bipush (v := 61) rfl (by decide) ?_
          refine A_icmp_ne (tgt := 239) rfl (by decide) (fun hc43 => ?_) (fun hc43 => ?_)
          · rw [if_neg hc43] at h
            refine A_iconst (v := 1) rfl (by decide) ?_
            refine A_pc (pc' := 240) rfl ?_
            refine A_sub (Ls' := [(0, vA 184), (1, vI l1)]) [1, 2] rfl ?_
            exact o_Mod_signToken_240  _ _ _ _ _ h
          · rw [if_pos hc43] at h
            refine A_pc (pc' := 235) rfl ?_
            refine A_iconst (v := 2) rfl (by decide) ?_
            refine A_goto (tgt := 240) rfl (by decide) ?_
            refine A_pc (pc' := 240) rfl ?_
            refine A_sub (Ls' := [(0, vA 184), (1, vI l1)]) [1, 2] rfl ?_
            exact o_Mod_signToken_240  _ _ _ _ _ h
    · rw [if_pos hc25] at h
      refine A_pc (pc' := 181) rfl ?_
      refine A_iload_n 3 rfl rfl rfl ?_
      refine A_bipush (v := 61) rfl (by decide) ?_
      refine A_icmp_ne (tgt := 191) rfl (by decide) (fun hc44 => ?_) (fun hc44 => ?_)
      · rw [if_neg hc44] at h
        refine A_iconst (v := 1) rfl (by decide) ?_
        refine A_pc (pc' := 192) rfl ?_
        refine A_sub (Ls' := [(0, vA 184), (1, vI l1)]) [1, 2] rfl ?_
        exact o_Mod_signToken_192  _ _ _ _ _ h
      · rw [if_pos hc44] at h
        refine A_pc (pc' := 187) rfl ?_
        refine A_iconst (v := 2) rfl (by decide) ?_
        refine A_goto (tgt := 192) rfl (by decide) ?_
        refine A_pc (pc' := 192) rfl ?_
        refine A_sub (Ls' := [(0, vA 184), (1, vI l1)]) [1, 2] rfl ?_
        exact o_Mod_signToken_192  _ _ _ _ _ h
def f_Mod_signToken  (M : ax_M) : Option (Int32 × ax_M) :=
  bnd (f_Mod_at (gI M 184 5) M) (fun q1 M2 => bnd (f_Mod_at ((gI M2 184 5) + 1) M2) (fun q3 M4 => bnd (f_Mod_at ((gI M4 184 5) + 2) M4) (fun q5 M6 => if q1 = 40 then (f_Mod_signToken_167 q1 q3 q5 1 60 M6) else (if q1 = 41 then (f_Mod_signToken_167 q1 q3 q5 1 61 M6) else (if q1 = 91 then (f_Mod_signToken_167 q1 q3 q5 1 62 M6) else (if q1 = 93 then (f_Mod_signToken_167 q1 q3 q5 1 63 M6) else (if q1 = 58 then (f_Mod_signToken_167 q1 q3 q5 1 64 M6) else (if q1 = 124 then (f_Mod_signToken_167 q1 q3 q5 1 22 M6) else (if q1 = 38 then (f_Mod_signToken_167 q1 q3 q5 1 23 M6) else (if q1 = 43 then (f_Mod_signToken_167 q1 q3 q5 1 30 M6) else (if q1 = 45 then (f_Mod_signToken_167 q1 q3 q5 1 31 M6) else (if q1 = 42 then (f_Mod_signToken_167 q1 q3 q5 1 32 M6) else (if q1 = 47 then (f_Mod_signToken_167 q1 q3 q5 1 33 M6) else (if q1 = 37 then (f_Mod_signToken_167 q1 q3 q5 1 34 M6) else (f_Mod_signToken_167 q1 q3 q5 1 0 M6)))))))))))))))
set_option maxHeartbeats 4000000 in
set_option maxRecDepth 100000 in
theorem c_Mod_signToken {l : Launch} {g : ax_G}  {M : ax_M} {r : Int32} {M' : ax_M} (h : f_Mod_signToken  M = some (r, M')) : Ctr l g true Y_Mod_signToken 2 [vA 184] M (some (vI r), M') := by
  refine Ctr.ofAW yok_Mod_signToken (Nat.le_of_ble_eq_true rfl) (Or.inl rfl) ?_
  show AW l g true Y_Mod_signToken 2 (some (vI r), M') 0 [(0, vA 184)] [] M
  unfold f_Mod_signToken at h
  refine A_aload_n 0 rfl rfl rfl ?_
  refine A_aload_n 0 rfl rfl rfl ?_
  refine A_getI rfl fl_Mod_140 rfl (by decide) (Or.inl rfl) ?_
  obtain ⟨q1, M2, hcq1, h⟩ := bnd_out h
  refine A_callV (ci := 11) (as := [vI (gI M 184 5)]) (st' := []) (r1 := (some (vI q1), M2)) rfl ml_Mod_136 rfl (by decide) (by decide) (Or.inl rfl) rfl rfl (Nat.le_of_ble_eq_true rfl) (by decide) (c_Mod_at hcq1) (Or.inl rfl) ?_
  refine A_pc (pc' := 8) rfl ?_
  refine A_stk (st' := [vI q1]) rfl ?_
  refine A_istore_n (Ls' := [(1, vI q1), (0, vA 184)]) rfl rfl (by decide) rfl ?_
  refine A_pc (pc' := 9) rfl ?_
  refine A_aload_n 1 rfl rfl rfl ?_
  refine A_aload_n 1 rfl rfl rfl ?_
  refine A_getI rfl fl_Mod_140 rfl (by decide) (Or.inl rfl) ?_
  refine A_iconst (v := 1) rfl (by decide) ?_
  refine A_iadd rfl ?_
  obtain ⟨q3, M4, hcq3, h⟩ := bnd_out h
  refine A_callV (ci := 11) (as := [vI ((gI M2 184 5) + 1)]) (st' := []) (r1 := (some (vI q3), M4)) rfl ml_Mod_136 rfl (by decide) (by decide) (Or.inl rfl) rfl rfl (Nat.le_of_ble_eq_true rfl) (by decide) (c_Mod_at hcq3) (Or.inl rfl) ?_
  refine A_pc (pc' := 19) rfl ?_
  refine A_stk (st' := [vI q3]) rfl ?_
  refine A_pc (pc' := 19) rfl ?_
  refine A_istore_n (Ls' := [(2, vI q3), (1, vI q1), (0, vA 184)]) rfl rfl (by decide) rfl ?_
  refine A_aload_n 2 rfl rfl rfl ?_
  refine A_aload_n 2 rfl rfl rfl ?_
  refine A_getI rfl fl_Mod_140 rfl (by decide) (Or.inl rfl) ?_
  refine A_iconst (v := 2) rfl (by decide) ?_
  refine A_iadd rfl ?_
  refine A_pc (pc' := 27) rfl ?_
  obtain ⟨q5, M6, hcq5, h⟩ := bnd_out h
  refine A_callV (ci := 11) (as := [vI ((gI M4 184 5) + 2)]) (st' := []) (r1 := (some (vI q5), M6)) rfl ml_Mod_136 rfl (by decide) (by decide) (Or.inl rfl) rfl rfl (Nat.le_of_ble_eq_true rfl) (by decide) (c_Mod_at hcq5) (Or.inl rfl) ?_
  refine A_pc (pc' := 30) rfl ?_
  refine A_stk (st' := [vI q5]) rfl ?_
  refine A_istore_n (Ls' := [(3, vI q5), (2, vI q3), (1, vI q1), (0, vA 184)]) rfl rfl (by decide) rfl ?_
  refine A_iconst (v := 1) rfl (by decide) ?_
  refine A_istore (Ls' := [(4, vI 1), (3, vI q5), (2, vI q3), (1, vI q1), (0, vA 184)]) rfl (by decide) rfl ?_
  refine A_iload_n 3 rfl rfl rfl ?_
  refine A_bipush (v := 40) rfl (by decide) ?_
  refine A_pc (pc' := 37) rfl ?_
  refine A_icmp_ne (tgt := 45) rfl (by decide) (fun hc7 => ?_) (fun hc7 => ?_)
  · rw [if_neg hc7] at h
    refine A_iload_n 3 rfl rfl rfl ?_
    refine A_bipush (v := 41) rfl (by decide) ?_
    refine A_icmp_ne (tgt := 56) rfl (by decide) (fun hc8 => ?_) (fun hc8 => ?_)
    · rw [if_neg hc8] at h
      refine A_iload_n 3 rfl rfl rfl ?_
      refine A_bipush (v := 91) rfl (by decide) ?_
      refine A_icmp_ne (tgt := 67) rfl (by decide) (fun hc9 => ?_) (fun hc9 => ?_)
      · rw [if_neg hc9] at h
        refine A_iload_n 3 rfl rfl rfl ?_
        refine A_bipush (v := 93) rfl (by decide) ?_
        refine A_icmp_ne (tgt := 78) rfl (by decide) (fun hc10 => ?_) (fun hc10 => ?_)
        · rw [if_neg hc10] at h
          refine A_iload_n 3 rfl rfl rfl ?_
          refine A_bipush (v := 58) rfl (by decide) ?_
          refine A_icmp_ne (tgt := 89) rfl (by decide) (fun hc11 => ?_) (fun hc11 => ?_)
          · rw [if_neg hc11] at h
            refine A_iload_n 3 rfl rfl rfl ?_
            refine A_bipush (v := 124) rfl (by decide) ?_
            refine A_icmp_ne (tgt := 100) rfl (by decide) (fun hc12 => ?_) (fun hc12 => ?_)
            · rw [if_neg hc12] at h
              refine A_iload_n 3 rfl rfl rfl ?_
              refine A_bipush (v := 38) rfl (by decide) ?_
              refine A_icmp_ne (tgt := 111) rfl (by decide) (fun hc13 => ?_) (fun hc13 => ?_)
              · rw [if_neg hc13] at h
                refine A_iload_n 3 rfl rfl rfl ?_
                refine A_bipush (v := 43) rfl (by decide) ?_
                refine A_icmp_ne (tgt := 122) rfl (by decide) (fun hc14 => ?_) (fun hc14 => ?_)
                · rw [if_neg hc14] at h
                  refine A_iload_n 3 rfl rfl rfl ?_
                  refine A_bipush (v := 45) rfl (by decide) ?_
                  refine A_icmp_ne (tgt := 133) rfl (by decide) (fun hc15 => ?_) (fun hc15 => ?_)
                  · rw [if_neg hc15] at h
                    refine A_iload_n 3 rfl rfl rfl ?_
                    refine A_bipush (v := 42) rfl (by decide) ?_
                    refine A_icmp_ne (tgt := 144) rfl (by decide) (fun hc16 => ?_) (fun hc16 => ?_)
                    · rw [if_neg hc16] at h
                      refine A_iload_n 3 rfl rfl rfl ?_
                      refine A_bipush (v := 47) rfl (by decide) ?_
                      refine A_icmp_ne (tgt := 155) rfl (by decide) (fun hc17 => ?_) (fun hc17 => ?_)
                      · rw [if_neg hc17] at h
                        refine A_iload_n 3 rfl rfl rfl ?_
                        refine A_bipush (v := 37) rfl (by decide) ?_
                        refine A_icmp_ne (tgt := 166) rfl (by decide) (fun hc18 => ?_) (fun hc18 => ?_)
                        · rw [if_neg hc18] at h
                          refine A_iconst (v := 0) rfl (by decide) ?_
                          refine A_pc (pc' := 167) rfl ?_
                          refine A_sub (Ls' := [(0, vA 184), (1, vI q1), (2, vI q3), (3, vI q5), (4, vI 1)]) [4, 3, 2, 1, 0] rfl ?_
                          exact o_Mod_signToken_167  _ _ _ _ _ _ _ _ h
                        · rw [if_pos hc18] at h
                          refine A_pc (pc' := 161) rfl ?_
                          refine A_bipush (v := 34) rfl (by decide) ?_
                          refine A_goto (tgt := 167) rfl (by decide) ?_
                          refine A_pc (pc' := 167) rfl ?_
                          refine A_sub (Ls' := [(0, vA 184), (1, vI q1), (2, vI q3), (3, vI q5), (4, vI 1)]) [4, 3, 2, 1, 0] rfl ?_
                          exact o_Mod_signToken_167  _ _ _ _ _ _ _ _ h
                      · rw [if_pos hc17] at h
                        refine A_pc (pc' := 150) rfl ?_
                        refine A_bipush (v := 33) rfl (by decide) ?_
                        refine A_goto (tgt := 167) rfl (by decide) ?_
                        refine A_pc (pc' := 167) rfl ?_
                        refine A_sub (Ls' := [(0, vA 184), (1, vI q1), (2, vI q3), (3, vI q5), (4, vI 1)]) [4, 3, 2, 1, 0] rfl ?_
                        exact o_Mod_signToken_167  _ _ _ _ _ _ _ _ h
                    · rw [if_pos hc16] at h
                      refine A_pc (pc' := 139) rfl ?_
                      refine A_bipush (v := 32) rfl (by decide) ?_
                      refine A_goto (tgt := 167) rfl (by decide) ?_
                      refine A_pc (pc' := 167) rfl ?_
                      refine A_sub (Ls' := [(0, vA 184), (1, vI q1), (2, vI q3), (3, vI q5), (4, vI 1)]) [4, 3, 2, 1, 0] rfl ?_
                      exact o_Mod_signToken_167  _ _ _ _ _ _ _ _ h
                  · rw [if_pos hc15] at h
                    refine A_pc (pc' := 128) rfl ?_
                    refine A_bipush (v := 31) rfl (by decide) ?_
                    refine A_goto (tgt := 167) rfl (by decide) ?_
                    refine A_pc (pc' := 167) rfl ?_
                    refine A_sub (Ls' := [(0, vA 184), (1, vI q1), (2, vI q3), (3, vI q5), (4, vI 1)]) [4, 3, 2, 1, 0] rfl ?_
                    exact o_Mod_signToken_167  _ _ _ _ _ _ _ _ h
                · rw [if_pos hc14] at h
                  refine A_pc (pc' := 117) rfl ?_
                  refine A_bipush (v := 30) rfl (by decide) ?_
                  refine A_goto (tgt := 167) rfl (by decide) ?_
                  refine A_pc (pc' := 167) rfl ?_
                  refine A_sub (Ls' := [(0, vA 184), (1, vI q1), (2, vI q3), (3, vI q5), (4, vI 1)]) [4, 3, 2, 1, 0] rfl ?_
                  exact o_Mod_signToken_167  _ _ _ _ _ _ _ _ h
              · rw [if_pos hc13] at h
                refine A_pc (pc' := 106) rfl ?_
                refine A_bipush (v := 23) rfl (by decide) ?_
                refine A_goto (tgt := 167) rfl (by decide) ?_
                refine A_pc (pc' := 167) rfl ?_
                refine A_sub (Ls' := [(0, vA 184), (1, vI q1), (2, vI q3), (3, vI q5), (4, vI 1)]) [4, 3, 2, 1, 0] rfl ?_
                exact o_Mod_signToken_167  _ _ _ _ _ _ _ _ h
            · rw [if_pos hc12] at h
              refine A_pc (pc' := 95) rfl ?_
              refine A_bipush (v := 22) rfl (by decide) ?_
              refine A_goto (tgt := 167) rfl (by decide) ?_
              refine A_pc (pc' := 167) rfl ?_
              refine A_sub (Ls' := [(0, vA 184), (1, vI q1), (2, vI q3), (3, vI q5), (4, vI 1)]) [4, 3, 2, 1, 0] rfl ?_
              exact o_Mod_signToken_167  _ _ _ _ _ _ _ _ h
          · rw [if_pos hc11] at h
            refine A_pc (pc' := 84) rfl ?_
            refine A_bipush (v := 64) rfl (by decide) ?_
            refine A_goto (tgt := 167) rfl (by decide) ?_
            refine A_pc (pc' := 167) rfl ?_
            refine A_sub (Ls' := [(0, vA 184), (1, vI q1), (2, vI q3), (3, vI q5), (4, vI 1)]) [4, 3, 2, 1, 0] rfl ?_
            exact o_Mod_signToken_167  _ _ _ _ _ _ _ _ h
        · rw [if_pos hc10] at h
          refine A_pc (pc' := 73) rfl ?_
          refine A_bipush (v := 63) rfl (by decide) ?_
          refine A_goto (tgt := 167) rfl (by decide) ?_
          refine A_pc (pc' := 167) rfl ?_
          refine A_sub (Ls' := [(0, vA 184), (1, vI q1), (2, vI q3), (3, vI q5), (4, vI 1)]) [4, 3, 2, 1, 0] rfl ?_
          exact o_Mod_signToken_167  _ _ _ _ _ _ _ _ h
      · rw [if_pos hc9] at h
        refine A_pc (pc' := 62) rfl ?_
        refine A_bipush (v := 62) rfl (by decide) ?_
        refine A_goto (tgt := 167) rfl (by decide) ?_
        refine A_pc (pc' := 167) rfl ?_
        refine A_sub (Ls' := [(0, vA 184), (1, vI q1), (2, vI q3), (3, vI q5), (4, vI 1)]) [4, 3, 2, 1, 0] rfl ?_
        exact o_Mod_signToken_167  _ _ _ _ _ _ _ _ h
    · rw [if_pos hc8] at h
      refine A_pc (pc' := 51) rfl ?_
      refine A_bipush (v := 61) rfl (by decide) ?_
      refine A_goto (tgt := 167) rfl (by decide) ?_
      refine A_pc (pc' := 167) rfl ?_
      refine A_sub (Ls' := [(0, vA 184), (1, vI q1), (2, vI q3), (3, vI q5), (4, vI 1)]) [4, 3, 2, 1, 0] rfl ?_
      exact o_Mod_signToken_167  _ _ _ _ _ _ _ _ h
  · rw [if_pos hc7] at h
    refine A_pc (pc' := 40) rfl ?_
    refine A_bipush (v := 60) rfl (by decide) ?_
    refine A_goto (tgt := 167) rfl (by decide) ?_
    refine A_pc (pc' := 167) rfl ?_
    refine A_sub (Ls' := [(0, vA 184), (1, vI q1), (2, vI q3), (3, vI q5), (4, vI 1)]) [4, 3, 2, 1, 0] rfl ?_
    exact o_Mod_signToken_167  _ _ _ _ _ _ _ _ h
def tb_Mod_rank : List (Nat × Instr × Nat) := [(0, .iload_n 1, 1), (1, .bipush 22, 2), (3, .if_icmp .ne 7, 3), (6, .iconst 1, 1), (7, .goto 112, 3), (10, .iload_n 1, 1), (11, .bipush 23, 2), (13, .if_icmp .ne 7, 3), (16, .iconst 2, 1), (17, .goto 102, 3), (20, .iload_n 1, 1), (21, .bipush 24, 2), (23, .if_icmp .eq 9, 3), (26, .iload_n 1, 1), (27, .bipush 25, 2), (29, .if_icmp .ne 7, 3), (32, .iconst 3, 1), (33, .goto 86, 3), (36, .iload_n 1, 1), (37, .bipush 26, 2), (39, .if_icmp .lt 13, 3), (42, .iload_n 1, 1), (43, .bipush 29, 2), (45, .if_icmp .gt 7, 3), (48, .iconst 4, 1), (49, .goto 70, 3), (52, .iload_n 1, 1), (53, .bipush 30, 2), (55, .if_icmp .eq 9, 3), (58, .iload_n 1, 1), (59, .bipush 31, 2), (61, .if_icmp .ne 7, 3), (64, .iconst 5, 1), (65, .goto 54, 3), (68, .iload_n 1, 1), (69, .bipush 32, 2), (71, .if_icmp .lt 14, 3), (74, .iload_n 1, 1), (75, .bipush 34, 2), (77, .if_icmp .gt 8, 3), (80, .bipush 6, 2), (82, .goto 37, 3), (85, .iload_n 1, 1), (86, .bipush 20, 2), (88, .if_icmp .eq 9, 3), (91, .iload_n 1, 1), (92, .bipush 21, 2), (94, .if_icmp .ne 8, 3), (97, .bipush 7, 2), (99, .goto 20, 3), (102, .iload_n 1, 1), (103, .bipush 35, 2), (105, .if_icmp .eq 9, 3), (108, .iload_n 1, 1), (109, .bipush 36, 2), (111, .if_icmp .ne 7, 3), (114, .iconst 0, 1), (115, .goto 4, 3), (118, .iconst (-1), 1), (119, .ireturn, 1)]
def Y_Mod_rank : ax_Y := (⟨"MethodWardenModel", "rank", "(I)I"⟩, prog_14_method_10_code, 2, some .int, tb_Mod_rank)
theorem yok_Mod_rank : yOK Y_Mod_rank := ⟨by decide +kernel, by decide +kernel, inWG 1295 (by decide +kernel) (by decide +kernel), inWG 107 (by decide +kernel) (by decide +kernel), by decide +kernel⟩
def f_Mod_rank_85 (l1 : Int32) (M : ax_M) : Option (Int32 × ax_M) :=
  if l1 = 20 then (some (7, M)) else (if l1 = 21 then (some (7, M)) else (if l1 = 35 then (some (0, M)) else (if l1 = 36 then (some (0, M)) else (some ((-1), M)))))
set_option maxHeartbeats 4000000 in
set_option maxRecDepth 100000 in
theorem o_Mod_rank_85 {l : Launch} {g : ax_G} (l1 : Int32) (M : ax_M) (r : Int32) (M' : ax_M) (h : f_Mod_rank_85  l1 M = some (r, M')) : AW l g true Y_Mod_rank 1 (some (vI r), M') 85 [(1, vI l1)] [] M := by
  unfold f_Mod_rank_85 at h
  refine A_iload_n 0 rfl rfl rfl ?_
  refine A_bipush (v := 20) rfl (by decide) ?_
  refine A_icmp_eq (tgt := 97) rfl (by decide) (fun hc9 => ?_) (fun hc9 => ?_)
  · rw [if_pos hc9] at h
    refine A_bipush (v := 7) rfl (by decide) ?_
    refine A_goto (tgt := 119) rfl (by decide) ?_
    obtain ⟨rfl, rfl⟩ := leaf h
    exact A_iret rfl rfl
  · rw [if_neg hc9] at h
    refine A_pc (pc' := 91) rfl ?_
    refine A_iload_n 0 rfl rfl rfl ?_
    refine A_bipush (v := 21) rfl (by decide) ?_
    refine A_icmp_ne (tgt := 102) rfl (by decide) (fun hc10 => ?_) (fun hc10 => ?_)
    · rw [if_neg hc10] at h
      refine A_iload_n 0 rfl rfl rfl ?_
      refine A_bipush (v := 35) rfl (by decide) ?_
      refine A_icmp_eq (tgt := 114) rfl (by decide) (fun hc11 => ?_) (fun hc11 => ?_)
      · rw [if_pos hc11] at h
        refine A_iconst (v := 0) rfl (by decide) ?_
        refine A_goto (tgt := 119) rfl (by decide) ?_
        obtain ⟨rfl, rfl⟩ := leaf h
        exact A_iret rfl rfl
      · rw [if_neg hc11] at h
        refine A_pc (pc' := 108) rfl ?_
        refine A_iload_n 0 rfl rfl rfl ?_
        refine A_bipush (v := 36) rfl (by decide) ?_
        refine A_icmp_ne (tgt := 118) rfl (by decide) (fun hc12 => ?_) (fun hc12 => ?_)
        · rw [if_neg hc12] at h
          refine A_iconst (v := (-1)) rfl (by decide) ?_
          obtain ⟨rfl, rfl⟩ := leaf h
          exact A_iret rfl rfl
        · rw [if_pos hc12] at h
          refine A_pc (pc' := 114) rfl ?_
          refine A_iconst (v := 0) rfl (by decide) ?_
          refine A_goto (tgt := 119) rfl (by decide) ?_
          obtain ⟨rfl, rfl⟩ := leaf h
          exact A_iret rfl rfl
    · rw [if_pos hc10] at h
      refine A_pc (pc' := 97) rfl ?_
      refine A_bipush (v := 7) rfl (by decide) ?_
      refine A_goto (tgt := 119) rfl (by decide) ?_
      obtain ⟨rfl, rfl⟩ := leaf h
      exact A_iret rfl rfl
def f_Mod_rank_52 (l1 : Int32) (M : ax_M) : Option (Int32 × ax_M) :=
  if l1 = 30 then (some (5, M)) else (if l1 = 31 then (some (5, M)) else (if l1 < 32 then (f_Mod_rank_85 l1 M) else (if 34 < l1 then (f_Mod_rank_85 l1 M) else (some (6, M)))))
set_option maxHeartbeats 4000000 in
set_option maxRecDepth 100000 in
theorem o_Mod_rank_52 {l : Launch} {g : ax_G} (l1 : Int32) (M : ax_M) (r : Int32) (M' : ax_M) (h : f_Mod_rank_52  l1 M = some (r, M')) : AW l g true Y_Mod_rank 1 (some (vI r), M') 52 [(1, vI l1)] [] M := by
  unfold f_Mod_rank_52 at h
  refine A_iload_n 0 rfl rfl rfl ?_
  refine A_bipush (v := 30) rfl (by decide) ?_
  refine A_icmp_eq (tgt := 64) rfl (by decide) (fun hc6 => ?_) (fun hc6 => ?_)
  · rw [if_pos hc6] at h
    refine A_iconst (v := 5) rfl (by decide) ?_
    refine A_goto (tgt := 119) rfl (by decide) ?_
    obtain ⟨rfl, rfl⟩ := leaf h
    exact A_iret rfl rfl
  · rw [if_neg hc6] at h
    refine A_pc (pc' := 58) rfl ?_
    refine A_iload_n 0 rfl rfl rfl ?_
    refine A_bipush (v := 31) rfl (by decide) ?_
    refine A_icmp_ne (tgt := 68) rfl (by decide) (fun hc7 => ?_) (fun hc7 => ?_)
    · rw [if_neg hc7] at h
      refine A_iload_n 0 rfl rfl rfl ?_
      refine A_bipush (v := 32) rfl (by decide) ?_
      refine A_icmp_lt (tgt := 85) rfl (by decide) (fun hc8 => ?_) (fun hc8 => ?_)
      · rw [if_pos hc8] at h
        refine A_pc (pc' := 85) rfl ?_
        refine A_sub (Ls' := [(1, vI l1)]) [0] rfl ?_
        exact o_Mod_rank_85  _ _ _ _ h
      · rw [if_neg hc8] at h
        refine A_pc (pc' := 74) rfl ?_
        refine A_iload_n 0 rfl rfl rfl ?_
        refine A_bipush (v := 34) rfl (by decide) ?_
        refine A_icmp_gt (tgt := 85) rfl (by decide) (fun hc13 => ?_) (fun hc13 => ?_)
        · rw [if_pos hc13] at h
          refine A_pc (pc' := 85) rfl ?_
          refine A_sub (Ls' := [(1, vI l1)]) [0] rfl ?_
          exact o_Mod_rank_85  _ _ _ _ h
        · rw [if_neg hc13] at h
          refine A_pc (pc' := 80) rfl ?_
          refine A_bipush (v := 6) rfl (by decide) ?_
          refine A_goto (tgt := 119) rfl (by decide) ?_
          obtain ⟨rfl, rfl⟩ := leaf h
          exact A_iret rfl rfl
    · rw [if_pos hc7] at h
      refine A_pc (pc' := 64) rfl ?_
      refine A_iconst (v := 5) rfl (by decide) ?_
      refine A_goto (tgt := 119) rfl (by decide) ?_
      obtain ⟨rfl, rfl⟩ := leaf h
      exact A_iret rfl rfl
def f_Mod_rank (a1 : Int32) (M : ax_M) : Option (Int32 × ax_M) :=
  if a1 = 22 then (some (1, M)) else (if a1 = 23 then (some (2, M)) else (if a1 = 24 then (some (3, M)) else (if a1 = 25 then (some (3, M)) else (if a1 < 26 then (f_Mod_rank_52 a1 M) else (if 29 < a1 then (f_Mod_rank_52 a1 M) else (some (4, M)))))))
set_option maxHeartbeats 4000000 in
set_option maxRecDepth 100000 in
theorem c_Mod_rank {l : Launch} {g : ax_G} {a1 : Int32} {M : ax_M} {r : Int32} {M' : ax_M} (h : f_Mod_rank a1 M = some (r, M')) : Ctr l g true Y_Mod_rank 1 [vA 184, vI a1] M (some (vI r), M') := by
  refine Ctr.ofAW yok_Mod_rank (Nat.le_of_ble_eq_true rfl) (Or.inl rfl) ?_
  show AW l g true Y_Mod_rank 1 (some (vI r), M') 0 [(0, vA 184), (1, vI a1)] [] M
  unfold f_Mod_rank at h
  refine A_iload_n 1 rfl rfl rfl ?_
  refine A_bipush (v := 22) rfl (by decide) ?_
  refine A_icmp_ne (tgt := 10) rfl (by decide) (fun hc1 => ?_) (fun hc1 => ?_)
  · rw [if_neg hc1] at h
    refine A_iload_n 1 rfl rfl rfl ?_
    refine A_bipush (v := 23) rfl (by decide) ?_
    refine A_icmp_ne (tgt := 20) rfl (by decide) (fun hc2 => ?_) (fun hc2 => ?_)
    · rw [if_neg hc2] at h
      refine A_iload_n 1 rfl rfl rfl ?_
      refine A_bipush (v := 24) rfl (by decide) ?_
      refine A_icmp_eq (tgt := 32) rfl (by decide) (fun hc3 => ?_) (fun hc3 => ?_)
      · rw [if_pos hc3] at h
        refine A_iconst (v := 3) rfl (by decide) ?_
        refine A_goto (tgt := 119) rfl (by decide) ?_
        obtain ⟨rfl, rfl⟩ := leaf h
        exact A_iret rfl rfl
      · rw [if_neg hc3] at h
        refine A_pc (pc' := 26) rfl ?_
        refine A_iload_n 1 rfl rfl rfl ?_
        refine A_bipush (v := 25) rfl (by decide) ?_
        refine A_icmp_ne (tgt := 36) rfl (by decide) (fun hc4 => ?_) (fun hc4 => ?_)
        · rw [if_neg hc4] at h
          refine A_iload_n 1 rfl rfl rfl ?_
          refine A_bipush (v := 26) rfl (by decide) ?_
          refine A_icmp_lt (tgt := 52) rfl (by decide) (fun hc5 => ?_) (fun hc5 => ?_)
          · rw [if_pos hc5] at h
            refine A_pc (pc' := 52) rfl ?_
            refine A_sub (Ls' := [(1, vI a1)]) [1] rfl ?_
            exact o_Mod_rank_52  _ _ _ _ h
          · rw [if_neg hc5] at h
            refine A_pc (pc' := 42) rfl ?_
            refine A_iload_n 1 rfl rfl rfl ?_
            refine A_bipush (v := 29) rfl (by decide) ?_
            refine A_icmp_gt (tgt := 52) rfl (by decide) (fun hc14 => ?_) (fun hc14 => ?_)
            · rw [if_pos hc14] at h
              refine A_pc (pc' := 52) rfl ?_
              refine A_sub (Ls' := [(1, vI a1)]) [1] rfl ?_
              exact o_Mod_rank_52  _ _ _ _ h
            · rw [if_neg hc14] at h
              refine A_pc (pc' := 48) rfl ?_
              refine A_iconst (v := 4) rfl (by decide) ?_
              refine A_goto (tgt := 119) rfl (by decide) ?_
              obtain ⟨rfl, rfl⟩ := leaf h
              exact A_iret rfl rfl
        · rw [if_pos hc4] at h
          refine A_pc (pc' := 32) rfl ?_
          refine A_iconst (v := 3) rfl (by decide) ?_
          refine A_goto (tgt := 119) rfl (by decide) ?_
          obtain ⟨rfl, rfl⟩ := leaf h
          exact A_iret rfl rfl
    · rw [if_pos hc2] at h
      refine A_pc (pc' := 16) rfl ?_
      refine A_iconst (v := 2) rfl (by decide) ?_
      refine A_goto (tgt := 119) rfl (by decide) ?_
      obtain ⟨rfl, rfl⟩ := leaf h
      exact A_iret rfl rfl
  · rw [if_pos hc1] at h
    refine A_pc (pc' := 6) rfl ?_
    refine A_iconst (v := 1) rfl (by decide) ?_
    refine A_goto (tgt := 119) rfl (by decide) ?_
    obtain ⟨rfl, rfl⟩ := leaf h
    exact A_iret rfl rfl
def tb_Mod_emit : List (Nat × Instr × Nat) := [(0, .aload_n 0, 1), (1, .getfield 13, 3), (4, .sipush 384, 3), (7, .aload_n 0, 1), (8, .getfield 20, 3), (11, .bipush 8, 2), (13, .iaload, 1), (14, .iadd, 1), (15, .iload_n 1, 1), (16, .iastore, 1), (17, .aload_n 0, 1), (18, .getfield 16, 3), (21, .sipush 384, 3), (24, .aload_n 0, 1), (25, .getfield 20, 3), (28, .bipush 8, 2), (30, .iaload, 1), (31, .iadd, 1), (32, .lload_n 2, 1), (33, .lastore, 1), (34, .aload_n 0, 1), (35, .getfield 20, 3), (38, .bipush 8, 2), (40, .dup2, 1), (41, .iaload, 1), (42, .iconst 1, 1), (43, .iadd, 1), (44, .iastore, 1), (45, .return_, 1)]
def Y_Mod_emit : ax_Y := (⟨"MethodWardenModel", "emit", "(IJ)V"⟩, prog_14_method_11_code, 4, none, tb_Mod_emit)
theorem yok_Mod_emit : yOK Y_Mod_emit := ⟨by decide +kernel, by decide +kernel, inWG 1299 (by decide +kernel) (by decide +kernel), inWG 107 (by decide +kernel) (by decide +kernel), by decide +kernel⟩
theorem fl_Mod_13 : fldOK "MethodWardenModel" 13 11 2 false := ⟨_, _, _, cls_Mod, by decide, by decide, rfl, Or.inl (inWG 1089 (by decide +kernel) (by decide +kernel))⟩
theorem fl_Mod_20 : fldOK "MethodWardenModel" 20 11 4 false := ⟨_, _, _, cls_Mod, by decide, by decide, rfl, Or.inl (inWG 1091 (by decide +kernel) (by decide +kernel))⟩
theorem fl_Mod_16 : fldOK "MethodWardenModel" 16 11 3 false := ⟨_, _, _, cls_Mod, by decide, by decide, rfl, Or.inl (inWG 1090 (by decide +kernel) (by decide +kernel))⟩
def f_Mod_emit (a1 : Int32) (a2 : Int64) (M : ax_M) : Option (Unit × ax_M) :=
  gi (384 + (gI M 188 (Int32.toNatClampNeg 8))) 432 (kM (mI M 186 (384 + (gI M 188 (Int32.toNatClampNeg 8))).toNatClampNeg a1) (fun M2 => gi (384 + (gI M2 188 (Int32.toNatClampNeg 8))) 432 (kM (mJ M2 187 (384 + (gI M2 188 (Int32.toNatClampNeg 8))).toNatClampNeg a2) (fun M4 => kM (mI M4 188 (Int32.toNatClampNeg 8) ((gI M4 188 (Int32.toNatClampNeg 8)) + 1)) (fun M5 => some ((), M5))))))
set_option maxHeartbeats 4000000 in
set_option maxRecDepth 100000 in
theorem c_Mod_emit {l : Launch} {g : ax_G} {a1 : Int32} {a2 : Int64} {M : ax_M} {r : Unit} {M' : ax_M} (h : f_Mod_emit a1 a2 M = some (r, M')) : Ctr l g true Y_Mod_emit 1 [vA 184, vI a1, vJ a2] M (none, M') := by
  refine Ctr.ofAW yok_Mod_emit (Nat.le_of_ble_eq_true rfl) (Or.inl rfl) ?_
  show AW l g true Y_Mod_emit 1 (none, M') 0 [(0, vA 184), (1, vI a1), (2, vJ a2)] [] M
  unfold f_Mod_emit at h
  refine A_aload_n 0 rfl rfl rfl ?_
  refine A_getL (r := 186) rfl fl_Mod_13 rfl (by decide) rfl rfl ?_
  refine A_sipush (v := 384) rfl (by decide) ?_
  refine A_aload_n 0 rfl rfl rfl ?_
  refine A_getL (r := 188) rfl fl_Mod_20 rfl (by decide) rfl rfl ?_
  refine A_pc (pc' := 11) rfl ?_
  refine A_bipush (v := 8) rfl (by decide) ?_
  refine A_iald (n := 9) rfl (by decide) (by decide) (Or.inl rfl) (show vp_in 8 9 from by unfold vp_in; decide) ?_
  refine A_iadd rfl ?_
  refine A_iload_n 1 rfl rfl rfl ?_
  obtain ⟨hg1, h⟩ := gi_out h
  refine A_iast (n := 432) rfl (by decide) (by decide) (Or.inl rfl) hg1 ?_
  obtain ⟨M2, hM2, h⟩ := kM_out h
  refine A_mem hM2 ?_
  refine A_aload_n 0 rfl rfl rfl ?_
  refine A_pc (pc' := 18) rfl ?_
  refine A_getL (r := 187) rfl fl_Mod_16 rfl (by decide) rfl rfl ?_
  refine A_sipush (v := 384) rfl (by decide) ?_
  refine A_aload_n 0 rfl rfl rfl ?_
  refine A_getL (r := 188) rfl fl_Mod_20 rfl (by decide) rfl rfl ?_
  refine A_bipush (v := 8) rfl (by decide) ?_
  refine A_iald (n := 9) rfl (by decide) (by decide) (Or.inl rfl) (show vp_in 8 9 from by unfold vp_in; decide) ?_
  refine A_pc (pc' := 31) rfl ?_
  refine A_iadd rfl ?_
  refine A_lload_n 2 rfl rfl rfl ?_
  obtain ⟨hg3, h⟩ := gi_out h
  refine A_last (n := 432) rfl (by decide) (by decide) (Or.inl rfl) hg3 ?_
  obtain ⟨M4, hM4, h⟩ := kM_out h
  refine A_mem hM4 ?_
  refine A_aload_n 0 rfl rfl rfl ?_
  refine A_getL (r := 188) rfl fl_Mod_20 rfl (by decide) rfl rfl ?_
  refine A_bipush (v := 8) rfl (by decide) ?_
  refine A_pc (pc' := 40) rfl ?_
  refine A_dup2 rfl rfl rfl ?_
  refine A_iald (n := 9) rfl (by decide) (by decide) (Or.inl rfl) (show vp_in 8 9 from by unfold vp_in; decide) ?_
  refine A_iconst (v := 1) rfl (by decide) ?_
  refine A_iadd rfl ?_
  refine A_iast (n := 9) rfl (by decide) (by decide) (Or.inl rfl) (show vp_in 8 9 from by unfold vp_in; decide) ?_
  obtain ⟨M5, hM5, h⟩ := kM_out h
  refine A_mem hM5 ?_
  obtain ⟨rfl, rfl⟩ := leaf h
  exact A_vret rfl rfl
def tb_Mod_wait : List (Nat × Instr × Nat) := [(0, .aload_n 0, 1), (1, .getfield 23, 3), (4, .aload_n 0, 1), (5, .getfield 164, 3), (8, .iload_n 1, 1), (9, .iastore, 1), (10, .aload_n 0, 1), (11, .getfield 26, 3), (14, .aload_n 0, 1), (15, .getfield 164, 3), (18, .aload_n 0, 1), (19, .getfield 20, 3), (22, .bipush 8, 2), (24, .iaload, 1), (25, .iconst 1, 1), (26, .isub, 1), (27, .iastore, 1), (28, .aload_n 0, 1), (29, .dup, 1), (30, .getfield 164, 3), (33, .iconst 1, 1), (34, .iadd, 1), (35, .putfield 164, 3), (38, .aload_n 0, 1), (39, .iconst 0, 1), (40, .putfield 167, 3), (43, .return_, 1)]
def Y_Mod_wait : ax_Y := (⟨"MethodWardenModel", "wait", "(I)V"⟩, prog_14_method_12_code, 2, none, tb_Mod_wait)
theorem yok_Mod_wait : yOK Y_Mod_wait := ⟨by decide +kernel, by decide +kernel, inWG 1334 (by decide +kernel) (by decide +kernel), inWG 107 (by decide +kernel) (by decide +kernel), by decide +kernel⟩
theorem fl_Mod_23 : fldOK "MethodWardenModel" 23 11 8 false := ⟨_, _, _, cls_Mod, by decide, by decide, rfl, Or.inl (inWG 1095 (by decide +kernel) (by decide +kernel))⟩
theorem fl_Mod_164 : fldOK "MethodWardenModel" 164 11 10 false := ⟨_, _, _, cls_Mod, by decide, by decide, rfl, Or.inl (inWG 1097 (by decide +kernel) (by decide +kernel))⟩
theorem fl_Mod_26 : fldOK "MethodWardenModel" 26 11 9 false := ⟨_, _, _, cls_Mod, by decide, by decide, rfl, Or.inl (inWG 1096 (by decide +kernel) (by decide +kernel))⟩
theorem fl_Mod_167 : fldOK "MethodWardenModel" 167 11 7 false := ⟨_, _, _, cls_Mod, by decide, by decide, rfl, Or.inl (inWG 1094 (by decide +kernel) (by decide +kernel))⟩
def f_Mod_wait (a1 : Int32) (M : ax_M) : Option (Unit × ax_M) :=
  gi (gI M 184 10) 48 (kM (mI M 189 (gI M 184 10).toNatClampNeg a1) (fun M2 => gi (gI M2 184 10) 48 (kM (mI M2 190 (gI M2 184 10).toNatClampNeg ((gI M2 188 (Int32.toNatClampNeg 8)) - 1)) (fun M4 => kM (mI M4 184 10 ((gI M4 184 10) + 1)) (fun M5 => kM (mI M5 184 7 0) (fun M6 => some ((), M6)))))))
set_option maxHeartbeats 4000000 in
set_option maxRecDepth 100000 in
theorem c_Mod_wait {l : Launch} {g : ax_G} {a1 : Int32} {M : ax_M} {r : Unit} {M' : ax_M} (h : f_Mod_wait a1 M = some (r, M')) : Ctr l g true Y_Mod_wait 1 [vA 184, vI a1] M (none, M') := by
  refine Ctr.ofAW yok_Mod_wait (Nat.le_of_ble_eq_true rfl) (Or.inl rfl) ?_
  show AW l g true Y_Mod_wait 1 (none, M') 0 [(0, vA 184), (1, vI a1)] [] M
  unfold f_Mod_wait at h
  refine A_aload_n 0 rfl rfl rfl ?_
  refine A_getL (r := 189) rfl fl_Mod_23 rfl (by decide) rfl rfl ?_
  refine A_aload_n 0 rfl rfl rfl ?_
  refine A_getI rfl fl_Mod_164 rfl (by decide) (Or.inl rfl) ?_
  refine A_iload_n 1 rfl rfl rfl ?_
  refine A_pc (pc' := 9) rfl ?_
  obtain ⟨hg1, h⟩ := gi_out h
  refine A_iast (n := 48) rfl (by decide) (by decide) (Or.inl rfl) hg1 ?_
  obtain ⟨M2, hM2, h⟩ := kM_out h
  refine A_mem hM2 ?_
  refine A_aload_n 0 rfl rfl rfl ?_
  refine A_getL (r := 190) rfl fl_Mod_26 rfl (by decide) rfl rfl ?_
  refine A_aload_n 0 rfl rfl rfl ?_
  refine A_getI rfl fl_Mod_164 rfl (by decide) (Or.inl rfl) ?_
  refine A_aload_n 0 rfl rfl rfl ?_
  refine A_pc (pc' := 19) rfl ?_
  refine A_getL (r := 188) rfl fl_Mod_20 rfl (by decide) rfl rfl ?_
  refine A_bipush (v := 8) rfl (by decide) ?_
  refine A_iald (n := 9) rfl (by decide) (by decide) (Or.inl rfl) (show vp_in 8 9 from by unfold vp_in; decide) ?_
  refine A_iconst (v := 1) rfl (by decide) ?_
  refine A_isub rfl ?_
  obtain ⟨hg3, h⟩ := gi_out h
  refine A_iast (n := 48) rfl (by decide) (by decide) (Or.inl rfl) hg3 ?_
  obtain ⟨M4, hM4, h⟩ := kM_out h
  refine A_mem hM4 ?_
  refine A_pc (pc' := 28) rfl ?_
  refine A_aload_n 0 rfl rfl rfl ?_
  refine A_dup rfl rfl ?_
  refine A_getI rfl fl_Mod_164 rfl (by decide) (Or.inl rfl) ?_
  refine A_iconst (v := 1) rfl (by decide) ?_
  refine A_iadd rfl ?_
  refine A_putI rfl (Or.inl fl_Mod_164) rfl (by decide) (Or.inl rfl) rfl ?_
  obtain ⟨M5, hM5, h⟩ := kM_out h
  refine A_mem hM5 ?_
  refine A_pc (pc' := 38) rfl ?_
  refine A_aload_n 0 rfl rfl rfl ?_
  refine A_iconst (v := 0) rfl (by decide) ?_
  refine A_putI rfl (Or.inl fl_Mod_167) rfl (by decide) (Or.inl rfl) rfl ?_
  obtain ⟨M6, hM6, h⟩ := kM_out h
  refine A_mem hM6 ?_
  obtain ⟨rfl, rfl⟩ := leaf h
  exact A_vret rfl rfl
def tb_Mod_reduce : List (Nat × Instr × Nat) := [(0, .aload_n 0, 1), (1, .getfield 164, 3), (4, .ifCond .le 49, 3), (7, .aload_n 0, 1), (8, .aload_n 0, 1), (9, .getfield 23, 3), (12, .aload_n 0, 1), (13, .getfield 164, 3), (16, .iconst 1, 1), (17, .isub, 1), (18, .iaload, 1), (19, .invokevirtual 170, 3), (22, .iload_n 1, 1), (23, .if_icmp .lt 30, 3), (26, .aload_n 0, 1), (27, .dup, 1), (28, .getfield 164, 3), (31, .iconst 1, 1), (32, .isub, 1), (33, .putfield 164, 3), (36, .aload_n 0, 1), (37, .aload_n 0, 1), (38, .getfield 23, 3), (41, .aload_n 0, 1), (42, .getfield 164, 3), (45, .iaload, 1), (46, .lconst 0, 1), (47, .invokevirtual 173, 3), (50, .goto (-50), 3), (53, .return_, 1)]
def Y_Mod_reduce : ax_Y := (⟨"MethodWardenModel", "reduce", "(I)V"⟩, prog_14_method_13_code, 2, none, tb_Mod_reduce)
theorem yok_Mod_reduce : yOK Y_Mod_reduce := ⟨by decide +kernel, by decide +kernel, inWG 1291 (by decide +kernel) (by decide +kernel), inWG 107 (by decide +kernel) (by decide +kernel), by decide +kernel⟩
theorem ml_Mod_170 : mlV "MethodWardenModel" 170 Y_Mod_rank 1 := ⟨⟨yok_Mod_rank, by decide +kernel, by decide⟩, Or.inl (inWG 1292 (by decide +kernel) (by decide +kernel)), inWG 1294 (by decide +kernel) (by decide +kernel), inWG 55 (by decide +kernel) (by decide +kernel)⟩
theorem ml_Mod_173 : mlV "MethodWardenModel" 173 Y_Mod_emit 2 := ⟨⟨yok_Mod_emit, by decide +kernel, by decide⟩, Or.inl (inWG 1296 (by decide +kernel) (by decide +kernel)), inWG 1298 (by decide +kernel) (by decide +kernel), inWG 56 (by decide +kernel) (by decide +kernel)⟩
def f_Mod_reduce_0_b (K0 : Int32 → ax_M → Option (Unit × ax_M)) (l1 : Int32) (M : ax_M) : Option (Unit × ax_M) :=
  if (gI M 184 10) ≤ 0 then (some ((), M)) else (gi ((gI M 184 10) - 1) 48 (bnd (f_Mod_rank (gI M 189 ((gI M 184 10) - 1).toNatClampNeg) M) (fun q12 M13 => if q12 < l1 then (some ((), M13)) else (kM (mI M13 184 10 ((gI M13 184 10) - 1)) (fun M15 => gi (gI M15 184 10) 48 (bnd (f_Mod_emit (gI M15 189 (gI M15 184 10).toNatClampNeg) 0 M15) (fun q17 M18 => K0 l1 M18)))))))
def f_Mod_reduce_0 : Nat → Int32 → ax_M → Option (Unit × ax_M)
  | 0, _, _ => none
  | n + 1, l1, M => f_Mod_reduce_0_b  (f_Mod_reduce_0 n) l1 M
set_option maxHeartbeats 4000000 in
set_option maxRecDepth 100000 in
theorem o_Mod_reduce_0_b {l : Launch} {g : ax_G} (K0 : Int32 → ax_M → Option (Unit × ax_M)) (hK0 : ∀ (l1 : Int32) (M : ax_M) (r : Unit) (M' : ax_M), K0 l1 M = some (r, M') → AW l g true Y_Mod_reduce 2 (none, M') 0 [(0, vA 184), (1, vI l1)] [] M) (l1 : Int32) (M : ax_M) (r : Unit) (M' : ax_M) (h : f_Mod_reduce_0_b  K0 l1 M = some (r, M')) : AW l g true Y_Mod_reduce 2 (none, M') 0 [(0, vA 184), (1, vI l1)] [] M := by
  unfold f_Mod_reduce_0_b at h
  refine A_aload_n 0 rfl rfl rfl ?_
  refine A_getI rfl fl_Mod_164 rfl (by decide) (Or.inl rfl) ?_
  refine A_if_le (tgt := 53) rfl (by decide) (fun hc10 => ?_) (fun hc10 => ?_)
  · rw [if_pos hc10] at h
    obtain ⟨rfl, rfl⟩ := leaf h
    exact A_vret rfl rfl
  · rw [if_neg hc10] at h
    refine A_pc (pc' := 7) rfl ?_
    refine A_aload_n 0 rfl rfl rfl ?_
    refine A_aload_n 0 rfl rfl rfl ?_
    refine A_getL (r := 189) rfl fl_Mod_23 rfl (by decide) rfl rfl ?_
    refine A_aload_n 0 rfl rfl rfl ?_
    refine A_getI rfl fl_Mod_164 rfl (by decide) (Or.inl rfl) ?_
    refine A_pc (pc' := 16) rfl ?_
    refine A_iconst (v := 1) rfl (by decide) ?_
    refine A_isub rfl ?_
    obtain ⟨hg11, h⟩ := gi_out h
    refine A_iald (n := 48) rfl (by decide) (by decide) (Or.inl rfl) hg11 ?_
    obtain ⟨q12, M13, hcq12, h⟩ := bnd_out h
    refine A_callV (ci := 11) (as := [vI (gI M 189 ((gI M 184 10) - 1).toNatClampNeg)]) (st' := []) (r1 := (some (vI q12), M13)) rfl ml_Mod_170 rfl (by decide) (by decide) (Or.inl rfl) rfl rfl (Nat.le_of_ble_eq_true rfl) (by decide) (c_Mod_rank hcq12) (Or.inl rfl) ?_
    refine A_pc (pc' := 22) rfl ?_
    refine A_stk (st' := [vI q12]) rfl ?_
    refine A_iload_n 1 rfl rfl rfl ?_
    refine A_icmp_lt (tgt := 53) rfl (by decide) (fun hc14 => ?_) (fun hc14 => ?_)
    · rw [if_pos hc14] at h
      obtain ⟨rfl, rfl⟩ := leaf h
      exact A_vret rfl rfl
    · rw [if_neg hc14] at h
      refine A_pc (pc' := 26) rfl ?_
      refine A_aload_n 0 rfl rfl rfl ?_
      refine A_dup rfl rfl ?_
      refine A_getI rfl fl_Mod_164 rfl (by decide) (Or.inl rfl) ?_
      refine A_iconst (v := 1) rfl (by decide) ?_
      refine A_isub rfl ?_
      refine A_pc (pc' := 33) rfl ?_
      refine A_putI rfl (Or.inl fl_Mod_164) rfl (by decide) (Or.inl rfl) rfl ?_
      obtain ⟨M15, hM15, h⟩ := kM_out h
      refine A_mem hM15 ?_
      refine A_aload_n 0 rfl rfl rfl ?_
      refine A_aload_n 0 rfl rfl rfl ?_
      refine A_getL (r := 189) rfl fl_Mod_23 rfl (by decide) rfl rfl ?_
      refine A_aload_n 0 rfl rfl rfl ?_
      refine A_getI rfl fl_Mod_164 rfl (by decide) (Or.inl rfl) ?_
      refine A_pc (pc' := 45) rfl ?_
      obtain ⟨hg16, h⟩ := gi_out h
      refine A_iald (n := 48) rfl (by decide) (by decide) (Or.inl rfl) hg16 ?_
      refine A_lconst (v := 0) rfl (by decide) ?_
      obtain ⟨q17, M18, hcq17, h⟩ := bnd_out h
      refine A_callV (ci := 11) (as := [vI (gI M15 189 (gI M15 184 10).toNatClampNeg), vJ 0]) (st' := []) (r1 := (none, M18)) rfl ml_Mod_173 rfl (by decide) (by decide) (Or.inl rfl) rfl rfl (Nat.le_of_ble_eq_true rfl) (by decide) (c_Mod_emit hcq17) (Or.inl rfl) ?_
      refine A_pc (pc' := 50) rfl ?_
      refine A_stk (st' := []) rfl ?_
      refine A_goto (tgt := 0) rfl (by decide) ?_
      refine A_pc (pc' := 0) rfl ?_
      refine A_sub (Ls' := [(0, vA 184), (1, vI l1)]) [0, 1] rfl ?_
      exact hK0 _ _ _ _ h
theorem o_Mod_reduce_0 {l : Launch} {g : ax_G} : ∀ (n : Nat) (l1 : Int32) (M : ax_M) (r : Unit) (M' : ax_M), f_Mod_reduce_0  n l1 M = some (r, M') → AW l g true Y_Mod_reduce 2 (none, M') 0 [(0, vA 184), (1, vI l1)] [] M := by
  intro n
  induction n with
  | zero =>
    intro l1 M r M' h
    cases h
  | succ n ih =>
    intro l1 M r M' h
    exact o_Mod_reduce_0_b  _ ih _ _ _ _ h
def f_Mod_reduce (a1 : Int32) (M : ax_M) : Option (Unit × ax_M) :=
  if (gI M 184 10) ≤ 0 then (some ((), M)) else (gi ((gI M 184 10) - 1) 48 (bnd (f_Mod_rank (gI M 189 ((gI M 184 10) - 1).toNatClampNeg) M) (fun q3 M4 => if q3 < a1 then (some ((), M4)) else (kM (mI M4 184 10 ((gI M4 184 10) - 1)) (fun M6 => gi (gI M6 184 10) 48 (bnd (f_Mod_emit (gI M6 189 (gI M6 184 10).toNatClampNeg) 0 M6) (fun q8 M9 => f_Mod_reduce_0 64 a1 M9)))))))
set_option maxHeartbeats 4000000 in
set_option maxRecDepth 100000 in
theorem c_Mod_reduce {l : Launch} {g : ax_G} {a1 : Int32} {M : ax_M} {r : Unit} {M' : ax_M} (h : f_Mod_reduce a1 M = some (r, M')) : Ctr l g true Y_Mod_reduce 2 [vA 184, vI a1] M (none, M') := by
  refine Ctr.ofAW yok_Mod_reduce (Nat.le_of_ble_eq_true rfl) (Or.inl rfl) ?_
  show AW l g true Y_Mod_reduce 2 (none, M') 0 [(0, vA 184), (1, vI a1)] [] M
  unfold f_Mod_reduce at h
  refine A_aload_n 0 rfl rfl rfl ?_
  refine A_getI rfl fl_Mod_164 rfl (by decide) (Or.inl rfl) ?_
  refine A_if_le (tgt := 53) rfl (by decide) (fun hc1 => ?_) (fun hc1 => ?_)
  · rw [if_pos hc1] at h
    obtain ⟨rfl, rfl⟩ := leaf h
    exact A_vret rfl rfl
  · rw [if_neg hc1] at h
    refine A_pc (pc' := 7) rfl ?_
    refine A_aload_n 0 rfl rfl rfl ?_
    refine A_aload_n 0 rfl rfl rfl ?_
    refine A_getL (r := 189) rfl fl_Mod_23 rfl (by decide) rfl rfl ?_
    refine A_aload_n 0 rfl rfl rfl ?_
    refine A_getI rfl fl_Mod_164 rfl (by decide) (Or.inl rfl) ?_
    refine A_pc (pc' := 16) rfl ?_
    refine A_iconst (v := 1) rfl (by decide) ?_
    refine A_isub rfl ?_
    obtain ⟨hg2, h⟩ := gi_out h
    refine A_iald (n := 48) rfl (by decide) (by decide) (Or.inl rfl) hg2 ?_
    obtain ⟨q3, M4, hcq3, h⟩ := bnd_out h
    refine A_callV (ci := 11) (as := [vI (gI M 189 ((gI M 184 10) - 1).toNatClampNeg)]) (st' := []) (r1 := (some (vI q3), M4)) rfl ml_Mod_170 rfl (by decide) (by decide) (Or.inl rfl) rfl rfl (Nat.le_of_ble_eq_true rfl) (by decide) (c_Mod_rank hcq3) (Or.inl rfl) ?_
    refine A_pc (pc' := 22) rfl ?_
    refine A_stk (st' := [vI q3]) rfl ?_
    refine A_iload_n 1 rfl rfl rfl ?_
    refine A_icmp_lt (tgt := 53) rfl (by decide) (fun hc5 => ?_) (fun hc5 => ?_)
    · rw [if_pos hc5] at h
      obtain ⟨rfl, rfl⟩ := leaf h
      exact A_vret rfl rfl
    · rw [if_neg hc5] at h
      refine A_pc (pc' := 26) rfl ?_
      refine A_aload_n 0 rfl rfl rfl ?_
      refine A_dup rfl rfl ?_
      refine A_getI rfl fl_Mod_164 rfl (by decide) (Or.inl rfl) ?_
      refine A_iconst (v := 1) rfl (by decide) ?_
      refine A_isub rfl ?_
      refine A_pc (pc' := 33) rfl ?_
      refine A_putI rfl (Or.inl fl_Mod_164) rfl (by decide) (Or.inl rfl) rfl ?_
      obtain ⟨M6, hM6, h⟩ := kM_out h
      refine A_mem hM6 ?_
      refine A_aload_n 0 rfl rfl rfl ?_
      refine A_aload_n 0 rfl rfl rfl ?_
      refine A_getL (r := 189) rfl fl_Mod_23 rfl (by decide) rfl rfl ?_
      refine A_aload_n 0 rfl rfl rfl ?_
      refine A_getI rfl fl_Mod_164 rfl (by decide) (Or.inl rfl) ?_
      refine A_pc (pc' := 45) rfl ?_
      obtain ⟨hg7, h⟩ := gi_out h
      refine A_iald (n := 48) rfl (by decide) (by decide) (Or.inl rfl) hg7 ?_
      refine A_lconst (v := 0) rfl (by decide) ?_
      obtain ⟨q8, M9, hcq8, h⟩ := bnd_out h
      refine A_callV (ci := 11) (as := [vI (gI M6 189 (gI M6 184 10).toNatClampNeg), vJ 0]) (st' := []) (r1 := (none, M9)) rfl ml_Mod_173 rfl (by decide) (by decide) (Or.inl rfl) rfl rfl (Nat.le_of_ble_eq_true rfl) (by decide) (c_Mod_emit hcq8) (Or.inl rfl) ?_
      refine A_pc (pc' := 50) rfl ?_
      refine A_stk (st' := []) rfl ?_
      refine A_goto (tgt := 0) rfl (by decide) ?_
      refine A_pc (pc' := 0) rfl ?_
      refine A_sub (Ls' := [(0, vA 184), (1, vI a1)]) [0, 1] rfl ?_
      exact o_Mod_reduce_0  _ _ _ _ _ h
def tb_Mod_waiting : List (Nat × Instr × Nat) := [(0, .aload_n 0, 1), (1, .getfield 164, 3), (4, .ifCond .le 17, 3), (7, .aload_n 0, 1), (8, .getfield 23, 3), (11, .aload_n 0, 1), (12, .getfield 164, 3), (15, .iconst 1, 1), (16, .isub, 1), (17, .iaload, 1), (18, .goto 4, 3), (21, .iconst 0, 1), (22, .ireturn, 1)]
def Y_Mod_waiting : ax_Y := (⟨"MethodWardenModel", "waiting", "()I"⟩, prog_14_method_14_code, 1, some .int, tb_Mod_waiting)
theorem yok_Mod_waiting : yOK Y_Mod_waiting := ⟨by decide +kernel, by decide +kernel, inWG 1342 (by decide +kernel) (by decide +kernel), inWG 107 (by decide +kernel) (by decide +kernel), by decide +kernel⟩
def f_Mod_waiting  (M : ax_M) : Option (Int32 × ax_M) :=
  if (gI M 184 10) ≤ 0 then (some (0, M)) else (gi ((gI M 184 10) - 1) 48 (some (gI M 189 ((gI M 184 10) - 1).toNatClampNeg, M)))
set_option maxHeartbeats 4000000 in
set_option maxRecDepth 100000 in
theorem c_Mod_waiting {l : Launch} {g : ax_G}  {M : ax_M} {r : Int32} {M' : ax_M} (h : f_Mod_waiting  M = some (r, M')) : Ctr l g true Y_Mod_waiting 1 [vA 184] M (some (vI r), M') := by
  refine Ctr.ofAW yok_Mod_waiting (Nat.le_of_ble_eq_true rfl) (Or.inl rfl) ?_
  show AW l g true Y_Mod_waiting 1 (some (vI r), M') 0 [(0, vA 184)] [] M
  unfold f_Mod_waiting at h
  refine A_aload_n 0 rfl rfl rfl ?_
  refine A_getI rfl fl_Mod_164 rfl (by decide) (Or.inl rfl) ?_
  refine A_if_le (tgt := 21) rfl (by decide) (fun hc1 => ?_) (fun hc1 => ?_)
  · rw [if_pos hc1] at h
    refine A_iconst (v := 0) rfl (by decide) ?_
    obtain ⟨rfl, rfl⟩ := leaf h
    exact A_iret rfl rfl
  · rw [if_neg hc1] at h
    refine A_pc (pc' := 7) rfl ?_
    refine A_aload_n 0 rfl rfl rfl ?_
    refine A_getL (r := 189) rfl fl_Mod_23 rfl (by decide) rfl rfl ?_
    refine A_aload_n 0 rfl rfl rfl ?_
    refine A_getI rfl fl_Mod_164 rfl (by decide) (Or.inl rfl) ?_
    refine A_iconst (v := 1) rfl (by decide) ?_
    refine A_pc (pc' := 16) rfl ?_
    refine A_isub rfl ?_
    obtain ⟨hg2, h⟩ := gi_out h
    refine A_iald (n := 48) rfl (by decide) (by decide) (Or.inl rfl) hg2 ?_
    refine A_goto (tgt := 22) rfl (by decide) ?_
    obtain ⟨rfl, rfl⟩ := leaf h
    exact A_iret rfl rfl
def tb_Mod_shut : List (Nat × Instr × Nat) := [(0, .aload_n 0, 1), (1, .iconst 0, 1), (2, .invokevirtual 177, 3), (5, .aload_n 0, 1), (6, .invokevirtual 181, 3), (9, .istore_n 2, 1), (10, .iload_n 1, 1), (11, .bipush 61, 2), (13, .if_icmp .ne 23, 3), (16, .iload_n 2, 1), (17, .bipush 50, 2), (19, .if_icmp .eq 9, 3), (22, .iload_n 2, 1), (23, .bipush 51, 2), (25, .if_icmp .ne 7, 3), (28, .iconst 1, 1), (29, .goto 44, 3), (32, .iconst 0, 1), (33, .goto 40, 3), (36, .iload_n 1, 1), (37, .bipush 63, 2), (39, .if_icmp .ne 23, 3), (42, .iload_n 2, 1), (43, .bipush 52, 2), (45, .if_icmp .eq 9, 3), (48, .iload_n 2, 1), (49, .bipush 53, 2), (51, .if_icmp .ne 7, 3), (54, .iconst 1, 1), (55, .goto 18, 3), (58, .iconst 0, 1), (59, .goto 14, 3), (62, .iload_n 2, 1), (63, .bipush 54, 2), (65, .if_icmp .ne 7, 3), (68, .iconst 1, 1), (69, .goto 4, 3), (72, .iconst 0, 1), (73, .istore_n 3, 1), (74, .iload_n 3, 1), (75, .ifCond .ne 5, 3), (78, .iconst 0, 1), (79, .ireturn, 1), (80, .aload_n 0, 1), (81, .dup, 1), (82, .getfield 164, 3), (85, .iconst 1, 1), (86, .isub, 1), (87, .putfield 164, 3), (90, .iload_n 1, 1), (91, .bipush 64, 2), (93, .if_icmp .ne 12, 3), (96, .aload_n 0, 1), (97, .bipush 35, 2), (99, .invokevirtual 185, 3), (102, .goto 75, 3), (105, .iload_n 2, 1), (106, .bipush 53, 2), (108, .if_icmp .ne 45, 3), (111, .aload_n 0, 1), (112, .getfield 26, 3), (115, .aload_n 0, 1), (116, .getfield 164, 3), (119, .iaload, 1), (120, .istore 4, 2), (122, .aload_n 0, 1), (123, .getfield 16, 3), (126, .sipush 384, 3), (129, .iload 4, 2), (131, .iadd, 1), (132, .aload_n 0, 1), (133, .getfield 20, 3), (136, .bipush 8, 2), (138, .iaload, 1), (139, .i2l, 1), (140, .lastore, 1), (141, .aload_n 0, 1), (142, .bipush 19, 2), (144, .iload 4, 2), (146, .i2l, 1), (147, .invokevirtual 173, 3), (150, .goto 27, 3), (153, .iload_n 2, 1), (154, .bipush 50, 2), (156, .if_icmp .eq 21, 3), (159, .aload_n 0, 1), (160, .iload_n 2, 1), (161, .bipush 51, 2), (163, .if_icmp .ne 8, 3), (166, .bipush 12, 2), (168, .goto 5, 3), (171, .bipush 15, 2), (173, .lconst 0, 1), (174, .invokevirtual 173, 3), (177, .iconst 1, 1), (178, .ireturn, 1)]
def Y_Mod_shut : ax_Y := (⟨"MethodWardenModel", "shut", "(I)Z"⟩, prog_14_method_15_code, 5, some .boolean, tb_Mod_shut)
theorem yok_Mod_shut : yOK Y_Mod_shut := ⟨by decide +kernel, by decide +kernel, inWG 1338 (by decide +kernel) (by decide +kernel), inWG 107 (by decide +kernel) (by decide +kernel), by decide +kernel⟩
theorem ml_Mod_177 : mlV "MethodWardenModel" 177 Y_Mod_reduce 1 := ⟨⟨yok_Mod_reduce, by decide +kernel, by decide⟩, Or.inl (inWG 1288 (by decide +kernel) (by decide +kernel)), inWG 1290 (by decide +kernel) (by decide +kernel), inWG 54 (by decide +kernel) (by decide +kernel)⟩
theorem ml_Mod_181 : mlV "MethodWardenModel" 181 Y_Mod_waiting 0 := ⟨⟨yok_Mod_waiting, by decide +kernel, by decide⟩, Or.inl (inWG 1339 (by decide +kernel) (by decide +kernel)), inWG 1341 (by decide +kernel) (by decide +kernel), inWG 66 (by decide +kernel) (by decide +kernel)⟩
theorem ml_Mod_185 : mlV "MethodWardenModel" 185 Y_Mod_wait 1 := ⟨⟨yok_Mod_wait, by decide +kernel, by decide⟩, Or.inl (inWG 1331 (by decide +kernel) (by decide +kernel)), inWG 1333 (by decide +kernel) (by decide +kernel), inWG 64 (by decide +kernel) (by decide +kernel)⟩
def f_Mod_shut_73 (l1 : Int32) (l2 : Int32) (s0 : Int32) (M : ax_M) : Option (Int32 × ax_M) :=
  if s0 = 0 then (some (0, M)) else (kM (mI M 184 10 ((gI M 184 10) - 1)) (fun M9 => if l1 = 64 then (bnd (f_Mod_wait 35 M9) (fun q24 M25 => some (1, M25))) else (if l2 = 53 then (gi (gI M9 184 10) 48 (kM (gI M9 190 (gI M9 184 10).toNatClampNeg) (fun x19 => gi (384 + x19) 432 (kM (mJ M9 187 (384 + x19).toNatClampNeg (Int32.toInt64 (gI M9 188 (Int32.toNatClampNeg 8)))) (fun M21 => bnd (f_Mod_emit 19 (Int32.toInt64 x19) M21) (fun q22 M23 => some (1, M23))))))) else (if l2 = 50 then (some (1, M9)) else (if l2 = 51 then (bnd (f_Mod_emit 12 0 M9) (fun q16 M17 => some (1, M17))) else (bnd (f_Mod_emit 15 0 M9) (fun q14 M15 => some (1, M15))))))))
set_option maxHeartbeats 4000000 in
set_option maxRecDepth 100000 in
theorem o_Mod_shut_73 {l : Launch} {g : ax_G} (l1 : Int32) (l2 : Int32) (s0 : Int32) (M : ax_M) (r : Int32) (M' : ax_M) (h : f_Mod_shut_73  l1 l2 s0 M = some (r, M')) : AW l g true Y_Mod_shut 3 (some (vI r), M') 73 [(0, vA 184), (1, vI l1), (2, vI l2)] [vI s0] M := by
  unfold f_Mod_shut_73 at h
  refine A_istore_n (Ls' := [(3, vI s0), (0, vA 184), (1, vI l1), (2, vI l2)]) rfl rfl (by decide) rfl ?_
  refine A_iload_n 0 rfl rfl rfl ?_
  refine A_if_ne (tgt := 80) rfl (by decide) (fun hc8 => ?_) (fun hc8 => ?_)
  · rw [if_neg hc8] at h
    refine A_aload_n 1 rfl rfl rfl ?_
    refine A_dup rfl rfl ?_
    refine A_getI rfl fl_Mod_164 rfl (by decide) (Or.inl rfl) ?_
    refine A_iconst (v := 1) rfl (by decide) ?_
    refine A_isub rfl ?_
    refine A_pc (pc' := 87) rfl ?_
    refine A_putI rfl (Or.inl fl_Mod_164) rfl (by decide) (Or.inl rfl) rfl ?_
    obtain ⟨M9, hM9, h⟩ := kM_out h
    refine A_mem hM9 ?_
    refine A_iload_n 2 rfl rfl rfl ?_
    refine A_bipush (v := 64) rfl (by decide) ?_
    refine A_icmp_ne (tgt := 105) rfl (by decide) (fun hc10 => ?_) (fun hc10 => ?_)
    · rw [if_neg hc10] at h
      refine A_iload_n 3 rfl rfl rfl ?_
      refine A_bipush (v := 53) rfl (by decide) ?_
      refine A_icmp_ne (tgt := 153) rfl (by decide) (fun hc11 => ?_) (fun hc11 => ?_)
      · rw [if_neg hc11] at h
        refine A_iload_n 3 rfl rfl rfl ?_
        refine A_bipush (v := 50) rfl (by decide) ?_
        refine A_icmp_eq (tgt := 177) rfl (by decide) (fun hc12 => ?_) (fun hc12 => ?_)
        · rw [if_pos hc12] at h
          refine A_iconst (v := 1) rfl (by decide) ?_
          obtain ⟨rfl, rfl⟩ := leaf h
          exact A_zret rfl rfl (Or.inr rfl)
        · rw [if_neg hc12] at h
          refine A_pc (pc' := 159) rfl ?_
          refine A_aload_n 1 rfl rfl rfl ?_
          refine A_iload_n 3 rfl rfl rfl ?_
          refine A_bipush (v := 51) rfl (by decide) ?_
          refine A_icmp_ne (tgt := 171) rfl (by decide) (fun hc13 => ?_) (fun hc13 => ?_)
          · rw [if_neg hc13] at h
            refine A_bipush (v := 15) rfl (by decide) ?_
            refine A_lconst (v := 0) rfl (by decide) ?_
            obtain ⟨q14, M15, hcq14, h⟩ := bnd_out h
            refine A_callV (ci := 11) (as := [vI 15, vJ 0]) (st' := []) (r1 := (none, M15)) rfl ml_Mod_173 rfl (by decide) (by decide) (Or.inl rfl) rfl rfl (Nat.le_of_ble_eq_true rfl) (by decide) (c_Mod_emit hcq14) (Or.inl rfl) ?_
            refine A_pc (pc' := 177) rfl ?_
            refine A_stk (st' := []) rfl ?_
            refine A_iconst (v := 1) rfl (by decide) ?_
            obtain ⟨rfl, rfl⟩ := leaf h
            exact A_zret rfl rfl (Or.inr rfl)
          · rw [if_pos hc13] at h
            refine A_pc (pc' := 166) rfl ?_
            refine A_bipush (v := 12) rfl (by decide) ?_
            refine A_goto (tgt := 173) rfl (by decide) ?_
            refine A_lconst (v := 0) rfl (by decide) ?_
            obtain ⟨q16, M17, hcq16, h⟩ := bnd_out h
            refine A_callV (ci := 11) (as := [vI 12, vJ 0]) (st' := []) (r1 := (none, M17)) rfl ml_Mod_173 rfl (by decide) (by decide) (Or.inl rfl) rfl rfl (Nat.le_of_ble_eq_true rfl) (by decide) (c_Mod_emit hcq16) (Or.inl rfl) ?_
            refine A_pc (pc' := 177) rfl ?_
            refine A_stk (st' := []) rfl ?_
            refine A_iconst (v := 1) rfl (by decide) ?_
            refine A_pc (pc' := 178) rfl ?_
            obtain ⟨rfl, rfl⟩ := leaf h
            exact A_zret rfl rfl (Or.inr rfl)
      · rw [if_pos hc11] at h
        refine A_pc (pc' := 111) rfl ?_
        refine A_aload_n 1 rfl rfl rfl ?_
        refine A_getL (r := 190) rfl fl_Mod_26 rfl (by decide) rfl rfl ?_
        refine A_aload_n 1 rfl rfl rfl ?_
        refine A_getI rfl fl_Mod_164 rfl (by decide) (Or.inl rfl) ?_
        obtain ⟨hg18, h⟩ := gi_out h
        refine A_iald (n := 48) rfl (by decide) (by decide) (Or.inl rfl) hg18 ?_
        refine A_pc (pc' := 120) rfl ?_
        obtain ⟨x19, hx19, h⟩ := kM_out h
        refine A_nI hx19 ?_
        refine A_istore (Ls' := [(4, vI x19), (3, vI s0), (0, vA 184), (1, vI l1), (2, vI l2)]) rfl (by decide) rfl ?_
        refine A_aload_n 2 rfl rfl rfl ?_
        refine A_getL (r := 187) rfl fl_Mod_16 rfl (by decide) rfl rfl ?_
        refine A_sipush (v := 384) rfl (by decide) ?_
        refine A_iload 0 rfl rfl ?_
        refine A_iadd rfl ?_
        refine A_pc (pc' := 132) rfl ?_
        refine A_aload_n 2 rfl rfl rfl ?_
        refine A_getL (r := 188) rfl fl_Mod_20 rfl (by decide) rfl rfl ?_
        refine A_bipush (v := 8) rfl (by decide) ?_
        refine A_iald (n := 9) rfl (by decide) (by decide) (Or.inl rfl) (show vp_in 8 9 from by unfold vp_in; decide) ?_
        refine A_i2l rfl ?_
        obtain ⟨hg20, h⟩ := gi_out h
        refine A_last (n := 432) rfl (by decide) (by decide) (Or.inl rfl) hg20 ?_
        obtain ⟨M21, hM21, h⟩ := kM_out h
        refine A_mem hM21 ?_
        refine A_pc (pc' := 141) rfl ?_
        refine A_aload_n 2 rfl rfl rfl ?_
        refine A_bipush (v := 19) rfl (by decide) ?_
        refine A_iload 0 rfl rfl ?_
        refine A_i2l rfl ?_
        obtain ⟨q22, M23, hcq22, h⟩ := bnd_out h
        refine A_callV (ci := 11) (as := [vI 19, vJ (Int32.toInt64 x19)]) (st' := []) (r1 := (none, M23)) rfl ml_Mod_173 rfl (by decide) (by decide) (Or.inl rfl) rfl rfl (Nat.le_of_ble_eq_true rfl) (by decide) (c_Mod_emit hcq22) (Or.inl rfl) ?_
        refine A_pc (pc' := 150) rfl ?_
        refine A_stk (st' := []) rfl ?_
        refine A_goto (tgt := 177) rfl (by decide) ?_
        refine A_pc (pc' := 177) rfl ?_
        refine A_iconst (v := 1) rfl (by decide) ?_
        obtain ⟨rfl, rfl⟩ := leaf h
        exact A_zret rfl rfl (Or.inr rfl)
    · rw [if_pos hc10] at h
      refine A_pc (pc' := 96) rfl ?_
      refine A_aload_n 1 rfl rfl rfl ?_
      refine A_bipush (v := 35) rfl (by decide) ?_
      obtain ⟨q24, M25, hcq24, h⟩ := bnd_out h
      refine A_callV (ci := 11) (as := [vI 35]) (st' := []) (r1 := (none, M25)) rfl ml_Mod_185 rfl (by decide) (by decide) (Or.inl rfl) rfl rfl (Nat.le_of_ble_eq_true rfl) (by decide) (c_Mod_wait hcq24) (Or.inl rfl) ?_
      refine A_pc (pc' := 102) rfl ?_
      refine A_stk (st' := []) rfl ?_
      refine A_goto (tgt := 177) rfl (by decide) ?_
      refine A_iconst (v := 1) rfl (by decide) ?_
      refine A_pc (pc' := 178) rfl ?_
      obtain ⟨rfl, rfl⟩ := leaf h
      exact A_zret rfl rfl (Or.inr rfl)
  · rw [if_pos hc8] at h
    refine A_pc (pc' := 78) rfl ?_
    refine A_iconst (v := 0) rfl (by decide) ?_
    obtain ⟨rfl, rfl⟩ := leaf h
    exact A_zret rfl rfl (Or.inl rfl)
def f_Mod_shut (a1 : Int32) (M : ax_M) : Option (Int32 × ax_M) :=
  bnd (f_Mod_reduce 0 M) (fun q1 M2 => bnd (f_Mod_waiting  M2) (fun q3 M4 => if a1 = 61 then (if q3 = 50 then (f_Mod_shut_73 a1 q3 1 M4) else (if q3 = 51 then (f_Mod_shut_73 a1 q3 1 M4) else (f_Mod_shut_73 a1 q3 0 M4))) else (if a1 = 63 then (if q3 = 52 then (f_Mod_shut_73 a1 q3 1 M4) else (if q3 = 53 then (f_Mod_shut_73 a1 q3 1 M4) else (f_Mod_shut_73 a1 q3 0 M4))) else (if q3 = 54 then (f_Mod_shut_73 a1 q3 1 M4) else (f_Mod_shut_73 a1 q3 0 M4)))))
set_option maxHeartbeats 4000000 in
set_option maxRecDepth 100000 in
theorem c_Mod_shut {l : Launch} {g : ax_G} {a1 : Int32} {M : ax_M} {r : Int32} {M' : ax_M} (h : f_Mod_shut a1 M = some (r, M')) : Ctr l g true Y_Mod_shut 3 [vA 184, vI a1] M (some (vI r), M') := by
  refine Ctr.ofAW yok_Mod_shut (Nat.le_of_ble_eq_true rfl) (Or.inl rfl) ?_
  show AW l g true Y_Mod_shut 3 (some (vI r), M') 0 [(0, vA 184), (1, vI a1)] [] M
  unfold f_Mod_shut at h
  refine A_aload_n 0 rfl rfl rfl ?_
  refine A_iconst (v := 0) rfl (by decide) ?_
  obtain ⟨q1, M2, hcq1, h⟩ := bnd_out h
  refine A_callV (ci := 11) (as := [vI 0]) (st' := []) (r1 := (none, M2)) rfl ml_Mod_177 rfl (by decide) (by decide) (Or.inl rfl) rfl rfl (Nat.le_of_ble_eq_true rfl) (by decide) (c_Mod_reduce hcq1) (Or.inl rfl) ?_
  refine A_pc (pc' := 5) rfl ?_
  refine A_stk (st' := []) rfl ?_
  refine A_aload_n 0 rfl rfl rfl ?_
  obtain ⟨q3, M4, hcq3, h⟩ := bnd_out h
  refine A_callV (ci := 11) (as := []) (st' := []) (r1 := (some (vI q3), M4)) rfl ml_Mod_181 rfl (by decide) (by decide) (Or.inl rfl) rfl rfl (Nat.le_of_ble_eq_true rfl) (by decide) (c_Mod_waiting hcq3) (Or.inl rfl) ?_
  refine A_pc (pc' := 9) rfl ?_
  refine A_stk (st' := [vI q3]) rfl ?_
  refine A_pc (pc' := 9) rfl ?_
  refine A_istore_n (Ls' := [(2, vI q3), (0, vA 184), (1, vI a1)]) rfl rfl (by decide) rfl ?_
  refine A_iload_n 2 rfl rfl rfl ?_
  refine A_bipush (v := 61) rfl (by decide) ?_
  refine A_icmp_ne (tgt := 36) rfl (by decide) (fun hc5 => ?_) (fun hc5 => ?_)
  · rw [if_neg hc5] at h
    refine A_iload_n 2 rfl rfl rfl ?_
    refine A_bipush (v := 63) rfl (by decide) ?_
    refine A_icmp_ne (tgt := 62) rfl (by decide) (fun hc6 => ?_) (fun hc6 => ?_)
    · rw [if_neg hc6] at h
      refine A_iload_n 0 rfl rfl rfl ?_
      refine A_bipush (v := 54) rfl (by decide) ?_
      refine A_icmp_ne (tgt := 72) rfl (by decide) (fun hc7 => ?_) (fun hc7 => ?_)
      · rw [if_neg hc7] at h
        refine A_iconst (v := 0) rfl (by decide) ?_
        refine A_pc (pc' := 73) rfl ?_
        refine A_sub (Ls' := [(0, vA 184), (1, vI a1), (2, vI q3)]) [1, 2, 0] rfl ?_
        exact o_Mod_shut_73  _ _ _ _ _ _ h
      · rw [if_pos hc7] at h
        refine A_pc (pc' := 68) rfl ?_
        refine A_iconst (v := 1) rfl (by decide) ?_
        refine A_goto (tgt := 73) rfl (by decide) ?_
        refine A_pc (pc' := 73) rfl ?_
        refine A_sub (Ls' := [(0, vA 184), (1, vI a1), (2, vI q3)]) [1, 2, 0] rfl ?_
        exact o_Mod_shut_73  _ _ _ _ _ _ h
    · rw [if_pos hc6] at h
      refine A_pc (pc' := 42) rfl ?_
      refine A_iload_n 0 rfl rfl rfl ?_
      refine A_bipush (v := 52) rfl (by decide) ?_
      refine A_icmp_eq (tgt := 54) rfl (by decide) (fun hc26 => ?_) (fun hc26 => ?_)
      · rw [if_pos hc26] at h
        refine A_iconst (v := 1) rfl (by decide) ?_
        refine A_goto (tgt := 73) rfl (by decide) ?_
        refine A_pc (pc' := 73) rfl ?_
        refine A_sub (Ls' := [(0, vA 184), (1, vI a1), (2, vI q3)]) [1, 2, 0] rfl ?_
        exact o_Mod_shut_73  _ _ _ _ _ _ h
      · rw [if_neg hc26] at h
        refine A_pc (pc' := 48) rfl ?_
        refine A_iload_n 0 rfl rfl rfl ?_
        refine A_bipush (v := 53) rfl (by decide) ?_
        refine A_icmp_ne (tgt := 58) rfl (by decide) (fun hc27 => ?_) (fun hc27 => ?_)
        · rw [if_neg hc27] at h
          refine A_iconst (v := 0) rfl (by decide) ?_
          refine A_goto (tgt := 73) rfl (by decide) ?_
          refine A_pc (pc' := 73) rfl ?_
          refine A_sub (Ls' := [(0, vA 184), (1, vI a1), (2, vI q3)]) [1, 2, 0] rfl ?_
          exact o_Mod_shut_73  _ _ _ _ _ _ h
        · rw [if_pos hc27] at h
          refine A_pc (pc' := 54) rfl ?_
          refine A_iconst (v := 1) rfl (by decide) ?_
          refine A_goto (tgt := 73) rfl (by decide) ?_
          refine A_pc (pc' := 73) rfl ?_
          refine A_sub (Ls' := [(0, vA 184), (1, vI a1), (2, vI q3)]) [1, 2, 0] rfl ?_
          exact o_Mod_shut_73  _ _ _ _ _ _ h
  · rw [if_pos hc5] at h
    refine A_pc (pc' := 16) rfl ?_
    refine A_iload_n 0 rfl rfl rfl ?_
    refine A_bipush (v := 50) rfl (by decide) ?_
    refine A_icmp_eq (tgt := 28) rfl (by decide) (fun hc28 => ?_) (fun hc28 => ?_)
    · rw [if_pos hc28] at h
      refine A_iconst (v := 1) rfl (by decide) ?_
      refine A_goto (tgt := 73) rfl (by decide) ?_
      refine A_pc (pc' := 73) rfl ?_
      refine A_sub (Ls' := [(0, vA 184), (1, vI a1), (2, vI q3)]) [1, 2, 0] rfl ?_
      exact o_Mod_shut_73  _ _ _ _ _ _ h
    · rw [if_neg hc28] at h
      refine A_pc (pc' := 22) rfl ?_
      refine A_iload_n 0 rfl rfl rfl ?_
      refine A_bipush (v := 51) rfl (by decide) ?_
      refine A_icmp_ne (tgt := 32) rfl (by decide) (fun hc29 => ?_) (fun hc29 => ?_)
      · rw [if_neg hc29] at h
        refine A_iconst (v := 0) rfl (by decide) ?_
        refine A_goto (tgt := 73) rfl (by decide) ?_
        refine A_pc (pc' := 73) rfl ?_
        refine A_sub (Ls' := [(0, vA 184), (1, vI a1), (2, vI q3)]) [1, 2, 0] rfl ?_
        exact o_Mod_shut_73  _ _ _ _ _ _ h
      · rw [if_pos hc29] at h
        refine A_pc (pc' := 28) rfl ?_
        refine A_iconst (v := 1) rfl (by decide) ?_
        refine A_goto (tgt := 73) rfl (by decide) ?_
        refine A_pc (pc' := 73) rfl ?_
        refine A_sub (Ls' := [(0, vA 184), (1, vI a1), (2, vI q3)]) [1, 2, 0] rfl ?_
        exact o_Mod_shut_73  _ _ _ _ _ _ h
