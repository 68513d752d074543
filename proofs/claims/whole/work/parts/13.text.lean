/-! Text. Printed by gen_methods.py. -/
def tb_Text_append : List (Nat × Instr × Nat) := [(0, .iload_n 1, 1), (1, .bipush 32, 2), (3, .if_icmp .lt 18, 3), (6, .iload_n 1, 1), (7, .bipush 126, 2), (9, .if_icmp .gt 12, 3), (12, .aload_n 0, 1), (13, .getfield 15, 3), (16, .bipush 48, 2), (18, .if_icmp .lt 5, 3), (21, .iconst 0, 1), (22, .ireturn, 1), (23, .aload_n 0, 1), (24, .getfield 9, 3), (27, .aload_n 0, 1), (28, .getfield 15, 3), (31, .iload_n 1, 1), (32, .castore, 1), (33, .aload_n 0, 1), (34, .dup, 1), (35, .getfield 15, 3), (38, .iconst 1, 1), (39, .iadd, 1), (40, .putfield 15, 3), (43, .iconst 1, 1), (44, .ireturn, 1)]
def Y_Text_append : ax_Y := (⟨"MethodWarden$Text", "append", "(C)Z"⟩, prog_9_method_2_code, 2, some .boolean, tb_Text_append)
theorem yok_Text_append : yOK Y_Text_append := ⟨by decide +kernel, by decide +kernel, inWG 450 (by decide +kernel) (by decide +kernel), inWG 97 (by decide +kernel) (by decide +kernel), by decide +kernel⟩
theorem fl_Text_15 : fldOK "MethodWarden$Text" 15 1 1 false := ⟨_, _, _, cls_Text, by decide, by decide, rfl, Or.inl (inWG 128 (by decide +kernel) (by decide +kernel))⟩
theorem fl_Text_9 : fldOK "MethodWarden$Text" 9 1 0 true := ⟨_, _, _, cls_Text, by decide, by decide, rfl, Or.inl (inWG 127 (by decide +kernel) (by decide +kernel))⟩
def f_Text_append (a1 : Int32) (M : ax_M) : Option (Int32 × ax_M) :=
  if a1 < 32 then (some (0, M)) else (if 126 < a1 then (some (0, M)) else (if (gI M 3 1) < 48 then (gi (gI M 3 1) 48 (gc a1 (kM (mI M 4 (gI M 3 1).toNatClampNeg a1) (fun M6 => kM (mI M6 3 1 ((gI M6 3 1) + 1)) (fun M7 => some (1, M7)))))) else (some (0, M))))
set_option maxHeartbeats 4000000 in
set_option maxRecDepth 100000 in
theorem c_Text_append {l : Launch} {g : ax_G} {a1 : Int32} {M : ax_M} {r : Int32} {M' : ax_M} (h : f_Text_append a1 M = some (r, M')) : Ctr l g true Y_Text_append 1 [vA 3, vI a1] M (some (vI r), M') := by
  refine Ctr.ofAW yok_Text_append (Nat.le_of_ble_eq_true rfl) (Or.inl rfl) ?_
  show AW l g true Y_Text_append 1 (some (vI r), M') 0 [(0, vA 3), (1, vI a1)] [] M
  unfold f_Text_append at h
  refine A_iload_n 1 rfl rfl rfl ?_
  refine A_bipush (v := 32) rfl (by decide) ?_
  refine A_icmp_lt (tgt := 21) rfl (by decide) (fun hc1 => ?_) (fun hc1 => ?_)
  · rw [if_pos hc1] at h
    refine A_iconst (v := 0) rfl (by decide) ?_
    obtain ⟨rfl, rfl⟩ := leaf h
    exact A_zret rfl rfl (Or.inl rfl)
  · rw [if_neg hc1] at h
    refine A_pc (pc' := 6) rfl ?_
    refine A_iload_n 1 rfl rfl rfl ?_
    refine A_bipush (v := 126) rfl (by decide) ?_
    refine A_icmp_gt (tgt := 21) rfl (by decide) (fun hc2 => ?_) (fun hc2 => ?_)
    · rw [if_pos hc2] at h
      refine A_iconst (v := 0) rfl (by decide) ?_
      obtain ⟨rfl, rfl⟩ := leaf h
      exact A_zret rfl rfl (Or.inl rfl)
    · rw [if_neg hc2] at h
      refine A_pc (pc' := 12) rfl ?_
      refine A_aload_n 0 rfl rfl rfl ?_
      refine A_getI rfl fl_Text_15 rfl (by decide) (Or.inl rfl) ?_
      refine A_bipush (v := 48) rfl (by decide) ?_
      refine A_icmp_lt (tgt := 23) rfl (by decide) (fun hc3 => ?_) (fun hc3 => ?_)
      · rw [if_pos hc3] at h
        refine A_aload_n 0 rfl rfl rfl ?_
        refine A_getL (r := 4) rfl fl_Text_9 rfl (by decide) rfl rfl ?_
        refine A_aload_n 0 rfl rfl rfl ?_
        refine A_getI rfl fl_Text_15 rfl (by decide) (Or.inl rfl) ?_
        refine A_iload_n 1 rfl rfl rfl ?_
        refine A_pc (pc' := 32) rfl ?_
        obtain ⟨hg4, h⟩ := gi_out h
        obtain ⟨hg5, h⟩ := gc_out h
        refine A_cast (n := 48) rfl (by decide) (by decide) (Or.inl rfl) hg4 hg5 ?_
        obtain ⟨M6, hM6, h⟩ := kM_out h
        refine A_mem hM6 ?_
        refine A_aload_n 0 rfl rfl rfl ?_
        refine A_dup rfl rfl ?_
        refine A_getI rfl fl_Text_15 rfl (by decide) (Or.inl rfl) ?_
        refine A_iconst (v := 1) rfl (by decide) ?_
        refine A_iadd rfl ?_
        refine A_pc (pc' := 40) rfl ?_
        refine A_putI rfl (Or.inl fl_Text_15) rfl (by decide) (Or.inl rfl) rfl ?_
        obtain ⟨M7, hM7, h⟩ := kM_out h
        refine A_mem hM7 ?_
        refine A_iconst (v := 1) rfl (by decide) ?_
        obtain ⟨rfl, rfl⟩ := leaf h
        exact A_zret rfl rfl (Or.inr rfl)
      · rw [if_neg hc3] at h
        refine A_pc (pc' := 21) rfl ?_
        refine A_iconst (v := 0) rfl (by decide) ?_
        obtain ⟨rfl, rfl⟩ := leaf h
        exact A_zret rfl rfl (Or.inl rfl)
def tb_Text_clear : List (Nat × Instr × Nat) := [(0, .aload_n 0, 1), (1, .iconst 0, 1), (2, .putfield 15, 3), (5, .return_, 1)]
def Y_Text_clear : ax_Y := (⟨"MethodWarden$Text", "clear", "()V"⟩, prog_9_method_3_code, 1, none, tb_Text_clear)
theorem yok_Text_clear : yOK Y_Text_clear := ⟨by decide +kernel, by decide +kernel, inWG 680 (by decide +kernel) (by decide +kernel), inWG 97 (by decide +kernel) (by decide +kernel), by decide +kernel⟩
def f_Text_clear  (M : ax_M) : Option (Unit × ax_M) :=
  kM (mI M 3 1 0) (fun M1 => some ((), M1))
set_option maxHeartbeats 4000000 in
set_option maxRecDepth 100000 in
theorem c_Text_clear {l : Launch} {g : ax_G}  {M : ax_M} {r : Unit} {M' : ax_M} (h : f_Text_clear  M = some (r, M')) : Ctr l g true Y_Text_clear 1 [vA 3] M (none, M') := by
  refine Ctr.ofAW yok_Text_clear (Nat.le_of_ble_eq_true rfl) (Or.inl rfl) ?_
  show AW l g true Y_Text_clear 1 (none, M') 0 [(0, vA 3)] [] M
  unfold f_Text_clear at h
  refine A_aload_n 0 rfl rfl rfl ?_
  refine A_iconst (v := 0) rfl (by decide) ?_
  refine A_putI rfl (Or.inl fl_Text_15) rfl (by decide) (Or.inl rfl) rfl ?_
  obtain ⟨M1, hM1, h⟩ := kM_out h
  refine A_mem hM1 ?_
  obtain ⟨rfl, rfl⟩ := leaf h
  exact A_vret rfl rfl
def tb_Text_rewind : List (Nat × Instr × Nat) := [(0, .aload_n 0, 1), (1, .iconst 0, 1), (2, .putfield 19, 3), (5, .return_, 1)]
def Y_Text_rewind : ax_Y := (⟨"MethodWarden$Text", "rewind", "()V"⟩, prog_9_method_4_code, 1, none, tb_Text_rewind)
theorem yok_Text_rewind : yOK Y_Text_rewind := ⟨by decide +kernel, by decide +kernel, inWG 469 (by decide +kernel) (by decide +kernel), inWG 97 (by decide +kernel) (by decide +kernel), by decide +kernel⟩
theorem fl_Text_19 : fldOK "MethodWarden$Text" 19 1 2 false := ⟨_, _, _, cls_Text, by decide, by decide, rfl, Or.inl (inWG 130 (by decide +kernel) (by decide +kernel))⟩
def f_Text_rewind  (M : ax_M) : Option (Unit × ax_M) :=
  kM (mI M 3 2 0) (fun M1 => some ((), M1))
set_option maxHeartbeats 4000000 in
set_option maxRecDepth 100000 in
theorem c_Text_rewind {l : Launch} {g : ax_G}  {M : ax_M} {r : Unit} {M' : ax_M} (h : f_Text_rewind  M = some (r, M')) : Ctr l g true Y_Text_rewind 1 [vA 3] M (none, M') := by
  refine Ctr.ofAW yok_Text_rewind (Nat.le_of_ble_eq_true rfl) (Or.inl rfl) ?_
  show AW l g true Y_Text_rewind 1 (none, M') 0 [(0, vA 3)] [] M
  unfold f_Text_rewind at h
  refine A_aload_n 0 rfl rfl rfl ?_
  refine A_iconst (v := 0) rfl (by decide) ?_
  refine A_putI rfl (Or.inl fl_Text_19) rfl (by decide) (Or.inl rfl) rfl ?_
  obtain ⟨M1, hM1, h⟩ := kM_out h
  refine A_mem hM1 ?_
  obtain ⟨rfl, rfl⟩ := leaf h
  exact A_vret rfl rfl
def tb_Text_isDigit : List (Nat × Instr × Nat) := [(0, .iload_n 0, 1), (1, .bipush 48, 2), (3, .if_icmp .lt 13, 3), (6, .iload_n 0, 1), (7, .bipush 57, 2), (9, .if_icmp .gt 7, 3), (12, .iconst 1, 1), (13, .goto 4, 3), (16, .iconst 0, 1), (17, .ireturn, 1)]
def Y_Text_isDigit : ax_Y := (⟨"MethodWarden$Text", "isDigit", "(C)Z"⟩, prog_9_method_6_code, 1, some .boolean, tb_Text_isDigit)
theorem yok_Text_isDigit : yOK Y_Text_isDigit := ⟨by decide +kernel, by decide +kernel, inWG 476 (by decide +kernel) (by decide +kernel), inWG 97 (by decide +kernel) (by decide +kernel), by decide +kernel⟩
def f_Text_isDigit (a0 : Int32) (M : ax_M) : Option (Int32 × ax_M) :=
  if a0 < 48 then (some (0, M)) else (if 57 < a0 then (some (0, M)) else (some (1, M)))
set_option maxHeartbeats 4000000 in
set_option maxRecDepth 100000 in
theorem c_Text_isDigit {l : Launch} {g : ax_G} {a0 : Int32} {M : ax_M} {r : Int32} {M' : ax_M} (h : f_Text_isDigit a0 M = some (r, M')) : Ctr l g true Y_Text_isDigit 1 [vI a0] M (some (vI r), M') := by
  refine Ctr.ofAW yok_Text_isDigit (Nat.le_of_ble_eq_true rfl) (Or.inl rfl) ?_
  show AW l g true Y_Text_isDigit 1 (some (vI r), M') 0 [(0, vI a0)] [] M
  unfold f_Text_isDigit at h
  refine A_iload_n 0 rfl rfl rfl ?_
  refine A_bipush (v := 48) rfl (by decide) ?_
  refine A_icmp_lt (tgt := 16) rfl (by decide) (fun hc1 => ?_) (fun hc1 => ?_)
  · rw [if_pos hc1] at h
    refine A_iconst (v := 0) rfl (by decide) ?_
    obtain ⟨rfl, rfl⟩ := leaf h
    exact A_zret rfl rfl (Or.inl rfl)
  · rw [if_neg hc1] at h
    refine A_pc (pc' := 6) rfl ?_
    refine A_iload_n 0 rfl rfl rfl ?_
    refine A_bipush (v := 57) rfl (by decide) ?_
    refine A_icmp_gt (tgt := 16) rfl (by decide) (fun hc2 => ?_) (fun hc2 => ?_)
    · rw [if_pos hc2] at h
      refine A_iconst (v := 0) rfl (by decide) ?_
      obtain ⟨rfl, rfl⟩ := leaf h
      exact A_zret rfl rfl (Or.inl rfl)
    · rw [if_neg hc2] at h
      refine A_pc (pc' := 12) rfl ?_
      refine A_iconst (v := 1) rfl (by decide) ?_
      refine A_goto (tgt := 17) rfl (by decide) ?_
      obtain ⟨rfl, rfl⟩ := leaf h
      exact A_zret rfl rfl (Or.inr rfl)
def tb_Text_isSmallLetter : List (Nat × Instr × Nat) := [(0, .iload_n 0, 1), (1, .bipush 97, 2), (3, .if_icmp .lt 13, 3), (6, .iload_n 0, 1), (7, .bipush 122, 2), (9, .if_icmp .gt 7, 3), (12, .iconst 1, 1), (13, .goto 4, 3), (16, .iconst 0, 1), (17, .ireturn, 1)]
def Y_Text_isSmallLetter : ax_Y := (⟨"MethodWarden$Text", "isSmallLetter", "(C)Z"⟩, prog_9_method_7_code, 1, some .boolean, tb_Text_isSmallLetter)
theorem yok_Text_isSmallLetter : yOK Y_Text_isSmallLetter := ⟨by decide +kernel, by decide +kernel, inWG 490 (by decide +kernel) (by decide +kernel), inWG 97 (by decide +kernel) (by decide +kernel), by decide +kernel⟩
def f_Text_isSmallLetter (a0 : Int32) (M : ax_M) : Option (Int32 × ax_M) :=
  if a0 < 97 then (some (0, M)) else (if 122 < a0 then (some (0, M)) else (some (1, M)))
set_option maxHeartbeats 4000000 in
set_option maxRecDepth 100000 in
theorem c_Text_isSmallLetter {l : Launch} {g : ax_G} {a0 : Int32} {M : ax_M} {r : Int32} {M' : ax_M} (h : f_Text_isSmallLetter a0 M = some (r, M')) : Ctr l g true Y_Text_isSmallLetter 1 [vI a0] M (some (vI r), M') := by
  refine Ctr.ofAW yok_Text_isSmallLetter (Nat.le_of_ble_eq_true rfl) (Or.inl rfl) ?_
  show AW l g true Y_Text_isSmallLetter 1 (some (vI r), M') 0 [(0, vI a0)] [] M
  unfold f_Text_isSmallLetter at h
  refine A_iload_n 0 rfl rfl rfl ?_
  refine A_bipush (v := 97) rfl (by decide) ?_
  refine A_icmp_lt (tgt := 16) rfl (by decide) (fun hc1 => ?_) (fun hc1 => ?_)
  · rw [if_pos hc1] at h
    refine A_iconst (v := 0) rfl (by decide) ?_
    obtain ⟨rfl, rfl⟩ := leaf h
    exact A_zret rfl rfl (Or.inl rfl)
  · rw [if_neg hc1] at h
    refine A_pc (pc' := 6) rfl ?_
    refine A_iload_n 0 rfl rfl rfl ?_
    refine A_bipush (v := 122) rfl (by decide) ?_
    refine A_icmp_gt (tgt := 16) rfl (by decide) (fun hc2 => ?_) (fun hc2 => ?_)
    · rw [if_pos hc2] at h
      refine A_iconst (v := 0) rfl (by decide) ?_
      obtain ⟨rfl, rfl⟩ := leaf h
      exact A_zret rfl rfl (Or.inl rfl)
    · rw [if_neg hc2] at h
      refine A_pc (pc' := 12) rfl ?_
      refine A_iconst (v := 1) rfl (by decide) ?_
      refine A_goto (tgt := 17) rfl (by decide) ?_
      obtain ⟨rfl, rfl⟩ := leaf h
      exact A_zret rfl rfl (Or.inr rfl)
def tb_Text_passes : List (Nat × Instr × Nat) := [(0, .aload_n 0, 1), (1, .getfield 19, 3), (4, .aload_n 0, 1), (5, .getfield 15, 3), (8, .if_icmp .ge 16, 3), (11, .aload_n 0, 1), (12, .getfield 9, 3), (15, .aload_n 0, 1), (16, .getfield 19, 3), (19, .caload, 1), (20, .iload_n 1, 1), (21, .if_icmp .eq 5, 3), (24, .iconst 0, 1), (25, .ireturn, 1), (26, .aload_n 0, 1), (27, .dup, 1), (28, .getfield 19, 3), (31, .iconst 1, 1), (32, .iadd, 1), (33, .putfield 19, 3), (36, .iconst 1, 1), (37, .ireturn, 1)]
def Y_Text_passes : ax_Y := (⟨"MethodWarden$Text", "passes", "(C)Z"⟩, prog_9_method_18_code, 2, some .boolean, tb_Text_passes)
theorem yok_Text_passes : yOK Y_Text_passes := ⟨by decide +kernel, by decide +kernel, inWG 486 (by decide +kernel) (by decide +kernel), inWG 97 (by decide +kernel) (by decide +kernel), by decide +kernel⟩
def f_Text_passes (a1 : Int32) (M : ax_M) : Option (Int32 × ax_M) :=
  if (gI M 3 1) ≤ (gI M 3 2) then (some (0, M)) else (gi (gI M 3 2) 48 (if (gI M 4 (gI M 3 2).toNatClampNeg) = a1 then (kM (mI M 3 2 ((gI M 3 2) + 1)) (fun M4 => some (1, M4))) else (some (0, M))))
set_option maxHeartbeats 4000000 in
set_option maxRecDepth 100000 in
theorem c_Text_passes {l : Launch} {g : ax_G} {a1 : Int32} {M : ax_M} {r : Int32} {M' : ax_M} (h : f_Text_passes a1 M = some (r, M')) : Ctr l g true Y_Text_passes 1 [vA 3, vI a1] M (some (vI r), M') := by
  refine Ctr.ofAW yok_Text_passes (Nat.le_of_ble_eq_true rfl) (Or.inl rfl) ?_
  show AW l g true Y_Text_passes 1 (some (vI r), M') 0 [(0, vA 3), (1, vI a1)] [] M
  unfold f_Text_passes at h
  refine A_aload_n 0 rfl rfl rfl ?_
  refine A_getI rfl fl_Text_19 rfl (by decide) (Or.inl rfl) ?_
  refine A_aload_n 0 rfl rfl rfl ?_
  refine A_getI rfl fl_Text_15 rfl (by decide) (Or.inl rfl) ?_
  refine A_icmp_ge (tgt := 24) rfl (by decide) (fun hc1 => ?_) (fun hc1 => ?_)
  · rw [if_pos hc1] at h
    refine A_iconst (v := 0) rfl (by decide) ?_
    obtain ⟨rfl, rfl⟩ := leaf h
    exact A_zret rfl rfl (Or.inl rfl)
  · rw [if_neg hc1] at h
    refine A_pc (pc' := 11) rfl ?_
    refine A_aload_n 0 rfl rfl rfl ?_
    refine A_getL (r := 4) rfl fl_Text_9 rfl (by decide) rfl rfl ?_
    refine A_aload_n 0 rfl rfl rfl ?_
    refine A_getI rfl fl_Text_19 rfl (by decide) (Or.inl rfl) ?_
    obtain ⟨hg2, h⟩ := gi_out h
    refine A_cald (n := 48) rfl (by decide) (by decide) (Or.inl rfl) hg2 ?_
    refine A_pc (pc' := 20) rfl ?_
    refine A_iload_n 1 rfl rfl rfl ?_
    refine A_icmp_eq (tgt := 26) rfl (by decide) (fun hc3 => ?_) (fun hc3 => ?_)
    · rw [if_pos hc3] at h
      refine A_aload_n 0 rfl rfl rfl ?_
      refine A_dup rfl rfl ?_
      refine A_getI rfl fl_Text_19 rfl (by decide) (Or.inl rfl) ?_
      refine A_iconst (v := 1) rfl (by decide) ?_
      refine A_iadd rfl ?_
      refine A_pc (pc' := 33) rfl ?_
      refine A_putI rfl (Or.inl fl_Text_19) rfl (by decide) (Or.inl rfl) rfl ?_
      obtain ⟨M4, hM4, h⟩ := kM_out h
      refine A_mem hM4 ?_
      refine A_iconst (v := 1) rfl (by decide) ?_
      obtain ⟨rfl, rfl⟩ := leaf h
      exact A_zret rfl rfl (Or.inr rfl)
    · rw [if_neg hc3] at h
      refine A_pc (pc' := 24) rfl ?_
      refine A_iconst (v := 0) rfl (by decide) ?_
      obtain ⟨rfl, rfl⟩ := leaf h
      exact A_zret rfl rfl (Or.inl rfl)
def tb_Text_cutNumber : List (Nat × Instr × Nat) := [(0, .iconst 1, 1), (1, .istore_n 1, 1), (2, .aload_n 0, 1), (3, .getfield 19, 3), (6, .aload_n 0, 1), (7, .getfield 15, 3), (10, .if_icmp .ge 82, 3), (13, .aload_n 0, 1), (14, .getfield 9, 3), (17, .aload_n 0, 1), (18, .getfield 19, 3), (21, .caload, 1), (22, .invokestatic 34, 3), (25, .ifCond .eq 67, 3), (28, .aload_n 0, 1), (29, .getfield 9, 3), (32, .aload_n 0, 1), (33, .getfield 19, 3), (36, .caload, 1), (37, .bipush 48, 2), (39, .isub, 1), (40, .istore_n 2, 1), (41, .aload_n 0, 1), (42, .getfield 25, 3), (45, .ldc2_w 51, 3), (48, .iload_n 2, 1), (49, .i2l, 1), (50, .lsub, 1), (51, .ldc2_w 53, 3), (54, .ldiv, 1), (55, .lcmp, 1), (56, .ifCond .le 8, 3), (59, .iconst 0, 1), (60, .istore_n 1, 1), (61, .goto 18, 3), (64, .aload_n 0, 1), (65, .aload_n 0, 1), (66, .getfield 25, 3), (69, .ldc2_w 53, 3), (72, .lmul, 1), (73, .iload_n 2, 1), (74, .i2l, 1), (75, .ladd, 1), (76, .putfield 25, 3), (79, .aload_n 0, 1), (80, .dup, 1), (81, .getfield 19, 3), (84, .iconst 1, 1), (85, .iadd, 1), (86, .putfield 19, 3), (89, .goto (-87), 3), (92, .aload_n 0, 1), (93, .bipush 76, 2), (95, .invokevirtual 55, 3), (98, .ifCond .eq 13, 3), (101, .iload_n 1, 1), (102, .ifCond .eq 7, 3), (105, .iconst 3, 1), (106, .goto 4, 3), (109, .iconst 1, 1), (110, .ireturn, 1), (111, .iload_n 1, 1), (112, .ifCond .eq 18, 3), (115, .aload_n 0, 1), (116, .getfield 25, 3), (119, .ldc2_w 58, 3), (122, .lcmp, 1), (123, .ifCond .gt 7, 3), (126, .iconst 2, 1), (127, .goto 4, 3), (130, .iconst 1, 1), (131, .ireturn, 1)]
def Y_Text_cutNumber : ax_Y := (⟨"MethodWarden$Text", "cutNumber", "()I"⟩, prog_9_method_8_code, 3, some .int, tb_Text_cutNumber)
theorem yok_Text_cutNumber : yOK Y_Text_cutNumber := ⟨by decide +kernel, by decide +kernel, inWG 480 (by decide +kernel) (by decide +kernel), inWG 97 (by decide +kernel) (by decide +kernel), by decide +kernel⟩
theorem fl_Text_25 : fldOK "MethodWarden$Text" 25 1 5 false := ⟨_, _, _, cls_Text, by decide, by decide, rfl, Or.inl (inWG 136 (by decide +kernel) (by decide +kernel))⟩
theorem ml_Text_55 : mlV "MethodWarden$Text" 55 Y_Text_passes 1 := ⟨⟨yok_Text_passes, by decide +kernel, by decide⟩, Or.inl (inWG 483 (by decide +kernel) (by decide +kernel)), inWG 485 (by decide +kernel) (by decide +kernel), inWG 1 (by decide +kernel) (by decide +kernel)⟩
theorem ml_Text_34 : mlS "MethodWarden$Text" 34 Y_Text_isDigit 1 := ⟨⟨yok_Text_isDigit, by decide +kernel, by decide⟩, Or.inl (inWG 474 (by decide +kernel) (by decide +kernel)), inWG 475 (by decide +kernel) (by decide +kernel)⟩
def f_Text_cutNumber_92 (l1 : Int32) (M : ax_M) : Option (Int32 × ax_M) :=
  bnd (f_Text_passes 76 M) (fun q2 M3 => if q2 = 0 then (if l1 = 0 then (some (1, M3)) else (if 0 < (lg_cmp (gJ M3 3 5) 2147483647) then (some (1, M3)) else (some (2, M3)))) else (if l1 = 0 then (some (1, M3)) else (some (3, M3))))
set_option maxHeartbeats 4000000 in
set_option maxRecDepth 100000 in
theorem o_Text_cutNumber_92 {l : Launch} {g : ax_G} (l1 : Int32) (M : ax_M) (r : Int32) (M' : ax_M) (h : f_Text_cutNumber_92  l1 M = some (r, M')) : AW l g true Y_Text_cutNumber 2 (some (vI r), M') 92 [(0, vA 3), (1, vI l1)] [] M := by
  unfold f_Text_cutNumber_92 at h
  refine A_aload_n 0 rfl rfl rfl ?_
  refine A_bipush (v := 76) rfl (by decide) ?_
  obtain ⟨q2, M3, hcq2, h⟩ := bnd_out h
  refine A_callV (ci := 1) (as := [vI 76]) (st' := []) (r1 := (some (vI q2), M3)) rfl ml_Text_55 rfl (by decide) (by decide) (Or.inl rfl) rfl rfl (Nat.le_of_ble_eq_true rfl) (by decide) (c_Text_passes hcq2) (Or.inl rfl) ?_
  refine A_pc (pc' := 98) rfl ?_
  refine A_stk (st' := [vI q2]) rfl ?_
  refine A_if_eq (tgt := 111) rfl (by decide) (fun hc4 => ?_) (fun hc4 => ?_)
  · rw [if_pos hc4] at h
    refine A_iload_n 1 rfl rfl rfl ?_
    refine A_if_eq (tgt := 130) rfl (by decide) (fun hc5 => ?_) (fun hc5 => ?_)
    · rw [if_pos hc5] at h
      refine A_iconst (v := 1) rfl (by decide) ?_
      obtain ⟨rfl, rfl⟩ := leaf h
      exact A_iret rfl rfl
    · rw [if_neg hc5] at h
      refine A_pc (pc' := 115) rfl ?_
      refine A_aload_n 0 rfl rfl rfl ?_
      refine A_getJ rfl fl_Text_25 rfl (by decide) (Or.inl rfl) ?_
      refine A_ldc2 (v := 2147483647) rfl (inWG 487 (by decide +kernel) (by decide +kernel)) ?_
      refine A_lcmp rfl ?_
      refine A_if_gt (tgt := 130) rfl (by decide) (fun hc6 => ?_) (fun hc6 => ?_)
      · rw [if_pos hc6] at h
        refine A_iconst (v := 1) rfl (by decide) ?_
        obtain ⟨rfl, rfl⟩ := leaf h
        exact A_iret rfl rfl
      · rw [if_neg hc6] at h
        refine A_pc (pc' := 126) rfl ?_
        refine A_iconst (v := 2) rfl (by decide) ?_
        refine A_goto (tgt := 131) rfl (by decide) ?_
        obtain ⟨rfl, rfl⟩ := leaf h
        exact A_iret rfl rfl
  · rw [if_neg hc4] at h
    refine A_pc (pc' := 101) rfl ?_
    refine A_iload_n 1 rfl rfl rfl ?_
    refine A_if_eq (tgt := 109) rfl (by decide) (fun hc7 => ?_) (fun hc7 => ?_)
    · rw [if_pos hc7] at h
      refine A_iconst (v := 1) rfl (by decide) ?_
      obtain ⟨rfl, rfl⟩ := leaf h
      exact A_iret rfl rfl
    · rw [if_neg hc7] at h
      refine A_pc (pc' := 105) rfl ?_
      refine A_iconst (v := 3) rfl (by decide) ?_
      refine A_goto (tgt := 110) rfl (by decide) ?_
      obtain ⟨rfl, rfl⟩ := leaf h
      exact A_iret rfl rfl
def f_Text_cutNumber_2_b (K2 : Int32 → ax_M → Option (Int32 × ax_M)) (l1 : Int32) (M : ax_M) : Option (Int32 × ax_M) :=
  if (gI M 3 1) ≤ (gI M 3 2) then (f_Text_cutNumber_92 l1 M) else (gi (gI M 3 2) 48 (bnd (f_Text_isDigit (gI M 4 (gI M 3 2).toNatClampNeg) M) (fun q9 M10 => if q9 = 0 then (f_Text_cutNumber_92 l1 M10) else (gi (gI M10 3 2) 48 (kM ((gI M10 4 (gI M10 3 2).toNatClampNeg) - 48) (fun x13 => if (lg_cmp (gJ M10 3 5) ((9223372036854775807 - (Int32.toInt64 x13)) / 10)) ≤ 0 then (kM (mJ M10 3 5 (((gJ M10 3 5) * 10) + (Int32.toInt64 x13))) (fun M15 => kM (mI M15 3 2 ((gI M15 3 2) + 1)) (fun M16 => K2 l1 M16))) else (kM (mI M10 3 2 ((gI M10 3 2) + 1)) (fun M17 => K2 0 M17))))))))
def f_Text_cutNumber_2 : Nat → Int32 → ax_M → Option (Int32 × ax_M)
  | 0, _, _ => none
  | n + 1, l1, M => f_Text_cutNumber_2_b  (f_Text_cutNumber_2 n) l1 M
set_option maxHeartbeats 4000000 in
set_option maxRecDepth 100000 in
theorem o_Text_cutNumber_2_b {l : Launch} {g : ax_G} (K2 : Int32 → ax_M → Option (Int32 × ax_M)) (hK2 : ∀ (l1 : Int32) (M : ax_M) (r : Int32) (M' : ax_M), K2 l1 M = some (r, M') → AW l g true Y_Text_cutNumber 2 (some (vI r), M') 2 [(0, vA 3), (1, vI l1)] [] M) (l1 : Int32) (M : ax_M) (r : Int32) (M' : ax_M) (h : f_Text_cutNumber_2_b  K2 l1 M = some (r, M')) : AW l g true Y_Text_cutNumber 2 (some (vI r), M') 2 [(0, vA 3), (1, vI l1)] [] M := by
  unfold f_Text_cutNumber_2_b at h
  refine A_aload_n 0 rfl rfl rfl ?_
  refine A_getI rfl fl_Text_19 rfl (by decide) (Or.inl rfl) ?_
  refine A_aload_n 0 rfl rfl rfl ?_
  refine A_getI rfl fl_Text_15 rfl (by decide) (Or.inl rfl) ?_
  refine A_icmp_ge (tgt := 92) rfl (by decide) (fun hc1 => ?_) (fun hc1 => ?_)
  · rw [if_pos hc1] at h
    refine A_pc (pc' := 92) rfl ?_
    refine A_sub (Ls' := [(0, vA 3), (1, vI l1)]) [0, 1] rfl ?_
    exact o_Text_cutNumber_92  _ _ _ _ h
  · rw [if_neg hc1] at h
    refine A_pc (pc' := 13) rfl ?_
    refine A_aload_n 0 rfl rfl rfl ?_
    refine A_getL (r := 4) rfl fl_Text_9 rfl (by decide) rfl rfl ?_
    refine A_aload_n 0 rfl rfl rfl ?_
    refine A_getI rfl fl_Text_19 rfl (by decide) (Or.inl rfl) ?_
    obtain ⟨hg8, h⟩ := gi_out h
    refine A_cald (n := 48) rfl (by decide) (by decide) (Or.inl rfl) hg8 ?_
    refine A_pc (pc' := 22) rfl ?_
    obtain ⟨q9, M10, hcq9, h⟩ := bnd_out h
    refine A_callS (as := [vI (gI M 4 (gI M 3 2).toNatClampNeg)]) (st' := []) (r1 := (some (vI q9), M10)) rfl ml_Text_34 rfl rfl (Nat.le_of_ble_eq_true rfl) (by decide) (c_Text_isDigit hcq9) (Or.inl rfl) ?_
    refine A_pc (pc' := 25) rfl ?_
    refine A_stk (st' := [vI q9]) rfl ?_
    refine A_if_eq (tgt := 92) rfl (by decide) (fun hc11 => ?_) (fun hc11 => ?_)
    · rw [if_pos hc11] at h
      refine A_pc (pc' := 92) rfl ?_
      refine A_sub (Ls' := [(0, vA 3), (1, vI l1)]) [0, 1] rfl ?_
      exact o_Text_cutNumber_92  _ _ _ _ h
    · rw [if_neg hc11] at h
      refine A_pc (pc' := 28) rfl ?_
      refine A_aload_n 0 rfl rfl rfl ?_
      refine A_getL (r := 4) rfl fl_Text_9 rfl (by decide) rfl rfl ?_
      refine A_aload_n 0 rfl rfl rfl ?_
      refine A_getI rfl fl_Text_19 rfl (by decide) (Or.inl rfl) ?_
      obtain ⟨hg12, h⟩ := gi_out h
      refine A_cald (n := 48) rfl (by decide) (by decide) (Or.inl rfl) hg12 ?_
      refine A_pc (pc' := 37) rfl ?_
      refine A_bipush (v := 48) rfl (by decide) ?_
      refine A_isub rfl ?_
      obtain ⟨x13, hx13, h⟩ := kM_out h
      refine A_nI hx13 ?_
      refine A_istore_n (Ls' := [(2, vI x13), (0, vA 3), (1, vI l1)]) rfl rfl (by decide) rfl ?_
      refine A_aload_n 1 rfl rfl rfl ?_
      refine A_getJ rfl fl_Text_25 rfl (by decide) (Or.inl rfl) ?_
      refine A_ldc2 (v := 9223372036854775807) rfl (inWG 481 (by decide +kernel) (by decide +kernel)) ?_
      refine A_pc (pc' := 48) rfl ?_
      refine A_iload_n 0 rfl rfl rfl ?_
      refine A_i2l rfl ?_
      refine A_lsub rfl ?_
      refine A_ldc2 (v := 10) rfl (inWG 482 (by decide +kernel) (by decide +kernel)) ?_
      refine A_ldiv rfl (by decide) ?_
      refine A_lcmp rfl ?_
      refine A_pc (pc' := 56) rfl ?_
      refine A_if_le (tgt := 64) rfl (by decide) (fun hc14 => ?_) (fun hc14 => ?_)
      · rw [if_pos hc14] at h
        refine A_aload_n 1 rfl rfl rfl ?_
        refine A_aload_n 1 rfl rfl rfl ?_
        refine A_getJ rfl fl_Text_25 rfl (by decide) (Or.inl rfl) ?_
        refine A_ldc2 (v := 10) rfl (inWG 482 (by decide +kernel) (by decide +kernel)) ?_
        refine A_lmul rfl ?_
        refine A_pc (pc' := 73) rfl ?_
        refine A_iload_n 0 rfl rfl rfl ?_
        refine A_i2l rfl ?_
        refine A_ladd rfl ?_
        refine A_putJ rfl (Or.inl fl_Text_25) rfl (by decide) (Or.inl rfl) rfl ?_
        obtain ⟨M15, hM15, h⟩ := kM_out h
        refine A_mem hM15 ?_
        refine A_aload_n 1 rfl rfl rfl ?_
        refine A_dup rfl rfl ?_
        refine A_pc (pc' := 81) rfl ?_
        refine A_getI rfl fl_Text_19 rfl (by decide) (Or.inl rfl) ?_
        refine A_iconst (v := 1) rfl (by decide) ?_
        refine A_iadd rfl ?_
        refine A_putI rfl (Or.inl fl_Text_19) rfl (by decide) (Or.inl rfl) rfl ?_
        obtain ⟨M16, hM16, h⟩ := kM_out h
        refine A_mem hM16 ?_
        refine A_goto (tgt := 2) rfl (by decide) ?_
        refine A_pc (pc' := 2) rfl ?_
        refine A_sub (Ls' := [(0, vA 3), (1, vI l1)]) [1, 2] rfl ?_
        exact hK2 _ _ _ _ h
      · rw [if_neg hc14] at h
        refine A_pc (pc' := 59) rfl ?_
        refine A_iconst (v := 0) rfl (by decide) ?_
        refine A_istore_n (Ls' := [(1, vI 0), (2, vI x13), (0, vA 3)]) rfl rfl (by decide) rfl ?_
        refine A_goto (tgt := 79) rfl (by decide) ?_
        refine A_aload_n 2 rfl rfl rfl ?_
        refine A_dup rfl rfl ?_
        refine A_pc (pc' := 81) rfl ?_
        refine A_getI rfl fl_Text_19 rfl (by decide) (Or.inl rfl) ?_
        refine A_iconst (v := 1) rfl (by decide) ?_
        refine A_iadd rfl ?_
        refine A_putI rfl (Or.inl fl_Text_19) rfl (by decide) (Or.inl rfl) rfl ?_
        obtain ⟨M17, hM17, h⟩ := kM_out h
        refine A_mem hM17 ?_
        refine A_goto (tgt := 2) rfl (by decide) ?_
        refine A_pc (pc' := 2) rfl ?_
        refine A_sub (Ls' := [(0, vA 3), (1, vI 0)]) [2, 0] rfl ?_
        exact hK2 _ _ _ _ h
theorem o_Text_cutNumber_2 {l : Launch} {g : ax_G} : ∀ (n : Nat) (l1 : Int32) (M : ax_M) (r : Int32) (M' : ax_M), f_Text_cutNumber_2  n l1 M = some (r, M') → AW l g true Y_Text_cutNumber 2 (some (vI r), M') 2 [(0, vA 3), (1, vI l1)] [] M := by
  intro n
  induction n with
  | zero =>
    intro l1 M r M' h
    cases h
  | succ n ih =>
    intro l1 M r M' h
    exact o_Text_cutNumber_2_b  _ ih _ _ _ _ h
def f_Text_cutNumber  (M : ax_M) : Option (Int32 × ax_M) :=
  f_Text_cutNumber_2 64 1 M
set_option maxHeartbeats 4000000 in
set_option maxRecDepth 100000 in
theorem c_Text_cutNumber {l : Launch} {g : ax_G}  {M : ax_M} {r : Int32} {M' : ax_M} (h : f_Text_cutNumber  M = some (r, M')) : Ctr l g true Y_Text_cutNumber 2 [vA 3] M (some (vI r), M') := by
  refine Ctr.ofAW yok_Text_cutNumber (Nat.le_of_ble_eq_true rfl) (Or.inl rfl) ?_
  show AW l g true Y_Text_cutNumber 2 (some (vI r), M') 0 [(0, vA 3)] [] M
  unfold f_Text_cutNumber at h
  refine A_iconst (v := 1) rfl (by decide) ?_
  refine A_istore_n (Ls' := [(1, vI 1), (0, vA 3)]) rfl rfl (by decide) rfl ?_
  refine A_pc (pc' := 2) rfl ?_
  refine A_sub (Ls' := [(0, vA 3), (1, vI 1)]) [1, 0] rfl ?_
  exact o_Text_cutNumber_2  _ _ _ _ _ h
def tb_Text_reads : List (Nat × Instr × Nat) := [(0, .aload_n 1, 1), (1, .invokevirtual 92, 3), (4, .aload_n 0, 1), (5, .getfield 19, 3), (8, .aload_n 0, 1), (9, .getfield 22, 3), (12, .isub, 1), (13, .if_icmp .eq 5, 3), (16, .iconst 0, 1), (17, .ireturn, 1), (18, .iconst 0, 1), (19, .istore_n 2, 1), (20, .iload_n 2, 1), (21, .aload_n 1, 1), (22, .invokevirtual 92, 3), (25, .if_icmp .ge 30, 3), (28, .aload_n 0, 1), (29, .getfield 9, 3), (32, .aload_n 0, 1), (33, .getfield 22, 3), (36, .iload_n 2, 1), (37, .iadd, 1), (38, .caload, 1), (39, .aload_n 1, 1), (40, .iload_n 2, 1), (41, .invokevirtual 96, 3), (44, .if_icmp .eq 5, 3), (47, .iconst 0, 1), (48, .ireturn, 1), (49, .iinc 2 1, 3), (52, .goto (-32), 3), (55, .iconst 1, 1), (56, .ireturn, 1)]
def Y_Text_reads : ax_Y := (⟨"MethodWarden$Text", "reads", "(Ljava/lang/String;)Z"⟩, prog_9_method_12_code, 3, some .boolean, tb_Text_reads)
theorem yok_Text_reads : yOK Y_Text_reads := ⟨by decide +kernel, by decide +kernel, inWG 503 (by decide +kernel) (by decide +kernel), inWG 97 (by decide +kernel) (by decide +kernel), by decide +kernel⟩
theorem fl_Text_22 : fldOK "MethodWarden$Text" 22 1 4 false := ⟨_, _, _, cls_Text, by decide, by decide, rfl, Or.inl (inWG 134 (by decide +kernel) (by decide +kernel))⟩
def f_Text_reads_20_b (K20 : Nat → Int32 → ax_M → Option (Int32 × ax_M)) (l1 : Nat) (l2 : Int32) (M : ax_M) : Option (Int32 × ax_M) :=
  bnd (f_Str_length l1 M) (fun q4 M5 => if q4 ≤ l2 then (some (1, M5)) else (gi ((gI M5 3 4) + l2) 48 (bnd (f_Str_charAt l1 l2 M5) (fun q8 M9 => if (gI M5 4 ((gI M5 3 4) + l2).toNatClampNeg) = q8 then (kM (l2 + 1) (fun x11 => K20 l1 x11 M9)) else (some (0, M9))))))
def f_Text_reads_20 : Nat → Nat → Int32 → ax_M → Option (Int32 × ax_M)
  | 0, _, _, _ => none
  | n + 1, l1, l2, M => f_Text_reads_20_b  (f_Text_reads_20 n) l1 l2 M
set_option maxHeartbeats 4000000 in
set_option maxRecDepth 100000 in
theorem o_Text_reads_20_b {l : Launch} {g : ax_G} (K20 : Nat → Int32 → ax_M → Option (Int32 × ax_M)) (hK20 : ∀ (l1 : Nat) (l2 : Int32) (M : ax_M) (r : Int32) (M' : ax_M), K20 l1 l2 M = some (r, M') → AW l g true Y_Text_reads 6 (some (vI r), M') 20 [(0, vA 3), (1, vA l1), (2, vI l2)] [] M) (l1 : Nat) (l2 : Int32) (M : ax_M) (r : Int32) (M' : ax_M) (h : f_Text_reads_20_b  K20 l1 l2 M = some (r, M')) : AW l g true Y_Text_reads 6 (some (vI r), M') 20 [(0, vA 3), (1, vA l1), (2, vI l2)] [] M := by
  unfold f_Text_reads_20_b at h
  refine A_iload_n 2 rfl rfl rfl ?_
  refine A_aload_n 1 rfl rfl rfl ?_
  obtain ⟨q4, M5, hcq4, h⟩ := bnd_out h
  refine A_strLength (st' := [vI l2]) (x := q4) (M' := M5) rfl (inWG 504 (by decide +kernel) (by decide +kernel)) (Nat.le_of_ble_eq_true rfl) (by decide) hcq4 ?_
  refine A_icmp_ge (tgt := 55) rfl (by decide) (fun hc6 => ?_) (fun hc6 => ?_)
  · rw [if_pos hc6] at h
    refine A_iconst (v := 1) rfl (by decide) ?_
    obtain ⟨rfl, rfl⟩ := leaf h
    exact A_zret rfl rfl (Or.inr rfl)
  · rw [if_neg hc6] at h
    refine A_pc (pc' := 28) rfl ?_
    refine A_aload_n 0 rfl rfl rfl ?_
    refine A_getL (r := 4) rfl fl_Text_9 rfl (by decide) rfl rfl ?_
    refine A_aload_n 0 rfl rfl rfl ?_
    refine A_getI rfl fl_Text_22 rfl (by decide) (Or.inl rfl) ?_
    refine A_iload_n 2 rfl rfl rfl ?_
    refine A_pc (pc' := 37) rfl ?_
    refine A_iadd rfl ?_
    obtain ⟨hg7, h⟩ := gi_out h
    refine A_cald (n := 48) rfl (by decide) (by decide) (Or.inl rfl) hg7 ?_
    refine A_aload_n 1 rfl rfl rfl ?_
    refine A_iload_n 2 rfl rfl rfl ?_
    obtain ⟨q8, M9, hcq8, h⟩ := bnd_out h
    refine A_strCharAt (st' := [vI (gI M5 4 ((gI M5 3 4) + l2).toNatClampNeg)]) (x := q8) (M' := M9) rfl (inWG 514 (by decide +kernel) (by decide +kernel)) (Nat.le_of_ble_eq_true rfl) (by decide) hcq8 ?_
    refine A_icmp_eq (tgt := 49) rfl (by decide) (fun hc10 => ?_) (fun hc10 => ?_)
    · rw [if_pos hc10] at h
      obtain ⟨x11, hx11, h⟩ := kM_out h
      refine A_iinc 2 (v := x11) (Ls' := [(2, vI x11), (0, vA 3), (1, vA l1)]) rfl rfl ((iiN (k := 1) (by decide) _).trans hx11) (by decide) rfl ?_
      refine A_goto (tgt := 20) rfl (by decide) ?_
      refine A_pc (pc' := 20) rfl ?_
      refine A_sub (Ls' := [(0, vA 3), (1, vA l1), (2, vI x11)]) [1, 2, 0] rfl ?_
      exact hK20 _ _ _ _ _ h
    · rw [if_neg hc10] at h
      refine A_pc (pc' := 47) rfl ?_
      refine A_iconst (v := 0) rfl (by decide) ?_
      obtain ⟨rfl, rfl⟩ := leaf h
      exact A_zret rfl rfl (Or.inl rfl)
theorem o_Text_reads_20 {l : Launch} {g : ax_G} : ∀ (n : Nat) (l1 : Nat) (l2 : Int32) (M : ax_M) (r : Int32) (M' : ax_M), f_Text_reads_20  n l1 l2 M = some (r, M') → AW l g true Y_Text_reads 6 (some (vI r), M') 20 [(0, vA 3), (1, vA l1), (2, vI l2)] [] M := by
  intro n
  induction n with
  | zero =>
    intro l1 l2 M r M' h
    cases h
  | succ n ih =>
    intro l1 l2 M r M' h
    exact o_Text_reads_20_b  _ ih _ _ _ _ _ h
def f_Text_reads (a1 : Nat) (M : ax_M) : Option (Int32 × ax_M) :=
  bnd (f_Str_length a1 M) (fun q1 M2 => if q1 = ((gI M2 3 2) - (gI M2 3 4)) then (f_Text_reads_20 64 a1 0 M2) else (some (0, M2)))
set_option maxHeartbeats 4000000 in
set_option maxRecDepth 100000 in
theorem c_Text_reads {l : Launch} {g : ax_G} {a1 : Nat} {M : ax_M} {r : Int32} {M' : ax_M} (h : f_Text_reads a1 M = some (r, M')) : Ctr l g true Y_Text_reads 6 [vA 3, vA a1] M (some (vI r), M') := by
  refine Ctr.ofAW yok_Text_reads (Nat.le_of_ble_eq_true rfl) (Or.inl rfl) ?_
  show AW l g true Y_Text_reads 6 (some (vI r), M') 0 [(0, vA 3), (1, vA a1)] [] M
  unfold f_Text_reads at h
  refine A_aload_n 1 rfl rfl rfl ?_
  obtain ⟨q1, M2, hcq1, h⟩ := bnd_out h
  refine A_strLength (st' := []) (x := q1) (M' := M2) rfl (inWG 504 (by decide +kernel) (by decide +kernel)) (Nat.le_of_ble_eq_true rfl) (by decide) hcq1 ?_
  refine A_aload_n 0 rfl rfl rfl ?_
  refine A_getI rfl fl_Text_19 rfl (by decide) (Or.inl rfl) ?_
  refine A_aload_n 0 rfl rfl rfl ?_
  refine A_pc (pc' := 9) rfl ?_
  refine A_getI rfl fl_Text_22 rfl (by decide) (Or.inl rfl) ?_
  refine A_isub rfl ?_
  refine A_icmp_eq (tgt := 18) rfl (by decide) (fun hc3 => ?_) (fun hc3 => ?_)
  · rw [if_pos hc3] at h
    refine A_iconst (v := 0) rfl (by decide) ?_
    refine A_istore_n (Ls' := [(2, vI 0), (0, vA 3), (1, vA a1)]) rfl rfl (by decide) rfl ?_
    refine A_pc (pc' := 20) rfl ?_
    refine A_sub (Ls' := [(0, vA 3), (1, vA a1), (2, vI 0)]) [1, 2, 0] rfl ?_
    exact o_Text_reads_20  _ _ _ _ _ _ h
  · rw [if_neg hc3] at h
    refine A_pc (pc' := 16) rfl ?_
    refine A_iconst (v := 0) rfl (by decide) ?_
    obtain ⟨rfl, rfl⟩ := leaf h
    exact A_zret rfl rfl (Or.inl rfl)
def tb_Text_shortWord : List (Nat × Instr × Nat) := [(0, .aload_n 0, 1), (1, .ldc 66, 2), (3, .invokevirtual 68, 3), (6, .ifCond .eq 6, 3), (9, .bipush 8, 2), (11, .ireturn, 1), (12, .aload_n 0, 1), (13, .ldc 72, 2), (15, .invokevirtual 68, 3), (18, .ifCond .eq 6, 3), (21, .bipush 9, 2), (23, .ireturn, 1), (24, .aload_n 0, 1), (25, .ldc 74, 2), (27, .invokevirtual 68, 3), (30, .ifCond .eq 6, 3), (33, .bipush 7, 2), (35, .ireturn, 1), (36, .aload_n 0, 1), (37, .ldc 76, 2), (39, .invokevirtual 68, 3), (42, .ifCond .eq 6, 3), (45, .bipush 10, 2), (47, .ireturn, 1), (48, .aload_n 0, 1), (49, .ldc 78, 2), (51, .invokevirtual 68, 3), (54, .ifCond .eq 8, 3), (57, .bipush 11, 2), (59, .goto 4, 3), (62, .iconst 1, 1), (63, .ireturn, 1)]
def Y_Text_shortWord : ax_Y := (⟨"MethodWarden$Text", "shortWord", "()I"⟩, prog_9_method_10_code, 1, some .int, tb_Text_shortWord)
theorem yok_Text_shortWord : yOK Y_Text_shortWord := ⟨by decide +kernel, by decide +kernel, inWG 498 (by decide +kernel) (by decide +kernel), inWG 97 (by decide +kernel) (by decide +kernel), by decide +kernel⟩
theorem ml_Text_68 : mlV "MethodWarden$Text" 68 Y_Text_reads 1 := ⟨⟨yok_Text_reads, by decide +kernel, by decide⟩, Or.inl (inWG 500 (by decide +kernel) (by decide +kernel)), inWG 502 (by decide +kernel) (by decide +kernel), inWG 4 (by decide +kernel) (by decide +kernel)⟩
def f_Text_shortWord  (M : ax_M) : Option (Int32 × ax_M) :=
  bnd (f_Text_reads 1000 M) (fun q1 M2 => if q1 = 0 then (bnd (f_Text_reads 1001 M2) (fun q4 M5 => if q4 = 0 then (bnd (f_Text_reads 1002 M5) (fun q7 M8 => if q7 = 0 then (bnd (f_Text_reads 1003 M8) (fun q10 M11 => if q10 = 0 then (bnd (f_Text_reads 1004 M11) (fun q13 M14 => if q13 = 0 then (some (1, M14)) else (some (11, M14)))) else (some (10, M11)))) else (some (7, M8)))) else (some (9, M5)))) else (some (8, M2)))
set_option maxHeartbeats 4000000 in
set_option maxRecDepth 100000 in
theorem c_Text_shortWord {l : Launch} {g : ax_G}  {M : ax_M} {r : Int32} {M' : ax_M} (h : f_Text_shortWord  M = some (r, M')) : Ctr l g true Y_Text_shortWord 7 [vA 3] M (some (vI r), M') := by
  refine Ctr.ofAW yok_Text_shortWord (Nat.le_of_ble_eq_true rfl) (Or.inl rfl) ?_
  show AW l g true Y_Text_shortWord 7 (some (vI r), M') 0 [(0, vA 3)] [] M
  unfold f_Text_shortWord at h
  refine A_aload_n 0 rfl rfl rfl ?_
  refine A_ldcS (i := 0) rfl rfl rfl (by decide) ?_
  obtain ⟨q1, M2, hcq1, h⟩ := bnd_out h
  refine A_callV (ci := 1) (as := [vA 1000]) (st' := []) (r1 := (some (vI q1), M2)) rfl ml_Text_68 rfl (by decide) (by decide) (Or.inl rfl) rfl rfl (Nat.le_of_ble_eq_true rfl) (by decide) (c_Text_reads hcq1) (Or.inl rfl) ?_
  refine A_pc (pc' := 6) rfl ?_
  refine A_stk (st' := [vI q1]) rfl ?_
  refine A_if_eq (tgt := 12) rfl (by decide) (fun hc3 => ?_) (fun hc3 => ?_)
  · rw [if_pos hc3] at h
    refine A_aload_n 0 rfl rfl rfl ?_
    refine A_ldcS (i := 1) rfl rfl rfl (by decide) ?_
    obtain ⟨q4, M5, hcq4, h⟩ := bnd_out h
    refine A_callV (ci := 1) (as := [vA 1001]) (st' := []) (r1 := (some (vI q4), M5)) rfl ml_Text_68 rfl (by decide) (by decide) (Or.inl rfl) rfl rfl (Nat.le_of_ble_eq_true rfl) (by decide) (c_Text_reads hcq4) (Or.inl rfl) ?_
    refine A_pc (pc' := 18) rfl ?_
    refine A_stk (st' := [vI q4]) rfl ?_
    refine A_if_eq (tgt := 24) rfl (by decide) (fun hc6 => ?_) (fun hc6 => ?_)
    · rw [if_pos hc6] at h
      refine A_aload_n 0 rfl rfl rfl ?_
      refine A_ldcS (i := 2) rfl rfl rfl (by decide) ?_
      obtain ⟨q7, M8, hcq7, h⟩ := bnd_out h
      refine A_callV (ci := 1) (as := [vA 1002]) (st' := []) (r1 := (some (vI q7), M8)) rfl ml_Text_68 rfl (by decide) (by decide) (Or.inl rfl) rfl rfl (Nat.le_of_ble_eq_true rfl) (by decide) (c_Text_reads hcq7) (Or.inl rfl) ?_
      refine A_pc (pc' := 30) rfl ?_
      refine A_stk (st' := [vI q7]) rfl ?_
      refine A_if_eq (tgt := 36) rfl (by decide) (fun hc9 => ?_) (fun hc9 => ?_)
      · rw [if_pos hc9] at h
        refine A_aload_n 0 rfl rfl rfl ?_
        refine A_ldcS (i := 3) rfl rfl rfl (by decide) ?_
        obtain ⟨q10, M11, hcq10, h⟩ := bnd_out h
        refine A_callV (ci := 1) (as := [vA 1003]) (st' := []) (r1 := (some (vI q10), M11)) rfl ml_Text_68 rfl (by decide) (by decide) (Or.inl rfl) rfl rfl (Nat.le_of_ble_eq_true rfl) (by decide) (c_Text_reads hcq10) (Or.inl rfl) ?_
        refine A_pc (pc' := 42) rfl ?_
        refine A_stk (st' := [vI q10]) rfl ?_
        refine A_if_eq (tgt := 48) rfl (by decide) (fun hc12 => ?_) (fun hc12 => ?_)
        · rw [if_pos hc12] at h
          refine A_aload_n 0 rfl rfl rfl ?_
          refine A_ldcS (i := 4) rfl rfl rfl (by decide) ?_
          obtain ⟨q13, M14, hcq13, h⟩ := bnd_out h
          refine A_callV (ci := 1) (as := [vA 1004]) (st' := []) (r1 := (some (vI q13), M14)) rfl ml_Text_68 rfl (by decide) (by decide) (Or.inl rfl) rfl rfl (Nat.le_of_ble_eq_true rfl) (by decide) (c_Text_reads hcq13) (Or.inl rfl) ?_
          refine A_pc (pc' := 54) rfl ?_
          refine A_stk (st' := [vI q13]) rfl ?_
          refine A_if_eq (tgt := 62) rfl (by decide) (fun hc15 => ?_) (fun hc15 => ?_)
          · rw [if_pos hc15] at h
            refine A_iconst (v := 1) rfl (by decide) ?_
            obtain ⟨rfl, rfl⟩ := leaf h
            exact A_iret rfl rfl
          · rw [if_neg hc15] at h
            refine A_pc (pc' := 57) rfl ?_
            refine A_bipush (v := 11) rfl (by decide) ?_
            refine A_goto (tgt := 63) rfl (by decide) ?_
            obtain ⟨rfl, rfl⟩ := leaf h
            exact A_iret rfl rfl
        · rw [if_neg hc12] at h
          refine A_pc (pc' := 45) rfl ?_
          refine A_bipush (v := 10) rfl (by decide) ?_
          obtain ⟨rfl, rfl⟩ := leaf h
          exact A_iret rfl rfl
      · rw [if_neg hc9] at h
        refine A_pc (pc' := 33) rfl ?_
        refine A_bipush (v := 7) rfl (by decide) ?_
        obtain ⟨rfl, rfl⟩ := leaf h
        exact A_iret rfl rfl
    · rw [if_neg hc6] at h
      refine A_pc (pc' := 21) rfl ?_
      refine A_bipush (v := 9) rfl (by decide) ?_
      obtain ⟨rfl, rfl⟩ := leaf h
      exact A_iret rfl rfl
  · rw [if_neg hc3] at h
    refine A_pc (pc' := 9) rfl ?_
    refine A_bipush (v := 8) rfl (by decide) ?_
    obtain ⟨rfl, rfl⟩ := leaf h
    exact A_iret rfl rfl
def tb_Text_longWord : List (Nat × Instr × Nat) := [(0, .aload_n 0, 1), (1, .ldc 80, 2), (3, .invokevirtual 68, 3), (6, .ifCond .eq 5, 3), (9, .iconst 4, 1), (10, .ireturn, 1), (11, .aload_n 0, 1), (12, .ldc 82, 2), (14, .invokevirtual 68, 3), (17, .ifCond .eq 5, 3), (20, .iconst 5, 1), (21, .ireturn, 1), (22, .aload_n 0, 1), (23, .ldc 84, 2), (25, .invokevirtual 68, 3), (28, .ifCond .eq 6, 3), (31, .bipush 6, 2), (33, .ireturn, 1), (34, .aload_n 0, 1), (35, .ldc 86, 2), (37, .invokevirtual 68, 3), (40, .ifCond .eq 6, 3), (43, .bipush 12, 2), (45, .ireturn, 1), (46, .aload_n 0, 1), (47, .ldc 88, 2), (49, .invokevirtual 68, 3), (52, .ifCond .eq 6, 3), (55, .bipush 13, 2), (57, .ireturn, 1), (58, .aload_n 0, 1), (59, .ldc 90, 2), (61, .invokevirtual 68, 3), (64, .ifCond .eq 8, 3), (67, .bipush 14, 2), (69, .goto 4, 3), (72, .iconst 1, 1), (73, .ireturn, 1)]
def Y_Text_longWord : ax_Y := (⟨"MethodWarden$Text", "longWord", "()I"⟩, prog_9_method_11_code, 1, some .int, tb_Text_longWord)
theorem yok_Text_longWord : yOK Y_Text_longWord := ⟨by decide +kernel, by decide +kernel, inWG 559 (by decide +kernel) (by decide +kernel), inWG 97 (by decide +kernel) (by decide +kernel), by decide +kernel⟩
def f_Text_longWord  (M : ax_M) : Option (Int32 × ax_M) :=
  bnd (f_Text_reads 1005 M) (fun q1 M2 => if q1 = 0 then (bnd (f_Text_reads 1006 M2) (fun q4 M5 => if q4 = 0 then (bnd (f_Text_reads 1007 M5) (fun q7 M8 => if q7 = 0 then (bnd (f_Text_reads 1008 M8) (fun q10 M11 => if q10 = 0 then (bnd (f_Text_reads 1009 M11) (fun q13 M14 => if q13 = 0 then (bnd (f_Text_reads 1010 M14) (fun q16 M17 => if q16 = 0 then (some (1, M17)) else (some (14, M17)))) else (some (13, M14)))) else (some (12, M11)))) else (some (6, M8)))) else (some (5, M5)))) else (some (4, M2)))
set_option maxHeartbeats 4000000 in
set_option maxRecDepth 100000 in
theorem c_Text_longWord {l : Launch} {g : ax_G}  {M : ax_M} {r : Int32} {M' : ax_M} (h : f_Text_longWord  M = some (r, M')) : Ctr l g true Y_Text_longWord 7 [vA 3] M (some (vI r), M') := by
  refine Ctr.ofAW yok_Text_longWord (Nat.le_of_ble_eq_true rfl) (Or.inl rfl) ?_
  show AW l g true Y_Text_longWord 7 (some (vI r), M') 0 [(0, vA 3)] [] M
  unfold f_Text_longWord at h
  refine A_aload_n 0 rfl rfl rfl ?_
  refine A_ldcS (i := 5) rfl rfl rfl (by decide) ?_
  obtain ⟨q1, M2, hcq1, h⟩ := bnd_out h
  refine A_callV (ci := 1) (as := [vA 1005]) (st' := []) (r1 := (some (vI q1), M2)) rfl ml_Text_68 rfl (by decide) (by decide) (Or.inl rfl) rfl rfl (Nat.le_of_ble_eq_true rfl) (by decide) (c_Text_reads hcq1) (Or.inl rfl) ?_
  refine A_pc (pc' := 6) rfl ?_
  refine A_stk (st' := [vI q1]) rfl ?_
  refine A_if_eq (tgt := 11) rfl (by decide) (fun hc3 => ?_) (fun hc3 => ?_)
  · rw [if_pos hc3] at h
    refine A_aload_n 0 rfl rfl rfl ?_
    refine A_ldcS (i := 6) rfl rfl rfl (by decide) ?_
    obtain ⟨q4, M5, hcq4, h⟩ := bnd_out h
    refine A_callV (ci := 1) (as := [vA 1006]) (st' := []) (r1 := (some (vI q4), M5)) rfl ml_Text_68 rfl (by decide) (by decide) (Or.inl rfl) rfl rfl (Nat.le_of_ble_eq_true rfl) (by decide) (c_Text_reads hcq4) (Or.inl rfl) ?_
    refine A_pc (pc' := 17) rfl ?_
    refine A_stk (st' := [vI q4]) rfl ?_
    refine A_if_eq (tgt := 22) rfl (by decide) (fun hc6 => ?_) (fun hc6 => ?_)
    · rw [if_pos hc6] at h
      refine A_aload_n 0 rfl rfl rfl ?_
      refine A_ldcS (i := 7) rfl rfl rfl (by decide) ?_
      obtain ⟨q7, M8, hcq7, h⟩ := bnd_out h
      refine A_callV (ci := 1) (as := [vA 1007]) (st' := []) (r1 := (some (vI q7), M8)) rfl ml_Text_68 rfl (by decide) (by decide) (Or.inl rfl) rfl rfl (Nat.le_of_ble_eq_true rfl) (by decide) (c_Text_reads hcq7) (Or.inl rfl) ?_
      refine A_pc (pc' := 28) rfl ?_
      refine A_stk (st' := [vI q7]) rfl ?_
      refine A_if_eq (tgt := 34) rfl (by decide) (fun hc9 => ?_) (fun hc9 => ?_)
      · rw [if_pos hc9] at h
        refine A_aload_n 0 rfl rfl rfl ?_
        refine A_ldcS (i := 8) rfl rfl rfl (by decide) ?_
        obtain ⟨q10, M11, hcq10, h⟩ := bnd_out h
        refine A_callV (ci := 1) (as := [vA 1008]) (st' := []) (r1 := (some (vI q10), M11)) rfl ml_Text_68 rfl (by decide) (by decide) (Or.inl rfl) rfl rfl (Nat.le_of_ble_eq_true rfl) (by decide) (c_Text_reads hcq10) (Or.inl rfl) ?_
        refine A_pc (pc' := 40) rfl ?_
        refine A_stk (st' := [vI q10]) rfl ?_
        refine A_if_eq (tgt := 46) rfl (by decide) (fun hc12 => ?_) (fun hc12 => ?_)
        · rw [if_pos hc12] at h
          refine A_aload_n 0 rfl rfl rfl ?_
          refine A_ldcS (i := 9) rfl rfl rfl (by decide) ?_
          obtain ⟨q13, M14, hcq13, h⟩ := bnd_out h
          refine A_callV (ci := 1) (as := [vA 1009]) (st' := []) (r1 := (some (vI q13), M14)) rfl ml_Text_68 rfl (by decide) (by decide) (Or.inl rfl) rfl rfl (Nat.le_of_ble_eq_true rfl) (by decide) (c_Text_reads hcq13) (Or.inl rfl) ?_
          refine A_pc (pc' := 52) rfl ?_
          refine A_stk (st' := [vI q13]) rfl ?_
          refine A_if_eq (tgt := 58) rfl (by decide) (fun hc15 => ?_) (fun hc15 => ?_)
          · rw [if_pos hc15] at h
            refine A_aload_n 0 rfl rfl rfl ?_
            refine A_ldcS (i := 10) rfl rfl rfl (by decide) ?_
            obtain ⟨q16, M17, hcq16, h⟩ := bnd_out h
            refine A_callV (ci := 1) (as := [vA 1010]) (st' := []) (r1 := (some (vI q16), M17)) rfl ml_Text_68 rfl (by decide) (by decide) (Or.inl rfl) rfl rfl (Nat.le_of_ble_eq_true rfl) (by decide) (c_Text_reads hcq16) (Or.inl rfl) ?_
            refine A_pc (pc' := 64) rfl ?_
            refine A_stk (st' := [vI q16]) rfl ?_
            refine A_if_eq (tgt := 72) rfl (by decide) (fun hc18 => ?_) (fun hc18 => ?_)
            · rw [if_pos hc18] at h
              refine A_iconst (v := 1) rfl (by decide) ?_
              obtain ⟨rfl, rfl⟩ := leaf h
              exact A_iret rfl rfl
            · rw [if_neg hc18] at h
              refine A_pc (pc' := 67) rfl ?_
              refine A_bipush (v := 14) rfl (by decide) ?_
              refine A_goto (tgt := 73) rfl (by decide) ?_
              obtain ⟨rfl, rfl⟩ := leaf h
              exact A_iret rfl rfl
          · rw [if_neg hc15] at h
            refine A_pc (pc' := 55) rfl ?_
            refine A_bipush (v := 13) rfl (by decide) ?_
            obtain ⟨rfl, rfl⟩ := leaf h
            exact A_iret rfl rfl
        · rw [if_neg hc12] at h
          refine A_pc (pc' := 43) rfl ?_
          refine A_bipush (v := 12) rfl (by decide) ?_
          obtain ⟨rfl, rfl⟩ := leaf h
          exact A_iret rfl rfl
      · rw [if_neg hc9] at h
        refine A_pc (pc' := 31) rfl ?_
        refine A_bipush (v := 6) rfl (by decide) ?_
        obtain ⟨rfl, rfl⟩ := leaf h
        exact A_iret rfl rfl
    · rw [if_neg hc6] at h
      refine A_pc (pc' := 20) rfl ?_
      refine A_iconst (v := 5) rfl (by decide) ?_
      obtain ⟨rfl, rfl⟩ := leaf h
      exact A_iret rfl rfl
  · rw [if_neg hc3] at h
    refine A_pc (pc' := 9) rfl ?_
    refine A_iconst (v := 4) rfl (by decide) ?_
    obtain ⟨rfl, rfl⟩ := leaf h
    exact A_iret rfl rfl
def tb_Text_cutWord : List (Nat × Instr × Nat) := [(0, .aload_n 0, 1), (1, .getfield 19, 3), (4, .aload_n 0, 1), (5, .getfield 15, 3), (8, .if_icmp .ge 31, 3), (11, .aload_n 0, 1), (12, .getfield 9, 3), (15, .aload_n 0, 1), (16, .getfield 19, 3), (19, .caload, 1), (20, .invokestatic 42, 3), (23, .ifCond .eq 16, 3), (26, .aload_n 0, 1), (27, .dup, 1), (28, .getfield 19, 3), (31, .iconst 1, 1), (32, .iadd, 1), (33, .putfield 19, 3), (36, .goto (-36), 3), (39, .aload_n 0, 1), (40, .getfield 19, 3), (43, .aload_n 0, 1), (44, .getfield 22, 3), (47, .isub, 1), (48, .iconst 4, 1), (49, .if_icmp .ge 10, 3), (52, .aload_n 0, 1), (53, .invokevirtual 60, 3), (56, .goto 7, 3), (59, .aload_n 0, 1), (60, .invokevirtual 63, 3), (63, .ireturn, 1)]
def Y_Text_cutWord : ax_Y := (⟨"MethodWarden$Text", "cutWord", "()I"⟩, prog_9_method_9_code, 1, some .int, tb_Text_cutWord)
theorem yok_Text_cutWord : yOK Y_Text_cutWord := ⟨by decide +kernel, by decide +kernel, inWG 494 (by decide +kernel) (by decide +kernel), inWG 97 (by decide +kernel) (by decide +kernel), by decide +kernel⟩
theorem ml_Text_63 : mlV "MethodWarden$Text" 63 Y_Text_longWord 0 := ⟨⟨yok_Text_longWord, by decide +kernel, by decide⟩, Or.inl (inWG 556 (by decide +kernel) (by decide +kernel)), inWG 558 (by decide +kernel) (by decide +kernel), inWG 5 (by decide +kernel) (by decide +kernel)⟩
theorem ml_Text_60 : mlV "MethodWarden$Text" 60 Y_Text_shortWord 0 := ⟨⟨yok_Text_shortWord, by decide +kernel, by decide⟩, Or.inl (inWG 495 (by decide +kernel) (by decide +kernel)), inWG 497 (by decide +kernel) (by decide +kernel), inWG 3 (by decide +kernel) (by decide +kernel)⟩
theorem ml_Text_42 : mlS "MethodWarden$Text" 42 Y_Text_isSmallLetter 1 := ⟨⟨yok_Text_isSmallLetter, by decide +kernel, by decide⟩, Or.inl (inWG 488 (by decide +kernel) (by decide +kernel)), inWG 489 (by decide +kernel) (by decide +kernel)⟩
def f_Text_cutWord_0_b (K0 : ax_M → Option (Int32 × ax_M))  (M : ax_M) : Option (Int32 × ax_M) :=
  if (gI M 3 1) ≤ (gI M 3 2) then (if 4 ≤ ((gI M 3 2) - (gI M 3 4)) then (bnd (f_Text_longWord  M) (fun q19 M20 => some (q19, M20))) else (bnd (f_Text_shortWord  M) (fun q21 M22 => some (q21, M22)))) else (gi (gI M 3 2) 48 (bnd (f_Text_isSmallLetter (gI M 4 (gI M 3 2).toNatClampNeg) M) (fun q24 M25 => if q24 = 0 then (if 4 ≤ ((gI M25 3 2) - (gI M25 3 4)) then (bnd (f_Text_longWord  M25) (fun q28 M29 => some (q28, M29))) else (bnd (f_Text_shortWord  M25) (fun q30 M31 => some (q30, M31)))) else (kM (mI M25 3 2 ((gI M25 3 2) + 1)) (fun M32 => K0  M32)))))
def f_Text_cutWord_0 : Nat → ax_M → Option (Int32 × ax_M)
  | 0, _ => none
  | n + 1, M => f_Text_cutWord_0_b  (f_Text_cutWord_0 n)  M
set_option maxHeartbeats 4000000 in
set_option maxRecDepth 100000 in
theorem o_Text_cutWord_0_b {l : Launch} {g : ax_G} (K0 : ax_M → Option (Int32 × ax_M)) (hK0 : ∀  (M : ax_M) (r : Int32) (M' : ax_M), K0  M = some (r, M') → AW l g true Y_Text_cutWord 8 (some (vI r), M') 0 [(0, vA 3)] [] M)  (M : ax_M) (r : Int32) (M' : ax_M) (h : f_Text_cutWord_0_b  K0  M = some (r, M')) : AW l g true Y_Text_cutWord 8 (some (vI r), M') 0 [(0, vA 3)] [] M := by
  unfold f_Text_cutWord_0_b at h
  refine A_aload_n 0 rfl rfl rfl ?_
  refine A_getI rfl fl_Text_19 rfl (by decide) (Or.inl rfl) ?_
  refine A_aload_n 0 rfl rfl rfl ?_
  refine A_getI rfl fl_Text_15 rfl (by decide) (Or.inl rfl) ?_
  refine A_icmp_ge (tgt := 39) rfl (by decide) (fun hc17 => ?_) (fun hc17 => ?_)
  · rw [if_pos hc17] at h
    refine A_aload_n 0 rfl rfl rfl ?_
    refine A_getI rfl fl_Text_19 rfl (by decide) (Or.inl rfl) ?_
    refine A_aload_n 0 rfl rfl rfl ?_
    refine A_getI rfl fl_Text_22 rfl (by decide) (Or.inl rfl) ?_
    refine A_isub rfl ?_
    refine A_pc (pc' := 48) rfl ?_
    refine A_iconst (v := 4) rfl (by decide) ?_
    refine A_icmp_ge (tgt := 59) rfl (by decide) (fun hc18 => ?_) (fun hc18 => ?_)
    · rw [if_pos hc18] at h
      refine A_aload_n 0 rfl rfl rfl ?_
      obtain ⟨q19, M20, hcq19, h⟩ := bnd_out h
      refine A_callV (ci := 1) (as := []) (st' := []) (r1 := (some (vI q19), M20)) rfl ml_Text_63 rfl (by decide) (by decide) (Or.inl rfl) rfl rfl (Nat.le_of_ble_eq_true rfl) (by decide) (c_Text_longWord hcq19) (Or.inl rfl) ?_
      refine A_pc (pc' := 63) rfl ?_
      refine A_stk (st' := [vI q19]) rfl ?_
      obtain ⟨rfl, rfl⟩ := leaf h
      exact A_iret rfl rfl
    · rw [if_neg hc18] at h
      refine A_pc (pc' := 52) rfl ?_
      refine A_aload_n 0 rfl rfl rfl ?_
      obtain ⟨q21, M22, hcq21, h⟩ := bnd_out h
      refine A_callV (ci := 1) (as := []) (st' := []) (r1 := (some (vI q21), M22)) rfl ml_Text_60 rfl (by decide) (by decide) (Or.inl rfl) rfl rfl (Nat.le_of_ble_eq_true rfl) (by decide) (c_Text_shortWord hcq21) (Or.inl rfl) ?_
      refine A_pc (pc' := 56) rfl ?_
      refine A_stk (st' := [vI q21]) rfl ?_
      refine A_goto (tgt := 63) rfl (by decide) ?_
      obtain ⟨rfl, rfl⟩ := leaf h
      exact A_iret rfl rfl
  · rw [if_neg hc17] at h
    refine A_pc (pc' := 11) rfl ?_
    refine A_aload_n 0 rfl rfl rfl ?_
    refine A_getL (r := 4) rfl fl_Text_9 rfl (by decide) rfl rfl ?_
    refine A_aload_n 0 rfl rfl rfl ?_
    refine A_getI rfl fl_Text_19 rfl (by decide) (Or.inl rfl) ?_
    obtain ⟨hg23, h⟩ := gi_out h
    refine A_cald (n := 48) rfl (by decide) (by decide) (Or.inl rfl) hg23 ?_
    refine A_pc (pc' := 20) rfl ?_
    obtain ⟨q24, M25, hcq24, h⟩ := bnd_out h
    refine A_callS (as := [vI (gI M 4 (gI M 3 2).toNatClampNeg)]) (st' := []) (r1 := (some (vI q24), M25)) rfl ml_Text_42 rfl rfl (Nat.le_of_ble_eq_true rfl) (by decide) (c_Text_isSmallLetter hcq24) (Or.inl rfl) ?_
    refine A_pc (pc' := 23) rfl ?_
    refine A_stk (st' := [vI q24]) rfl ?_
    refine A_if_eq (tgt := 39) rfl (by decide) (fun hc26 => ?_) (fun hc26 => ?_)
    · rw [if_pos hc26] at h
      refine A_aload_n 0 rfl rfl rfl ?_
      refine A_getI rfl fl_Text_19 rfl (by decide) (Or.inl rfl) ?_
      refine A_aload_n 0 rfl rfl rfl ?_
      refine A_getI rfl fl_Text_22 rfl (by decide) (Or.inl rfl) ?_
      refine A_isub rfl ?_
      refine A_pc (pc' := 48) rfl ?_
      refine A_iconst (v := 4) rfl (by decide) ?_
      refine A_icmp_ge (tgt := 59) rfl (by decide) (fun hc27 => ?_) (fun hc27 => ?_)
      · rw [if_pos hc27] at h
        refine A_aload_n 0 rfl rfl rfl ?_
        obtain ⟨q28, M29, hcq28, h⟩ := bnd_out h
        refine A_callV (ci := 1) (as := []) (st' := []) (r1 := (some (vI q28), M29)) rfl ml_Text_63 rfl (by decide) (by decide) (Or.inl rfl) rfl rfl (Nat.le_of_ble_eq_true rfl) (by decide) (c_Text_longWord hcq28) (Or.inl rfl) ?_
        refine A_pc (pc' := 63) rfl ?_
        refine A_stk (st' := [vI q28]) rfl ?_
        obtain ⟨rfl, rfl⟩ := leaf h
        exact A_iret rfl rfl
      · rw [if_neg hc27] at h
        refine A_pc (pc' := 52) rfl ?_
        refine A_aload_n 0 rfl rfl rfl ?_
        obtain ⟨q30, M31, hcq30, h⟩ := bnd_out h
        refine A_callV (ci := 1) (as := []) (st' := []) (r1 := (some (vI q30), M31)) rfl ml_Text_60 rfl (by decide) (by decide) (Or.inl rfl) rfl rfl (Nat.le_of_ble_eq_true rfl) (by decide) (c_Text_shortWord hcq30) (Or.inl rfl) ?_
        refine A_pc (pc' := 56) rfl ?_
        refine A_stk (st' := [vI q30]) rfl ?_
        refine A_goto (tgt := 63) rfl (by decide) ?_
        obtain ⟨rfl, rfl⟩ := leaf h
        exact A_iret rfl rfl
    · rw [if_neg hc26] at h
      refine A_pc (pc' := 26) rfl ?_
      refine A_aload_n 0 rfl rfl rfl ?_
      refine A_dup rfl rfl ?_
      refine A_getI rfl fl_Text_19 rfl (by decide) (Or.inl rfl) ?_
      refine A_iconst (v := 1) rfl (by decide) ?_
      refine A_iadd rfl ?_
      refine A_pc (pc' := 33) rfl ?_
      refine A_putI rfl (Or.inl fl_Text_19) rfl (by decide) (Or.inl rfl) rfl ?_
      obtain ⟨M32, hM32, h⟩ := kM_out h
      refine A_mem hM32 ?_
      refine A_goto (tgt := 0) rfl (by decide) ?_
      refine A_pc (pc' := 0) rfl ?_
      refine A_sub (Ls' := [(0, vA 3)]) [0] rfl ?_
      exact hK0  _ _ _ h
theorem o_Text_cutWord_0 {l : Launch} {g : ax_G} : ∀ (n : Nat)  (M : ax_M) (r : Int32) (M' : ax_M), f_Text_cutWord_0  n  M = some (r, M') → AW l g true Y_Text_cutWord 8 (some (vI r), M') 0 [(0, vA 3)] [] M := by
  intro n
  induction n with
  | zero =>
    intro  M r M' h
    cases h
  | succ n ih =>
    intro  M r M' h
    exact o_Text_cutWord_0_b  _ ih  _ _ _ h
def f_Text_cutWord  (M : ax_M) : Option (Int32 × ax_M) :=
  if (gI M 3 1) ≤ (gI M 3 2) then (if 4 ≤ ((gI M 3 2) - (gI M 3 4)) then (bnd (f_Text_longWord  M) (fun q3 M4 => some (q3, M4))) else (bnd (f_Text_shortWord  M) (fun q5 M6 => some (q5, M6)))) else (gi (gI M 3 2) 48 (bnd (f_Text_isSmallLetter (gI M 4 (gI M 3 2).toNatClampNeg) M) (fun q8 M9 => if q8 = 0 then (if 4 ≤ ((gI M9 3 2) - (gI M9 3 4)) then (bnd (f_Text_longWord  M9) (fun q12 M13 => some (q12, M13))) else (bnd (f_Text_shortWord  M9) (fun q14 M15 => some (q14, M15)))) else (kM (mI M9 3 2 ((gI M9 3 2) + 1)) (fun M16 => f_Text_cutWord_0 64 M16)))))
set_option maxHeartbeats 4000000 in
set_option maxRecDepth 100000 in
theorem c_Text_cutWord {l : Launch} {g : ax_G}  {M : ax_M} {r : Int32} {M' : ax_M} (h : f_Text_cutWord  M = some (r, M')) : Ctr l g true Y_Text_cutWord 8 [vA 3] M (some (vI r), M') := by
  refine Ctr.ofAW yok_Text_cutWord (Nat.le_of_ble_eq_true rfl) (Or.inl rfl) ?_
  show AW l g true Y_Text_cutWord 8 (some (vI r), M') 0 [(0, vA 3)] [] M
  unfold f_Text_cutWord at h
  refine A_aload_n 0 rfl rfl rfl ?_
  refine A_getI rfl fl_Text_19 rfl (by decide) (Or.inl rfl) ?_
  refine A_aload_n 0 rfl rfl rfl ?_
  refine A_getI rfl fl_Text_15 rfl (by decide) (Or.inl rfl) ?_
  refine A_icmp_ge (tgt := 39) rfl (by decide) (fun hc1 => ?_) (fun hc1 => ?_)
  · rw [if_pos hc1] at h
    refine A_aload_n 0 rfl rfl rfl ?_
    refine A_getI rfl fl_Text_19 rfl (by decide) (Or.inl rfl) ?_
    refine A_aload_n 0 rfl rfl rfl ?_
    refine A_getI rfl fl_Text_22 rfl (by decide) (Or.inl rfl) ?_
    refine A_isub rfl ?_
    refine A_pc (pc' := 48) rfl ?_
    refine A_iconst (v := 4) rfl (by decide) ?_
    refine A_icmp_ge (tgt := 59) rfl (by decide) (fun hc2 => ?_) (fun hc2 => ?_)
    · rw [if_pos hc2] at h
      refine A_aload_n 0 rfl rfl rfl ?_
      obtain ⟨q3, M4, hcq3, h⟩ := bnd_out h
      refine A_callV (ci := 1) (as := []) (st' := []) (r1 := (some (vI q3), M4)) rfl ml_Text_63 rfl (by decide) (by decide) (Or.inl rfl) rfl rfl (Nat.le_of_ble_eq_true rfl) (by decide) (c_Text_longWord hcq3) (Or.inl rfl) ?_
      refine A_pc (pc' := 63) rfl ?_
      refine A_stk (st' := [vI q3]) rfl ?_
      obtain ⟨rfl, rfl⟩ := leaf h
      exact A_iret rfl rfl
    · rw [if_neg hc2] at h
      refine A_pc (pc' := 52) rfl ?_
      refine A_aload_n 0 rfl rfl rfl ?_
      obtain ⟨q5, M6, hcq5, h⟩ := bnd_out h
      refine A_callV (ci := 1) (as := []) (st' := []) (r1 := (some (vI q5), M6)) rfl ml_Text_60 rfl (by decide) (by decide) (Or.inl rfl) rfl rfl (Nat.le_of_ble_eq_true rfl) (by decide) (c_Text_shortWord hcq5) (Or.inl rfl) ?_
      refine A_pc (pc' := 56) rfl ?_
      refine A_stk (st' := [vI q5]) rfl ?_
      refine A_goto (tgt := 63) rfl (by decide) ?_
      obtain ⟨rfl, rfl⟩ := leaf h
      exact A_iret rfl rfl
  · rw [if_neg hc1] at h
    refine A_pc (pc' := 11) rfl ?_
    refine A_aload_n 0 rfl rfl rfl ?_
    refine A_getL (r := 4) rfl fl_Text_9 rfl (by decide) rfl rfl ?_
    refine A_aload_n 0 rfl rfl rfl ?_
    refine A_getI rfl fl_Text_19 rfl (by decide) (Or.inl rfl) ?_
    obtain ⟨hg7, h⟩ := gi_out h
    refine A_cald (n := 48) rfl (by decide) (by decide) (Or.inl rfl) hg7 ?_
    refine A_pc (pc' := 20) rfl ?_
    obtain ⟨q8, M9, hcq8, h⟩ := bnd_out h
    refine A_callS (as := [vI (gI M 4 (gI M 3 2).toNatClampNeg)]) (st' := []) (r1 := (some (vI q8), M9)) rfl ml_Text_42 rfl rfl (Nat.le_of_ble_eq_true rfl) (by decide) (c_Text_isSmallLetter hcq8) (Or.inl rfl) ?_
    refine A_pc (pc' := 23) rfl ?_
    refine A_stk (st' := [vI q8]) rfl ?_
    refine A_if_eq (tgt := 39) rfl (by decide) (fun hc10 => ?_) (fun hc10 => ?_)
    · rw [if_pos hc10] at h
      refine A_aload_n 0 rfl rfl rfl ?_
      refine A_getI rfl fl_Text_19 rfl (by decide) (Or.inl rfl) ?_
      refine A_aload_n 0 rfl rfl rfl ?_
      refine A_getI rfl fl_Text_22 rfl (by decide) (Or.inl rfl) ?_
      refine A_isub rfl ?_
      refine A_pc (pc' := 48) rfl ?_
      refine A_iconst (v := 4) rfl (by decide) ?_
      refine A_icmp_ge (tgt := 59) rfl (by decide) (fun hc11 => ?_) (fun hc11 => ?_)
      · rw [if_pos hc11] at h
        refine A_aload_n 0 rfl rfl rfl ?_
        obtain ⟨q12, M13, hcq12, h⟩ := bnd_out h
        refine A_callV (ci := 1) (as := []) (st' := []) (r1 := (some (vI q12), M13)) rfl ml_Text_63 rfl (by decide) (by decide) (Or.inl rfl) rfl rfl (Nat.le_of_ble_eq_true rfl) (by decide) (c_Text_longWord hcq12) (Or.inl rfl) ?_
        refine A_pc (pc' := 63) rfl ?_
        refine A_stk (st' := [vI q12]) rfl ?_
        obtain ⟨rfl, rfl⟩ := leaf h
        exact A_iret rfl rfl
      · rw [if_neg hc11] at h
        refine A_pc (pc' := 52) rfl ?_
        refine A_aload_n 0 rfl rfl rfl ?_
        obtain ⟨q14, M15, hcq14, h⟩ := bnd_out h
        refine A_callV (ci := 1) (as := []) (st' := []) (r1 := (some (vI q14), M15)) rfl ml_Text_60 rfl (by decide) (by decide) (Or.inl rfl) rfl rfl (Nat.le_of_ble_eq_true rfl) (by decide) (c_Text_shortWord hcq14) (Or.inl rfl) ?_
        refine A_pc (pc' := 56) rfl ?_
        refine A_stk (st' := [vI q14]) rfl ?_
        refine A_goto (tgt := 63) rfl (by decide) ?_
        obtain ⟨rfl, rfl⟩ := leaf h
        exact A_iret rfl rfl
    · rw [if_neg hc10] at h
      refine A_pc (pc' := 26) rfl ?_
      refine A_aload_n 0 rfl rfl rfl ?_
      refine A_dup rfl rfl ?_
      refine A_getI rfl fl_Text_19 rfl (by decide) (Or.inl rfl) ?_
      refine A_iconst (v := 1) rfl (by decide) ?_
      refine A_iadd rfl ?_
      refine A_pc (pc' := 33) rfl ?_
      refine A_putI rfl (Or.inl fl_Text_19) rfl (by decide) (Or.inl rfl) rfl ?_
      obtain ⟨M16, hM16, h⟩ := kM_out h
      refine A_mem hM16 ?_
      refine A_goto (tgt := 0) rfl (by decide) ?_
      refine A_pc (pc' := 0) rfl ?_
      refine A_sub (Ls' := [(0, vA 3)]) [0] rfl ?_
      exact o_Text_cutWord_0  _  _ _ _ h
def tb_Text_endingOf : List (Nat × Instr × Nat) := [(0, .iload_n 0, 1), (1, .lookupswitch 44 #[(36, 41), (63, 35), (94, 38)], 35), (36, .bipush 38, 2), (38, .ireturn, 1), (39, .bipush 39, 2), (41, .ireturn, 1), (42, .bipush 40, 2), (44, .ireturn, 1), (45, .bipush 35, 2), (47, .ireturn, 1)]
def Y_Text_endingOf : ax_Y := (⟨"MethodWarden$Text", "endingOf", "(C)I"⟩, prog_9_method_17_code, 1, some .int, tb_Text_endingOf)
theorem yok_Text_endingOf : yOK Y_Text_endingOf := ⟨by decide +kernel, by decide +kernel, inWG 584 (by decide +kernel) (by decide +kernel), inWG 97 (by decide +kernel) (by decide +kernel), by decide +kernel⟩
def f_Text_endingOf (a0 : Int32) (M : ax_M) : Option (Int32 × ax_M) :=
  if a0 = 36 then (some (40, M)) else (if a0 = 63 then (some (38, M)) else (if a0 = 94 then (some (39, M)) else (some (35, M))))
set_option maxHeartbeats 4000000 in
set_option maxRecDepth 100000 in
theorem c_Text_endingOf {l : Launch} {g : ax_G} {a0 : Int32} {M : ax_M} {r : Int32} {M' : ax_M} (h : f_Text_endingOf a0 M = some (r, M')) : Ctr l g true Y_Text_endingOf 1 [vI a0] M (some (vI r), M') := by
  refine Ctr.ofAW yok_Text_endingOf (Nat.le_of_ble_eq_true rfl) (Or.inl rfl) ?_
  show AW l g true Y_Text_endingOf 1 (some (vI r), M') 0 [(0, vI a0)] [] M
  unfold f_Text_endingOf at h
  refine A_iload_n 0 rfl rfl rfl ?_
  by_cases hc1 : a0 = 36
  · rw [if_pos hc1] at h
    refine A_lookup (tgt := 42) (off := 41) rfl (by decide) (by rw [hc1]; decide) (by decide) ?_
    refine A_bipush (v := 40) rfl (by decide) ?_
    obtain ⟨rfl, rfl⟩ := leaf h
    exact A_iret rfl rfl
  · rw [if_neg hc1] at h
    by_cases hc2 : a0 = 63
    · rw [if_pos hc2] at h
      refine A_lookup (tgt := 36) (off := 35) rfl (by decide) (by rw [hc2]; decide) (by decide) ?_
      refine A_bipush (v := 38) rfl (by decide) ?_
      obtain ⟨rfl, rfl⟩ := leaf h
      exact A_iret rfl rfl
    · rw [if_neg hc2] at h
      by_cases hc3 : a0 = 94
      · rw [if_pos hc3] at h
        refine A_lookup (tgt := 39) (off := 38) rfl (by decide) (by rw [hc3]; decide) (by decide) ?_
        refine A_bipush (v := 39) rfl (by decide) ?_
        obtain ⟨rfl, rfl⟩ := leaf h
        exact A_iret rfl rfl
      · rw [if_neg hc3] at h
        refine A_lookup (tgt := 45) rfl (by decide) (lk_def _ _ _ (fa_cons (ne_i hc1 (by decide)) (fa_cons (ne_i hc2 (by decide)) (fa_cons (ne_i hc3 (by decide)) fa_nil)))) (by decide) ?_
        refine A_bipush (v := 35) rfl (by decide) ?_
        obtain ⟨rfl, rfl⟩ := leaf h
        exact A_iret rfl rfl
def tb_Text_cutDot : List (Nat × Instr × Nat) := [(0, .aload_n 0, 1), (1, .getfield 19, 3), (4, .iconst 1, 1), (5, .iadd, 1), (6, .aload_n 0, 1), (7, .getfield 15, 3), (10, .if_icmp .ge 19, 3), (13, .aload_n 0, 1), (14, .getfield 9, 3), (17, .aload_n 0, 1), (18, .getfield 19, 3), (21, .iconst 1, 1), (22, .iadd, 1), (23, .caload, 1), (24, .bipush 91, 2), (26, .if_icmp .eq 6, 3), (29, .bipush 35, 2), (31, .ireturn, 1), (32, .aload_n 0, 1), (33, .getfield 9, 3), (36, .aload_n 0, 1), (37, .getfield 19, 3), (40, .caload, 1), (41, .invokestatic 110, 3), (44, .istore_n 1, 1), (45, .iload_n 1, 1), (46, .bipush 35, 2), (48, .if_icmp .eq 13, 3), (51, .aload_n 0, 1), (52, .dup, 1), (53, .getfield 19, 3), (56, .iconst 2, 1), (57, .iadd, 1), (58, .putfield 19, 3), (61, .iload_n 1, 1), (62, .ireturn, 1)]
def Y_Text_cutDot : ax_Y := (⟨"MethodWarden$Text", "cutDot", "()I"⟩, prog_9_method_16_code, 2, some .int, tb_Text_cutDot)
theorem yok_Text_cutDot : yOK Y_Text_cutDot := ⟨by decide +kernel, by decide +kernel, inWG 581 (by decide +kernel) (by decide +kernel), inWG 97 (by decide +kernel) (by decide +kernel), by decide +kernel⟩
theorem ml_Text_110 : mlS "MethodWarden$Text" 110 Y_Text_endingOf 1 := ⟨⟨yok_Text_endingOf, by decide +kernel, by decide⟩, Or.inl (inWG 582 (by decide +kernel) (by decide +kernel)), inWG 583 (by decide +kernel) (by decide +kernel)⟩
def f_Text_cutDot  (M : ax_M) : Option (Int32 × ax_M) :=
  if (gI M 3 1) ≤ ((gI M 3 2) + 1) then (some (35, M)) else (gi ((gI M 3 2) + 1) 48 (if (gI M 4 ((gI M 3 2) + 1).toNatClampNeg) = 91 then (gi (gI M 3 2) 48 (bnd (f_Text_endingOf (gI M 4 (gI M 3 2).toNatClampNeg) M) (fun q5 M6 => if q5 = 35 then (some (q5, M6)) else (kM (mI M6 3 2 ((gI M6 3 2) + 2)) (fun M8 => some (q5, M8)))))) else (some (35, M))))
set_option maxHeartbeats 4000000 in
set_option maxRecDepth 100000 in
theorem c_Text_cutDot {l : Launch} {g : ax_G}  {M : ax_M} {r : Int32} {M' : ax_M} (h : f_Text_cutDot  M = some (r, M')) : Ctr l g true Y_Text_cutDot 2 [vA 3] M (some (vI r), M') := by
  refine Ctr.ofAW yok_Text_cutDot (Nat.le_of_ble_eq_true rfl) (Or.inl rfl) ?_
  show AW l g true Y_Text_cutDot 2 (some (vI r), M') 0 [(0, vA 3)] [] M
  unfold f_Text_cutDot at h
  refine A_aload_n 0 rfl rfl rfl ?_
  refine A_getI rfl fl_Text_19 rfl (by decide) (Or.inl rfl) ?_
  refine A_iconst (v := 1) rfl (by decide) ?_
  refine A_iadd rfl ?_
  refine A_aload_n 0 rfl rfl rfl ?_
  refine A_pc (pc' := 7) rfl ?_
  refine A_getI rfl fl_Text_15 rfl (by decide) (Or.inl rfl) ?_
  refine A_icmp_ge (tgt := 29) rfl (by decide) (fun hc1 => ?_) (fun hc1 => ?_)
  · rw [if_pos hc1] at h
    refine A_bipush (v := 35) rfl (by decide) ?_
    obtain ⟨rfl, rfl⟩ := leaf h
    exact A_iret rfl rfl
  · rw [if_neg hc1] at h
    refine A_pc (pc' := 13) rfl ?_
    refine A_aload_n 0 rfl rfl rfl ?_
    refine A_getL (r := 4) rfl fl_Text_9 rfl (by decide) rfl rfl ?_
    refine A_aload_n 0 rfl rfl rfl ?_
    refine A_getI rfl fl_Text_19 rfl (by decide) (Or.inl rfl) ?_
    refine A_iconst (v := 1) rfl (by decide) ?_
    refine A_pc (pc' := 22) rfl ?_
    refine A_iadd rfl ?_
    obtain ⟨hg2, h⟩ := gi_out h
    refine A_cald (n := 48) rfl (by decide) (by decide) (Or.inl rfl) hg2 ?_
    refine A_bipush (v := 91) rfl (by decide) ?_
    refine A_icmp_eq (tgt := 32) rfl (by decide) (fun hc3 => ?_) (fun hc3 => ?_)
    · rw [if_pos hc3] at h
      refine A_aload_n 0 rfl rfl rfl ?_
      refine A_getL (r := 4) rfl fl_Text_9 rfl (by decide) rfl rfl ?_
      refine A_aload_n 0 rfl rfl rfl ?_
      refine A_getI rfl fl_Text_19 rfl (by decide) (Or.inl rfl) ?_
      obtain ⟨hg4, h⟩ := gi_out h
      refine A_cald (n := 48) rfl (by decide) (by decide) (Or.inl rfl) hg4 ?_
      refine A_pc (pc' := 41) rfl ?_
      obtain ⟨q5, M6, hcq5, h⟩ := bnd_out h
      refine A_callS (as := [vI (gI M 4 (gI M 3 2).toNatClampNeg)]) (st' := []) (r1 := (some (vI q5), M6)) rfl ml_Text_110 rfl rfl (Nat.le_of_ble_eq_true rfl) (by decide) (c_Text_endingOf hcq5) (Or.inl rfl) ?_
      refine A_pc (pc' := 44) rfl ?_
      refine A_stk (st' := [vI q5]) rfl ?_
      refine A_istore_n (Ls' := [(1, vI q5), (0, vA 3)]) rfl rfl (by decide) rfl ?_
      refine A_iload_n 0 rfl rfl rfl ?_
      refine A_bipush (v := 35) rfl (by decide) ?_
      refine A_icmp_eq (tgt := 61) rfl (by decide) (fun hc7 => ?_) (fun hc7 => ?_)
      · rw [if_pos hc7] at h
        refine A_iload_n 0 rfl rfl rfl ?_
        obtain ⟨rfl, rfl⟩ := leaf h
        exact A_iret rfl rfl
      · rw [if_neg hc7] at h
        refine A_pc (pc' := 51) rfl ?_
        refine A_aload_n 1 rfl rfl rfl ?_
        refine A_dup rfl rfl ?_
        refine A_getI rfl fl_Text_19 rfl (by decide) (Or.inl rfl) ?_
        refine A_iconst (v := 2) rfl (by decide) ?_
        refine A_iadd rfl ?_
        refine A_pc (pc' := 58) rfl ?_
        refine A_putI rfl (Or.inl fl_Text_19) rfl (by decide) (Or.inl rfl) rfl ?_
        obtain ⟨M8, hM8, h⟩ := kM_out h
        refine A_mem hM8 ?_
        refine A_iload_n 0 rfl rfl rfl ?_
        obtain ⟨rfl, rfl⟩ := leaf h
        exact A_iret rfl rfl
    · rw [if_neg hc3] at h
      refine A_pc (pc' := 29) rfl ?_
      refine A_bipush (v := 35) rfl (by decide) ?_
      obtain ⟨rfl, rfl⟩ := leaf h
      exact A_iret rfl rfl
def tb_Text_cutQuestion : List (Nat × Instr × Nat) := [(0, .aload_n 0, 1), (1, .bipush 58, 2), (3, .invokevirtual 55, 3), (6, .ifCond .eq 6, 3), (9, .bipush 37, 2), (11, .ireturn, 1), (12, .aload_n 0, 1), (13, .bipush 46, 2), (15, .invokevirtual 55, 3), (18, .ifCond .eq 8, 3), (21, .bipush 36, 2), (23, .goto 5, 3), (26, .bipush 20, 2), (28, .ireturn, 1)]
def Y_Text_cutQuestion : ax_Y := (⟨"MethodWarden$Text", "cutQuestion", "()I"⟩, prog_9_method_15_code, 1, some .int, tb_Text_cutQuestion)
theorem yok_Text_cutQuestion : yOK Y_Text_cutQuestion := ⟨by decide +kernel, by decide +kernel, inWG 577 (by decide +kernel) (by decide +kernel), inWG 97 (by decide +kernel) (by decide +kernel), by decide +kernel⟩
def f_Text_cutQuestion  (M : ax_M) : Option (Int32 × ax_M) :=
  bnd (f_Text_passes 58 M) (fun q1 M2 => if q1 = 0 then (bnd (f_Text_passes 46 M2) (fun q4 M5 => if q4 = 0 then (some (20, M5)) else (some (36, M5)))) else (some (37, M2)))
set_option maxHeartbeats 4000000 in
set_option maxRecDepth 100000 in
theorem c_Text_cutQuestion {l : Launch} {g : ax_G}  {M : ax_M} {r : Int32} {M' : ax_M} (h : f_Text_cutQuestion  M = some (r, M')) : Ctr l g true Y_Text_cutQuestion 2 [vA 3] M (some (vI r), M') := by
  refine Ctr.ofAW yok_Text_cutQuestion (Nat.le_of_ble_eq_true rfl) (Or.inl rfl) ?_
  show AW l g true Y_Text_cutQuestion 2 (some (vI r), M') 0 [(0, vA 3)] [] M
  unfold f_Text_cutQuestion at h
  refine A_aload_n 0 rfl rfl rfl ?_
  refine A_bipush (v := 58) rfl (by decide) ?_
  obtain ⟨q1, M2, hcq1, h⟩ := bnd_out h
  refine A_callV (ci := 1) (as := [vI 58]) (st' := []) (r1 := (some (vI q1), M2)) rfl ml_Text_55 rfl (by decide) (by decide) (Or.inl rfl) rfl rfl (Nat.le_of_ble_eq_true rfl) (by decide) (c_Text_passes hcq1) (Or.inl rfl) ?_
  refine A_pc (pc' := 6) rfl ?_
  refine A_stk (st' := [vI q1]) rfl ?_
  refine A_if_eq (tgt := 12) rfl (by decide) (fun hc3 => ?_) (fun hc3 => ?_)
  · rw [if_pos hc3] at h
    refine A_aload_n 0 rfl rfl rfl ?_
    refine A_bipush (v := 46) rfl (by decide) ?_
    obtain ⟨q4, M5, hcq4, h⟩ := bnd_out h
    refine A_callV (ci := 1) (as := [vI 46]) (st' := []) (r1 := (some (vI q4), M5)) rfl ml_Text_55 rfl (by decide) (by decide) (Or.inl rfl) rfl rfl (Nat.le_of_ble_eq_true rfl) (by decide) (c_Text_passes hcq4) (Or.inl rfl) ?_
    refine A_pc (pc' := 18) rfl ?_
    refine A_stk (st' := [vI q4]) rfl ?_
    refine A_if_eq (tgt := 26) rfl (by decide) (fun hc6 => ?_) (fun hc6 => ?_)
    · rw [if_pos hc6] at h
      refine A_bipush (v := 20) rfl (by decide) ?_
      obtain ⟨rfl, rfl⟩ := leaf h
      exact A_iret rfl rfl
    · rw [if_neg hc6] at h
      refine A_pc (pc' := 21) rfl ?_
      refine A_bipush (v := 36) rfl (by decide) ?_
      refine A_goto (tgt := 28) rfl (by decide) ?_
      obtain ⟨rfl, rfl⟩ := leaf h
      exact A_iret rfl rfl
  · rw [if_neg hc3] at h
    refine A_pc (pc' := 9) rfl ?_
    refine A_bipush (v := 37) rfl (by decide) ?_
    obtain ⟨rfl, rfl⟩ := leaf h
    exact A_iret rfl rfl
def tb_Text_cutLongSign : List (Nat × Instr × Nat) := [(0, .iload_n 1, 1), (1, .lookupswitch 136 #[(33, 75), (46, 131), (60, 92), (61, 59), (62, 109), (63, 126)], 59), (60, .aload_n 0, 1), (61, .bipush 61, 2), (63, .invokevirtual 55, 3), (66, .ifCond .eq 8, 3), (69, .bipush 23, 2), (71, .goto 4, 3), (74, .iconst 1, 1), (75, .ireturn, 1), (76, .aload_n 0, 1), (77, .bipush 61, 2), (79, .invokevirtual 55, 3), (82, .ifCond .eq 8, 3), (85, .bipush 24, 2), (87, .goto 5, 3), (90, .bipush 34, 2), (92, .ireturn, 1), (93, .aload_n 0, 1), (94, .bipush 61, 2), (96, .invokevirtual 55, 3), (99, .ifCond .eq 8, 3), (102, .bipush 26, 2), (104, .goto 5, 3), (107, .bipush 25, 2), (109, .ireturn, 1), (110, .aload_n 0, 1), (111, .bipush 61, 2), (113, .invokevirtual 55, 3), (116, .ifCond .eq 8, 3), (119, .bipush 28, 2), (121, .goto 5, 3), (124, .bipush 27, 2), (126, .ireturn, 1), (127, .aload_n 0, 1), (128, .invokevirtual 104, 3), (131, .ireturn, 1), (132, .aload_n 0, 1), (133, .invokevirtual 107, 3), (136, .ireturn, 1), (137, .iconst 1, 1), (138, .ireturn, 1)]
def Y_Text_cutLongSign : ax_Y := (⟨"MethodWarden$Text", "cutLongSign", "(C)I"⟩, prog_9_method_14_code, 2, some .int, tb_Text_cutLongSign)
theorem yok_Text_cutLongSign : yOK Y_Text_cutLongSign := ⟨by decide +kernel, by decide +kernel, inWG 573 (by decide +kernel) (by decide +kernel), inWG 97 (by decide +kernel) (by decide +kernel), by decide +kernel⟩
theorem ml_Text_107 : mlV "MethodWarden$Text" 107 Y_Text_cutDot 0 := ⟨⟨yok_Text_cutDot, by decide +kernel, by decide⟩, Or.inl (inWG 578 (by decide +kernel) (by decide +kernel)), inWG 580 (by decide +kernel) (by decide +kernel), inWG 9 (by decide +kernel) (by decide +kernel)⟩
theorem ml_Text_104 : mlV "MethodWarden$Text" 104 Y_Text_cutQuestion 0 := ⟨⟨yok_Text_cutQuestion, by decide +kernel, by decide⟩, Or.inl (inWG 574 (by decide +kernel) (by decide +kernel)), inWG 576 (by decide +kernel) (by decide +kernel), inWG 8 (by decide +kernel) (by decide +kernel)⟩
def f_Text_cutLongSign (a1 : Int32) (M : ax_M) : Option (Int32 × ax_M) :=
  if a1 = 33 then (bnd (f_Text_passes 61 M) (fun q2 M3 => if q2 = 0 then (some (34, M3)) else (some (24, M3)))) else (if a1 = 46 then (bnd (f_Text_cutDot  M) (fun q6 M7 => some (q6, M7))) else (if a1 = 60 then (bnd (f_Text_passes 61 M) (fun q9 M10 => if q9 = 0 then (some (25, M10)) else (some (26, M10)))) else (if a1 = 61 then (bnd (f_Text_passes 61 M) (fun q13 M14 => if q13 = 0 then (some (1, M14)) else (some (23, M14)))) else (if a1 = 62 then (bnd (f_Text_passes 61 M) (fun q17 M18 => if q17 = 0 then (some (27, M18)) else (some (28, M18)))) else (if a1 = 63 then (bnd (f_Text_cutQuestion  M) (fun q21 M22 => some (q21, M22))) else (some (1, M)))))))
set_option maxHeartbeats 4000000 in
set_option maxRecDepth 100000 in
theorem c_Text_cutLongSign {l : Launch} {g : ax_G} {a1 : Int32} {M : ax_M} {r : Int32} {M' : ax_M} (h : f_Text_cutLongSign a1 M = some (r, M')) : Ctr l g true Y_Text_cutLongSign 3 [vA 3, vI a1] M (some (vI r), M') := by
  refine Ctr.ofAW yok_Text_cutLongSign (Nat.le_of_ble_eq_true rfl) (Or.inl rfl) ?_
  show AW l g true Y_Text_cutLongSign 3 (some (vI r), M') 0 [(0, vA 3), (1, vI a1)] [] M
  unfold f_Text_cutLongSign at h
  refine A_iload_n 1 rfl rfl rfl ?_
  by_cases hc1 : a1 = 33
  · rw [if_pos hc1] at h
    refine A_lookup (tgt := 76) (off := 75) rfl (by decide) (by rw [hc1]; decide) (by decide) ?_
    refine A_aload_n 0 rfl rfl rfl ?_
    refine A_bipush (v := 61) rfl (by decide) ?_
    obtain ⟨q2, M3, hcq2, h⟩ := bnd_out h
    refine A_callV (ci := 1) (as := [vI 61]) (st' := []) (r1 := (some (vI q2), M3)) rfl ml_Text_55 rfl (by decide) (by decide) (Or.inl rfl) rfl rfl (Nat.le_of_ble_eq_true rfl) (by decide) (c_Text_passes hcq2) (Or.inl rfl) ?_
    refine A_pc (pc' := 82) rfl ?_
    refine A_stk (st' := [vI q2]) rfl ?_
    refine A_if_eq (tgt := 90) rfl (by decide) (fun hc4 => ?_) (fun hc4 => ?_)
    · rw [if_pos hc4] at h
      refine A_bipush (v := 34) rfl (by decide) ?_
      obtain ⟨rfl, rfl⟩ := leaf h
      exact A_iret rfl rfl
    · rw [if_neg hc4] at h
      refine A_pc (pc' := 85) rfl ?_
      refine A_bipush (v := 24) rfl (by decide) ?_
      refine A_goto (tgt := 92) rfl (by decide) ?_
      obtain ⟨rfl, rfl⟩ := leaf h
      exact A_iret rfl rfl
  · rw [if_neg hc1] at h
    by_cases hc5 : a1 = 46
    · rw [if_pos hc5] at h
      refine A_lookup (tgt := 132) (off := 131) rfl (by decide) (by rw [hc5]; decide) (by decide) ?_
      refine A_aload_n 0 rfl rfl rfl ?_
      obtain ⟨q6, M7, hcq6, h⟩ := bnd_out h
      refine A_callV (ci := 1) (as := []) (st' := []) (r1 := (some (vI q6), M7)) rfl ml_Text_107 rfl (by decide) (by decide) (Or.inl rfl) rfl rfl (Nat.le_of_ble_eq_true rfl) (by decide) (c_Text_cutDot hcq6) (Or.inl rfl) ?_
      refine A_pc (pc' := 136) rfl ?_
      refine A_stk (st' := [vI q6]) rfl ?_
      obtain ⟨rfl, rfl⟩ := leaf h
      exact A_iret rfl rfl
    · rw [if_neg hc5] at h
      by_cases hc8 : a1 = 60
      · rw [if_pos hc8] at h
        refine A_lookup (tgt := 93) (off := 92) rfl (by decide) (by rw [hc8]; decide) (by decide) ?_
        refine A_aload_n 0 rfl rfl rfl ?_
        refine A_bipush (v := 61) rfl (by decide) ?_
        obtain ⟨q9, M10, hcq9, h⟩ := bnd_out h
        refine A_callV (ci := 1) (as := [vI 61]) (st' := []) (r1 := (some (vI q9), M10)) rfl ml_Text_55 rfl (by decide) (by decide) (Or.inl rfl) rfl rfl (Nat.le_of_ble_eq_true rfl) (by decide) (c_Text_passes hcq9) (Or.inl rfl) ?_
        refine A_pc (pc' := 99) rfl ?_
        refine A_stk (st' := [vI q9]) rfl ?_
        refine A_if_eq (tgt := 107) rfl (by decide) (fun hc11 => ?_) (fun hc11 => ?_)
        · rw [if_pos hc11] at h
          refine A_bipush (v := 25) rfl (by decide) ?_
          obtain ⟨rfl, rfl⟩ := leaf h
          exact A_iret rfl rfl
        · rw [if_neg hc11] at h
          refine A_pc (pc' := 102) rfl ?_
          refine A_bipush (v := 26) rfl (by decide) ?_
          refine A_goto (tgt := 109) rfl (by decide) ?_
          obtain ⟨rfl, rfl⟩ := leaf h
          exact A_iret rfl rfl
      · rw [if_neg hc8] at h
        by_cases hc12 : a1 = 61
        · rw [if_pos hc12] at h
          refine A_lookup (tgt := 60) (off := 59) rfl (by decide) (by rw [hc12]; decide) (by decide) ?_
          refine A_aload_n 0 rfl rfl rfl ?_
          refine A_bipush (v := 61) rfl (by decide) ?_
          obtain ⟨q13, M14, hcq13, h⟩ := bnd_out h
          refine A_callV (ci := 1) (as := [vI 61]) (st' := []) (r1 := (some (vI q13), M14)) rfl ml_Text_55 rfl (by decide) (by decide) (Or.inl rfl) rfl rfl (Nat.le_of_ble_eq_true rfl) (by decide) (c_Text_passes hcq13) (Or.inl rfl) ?_
          refine A_pc (pc' := 66) rfl ?_
          refine A_stk (st' := [vI q13]) rfl ?_
          refine A_if_eq (tgt := 74) rfl (by decide) (fun hc15 => ?_) (fun hc15 => ?_)
          · rw [if_pos hc15] at h
            refine A_iconst (v := 1) rfl (by decide) ?_
            obtain ⟨rfl, rfl⟩ := leaf h
            exact A_iret rfl rfl
          · rw [if_neg hc15] at h
            refine A_pc (pc' := 69) rfl ?_
            refine A_bipush (v := 23) rfl (by decide) ?_
            refine A_goto (tgt := 75) rfl (by decide) ?_
            obtain ⟨rfl, rfl⟩ := leaf h
            exact A_iret rfl rfl
        · rw [if_neg hc12] at h
          by_cases hc16 : a1 = 62
          · rw [if_pos hc16] at h
            refine A_lookup (tgt := 110) (off := 109) rfl (by decide) (by rw [hc16]; decide) (by decide) ?_
            refine A_aload_n 0 rfl rfl rfl ?_
            refine A_bipush (v := 61) rfl (by decide) ?_
            obtain ⟨q17, M18, hcq17, h⟩ := bnd_out h
            refine A_callV (ci := 1) (as := [vI 61]) (st' := []) (r1 := (some (vI q17), M18)) rfl ml_Text_55 rfl (by decide) (by decide) (Or.inl rfl) rfl rfl (Nat.le_of_ble_eq_true rfl) (by decide) (c_Text_passes hcq17) (Or.inl rfl) ?_
            refine A_pc (pc' := 116) rfl ?_
            refine A_stk (st' := [vI q17]) rfl ?_
            refine A_if_eq (tgt := 124) rfl (by decide) (fun hc19 => ?_) (fun hc19 => ?_)
            · rw [if_pos hc19] at h
              refine A_bipush (v := 27) rfl (by decide) ?_
              obtain ⟨rfl, rfl⟩ := leaf h
              exact A_iret rfl rfl
            · rw [if_neg hc19] at h
              refine A_pc (pc' := 119) rfl ?_
              refine A_bipush (v := 28) rfl (by decide) ?_
              refine A_goto (tgt := 126) rfl (by decide) ?_
              obtain ⟨rfl, rfl⟩ := leaf h
              exact A_iret rfl rfl
          · rw [if_neg hc16] at h
            by_cases hc20 : a1 = 63
            · rw [if_pos hc20] at h
              refine A_lookup (tgt := 127) (off := 126) rfl (by decide) (by rw [hc20]; decide) (by decide) ?_
              refine A_aload_n 0 rfl rfl rfl ?_
              obtain ⟨q21, M22, hcq21, h⟩ := bnd_out h
              refine A_callV (ci := 1) (as := []) (st' := []) (r1 := (some (vI q21), M22)) rfl ml_Text_104 rfl (by decide) (by decide) (Or.inl rfl) rfl rfl (Nat.le_of_ble_eq_true rfl) (by decide) (c_Text_cutQuestion hcq21) (Or.inl rfl) ?_
              refine A_pc (pc' := 131) rfl ?_
              refine A_stk (st' := [vI q21]) rfl ?_
              obtain ⟨rfl, rfl⟩ := leaf h
              exact A_iret rfl rfl
            · rw [if_neg hc20] at h
              refine A_lookup (tgt := 137) rfl (by decide) (lk_def _ _ _ (fa_cons (ne_i hc1 (by decide)) (fa_cons (ne_i hc5 (by decide)) (fa_cons (ne_i hc8 (by decide)) (fa_cons (ne_i hc12 (by decide)) (fa_cons (ne_i hc16 (by decide)) (fa_cons (ne_i hc20 (by decide)) fa_nil))))))) (by decide) ?_
              refine A_iconst (v := 1) rfl (by decide) ?_
              obtain ⟨rfl, rfl⟩ := leaf h
              exact A_iret rfl rfl
def tb_Text_cutSign : List (Nat × Instr × Nat) := [(0, .aload_n 0, 1), (1, .getfield 9, 3), (4, .aload_n 0, 1), (5, .getfield 19, 3), (8, .caload, 1), (9, .istore_n 1, 1), (10, .aload_n 0, 1), (11, .dup, 1), (12, .getfield 19, 3), (15, .iconst 1, 1), (16, .iadd, 1), (17, .putfield 19, 3), (20, .iload_n 1, 1), (21, .lookupswitch 143 #[(37, 140), (38, 125), (40, 107), (41, 110), (42, 134), (43, 128), (45, 131), (47, 137), (58, 119), (91, 113), (93, 116), (124, 122)], 107), (128, .bipush 15, 2), (130, .ireturn, 1), (131, .bipush 16, 2), (133, .ireturn, 1), (134, .bipush 17, 2), (136, .ireturn, 1), (137, .bipush 18, 2), (139, .ireturn, 1), (140, .bipush 19, 2), (142, .ireturn, 1), (143, .bipush 21, 2), (145, .ireturn, 1), (146, .bipush 22, 2), (148, .ireturn, 1), (149, .bipush 29, 2), (151, .ireturn, 1), (152, .bipush 30, 2), (154, .ireturn, 1), (155, .bipush 31, 2), (157, .ireturn, 1), (158, .bipush 32, 2), (160, .ireturn, 1), (161, .bipush 33, 2), (163, .ireturn, 1), (164, .aload_n 0, 1), (165, .iload_n 1, 1), (166, .invokevirtual 100, 3), (169, .ireturn, 1)]
def Y_Text_cutSign : ax_Y := (⟨"MethodWarden$Text", "cutSign", "()I"⟩, prog_9_method_13_code, 2, some .int, tb_Text_cutSign)
theorem yok_Text_cutSign : yOK Y_Text_cutSign := ⟨by decide +kernel, by decide +kernel, inWG 569 (by decide +kernel) (by decide +kernel), inWG 97 (by decide +kernel) (by decide +kernel), by decide +kernel⟩
theorem ml_Text_100 : mlV "MethodWarden$Text" 100 Y_Text_cutLongSign 1 := ⟨⟨yok_Text_cutLongSign, by decide +kernel, by decide⟩, Or.inl (inWG 570 (by decide +kernel) (by decide +kernel)), inWG 572 (by decide +kernel) (by decide +kernel), inWG 7 (by decide +kernel) (by decide +kernel)⟩
def f_Text_cutSign  (M : ax_M) : Option (Int32 × ax_M) :=
  gi (gI M 3 2) 48 (kM (gI M 4 (gI M 3 2).toNatClampNeg) (fun x2 => kM (mI M 3 2 ((gI M 3 2) + 1)) (fun M3 => if x2 = 37 then (some (33, M3)) else (if x2 = 38 then (some (22, M3)) else (if x2 = 40 then (some (15, M3)) else (if x2 = 41 then (some (16, M3)) else (if x2 = 42 then (some (31, M3)) else (if x2 = 43 then (some (29, M3)) else (if x2 = 45 then (some (30, M3)) else (if x2 = 47 then (some (32, M3)) else (if x2 = 58 then (some (19, M3)) else (if x2 = 91 then (some (17, M3)) else (if x2 = 93 then (some (18, M3)) else (if x2 = 124 then (some (21, M3)) else (bnd (f_Text_cutLongSign x2 M3) (fun q16 M17 => some (q16, M17)))))))))))))))))
set_option maxHeartbeats 4000000 in
set_option maxRecDepth 100000 in
theorem c_Text_cutSign {l : Launch} {g : ax_G}  {M : ax_M} {r : Int32} {M' : ax_M} (h : f_Text_cutSign  M = some (r, M')) : Ctr l g true Y_Text_cutSign 4 [vA 3] M (some (vI r), M') := by
  refine Ctr.ofAW yok_Text_cutSign (Nat.le_of_ble_eq_true rfl) (Or.inl rfl) ?_
  show AW l g true Y_Text_cutSign 4 (some (vI r), M') 0 [(0, vA 3)] [] M
  unfold f_Text_cutSign at h
  refine A_aload_n 0 rfl rfl rfl ?_
  refine A_getL (r := 4) rfl fl_Text_9 rfl (by decide) rfl rfl ?_
  refine A_aload_n 0 rfl rfl rfl ?_
  refine A_getI rfl fl_Text_19 rfl (by decide) (Or.inl rfl) ?_
  obtain ⟨hg1, h⟩ := gi_out h
  refine A_cald (n := 48) rfl (by decide) (by decide) (Or.inl rfl) hg1 ?_
  refine A_pc (pc' := 9) rfl ?_
  obtain ⟨x2, hx2, h⟩ := kM_out h
  refine A_nI hx2 ?_
  refine A_istore_n (Ls' := [(1, vI x2), (0, vA 3)]) rfl rfl (by decide) rfl ?_
  refine A_aload_n 1 rfl rfl rfl ?_
  refine A_dup rfl rfl ?_
  refine A_getI rfl fl_Text_19 rfl (by decide) (Or.inl rfl) ?_
  refine A_iconst (v := 1) rfl (by decide) ?_
  refine A_iadd rfl ?_
  refine A_pc (pc' := 17) rfl ?_
  refine A_putI rfl (Or.inl fl_Text_19) rfl (by decide) (Or.inl rfl) rfl ?_
  obtain ⟨M3, hM3, h⟩ := kM_out h
  refine A_mem hM3 ?_
  refine A_iload_n 0 rfl rfl rfl ?_
  by_cases hc4 : x2 = 37
  · rw [if_pos hc4] at h
    refine A_lookup (tgt := 161) (off := 140) rfl (by decide) (by rw [hc4]; decide) (by decide) ?_
    refine A_bipush (v := 33) rfl (by decide) ?_
    obtain ⟨rfl, rfl⟩ := leaf h
    exact A_iret rfl rfl
  · rw [if_neg hc4] at h
    by_cases hc5 : x2 = 38
    · rw [if_pos hc5] at h
      refine A_lookup (tgt := 146) (off := 125) rfl (by decide) (by rw [hc5]; decide) (by decide) ?_
      refine A_bipush (v := 22) rfl (by decide) ?_
      obtain ⟨rfl, rfl⟩ := leaf h
      exact A_iret rfl rfl
    · rw [if_neg hc5] at h
      by_cases hc6 : x2 = 40
      · rw [if_pos hc6] at h
        refine A_lookup (tgt := 128) (off := 107) rfl (by decide) (by rw [hc6]; decide) (by decide) ?_
        refine A_bipush (v := 15) rfl (by decide) ?_
        obtain ⟨rfl, rfl⟩ := leaf h
        exact A_iret rfl rfl
      · rw [if_neg hc6] at h
        by_cases hc7 : x2 = 41
        · rw [if_pos hc7] at h
          refine A_lookup (tgt := 131) (off := 110) rfl (by decide) (by rw [hc7]; decide) (by decide) ?_
          refine A_bipush (v := 16) rfl (by decide) ?_
          obtain ⟨rfl, rfl⟩ := leaf h
          exact A_iret rfl rfl
        · rw [if_neg hc7] at h
          by_cases hc8 : x2 = 42
          · rw [if_pos hc8] at h
            refine A_lookup (tgt := 155) (off := 134) rfl (by decide) (by rw [hc8]; decide) (by decide) ?_
            refine A_bipush (v := 31) rfl (by decide) ?_
            obtain ⟨rfl, rfl⟩ := leaf h
            exact A_iret rfl rfl
          · rw [if_neg hc8] at h
            by_cases hc9 : x2 = 43
            · rw [if_pos hc9] at h
              refine A_lookup (tgt := 149) (off := 128) rfl (by decide) (by rw [hc9]; decide) (by decide) ?_
              refine A_bipush (v := 29) rfl (by decide) ?_
              obtain ⟨rfl, rfl⟩ := leaf h
              exact A_iret rfl rfl
            · rw [if_neg hc9] at h
              by_cases hc10 : x2 = 45
              · rw [if_pos hc10] at h
                refine A_lookup (tgt := 152) (off := 131) rfl (by decide) (by rw [hc10]; decide) (by decide) ?_
                refine A_bipush (v := 30) rfl (by decide) ?_
                obtain ⟨rfl, rfl⟩ := leaf h
                exact A_iret rfl rfl
              · rw [if_neg hc10] at h
                by_cases hc11 : x2 = 47
                · rw [if_pos hc11] at h
                  refine A_lookup (tgt := 158) (off := 137) rfl (by decide) (by rw [hc11]; decide) (by decide) ?_
                  refine A_bipush (v := 32) rfl (by decide) ?_
                  obtain ⟨rfl, rfl⟩ := leaf h
                  exact A_iret rfl rfl
                · rw [if_neg hc11] at h
                  by_cases hc12 : x2 = 58
                  · rw [if_pos hc12] at h
                    refine A_lookup (tgt := 140) (off := 119) rfl (by decide) (by rw [hc12]; decide) (by decide) ?_
                    refine A_bipush (v := 19) rfl (by decide) ?_
                    obtain ⟨rfl, rfl⟩ := leaf h
                    exact A_iret rfl rfl
                  · rw [if_neg hc12] at h
                    by_cases hc13 : x2 = 91
                    · rw [if_pos hc13] at h
                      refine A_lookup (tgt := 134) (off := 113) rfl (by decide) (by rw [hc13]; decide) (by decide) ?_
                      refine A_bipush (v := 17) rfl (by decide) ?_
                      obtain ⟨rfl, rfl⟩ := leaf h
                      exact A_iret rfl rfl
                    · rw [if_neg hc13] at h
                      by_cases hc14 : x2 = 93
                      · rw [if_pos hc14] at h
                        refine A_lookup (tgt := 137) (off := 116) rfl (by decide) (by rw [hc14]; decide) (by decide) ?_
                        refine A_bipush (v := 18) rfl (by decide) ?_
                        obtain ⟨rfl, rfl⟩ := leaf h
                        exact A_iret rfl rfl
                      · rw [if_neg hc14] at h
                        by_cases hc15 : x2 = 124
                        · rw [if_pos hc15] at h
                          refine A_lookup (tgt := 143) (off := 122) rfl (by decide) (by rw [hc15]; decide) (by decide) ?_
                          refine A_bipush (v := 21) rfl (by decide) ?_
                          obtain ⟨rfl, rfl⟩ := leaf h
                          exact A_iret rfl rfl
                        · rw [if_neg hc15] at h
                          refine A_lookup (tgt := 164) rfl (by decide) (lk_def _ _ _ (fa_cons (ne_i hc4 (by decide)) (fa_cons (ne_i hc5 (by decide)) (fa_cons (ne_i hc6 (by decide)) (fa_cons (ne_i hc7 (by decide)) (fa_cons (ne_i hc8 (by decide)) (fa_cons (ne_i hc9 (by decide)) (fa_cons (ne_i hc10 (by decide)) (fa_cons (ne_i hc11 (by decide)) (fa_cons (ne_i hc12 (by decide)) (fa_cons (ne_i hc13 (by decide)) (fa_cons (ne_i hc14 (by decide)) (fa_cons (ne_i hc15 (by decide)) fa_nil))))))))))))) (by decide) ?_
                          refine A_aload_n 1 rfl rfl rfl ?_
                          refine A_iload_n 0 rfl rfl rfl ?_
                          obtain ⟨q16, M17, hcq16, h⟩ := bnd_out h
                          refine A_callV (ci := 1) (as := [vI x2]) (st' := []) (r1 := (some (vI q16), M17)) rfl ml_Text_100 rfl (by decide) (by decide) (Or.inl rfl) rfl rfl (Nat.le_of_ble_eq_true rfl) (by decide) (c_Text_cutLongSign hcq16) (Or.inl rfl) ?_
                          refine A_pc (pc' := 169) rfl ?_
                          refine A_stk (st' := [vI q16]) rfl ?_
                          obtain ⟨rfl, rfl⟩ := leaf h
                          exact A_iret rfl rfl
def tb_Text_cutNext : List (Nat × Instr × Nat) := [(0, .aload_n 0, 1), (1, .getfield 19, 3), (4, .aload_n 0, 1), (5, .getfield 15, 3), (8, .if_icmp .ge 30, 3), (11, .aload_n 0, 1), (12, .getfield 9, 3), (15, .aload_n 0, 1), (16, .getfield 19, 3), (19, .caload, 1), (20, .bipush 32, 2), (22, .if_icmp .ne 16, 3), (25, .aload_n 0, 1), (26, .dup, 1), (27, .getfield 19, 3), (30, .iconst 1, 1), (31, .iadd, 1), (32, .putfield 19, 3), (35, .goto (-35), 3), (38, .aload_n 0, 1), (39, .aload_n 0, 1), (40, .getfield 19, 3), (43, .putfield 22, 3), (46, .aload_n 0, 1), (47, .lconst 0, 1), (48, .putfield 25, 3), (51, .aload_n 0, 1), (52, .getfield 19, 3), (55, .aload_n 0, 1), (56, .getfield 15, 3), (59, .if_icmp .lt 11, 3), (62, .aload_n 0, 1), (63, .iconst 0, 1), (64, .putfield 31, 3), (67, .goto 63, 3), (70, .aload_n 0, 1), (71, .getfield 9, 3), (74, .aload_n 0, 1), (75, .getfield 19, 3), (78, .caload, 1), (79, .invokestatic 34, 3), (82, .ifCond .eq 14, 3), (85, .aload_n 0, 1), (86, .aload_n 0, 1), (87, .invokevirtual 38, 3), (90, .putfield 31, 3), (93, .goto 37, 3), (96, .aload_n 0, 1), (97, .getfield 9, 3), (100, .aload_n 0, 1), (101, .getfield 19, 3), (104, .caload, 1), (105, .invokestatic 42, 3), (108, .ifCond .eq 14, 3), (111, .aload_n 0, 1), (112, .aload_n 0, 1), (113, .invokevirtual 45, 3), (116, .putfield 31, 3), (119, .goto 11, 3), (122, .aload_n 0, 1), (123, .aload_n 0, 1), (124, .invokevirtual 48, 3), (127, .putfield 31, 3), (130, .return_, 1)]
def Y_Text_cutNext : ax_Y := (⟨"MethodWarden$Text", "cutNext", "()V"⟩, prog_9_method_5_code, 1, none, tb_Text_cutNext)
theorem yok_Text_cutNext : yOK Y_Text_cutNext := ⟨by decide +kernel, by decide +kernel, inWG 473 (by decide +kernel) (by decide +kernel), inWG 97 (by decide +kernel) (by decide +kernel), by decide +kernel⟩
theorem fl_Text_31 : fldOK "MethodWarden$Text" 31 1 3 false := ⟨_, _, _, cls_Text, by decide, by decide, rfl, Or.inl (inWG 132 (by decide +kernel) (by decide +kernel))⟩
theorem ml_Text_48 : mlV "MethodWarden$Text" 48 Y_Text_cutSign 0 := ⟨⟨yok_Text_cutSign, by decide +kernel, by decide⟩, Or.inl (inWG 566 (by decide +kernel) (by decide +kernel)), inWG 568 (by decide +kernel) (by decide +kernel), inWG 6 (by decide +kernel) (by decide +kernel)⟩
theorem ml_Text_45 : mlV "MethodWarden$Text" 45 Y_Text_cutWord 0 := ⟨⟨yok_Text_cutWord, by decide +kernel, by decide⟩, Or.inl (inWG 491 (by decide +kernel) (by decide +kernel)), inWG 493 (by decide +kernel) (by decide +kernel), inWG 2 (by decide +kernel) (by decide +kernel)⟩
theorem ml_Text_38 : mlV "MethodWarden$Text" 38 Y_Text_cutNumber 0 := ⟨⟨yok_Text_cutNumber, by decide +kernel, by decide⟩, Or.inl (inWG 477 (by decide +kernel) (by decide +kernel)), inWG 479 (by decide +kernel) (by decide +kernel), inWG 0 (by decide +kernel) (by decide +kernel)⟩
def f_Text_cutNext_38  (M : ax_M) : Option (Unit × ax_M) :=
  kM (mI M 3 4 (gI M 3 2)) (fun M2 => kM (mJ M2 3 5 0) (fun M3 => if (gI M3 3 2) < (gI M3 3 1) then (gi (gI M3 3 2) 48 (bnd (f_Text_isDigit (gI M3 4 (gI M3 3 2).toNatClampNeg) M3) (fun q6 M7 => if q6 = 0 then (gi (gI M7 3 2) 48 (bnd (f_Text_isSmallLetter (gI M7 4 (gI M7 3 2).toNatClampNeg) M7) (fun q10 M11 => if q10 = 0 then (bnd (f_Text_cutSign  M11) (fun q13 M14 => kM (mI M14 3 3 q13) (fun M15 => some ((), M15)))) else (bnd (f_Text_cutWord  M11) (fun q16 M17 => kM (mI M17 3 3 q16) (fun M18 => some ((), M18))))))) else (bnd (f_Text_cutNumber  M7) (fun q19 M20 => kM (mI M20 3 3 q19) (fun M21 => some ((), M21))))))) else (kM (mI M3 3 3 0) (fun M22 => some ((), M22)))))
set_option maxHeartbeats 4000000 in
set_option maxRecDepth 100000 in
theorem o_Text_cutNext_38 {l : Launch} {g : ax_G}  (M : ax_M) (r : Unit) (M' : ax_M) (h : f_Text_cutNext_38   M = some (r, M')) : AW l g true Y_Text_cutNext 9 (none, M') 38 [(0, vA 3)] [] M := by
  unfold f_Text_cutNext_38 at h
  refine A_aload_n 0 rfl rfl rfl ?_
  refine A_aload_n 0 rfl rfl rfl ?_
  refine A_getI rfl fl_Text_19 rfl (by decide) (Or.inl rfl) ?_
  refine A_putI rfl (Or.inl fl_Text_22) rfl (by decide) (Or.inl rfl) rfl ?_
  obtain ⟨M2, hM2, h⟩ := kM_out h
  refine A_mem hM2 ?_
  refine A_aload_n 0 rfl rfl rfl ?_
  refine A_pc (pc' := 47) rfl ?_
  refine A_lconst (v := 0) rfl (by decide) ?_
  refine A_putJ rfl (Or.inl fl_Text_25) rfl (by decide) (Or.inl rfl) rfl ?_
  obtain ⟨M3, hM3, h⟩ := kM_out h
  refine A_mem hM3 ?_
  refine A_aload_n 0 rfl rfl rfl ?_
  refine A_getI rfl fl_Text_19 rfl (by decide) (Or.inl rfl) ?_
  refine A_aload_n 0 rfl rfl rfl ?_
  refine A_getI rfl fl_Text_15 rfl (by decide) (Or.inl rfl) ?_
  refine A_pc (pc' := 59) rfl ?_
  refine A_icmp_lt (tgt := 70) rfl (by decide) (fun hc4 => ?_) (fun hc4 => ?_)
  · rw [if_pos hc4] at h
    refine A_aload_n 0 rfl rfl rfl ?_
    refine A_getL (r := 4) rfl fl_Text_9 rfl (by decide) rfl rfl ?_
    refine A_aload_n 0 rfl rfl rfl ?_
    refine A_getI rfl fl_Text_19 rfl (by decide) (Or.inl rfl) ?_
    obtain ⟨hg5, h⟩ := gi_out h
    refine A_cald (n := 48) rfl (by decide) (by decide) (Or.inl rfl) hg5 ?_
    refine A_pc (pc' := 79) rfl ?_
    obtain ⟨q6, M7, hcq6, h⟩ := bnd_out h
    refine A_callS (as := [vI (gI M3 4 (gI M3 3 2).toNatClampNeg)]) (st' := []) (r1 := (some (vI q6), M7)) rfl ml_Text_34 rfl rfl (Nat.le_of_ble_eq_true rfl) (by decide) (c_Text_isDigit hcq6) (Or.inl rfl) ?_
    refine A_pc (pc' := 82) rfl ?_
    refine A_stk (st' := [vI q6]) rfl ?_
    refine A_if_eq (tgt := 96) rfl (by decide) (fun hc8 => ?_) (fun hc8 => ?_)
    · rw [if_pos hc8] at h
      refine A_aload_n 0 rfl rfl rfl ?_
      refine A_getL (r := 4) rfl fl_Text_9 rfl (by decide) rfl rfl ?_
      refine A_aload_n 0 rfl rfl rfl ?_
      refine A_getI rfl fl_Text_19 rfl (by decide) (Or.inl rfl) ?_
      obtain ⟨hg9, h⟩ := gi_out h
      refine A_cald (n := 48) rfl (by decide) (by decide) (Or.inl rfl) hg9 ?_
      refine A_pc (pc' := 105) rfl ?_
      obtain ⟨q10, M11, hcq10, h⟩ := bnd_out h
      refine A_callS (as := [vI (gI M7 4 (gI M7 3 2).toNatClampNeg)]) (st' := []) (r1 := (some (vI q10), M11)) rfl ml_Text_42 rfl rfl (Nat.le_of_ble_eq_true rfl) (by decide) (c_Text_isSmallLetter hcq10) (Or.inl rfl) ?_
      refine A_pc (pc' := 108) rfl ?_
      refine A_stk (st' := [vI q10]) rfl ?_
      refine A_if_eq (tgt := 122) rfl (by decide) (fun hc12 => ?_) (fun hc12 => ?_)
      · rw [if_pos hc12] at h
        refine A_aload_n 0 rfl rfl rfl ?_
        refine A_aload_n 0 rfl rfl rfl ?_
        obtain ⟨q13, M14, hcq13, h⟩ := bnd_out h
        refine A_callV (ci := 1) (as := []) (st' := [vA 3]) (r1 := (some (vI q13), M14)) rfl ml_Text_48 rfl (by decide) (by decide) (Or.inl rfl) rfl rfl (Nat.le_of_ble_eq_true rfl) (by decide) (c_Text_cutSign hcq13) (Or.inl rfl) ?_
        refine A_pc (pc' := 127) rfl ?_
        refine A_stk (st' := [vI q13, vA 3]) rfl ?_
        refine A_putI rfl (Or.inl fl_Text_31) rfl (by decide) (Or.inl rfl) rfl ?_
        obtain ⟨M15, hM15, h⟩ := kM_out h
        refine A_mem hM15 ?_
        obtain ⟨rfl, rfl⟩ := leaf h
        exact A_vret rfl rfl
      · rw [if_neg hc12] at h
        refine A_pc (pc' := 111) rfl ?_
        refine A_aload_n 0 rfl rfl rfl ?_
        refine A_aload_n 0 rfl rfl rfl ?_
        obtain ⟨q16, M17, hcq16, h⟩ := bnd_out h
        refine A_callV (ci := 1) (as := []) (st' := [vA 3]) (r1 := (some (vI q16), M17)) rfl ml_Text_45 rfl (by decide) (by decide) (Or.inl rfl) rfl rfl (Nat.le_of_ble_eq_true rfl) (by decide) (c_Text_cutWord hcq16) (Or.inl rfl) ?_
        refine A_pc (pc' := 116) rfl ?_
        refine A_stk (st' := [vI q16, vA 3]) rfl ?_
        refine A_putI rfl (Or.inl fl_Text_31) rfl (by decide) (Or.inl rfl) rfl ?_
        obtain ⟨M18, hM18, h⟩ := kM_out h
        refine A_mem hM18 ?_
        refine A_goto (tgt := 130) rfl (by decide) ?_
        refine A_pc (pc' := 130) rfl ?_
        obtain ⟨rfl, rfl⟩ := leaf h
        exact A_vret rfl rfl
    · rw [if_neg hc8] at h
      refine A_pc (pc' := 85) rfl ?_
      refine A_aload_n 0 rfl rfl rfl ?_
      refine A_aload_n 0 rfl rfl rfl ?_
      obtain ⟨q19, M20, hcq19, h⟩ := bnd_out h
      refine A_callV (ci := 1) (as := []) (st' := [vA 3]) (r1 := (some (vI q19), M20)) rfl ml_Text_38 rfl (by decide) (by decide) (Or.inl rfl) rfl rfl (Nat.le_of_ble_eq_true rfl) (by decide) (c_Text_cutNumber hcq19) (Or.inl rfl) ?_
      refine A_pc (pc' := 90) rfl ?_
      refine A_stk (st' := [vI q19, vA 3]) rfl ?_
      refine A_putI rfl (Or.inl fl_Text_31) rfl (by decide) (Or.inl rfl) rfl ?_
      obtain ⟨M21, hM21, h⟩ := kM_out h
      refine A_mem hM21 ?_
      refine A_goto (tgt := 130) rfl (by decide) ?_
      refine A_pc (pc' := 130) rfl ?_
      obtain ⟨rfl, rfl⟩ := leaf h
      exact A_vret rfl rfl
  · rw [if_neg hc4] at h
    refine A_pc (pc' := 62) rfl ?_
    refine A_aload_n 0 rfl rfl rfl ?_
    refine A_iconst (v := 0) rfl (by decide) ?_
    refine A_putI rfl (Or.inl fl_Text_31) rfl (by decide) (Or.inl rfl) rfl ?_
    obtain ⟨M22, hM22, h⟩ := kM_out h
    refine A_mem hM22 ?_
    refine A_goto (tgt := 130) rfl (by decide) ?_
    obtain ⟨rfl, rfl⟩ := leaf h
    exact A_vret rfl rfl
def f_Text_cutNext_0_b (K0 : ax_M → Option (Unit × ax_M))  (M : ax_M) : Option (Unit × ax_M) :=
  if (gI M 3 1) ≤ (gI M 3 2) then (f_Text_cutNext_38  M) else (gi (gI M 3 2) 48 (if (gI M 4 (gI M 3 2).toNatClampNeg) = 32 then (kM (mI M 3 2 ((gI M 3 2) + 1)) (fun M29 => K0  M29)) else (f_Text_cutNext_38  M)))
def f_Text_cutNext_0 : Nat → ax_M → Option (Unit × ax_M)
  | 0, _ => none
  | n + 1, M => f_Text_cutNext_0_b  (f_Text_cutNext_0 n)  M
set_option maxHeartbeats 4000000 in
set_option maxRecDepth 100000 in
theorem o_Text_cutNext_0_b {l : Launch} {g : ax_G} (K0 : ax_M → Option (Unit × ax_M)) (hK0 : ∀  (M : ax_M) (r : Unit) (M' : ax_M), K0  M = some (r, M') → AW l g true Y_Text_cutNext 9 (none, M') 0 [(0, vA 3)] [] M)  (M : ax_M) (r : Unit) (M' : ax_M) (h : f_Text_cutNext_0_b  K0  M = some (r, M')) : AW l g true Y_Text_cutNext 9 (none, M') 0 [(0, vA 3)] [] M := by
  unfold f_Text_cutNext_0_b at h
  refine A_aload_n 0 rfl rfl rfl ?_
  refine A_getI rfl fl_Text_19 rfl (by decide) (Or.inl rfl) ?_
  refine A_aload_n 0 rfl rfl rfl ?_
  refine A_getI rfl fl_Text_15 rfl (by decide) (Or.inl rfl) ?_
  refine A_icmp_ge (tgt := 38) rfl (by decide) (fun hc26 => ?_) (fun hc26 => ?_)
  · rw [if_pos hc26] at h
    refine A_pc (pc' := 38) rfl ?_
    refine A_sub (Ls' := [(0, vA 3)]) [0] rfl ?_
    exact o_Text_cutNext_38   _ _ _ h
  · rw [if_neg hc26] at h
    refine A_pc (pc' := 11) rfl ?_
    refine A_aload_n 0 rfl rfl rfl ?_
    refine A_getL (r := 4) rfl fl_Text_9 rfl (by decide) rfl rfl ?_
    refine A_aload_n 0 rfl rfl rfl ?_
    refine A_getI rfl fl_Text_19 rfl (by decide) (Or.inl rfl) ?_
    obtain ⟨hg27, h⟩ := gi_out h
    refine A_cald (n := 48) rfl (by decide) (by decide) (Or.inl rfl) hg27 ?_
    refine A_pc (pc' := 20) rfl ?_
    refine A_bipush (v := 32) rfl (by decide) ?_
    refine A_icmp_ne (tgt := 38) rfl (by decide) (fun hc28 => ?_) (fun hc28 => ?_)
    · rw [if_neg hc28] at h
      refine A_pc (pc' := 38) rfl ?_
      refine A_sub (Ls' := [(0, vA 3)]) [0] rfl ?_
      exact o_Text_cutNext_38   _ _ _ h
    · rw [if_pos hc28] at h
      refine A_pc (pc' := 25) rfl ?_
      refine A_aload_n 0 rfl rfl rfl ?_
      refine A_dup rfl rfl ?_
      refine A_getI rfl fl_Text_19 rfl (by decide) (Or.inl rfl) ?_
      refine A_iconst (v := 1) rfl (by decide) ?_
      refine A_iadd rfl ?_
      refine A_pc (pc' := 32) rfl ?_
      refine A_putI rfl (Or.inl fl_Text_19) rfl (by decide) (Or.inl rfl) rfl ?_
      obtain ⟨M29, hM29, h⟩ := kM_out h
      refine A_mem hM29 ?_
      refine A_goto (tgt := 0) rfl (by decide) ?_
      refine A_pc (pc' := 0) rfl ?_
      refine A_sub (Ls' := [(0, vA 3)]) [0] rfl ?_
      exact hK0  _ _ _ h
theorem o_Text_cutNext_0 {l : Launch} {g : ax_G} : ∀ (n : Nat)  (M : ax_M) (r : Unit) (M' : ax_M), f_Text_cutNext_0  n  M = some (r, M') → AW l g true Y_Text_cutNext 9 (none, M') 0 [(0, vA 3)] [] M := by
  intro n
  induction n with
  | zero =>
    intro  M r M' h
    cases h
  | succ n ih =>
    intro  M r M' h
    exact o_Text_cutNext_0_b  _ ih  _ _ _ h
def f_Text_cutNext  (M : ax_M) : Option (Unit × ax_M) :=
  if (gI M 3 1) ≤ (gI M 3 2) then (f_Text_cutNext_38  M) else (gi (gI M 3 2) 48 (if (gI M 4 (gI M 3 2).toNatClampNeg) = 32 then (kM (mI M 3 2 ((gI M 3 2) + 1)) (fun M25 => f_Text_cutNext_0 64 M25)) else (f_Text_cutNext_38  M)))
set_option maxHeartbeats 4000000 in
set_option maxRecDepth 100000 in
theorem c_Text_cutNext {l : Launch} {g : ax_G}  {M : ax_M} {r : Unit} {M' : ax_M} (h : f_Text_cutNext  M = some (r, M')) : Ctr l g true Y_Text_cutNext 9 [vA 3] M (none, M') := by
  refine Ctr.ofAW yok_Text_cutNext (Nat.le_of_ble_eq_true rfl) (Or.inl rfl) ?_
  show AW l g true Y_Text_cutNext 9 (none, M') 0 [(0, vA 3)] [] M
  unfold f_Text_cutNext at h
  refine A_aload_n 0 rfl rfl rfl ?_
  refine A_getI rfl fl_Text_19 rfl (by decide) (Or.inl rfl) ?_
  refine A_aload_n 0 rfl rfl rfl ?_
  refine A_getI rfl fl_Text_15 rfl (by decide) (Or.inl rfl) ?_
  refine A_icmp_ge (tgt := 38) rfl (by decide) (fun hc1 => ?_) (fun hc1 => ?_)
  · rw [if_pos hc1] at h
    refine A_pc (pc' := 38) rfl ?_
    refine A_sub (Ls' := [(0, vA 3)]) [0] rfl ?_
    exact o_Text_cutNext_38   _ _ _ h
  · rw [if_neg hc1] at h
    refine A_pc (pc' := 11) rfl ?_
    refine A_aload_n 0 rfl rfl rfl ?_
    refine A_getL (r := 4) rfl fl_Text_9 rfl (by decide) rfl rfl ?_
    refine A_aload_n 0 rfl rfl rfl ?_
    refine A_getI rfl fl_Text_19 rfl (by decide) (Or.inl rfl) ?_
    obtain ⟨hg23, h⟩ := gi_out h
    refine A_cald (n := 48) rfl (by decide) (by decide) (Or.inl rfl) hg23 ?_
    refine A_pc (pc' := 20) rfl ?_
    refine A_bipush (v := 32) rfl (by decide) ?_
    refine A_icmp_ne (tgt := 38) rfl (by decide) (fun hc24 => ?_) (fun hc24 => ?_)
    · rw [if_neg hc24] at h
      refine A_pc (pc' := 38) rfl ?_
      refine A_sub (Ls' := [(0, vA 3)]) [0] rfl ?_
      exact o_Text_cutNext_38   _ _ _ h
    · rw [if_pos hc24] at h
      refine A_pc (pc' := 25) rfl ?_
      refine A_aload_n 0 rfl rfl rfl ?_
      refine A_dup rfl rfl ?_
      refine A_getI rfl fl_Text_19 rfl (by decide) (Or.inl rfl) ?_
      refine A_iconst (v := 1) rfl (by decide) ?_
      refine A_iadd rfl ?_
      refine A_pc (pc' := 32) rfl ?_
      refine A_putI rfl (Or.inl fl_Text_19) rfl (by decide) (Or.inl rfl) rfl ?_
      obtain ⟨M25, hM25, h⟩ := kM_out h
      refine A_mem hM25 ?_
      refine A_goto (tgt := 0) rfl (by decide) ?_
      refine A_pc (pc' := 0) rfl ?_
      refine A_sub (Ls' := [(0, vA 3)]) [0] rfl ?_
      exact o_Text_cutNext_0  _  _ _ _ h
