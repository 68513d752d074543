/-! Gate. Printed by gen_methods.py. -/
def tb_Gate_run : List (Nat × Instr × Nat) := [(0, .aload_n 0, 1), (1, .getfield 11, 3), (4, .iload_n 1, 1), (5, .aaload, 1), (6, .astore_n 3, 1), (7, .aload_n 0, 1), (8, .getfield 40, 3), (11, .getfield 90, 3), (14, .istore 4, 2), (16, .aload_n 0, 1), (17, .getfield 40, 3), (20, .getfield 95, 3), (23, .istore 5, 2), (25, .aload_n 0, 1), (26, .aload_n 3, 1), (27, .aload_n 0, 1), (28, .iload_n 1, 1), (29, .invokevirtual 98, 3), (32, .aload_n 0, 1), (33, .getfield 25, 3), (36, .iload_n 2, 1), (37, .aaload, 1), (38, .invokevirtual 102, 3), (41, .istore 6, 2), (43, .iload 6, 2), (45, .ifCond .ne 16, 3), (48, .aload_n 3, 1), (49, .iconst 5, 1), (50, .invokevirtual 106, 3), (53, .aload_n 0, 1), (54, .aload_n 3, 1), (55, .iload_n 2, 1), (56, .invokevirtual 110, 3), (59, .istore 6, 2), (61, .aload_n 0, 1), (62, .getfield 40, 3), (65, .iload 4, 2), (67, .iload 5, 2), (69, .invokevirtual 114, 3), (72, .iload 6, 2), (74, .ifCond .ne 16, 3), (77, .aload_n 0, 1), (78, .aload_n 3, 1), (79, .aload_n 0, 1), (80, .getfield 25, 3), (83, .iload_n 2, 1), (84, .aaload, 1), (85, .invokevirtual 118, 3), (88, .istore 6, 2), (90, .aload_n 3, 1), (91, .iload 6, 2), (93, .invokevirtual 106, 3), (96, .aload_n 0, 1), (97, .iload 6, 2), (99, .putfield 36, 3), (102, .iload 6, 2), (104, .ireturn, 1)]
def Y_Gate_run : ax_Y := (⟨"MethodWarden$Gate", "run", "(II)I"⟩, prog_4_method_6_code, 7, some .int, tb_Gate_run)
theorem yok_Gate_run : yOK Y_Gate_run := ⟨by decide +kernel, by decide +kernel, inWG 814 (by decide +kernel) (by decide +kernel), inWG 104 (by decide +kernel) (by decide +kernel), by decide +kernel⟩
def tb_Gate_prepare : List (Nat × Instr × Nat) := [(0, .aload_n 0, 1), (1, .iload_n 1, 1), (2, .putfield 55, 3), (5, .aload_n 0, 1), (6, .getfield 44, 3), (9, .iload_n 1, 1), (10, .lload_n 2, 1), (11, .invokevirtual 58, 3), (14, .aload_n 0, 1), (15, .getfield 25, 3), (18, .iconst 0, 1), (19, .aaload, 1), (20, .aload 4, 2), (22, .invokevirtual 64, 3), (25, .return_, 1)]
def Y_Gate_prepare : ax_Y := (⟨"MethodWarden$Gate", "prepare", "(IJLMethodWarden$Items;)V"⟩, prog_4_method_2_code, 5, none, tb_Gate_prepare)
theorem yok_Gate_prepare : yOK Y_Gate_prepare := ⟨by decide +kernel, by decide +kernel, inWG 802 (by decide +kernel) (by decide +kernel), inWG 104 (by decide +kernel) (by decide +kernel), by decide +kernel⟩
theorem fl_Gate_55 : fldOK "MethodWarden$Gate" 55 8 7 false := ⟨_, _, _, cls_Gate, by decide, by decide, rfl, Or.inl (inWG 391 (by decide +kernel) (by decide +kernel))⟩
theorem fl_Gate_44 : fldOK "MethodWarden$Gate" 44 8 1 true := ⟨_, _, _, cls_Gate, by decide, by decide, rfl, Or.inl (inWG 383 (by decide +kernel) (by decide +kernel))⟩
theorem fl_Gate_25 : fldOK "MethodWarden$Gate" 25 8 5 true := ⟨_, _, _, cls_Gate, by decide, by decide, rfl, Or.inl (inWG 389 (by decide +kernel) (by decide +kernel))⟩
theorem ml_Gate_58 : mlV "MethodWarden$Gate" 58 Y_Worker_setArguments 2 := ⟨⟨yok_Worker_setArguments, by decide +kernel, by decide⟩, Or.inl (inWG 803 (by decide +kernel) (by decide +kernel)), inWG 804 (by decide +kernel) (by decide +kernel), inWG 805 (by decide +kernel) (by decide +kernel)⟩
theorem ml_Gate_64 : mlV "MethodWarden$Gate" 64 Y_Items_copyFrom 1 := ⟨⟨yok_Items_copyFrom, by decide +kernel, by decide⟩, Or.inl (inWG 807 (by decide +kernel) (by decide +kernel)), inWG 808 (by decide +kernel) (by decide +kernel), inWG 809 (by decide +kernel) (by decide +kernel)⟩
def f_Gate_prepare (a1 : Int32) (a2 : Int64) (a3 : Nat) (M : ax_M) : Option (Unit × ax_M) :=
  kM (mI M 135 7 a1) (fun M1 => bnd (f_Worker_setArguments a1 a2 M1) (fun q2 M3 => kM (168 + 2 * (Int32.toNatClampNeg 0)) (fun r4 => bnd (f_Items_copyFrom r4 a3 M3) (fun q5 M6 => some ((), M6)))))
set_option maxHeartbeats 4000000 in
set_option maxRecDepth 100000 in
theorem c_Gate_prepare {l : Launch} {g : ax_G} {a1 : Int32} {a2 : Int64} {a3 : Nat} {M : ax_M} {r : Unit} {M' : ax_M} (h : f_Gate_prepare a1 a2 a3 M = some (r, M')) : Ctr l g true Y_Gate_prepare 2 [vA 135, vI a1, vJ a2, vA a3] M (none, M') := by
  refine Ctr.ofAW yok_Gate_prepare (Nat.le_of_ble_eq_true rfl) (Or.inl rfl) ?_
  show AW l g true Y_Gate_prepare 2 (none, M') 0 [(0, vA 135), (1, vI a1), (2, vJ a2), (4, vA a3)] [] M
  unfold f_Gate_prepare at h
  refine A_aload_n 0 rfl rfl rfl ?_
  refine A_iload_n 1 rfl rfl rfl ?_
  refine A_putI rfl (Or.inl fl_Gate_55) rfl (by decide) (Or.inl rfl) rfl ?_
  obtain ⟨M1, hM1, h⟩ := kM_out h
  refine A_mem hM1 ?_
  refine A_aload_n 0 rfl rfl rfl ?_
  refine A_getL (r := 68) rfl fl_Gate_44 rfl (by decide) rfl rfl ?_
  refine A_pc (pc' := 9) rfl ?_
  refine A_iload_n 1 rfl rfl rfl ?_
  refine A_lload_n 2 rfl rfl rfl ?_
  obtain ⟨q2, M3, hcq2, h⟩ := bnd_out h
  refine A_callV (ci := 6) (as := [vI a1, vJ a2]) (st' := []) (r1 := (none, M3)) rfl ml_Gate_58 rfl (by decide) (by decide) (Or.inl rfl) rfl rfl (Nat.le_of_ble_eq_true rfl) (by decide) (c_Worker_setArguments hcq2) (Or.inl rfl) ?_
  refine A_pc (pc' := 14) rfl ?_
  refine A_stk (st' := []) rfl ?_
  refine A_aload_n 0 rfl rfl rfl ?_
  refine A_getL (r := 138) rfl fl_Gate_25 rfl (by decide) rfl rfl ?_
  refine A_iconst (v := 0) rfl (by decide) ?_
  refine A_pc (pc' := 19) rfl ?_
  refine A_aldL (t := 8) (C := "MethodWarden$Items") (n := 8) (r := 168 + 2 * (Int32.toNatClampNeg 0)) rfl (by decide) ⟨by decide, by decide, rfl⟩ (by decide) (show vp_in 0 8 from by unfold vp_in; decide) rfl rfl ?_
  obtain ⟨r4, hr4, h⟩ := kM_out h
  refine A_nA hr4 ?_
  refine A_aload 3 rfl rfl ?_
  obtain ⟨q5, M6, hcq5, h⟩ := bnd_out h
  refine A_callV (ci := 5) (as := [vA a3]) (st' := []) (r1 := (none, M6)) rfl ml_Gate_64 rfl (by decide) (hr4 ▸ (la_108 _ (vin_lt (show vp_in 0 8 from by unfold vp_in; decide)))) (Or.inl rfl) rfl rfl (Nat.le_of_ble_eq_true rfl) (by decide) (c_Items_copyFrom hcq5) (Or.inl rfl) ?_
  refine A_pc (pc' := 25) rfl ?_
  refine A_stk (st' := []) rfl ?_
  obtain ⟨rfl, rfl⟩ := leaf h
  exact A_vret rfl rfl
def tb_Gate_latestKind : List (Nat × Instr × Nat) := [(0, .aload_n 0, 1), (1, .getfield 36, 3), (4, .ifCond .eq 5, 3), (7, .iconst (-1), 1), (8, .ireturn, 1), (9, .aload_n 0, 1), (10, .getfield 32, 3), (13, .invokevirtual 68, 3), (16, .ifCond .eq 5, 3), (19, .iconst 0, 1), (20, .ireturn, 1), (21, .aload_n 0, 1), (22, .getfield 32, 3), (25, .invokevirtual 72, 3), (28, .ifCond .eq 7, 3), (31, .iconst 2, 1), (32, .goto 4, 3), (35, .iconst 1, 1), (36, .ireturn, 1)]
def Y_Gate_latestKind : ax_Y := (⟨"MethodWarden$Gate", "latestKind", "()I"⟩, prog_4_method_3_code, 1, some .int, tb_Gate_latestKind)
theorem yok_Gate_latestKind : yOK Y_Gate_latestKind := ⟨by decide +kernel, by decide +kernel, inWG 1039 (by decide +kernel) (by decide +kernel), inWG 104 (by decide +kernel) (by decide +kernel), by decide +kernel⟩
theorem fl_Gate_36 : fldOK "MethodWarden$Gate" 36 8 9 false := ⟨_, _, _, cls_Gate, by decide, by decide, rfl, Or.inl (inWG 393 (by decide +kernel) (by decide +kernel))⟩
theorem fl_Gate_32 : fldOK "MethodWarden$Gate" 32 8 6 true := ⟨_, _, _, cls_Gate, by decide, by decide, rfl, Or.inl (inWG 390 (by decide +kernel) (by decide +kernel))⟩
theorem ml_Gate_68 : mlV "MethodWarden$Gate" 68 Y_Val_isNothing 0 := ⟨⟨yok_Val_isNothing, by decide +kernel, by decide⟩, Or.inl (inWG 1030 (by decide +kernel) (by decide +kernel)), inWG 879 (by decide +kernel) (by decide +kernel), inWG 880 (by decide +kernel) (by decide +kernel)⟩
theorem ml_Gate_72 : mlV "MethodWarden$Gate" 72 Y_Val_isList 0 := ⟨⟨yok_Val_isList, by decide +kernel, by decide⟩, Or.inl (inWG 1031 (by decide +kernel) (by decide +kernel)), inWG 887 (by decide +kernel) (by decide +kernel), inWG 888 (by decide +kernel) (by decide +kernel)⟩
def f_Gate_latestKind  (M : ax_M) : Option (Int32 × ax_M) :=
  if (gI M 135 9) = 0 then (bnd (f_Val_isNothing 139 M) (fun q2 M3 => if q2 = 0 then (bnd (f_Val_isList 139 M3) (fun q5 M6 => if q5 = 0 then (some (1, M6)) else (some (2, M6)))) else (some (0, M3)))) else (some ((-1), M))
set_option maxHeartbeats 4000000 in
set_option maxRecDepth 100000 in
theorem c_Gate_latestKind {l : Launch} {g : ax_G}  {M : ax_M} {r : Int32} {M' : ax_M} (h : f_Gate_latestKind  M = some (r, M')) : Ctr l g true Y_Gate_latestKind 2 [vA 135] M (some (vI r), M') := by
  refine Ctr.ofAW yok_Gate_latestKind (Nat.le_of_ble_eq_true rfl) (Or.inl rfl) ?_
  show AW l g true Y_Gate_latestKind 2 (some (vI r), M') 0 [(0, vA 135)] [] M
  unfold f_Gate_latestKind at h
  refine A_aload_n 0 rfl rfl rfl ?_
  refine A_getI rfl fl_Gate_36 rfl (by decide) (Or.inl rfl) ?_
  refine A_if_eq (tgt := 9) rfl (by decide) (fun hc1 => ?_) (fun hc1 => ?_)
  · rw [if_pos hc1] at h
    refine A_aload_n 0 rfl rfl rfl ?_
    refine A_getL (r := 139) rfl fl_Gate_32 rfl (by decide) rfl rfl ?_
    obtain ⟨q2, M3, hcq2, h⟩ := bnd_out h
    refine A_callV (ci := 7) (as := []) (st' := []) (r1 := (some (vI q2), M3)) rfl ml_Gate_68 rfl (by decide) (by decide) (Or.inl rfl) rfl rfl (Nat.le_of_ble_eq_true rfl) (by decide) (c_Val_isNothing hcq2) (Or.inl rfl) ?_
    refine A_pc (pc' := 16) rfl ?_
    refine A_stk (st' := [vI q2]) rfl ?_
    refine A_if_eq (tgt := 21) rfl (by decide) (fun hc4 => ?_) (fun hc4 => ?_)
    · rw [if_pos hc4] at h
      refine A_aload_n 0 rfl rfl rfl ?_
      refine A_getL (r := 139) rfl fl_Gate_32 rfl (by decide) rfl rfl ?_
      obtain ⟨q5, M6, hcq5, h⟩ := bnd_out h
      refine A_callV (ci := 7) (as := []) (st' := []) (r1 := (some (vI q5), M6)) rfl ml_Gate_72 rfl (by decide) (by decide) (Or.inl rfl) rfl rfl (Nat.le_of_ble_eq_true rfl) (by decide) (c_Val_isList hcq5) (Or.inl rfl) ?_
      refine A_pc (pc' := 28) rfl ?_
      refine A_stk (st' := [vI q5]) rfl ?_
      refine A_if_eq (tgt := 35) rfl (by decide) (fun hc7 => ?_) (fun hc7 => ?_)
      · rw [if_pos hc7] at h
        refine A_iconst (v := 1) rfl (by decide) ?_
        obtain ⟨rfl, rfl⟩ := leaf h
        exact A_iret rfl rfl
      · rw [if_neg hc7] at h
        refine A_pc (pc' := 31) rfl ?_
        refine A_iconst (v := 2) rfl (by decide) ?_
        refine A_goto (tgt := 36) rfl (by decide) ?_
        obtain ⟨rfl, rfl⟩ := leaf h
        exact A_iret rfl rfl
    · rw [if_neg hc4] at h
      refine A_pc (pc' := 19) rfl ?_
      refine A_iconst (v := 0) rfl (by decide) ?_
      obtain ⟨rfl, rfl⟩ := leaf h
      exact A_iret rfl rfl
  · rw [if_neg hc1] at h
    refine A_pc (pc' := 7) rfl ?_
    refine A_iconst (v := (-1)) rfl (by decide) ?_
    obtain ⟨rfl, rfl⟩ := leaf h
    exact A_iret rfl rfl
def tb_Gate_latestNumber : List (Nat × Instr × Nat) := [(0, .aload_n 0, 1), (1, .getfield 36, 3), (4, .iconst 1, 1), (5, .if_icmp .ne 8, 3), (8, .aload_n 0, 1), (9, .getfield 75, 3), (12, .ireturn, 1), (13, .aload_n 0, 1), (14, .getfield 36, 3), (17, .ifCond .ne 14, 3), (20, .aload_n 0, 1), (21, .getfield 32, 3), (24, .invokevirtual 78, 3), (27, .l2i, 1), (28, .goto 4, 3), (31, .iconst 0, 1), (32, .ireturn, 1)]
def Y_Gate_latestNumber : ax_Y := (⟨"MethodWarden$Gate", "latestNumber", "()I"⟩, prog_4_method_4_code, 1, some .int, tb_Gate_latestNumber)
theorem yok_Gate_latestNumber : yOK Y_Gate_latestNumber := ⟨by decide +kernel, by decide +kernel, inWG 1047 (by decide +kernel) (by decide +kernel), inWG 104 (by decide +kernel) (by decide +kernel), by decide +kernel⟩
theorem fl_Gate_75 : fldOK "MethodWarden$Gate" 75 8 8 false := ⟨_, _, _, cls_Gate, by decide, by decide, rfl, Or.inl (inWG 392 (by decide +kernel) (by decide +kernel))⟩
theorem ml_Gate_78 : mlV "MethodWarden$Gate" 78 Y_Val_asLong 0 := ⟨⟨yok_Val_asLong, by decide +kernel, by decide⟩, Or.inl (inWG 1048 (by decide +kernel) (by decide +kernel)), inWG 1049 (by decide +kernel) (by decide +kernel), inWG 1050 (by decide +kernel) (by decide +kernel)⟩
def f_Gate_latestNumber  (M : ax_M) : Option (Int32 × ax_M) :=
  if (gI M 135 9) = 1 then (some (gI M 135 8, M)) else (if (gI M 135 9) = 0 then (bnd (f_Val_asLong 139 M) (fun q3 M4 => some (Int64.toInt32 q3, M4))) else (some (0, M)))
set_option maxHeartbeats 4000000 in
set_option maxRecDepth 100000 in
theorem c_Gate_latestNumber {l : Launch} {g : ax_G}  {M : ax_M} {r : Int32} {M' : ax_M} (h : f_Gate_latestNumber  M = some (r, M')) : Ctr l g true Y_Gate_latestNumber 2 [vA 135] M (some (vI r), M') := by
  refine Ctr.ofAW yok_Gate_latestNumber (Nat.le_of_ble_eq_true rfl) (Or.inl rfl) ?_
  show AW l g true Y_Gate_latestNumber 2 (some (vI r), M') 0 [(0, vA 135)] [] M
  unfold f_Gate_latestNumber at h
  refine A_aload_n 0 rfl rfl rfl ?_
  refine A_getI rfl fl_Gate_36 rfl (by decide) (Or.inl rfl) ?_
  refine A_iconst (v := 1) rfl (by decide) ?_
  refine A_icmp_ne (tgt := 13) rfl (by decide) (fun hc1 => ?_) (fun hc1 => ?_)
  · rw [if_neg hc1] at h
    refine A_aload_n 0 rfl rfl rfl ?_
    refine A_getI rfl fl_Gate_36 rfl (by decide) (Or.inl rfl) ?_
    refine A_if_ne (tgt := 31) rfl (by decide) (fun hc2 => ?_) (fun hc2 => ?_)
    · rw [if_neg hc2] at h
      refine A_iconst (v := 0) rfl (by decide) ?_
      obtain ⟨rfl, rfl⟩ := leaf h
      exact A_iret rfl rfl
    · rw [if_pos hc2] at h
      refine A_pc (pc' := 20) rfl ?_
      refine A_aload_n 0 rfl rfl rfl ?_
      refine A_getL (r := 139) rfl fl_Gate_32 rfl (by decide) rfl rfl ?_
      obtain ⟨q3, M4, hcq3, h⟩ := bnd_out h
      refine A_callV (ci := 7) (as := []) (st' := []) (r1 := (some (vJ q3), M4)) rfl ml_Gate_78 rfl (by decide) (by decide) (Or.inl rfl) rfl rfl (Nat.le_of_ble_eq_true rfl) (by decide) (c_Val_asLong hcq3) (Or.inl rfl) ?_
      refine A_pc (pc' := 27) rfl ?_
      refine A_stk (st' := [vJ q3]) rfl ?_
      refine A_l2i rfl ?_
      refine A_goto (tgt := 32) rfl (by decide) ?_
      refine A_pc (pc' := 32) rfl ?_
      obtain ⟨rfl, rfl⟩ := leaf h
      exact A_iret rfl rfl
  · rw [if_pos hc1] at h
    refine A_pc (pc' := 8) rfl ?_
    refine A_aload_n 0 rfl rfl rfl ?_
    refine A_getI rfl fl_Gate_75 rfl (by decide) (Or.inl rfl) ?_
    obtain ⟨rfl, rfl⟩ := leaf h
    exact A_iret rfl rfl
def tb_Gate_latestItem : List (Nat × Instr × Nat) := [(0, .aload_n 0, 1), (1, .getfield 36, 3), (4, .ifCond .ne 27, 3), (7, .aload_n 0, 1), (8, .getfield 32, 3), (11, .invokevirtual 72, 3), (14, .ifCond .eq 17, 3), (17, .aload_n 0, 1), (18, .getfield 32, 3), (21, .getfield 82, 3), (24, .iload_n 1, 1), (25, .invokevirtual 86, 3), (28, .goto 4, 3), (31, .iconst 0, 1), (32, .ireturn, 1)]
def Y_Gate_latestItem : ax_Y := (⟨"MethodWarden$Gate", "latestItem", "(I)I"⟩, prog_4_method_5_code, 2, some .int, tb_Gate_latestItem)
theorem yok_Gate_latestItem : yOK Y_Gate_latestItem := ⟨by decide +kernel, by decide +kernel, inWG 1059 (by decide +kernel) (by decide +kernel), inWG 104 (by decide +kernel) (by decide +kernel), by decide +kernel⟩
theorem fl_Gate_82 : fldOK "MethodWarden$Gate" 82 7 2 true := ⟨_, _, _, cls_Val, by decide, by decide, rfl, Or.inr ⟨"MethodWarden", inNW 275 (by decide +kernel) (by decide +kernel)⟩⟩
theorem ml_Gate_86 : mlV "MethodWarden$Gate" 86 Y_Items_get 1 := ⟨⟨yok_Items_get, by decide +kernel, by decide⟩, Or.inl (inWG 1060 (by decide +kernel) (by decide +kernel)), inWG 847 (by decide +kernel) (by decide +kernel), inWG 848 (by decide +kernel) (by decide +kernel)⟩
def f_Gate_latestItem (a1 : Int32) (M : ax_M) : Option (Int32 × ax_M) :=
  if (gI M 135 9) = 0 then (bnd (f_Val_isList 139 M) (fun q2 M3 => if q2 = 0 then (some (0, M3)) else (bnd (f_Items_get 140 a1 M3) (fun q5 M6 => some (q5, M6))))) else (some (0, M))
set_option maxHeartbeats 4000000 in
set_option maxRecDepth 100000 in
theorem c_Gate_latestItem {l : Launch} {g : ax_G} {a1 : Int32} {M : ax_M} {r : Int32} {M' : ax_M} (h : f_Gate_latestItem a1 M = some (r, M')) : Ctr l g true Y_Gate_latestItem 2 [vA 135, vI a1] M (some (vI r), M') := by
  refine Ctr.ofAW yok_Gate_latestItem (Nat.le_of_ble_eq_true rfl) (Or.inl rfl) ?_
  show AW l g true Y_Gate_latestItem 2 (some (vI r), M') 0 [(0, vA 135), (1, vI a1)] [] M
  unfold f_Gate_latestItem at h
  refine A_aload_n 0 rfl rfl rfl ?_
  refine A_getI rfl fl_Gate_36 rfl (by decide) (Or.inl rfl) ?_
  refine A_if_ne (tgt := 31) rfl (by decide) (fun hc1 => ?_) (fun hc1 => ?_)
  · rw [if_neg hc1] at h
    refine A_iconst (v := 0) rfl (by decide) ?_
    obtain ⟨rfl, rfl⟩ := leaf h
    exact A_iret rfl rfl
  · rw [if_pos hc1] at h
    refine A_pc (pc' := 7) rfl ?_
    refine A_aload_n 0 rfl rfl rfl ?_
    refine A_getL (r := 139) rfl fl_Gate_32 rfl (by decide) rfl rfl ?_
    obtain ⟨q2, M3, hcq2, h⟩ := bnd_out h
    refine A_callV (ci := 7) (as := []) (st' := []) (r1 := (some (vI q2), M3)) rfl ml_Gate_72 rfl (by decide) (by decide) (Or.inl rfl) rfl rfl (Nat.le_of_ble_eq_true rfl) (by decide) (c_Val_isList hcq2) (Or.inl rfl) ?_
    refine A_pc (pc' := 14) rfl ?_
    refine A_stk (st' := [vI q2]) rfl ?_
    refine A_if_eq (tgt := 31) rfl (by decide) (fun hc4 => ?_) (fun hc4 => ?_)
    · rw [if_pos hc4] at h
      refine A_iconst (v := 0) rfl (by decide) ?_
      obtain ⟨rfl, rfl⟩ := leaf h
      exact A_iret rfl rfl
    · rw [if_neg hc4] at h
      refine A_pc (pc' := 17) rfl ?_
      refine A_aload_n 0 rfl rfl rfl ?_
      refine A_getL (r := 139) rfl fl_Gate_32 rfl (by decide) rfl rfl ?_
      refine A_getL (r := 140) rfl fl_Gate_82 rfl (by decide) rfl rfl ?_
      refine A_iload_n 1 rfl rfl rfl ?_
      obtain ⟨q5, M6, hcq5, h⟩ := bnd_out h
      refine A_callV (ci := 5) (as := [vI a1]) (st' := []) (r1 := (some (vI q5), M6)) rfl ml_Gate_86 rfl (by decide) (by decide) (Or.inl rfl) rfl rfl (Nat.le_of_ble_eq_true rfl) (by decide) (c_Items_get hcq5) (Or.inl rfl) ?_
      refine A_pc (pc' := 28) rfl ?_
      refine A_stk (st' := [vI q5]) rfl ?_
      refine A_pc (pc' := 28) rfl ?_
      refine A_goto (tgt := 32) rfl (by decide) ?_
      obtain ⟨rfl, rfl⟩ := leaf h
      exact A_iret rfl rfl
def tb_Gate_guardOf : List (Nat × Instr × Nat) := [(0, .aload_n 0, 1), (1, .getfield 19, 3), (4, .iload_n 1, 1), (5, .aaload, 1), (6, .invokevirtual 122, 3), (9, .ifCond .eq 12, 3), (12, .aload_n 0, 1), (13, .getfield 19, 3), (16, .iload_n 1, 1), (17, .aaload, 1), (18, .goto 14, 3), (21, .aload_n 0, 1), (22, .getfield 19, 3), (25, .bipush 8, 2), (27, .iload_n 1, 1), (28, .iconst 4, 1), (29, .idiv, 1), (30, .iadd, 1), (31, .aaload, 1), (32, .areturn, 1)]
def Y_Gate_guardOf : ax_Y := (⟨"MethodWarden$Gate", "guardOf", "(I)LMethodWarden$Guard;"⟩, prog_4_method_7_code, 2, some (.object "MethodWarden$Guard"), tb_Gate_guardOf)
theorem yok_Gate_guardOf : yOK Y_Gate_guardOf := ⟨by decide +kernel, by decide +kernel, inWG 818 (by decide +kernel) (by decide +kernel), inWG 104 (by decide +kernel) (by decide +kernel), by decide +kernel⟩
theorem fl_Gate_19 : fldOK "MethodWarden$Gate" 19 8 4 true := ⟨_, _, _, cls_Gate, by decide, by decide, rfl, Or.inl (inWG 387 (by decide +kernel) (by decide +kernel))⟩
theorem ml_Gate_122 : mlV "MethodWarden$Gate" 122 Y_Guard_isThere 0 := ⟨⟨yok_Guard_isThere, by decide +kernel, by decide⟩, Or.inl (inWG 819 (by decide +kernel) (by decide +kernel)), inWG 766 (by decide +kernel) (by decide +kernel), inWG 767 (by decide +kernel) (by decide +kernel)⟩
def f_Gate_guardOf (a1 : Int32) (M : ax_M) : Option (Nat × ax_M) :=
  gi a1 10 (kM (158 + a1.toNatClampNeg) (fun r2 => bnd (f_Guard_isThere r2 M) (fun q3 M4 => if q3 = 0 then (gi (8 + (a1 / 4)) 10 (kM (158 + (8 + (a1 / 4)).toNatClampNeg) (fun r7 => some (r7, M4)))) else (kM (158 + a1.toNatClampNeg) (fun r8 => some (r8, M4))))))
set_option maxHeartbeats 4000000 in
set_option maxRecDepth 100000 in
theorem c_Gate_guardOf {l : Launch} {g : ax_G} {a1 : Int32} {M : ax_M} {r : Nat} {M' : ax_M} (h : f_Gate_guardOf a1 M = some (r, M')) : Ctr l g true Y_Gate_guardOf 2 [vA 135, vI a1] M (some (vA r), M') := by
  refine Ctr.ofAW yok_Gate_guardOf (Nat.le_of_ble_eq_true rfl) (Or.inl rfl) ?_
  show AW l g true Y_Gate_guardOf 2 (some (vA r), M') 0 [(0, vA 135), (1, vI a1)] [] M
  unfold f_Gate_guardOf at h
  refine A_aload_n 0 rfl rfl rfl ?_
  refine A_getL (r := 137) rfl fl_Gate_19 rfl (by decide) rfl rfl ?_
  refine A_iload_n 1 rfl rfl rfl ?_
  obtain ⟨hg1, h⟩ := gi_out h
  refine A_aldL (t := 7) (C := "MethodWarden$Guard") (n := 10) (r := 158 + a1.toNatClampNeg) rfl (by decide) ⟨by decide, by decide, rfl⟩ (by decide) hg1 rfl rfl ?_
  obtain ⟨r2, hr2, h⟩ := kM_out h
  refine A_nA hr2 ?_
  obtain ⟨q3, M4, hcq3, h⟩ := bnd_out h
  refine A_callV (ci := 10) (as := []) (st' := []) (r1 := (some (vI q3), M4)) rfl ml_Gate_122 rfl (by decide) (hr2 ▸ (la_107 _ (vin_lt hg1))) (Or.inl rfl) rfl rfl (Nat.le_of_ble_eq_true rfl) (by decide) (c_Guard_isThere hcq3) (Or.inl rfl) ?_
  refine A_pc (pc' := 9) rfl ?_
  refine A_stk (st' := [vI q3]) rfl ?_
  refine A_pc (pc' := 9) rfl ?_
  refine A_if_eq (tgt := 21) rfl (by decide) (fun hc5 => ?_) (fun hc5 => ?_)
  · rw [if_pos hc5] at h
    refine A_aload_n 0 rfl rfl rfl ?_
    refine A_getL (r := 137) rfl fl_Gate_19 rfl (by decide) rfl rfl ?_
    refine A_bipush (v := 8) rfl (by decide) ?_
    refine A_iload_n 1 rfl rfl rfl ?_
    refine A_iconst (v := 4) rfl (by decide) ?_
    refine A_pc (pc' := 29) rfl ?_
    refine A_idiv rfl (by decide) ?_
    refine A_iadd rfl ?_
    obtain ⟨hg6, h⟩ := gi_out h
    refine A_aldL (t := 7) (C := "MethodWarden$Guard") (n := 10) (r := 158 + (8 + (a1 / 4)).toNatClampNeg) rfl (by decide) ⟨by decide, by decide, rfl⟩ (by decide) hg6 rfl rfl ?_
    obtain ⟨r7, hr7, h⟩ := kM_out h
    refine A_nA hr7 ?_
    obtain ⟨rfl, rfl⟩ := leaf h
    exact A_aret rfl rfl
  · rw [if_neg hc5] at h
    refine A_pc (pc' := 12) rfl ?_
    refine A_aload_n 0 rfl rfl rfl ?_
    refine A_getL (r := 137) rfl fl_Gate_19 rfl (by decide) rfl rfl ?_
    refine A_iload_n 1 rfl rfl rfl ?_
    refine A_aldL (t := 7) (C := "MethodWarden$Guard") (n := 10) (r := 158 + a1.toNatClampNeg) rfl (by decide) ⟨by decide, by decide, rfl⟩ (by decide) hg1 rfl rfl ?_
    obtain ⟨r8, hr8, h⟩ := kM_out h
    refine A_nA hr8 ?_
    refine A_goto (tgt := 32) rfl (by decide) ?_
    refine A_pc (pc' := 32) rfl ?_
    obtain ⟨rfl, rfl⟩ := leaf h
    exact A_aret rfl rfl
def tb_Gate_letIn : List (Nat × Instr × Nat) := [(0, .aload_n 0, 1), (1, .getfield 40, 3), (4, .invokevirtual 125, 3), (7, .ifCond .eq 19, 3), (10, .aload_n 2, 1), (11, .invokevirtual 128, 3), (14, .ifCond .ne 10, 3), (17, .aload_n 1, 1), (18, .invokevirtual 131, 3), (21, .ifCond .eq 5, 3), (24, .iconst 3, 1), (25, .ireturn, 1), (26, .aload_n 0, 1), (27, .getfield 44, 3), (30, .aload_n 3, 1), (31, .aconst_null, 1), (32, .invokevirtual 134, 3), (35, .aload_n 1, 1), (36, .getfield 138, 3), (39, .iconst (-1), 1), (40, .if_icmp .eq 25, 3), (43, .aload_n 0, 1), (44, .getfield 44, 3), (47, .aload_n 0, 1), (48, .getfield 48, 3), (51, .aload_n 1, 1), (52, .getfield 138, 3), (55, .aaload, 1), (56, .aload_n 3, 1), (57, .invokevirtual 141, 3), (60, .ifCond .ne 5, 3), (63, .iconst 2, 1), (64, .ireturn, 1), (65, .aload_n 2, 1), (66, .getfield 145, 3), (69, .iconst 4, 1), (70, .if_icmp .ne 25, 3), (73, .aload_n 0, 1), (74, .getfield 44, 3), (77, .aload_n 0, 1), (78, .getfield 48, 3), (81, .aload_n 2, 1), (82, .getfield 148, 3), (85, .aaload, 1), (86, .invokevirtual 151, 3), (89, .invokevirtual 155, 3), (92, .goto 14, 3), (95, .aload_n 2, 1), (96, .aload_n 0, 1), (97, .getfield 40, 3), (100, .invokevirtual 158, 3), (103, .invokevirtual 162, 3), (106, .istore 4, 2), (108, .iload 4, 2), (110, .ifCond .eq 7, 3), (113, .iconst 0, 1), (114, .goto 4, 3), (117, .iconst 2, 1), (118, .ireturn, 1)]
def Y_Gate_letIn : ax_Y := (⟨"MethodWarden$Gate", "letIn", "(LMethodWarden$Method;LMethodWarden$Guard;LMethodWarden$Items;)I"⟩, prog_4_method_8_code, 5, some .int, tb_Gate_letIn)
theorem yok_Gate_letIn : yOK Y_Gate_letIn := ⟨by decide +kernel, by decide +kernel, inWG 823 (by decide +kernel) (by decide +kernel), inWG 104 (by decide +kernel) (by decide +kernel), by decide +kernel⟩
theorem fl_Gate_40 : fldOK "MethodWarden$Gate" 40 8 0 true := ⟨_, _, _, cls_Gate, by decide, by decide, rfl, Or.inl (inWG 382 (by decide +kernel) (by decide +kernel))⟩
theorem fl_Gate_138 : fldOK "MethodWarden$Gate" 138 9 0 false := ⟨_, _, _, cls_Meth, by decide, by decide, rfl, Or.inr ⟨"MethodWarden", inNW 340 (by decide +kernel) (by decide +kernel)⟩⟩
theorem fl_Gate_145 : fldOK "MethodWarden$Gate" 145 10 0 false := ⟨_, _, _, cls_Guard, by decide, by decide, rfl, Or.inr ⟨"MethodWarden", inNW 373 (by decide +kernel) (by decide +kernel)⟩⟩
theorem fl_Gate_48 : fldOK "MethodWarden$Gate" 48 8 2 true := ⟨_, _, _, cls_Gate, by decide, by decide, rfl, Or.inl (inWG 384 (by decide +kernel) (by decide +kernel))⟩
theorem fl_Gate_148 : fldOK "MethodWarden$Gate" 148 10 1 false := ⟨_, _, _, cls_Guard, by decide, by decide, rfl, Or.inr ⟨"MethodWarden", inNW 375 (by decide +kernel) (by decide +kernel)⟩⟩
theorem ml_Gate_125 : mlV "MethodWarden$Gate" 125 Y_Ctx_isNobody 0 := ⟨⟨yok_Ctx_isNobody, by decide +kernel, by decide⟩, Or.inl (inWG 824 (by decide +kernel) (by decide +kernel)), inWG 721 (by decide +kernel) (by decide +kernel), inWG 722 (by decide +kernel) (by decide +kernel)⟩
theorem ml_Gate_134 : mlV "MethodWarden$Gate" 134 Y_Worker_setLists 2 := ⟨⟨yok_Worker_setLists, by decide +kernel, by decide⟩, Or.inl (inWG 833 (by decide +kernel) (by decide +kernel)), inWG 834 (by decide +kernel) (by decide +kernel), inWG 835 (by decide +kernel) (by decide +kernel)⟩
theorem ml_Gate_158 : mlV "MethodWarden$Gate" 158 Y_Ctx_reachable 0 := ⟨⟨yok_Ctx_reachable, by decide +kernel, by decide⟩, Or.inl (inWG 989 (by decide +kernel) (by decide +kernel)), inWG 726 (by decide +kernel) (by decide +kernel), inWG 727 (by decide +kernel) (by decide +kernel)⟩
theorem ml_Gate_162 : mlV "MethodWarden$Gate" 162 Y_Guard_opensTo 1 := ⟨⟨yok_Guard_opensTo, by decide +kernel, by decide⟩, Or.inl (inWG 990 (by decide +kernel) (by decide +kernel)), inWG 991 (by decide +kernel) (by decide +kernel), inWG 992 (by decide +kernel) (by decide +kernel)⟩
theorem ml_Gate_151 : mlV "MethodWarden$Gate" 151 Y_Worker_workOut 1 := ⟨⟨yok_Worker_workOut, by decide +kernel, by decide⟩, Or.inl (inWG 984 (by decide +kernel) (by decide +kernel)), inWG 985 (by decide +kernel) (by decide +kernel), inWG 986 (by decide +kernel) (by decide +kernel)⟩
theorem ml_Gate_155 : mlV "MethodWarden$Gate" 155 Y_Val_isTrue 0 := ⟨⟨yok_Val_isTrue, by decide +kernel, by decide⟩, Or.inl (inWG 988 (by decide +kernel) (by decide +kernel)), inWG 867 (by decide +kernel) (by decide +kernel), inWG 868 (by decide +kernel) (by decide +kernel)⟩
theorem ml_Gate_141 : mlV "MethodWarden$Gate" 141 Y_Worker_filter 2 := ⟨⟨yok_Worker_filter, by decide +kernel, by decide⟩, Or.inl (inWG 837 (by decide +kernel) (by decide +kernel)), inWG 838 (by decide +kernel) (by decide +kernel), inWG 839 (by decide +kernel) (by decide +kernel)⟩
theorem ml_Gate_128 : mlV "MethodWarden$Gate" 128 Y_Guard_watches 0 := ⟨⟨yok_Guard_watches, by decide +kernel, by decide⟩, Or.inl (inWG 825 (by decide +kernel) (by decide +kernel)), inWG 826 (by decide +kernel) (by decide +kernel), inWG 827 (by decide +kernel) (by decide +kernel)⟩
theorem ml_Gate_131 : mlV "MethodWarden$Gate" 131 Y_Meth_hasRule 0 := ⟨⟨yok_Meth_hasRule, by decide +kernel, by decide⟩, Or.inl (inWG 829 (by decide +kernel) (by decide +kernel)), inWG 830 (by decide +kernel) (by decide +kernel), inWG 831 (by decide +kernel) (by decide +kernel)⟩
def f_Gate_letIn_65 (l2 : Nat) (M : ax_M) : Option (Int32 × ax_M) :=
  gk l2 10 (if (gI M l2 0) = 4 then (gi (gI M l2 1) 8 (kM (gA M 8 (gI M l2 1).toNatClampNeg) (fun r16 => bnd (f_Worker_workOut r16 M) (fun q17 M18 => gk q17 7 (bnd (f_Val_isTrue q17 M18) (fun q20 M21 => if q20 = 0 then (some (2, M21)) else (some (0, M21)))))))) else (bnd (f_Ctx_reachable  M) (fun q10 M11 => bnd (f_Guard_opensTo l2 q10 M11) (fun q12 M13 => if q12 = 0 then (some (2, M13)) else (some (0, M13))))))
set_option maxHeartbeats 4000000 in
set_option maxRecDepth 100000 in
theorem o_Gate_letIn_65 {l : Launch} {g : ax_G} (l2 : Nat) (M : ax_M) (r : Int32) (M' : ax_M) (h : f_Gate_letIn_65  l2 M = some (r, M')) : AW l g true Y_Gate_letIn 98 (some (vI r), M') 65 [(0, vA 135), (2, vA l2)] [] M := by
  unfold f_Gate_letIn_65 at h
  refine A_aload_n 1 rfl rfl rfl ?_
  obtain ⟨hg8, h⟩ := gk_out h
  refine A_getI rfl fl_Gate_145 rfl hg8 (Or.inl rfl) ?_
  refine A_iconst (v := 4) rfl (by decide) ?_
  refine A_icmp_ne (tgt := 95) rfl (by decide) (fun hc9 => ?_) (fun hc9 => ?_)
  · rw [if_neg hc9] at h
    refine A_aload_n 1 rfl rfl rfl ?_
    refine A_aload_n 0 rfl rfl rfl ?_
    refine A_getL (r := 63) rfl fl_Gate_40 rfl (by decide) rfl rfl ?_
    obtain ⟨q10, M11, hcq10, h⟩ := bnd_out h
    refine A_callV (ci := 4) (as := []) (st' := [vA l2]) (r1 := (some (vI q10), M11)) rfl ml_Gate_158 rfl (by decide) (by decide) (Or.inl rfl) rfl rfl (Nat.le_of_ble_eq_true rfl) (by decide) (c_Ctx_reachable hcq10) (Or.inl rfl) ?_
    refine A_pc (pc' := 103) rfl ?_
    refine A_stk (st' := [vI q10, vA l2]) rfl ?_
    obtain ⟨q12, M13, hcq12, h⟩ := bnd_out h
    refine A_callV (ci := 10) (as := [vI q10]) (st' := []) (r1 := (some (vI q12), M13)) rfl ml_Gate_162 rfl (by decide) hg8 (Or.inl rfl) rfl rfl (Nat.le_of_ble_eq_true rfl) (by decide) (c_Guard_opensTo hcq12) (Or.inl rfl) ?_
    refine A_pc (pc' := 106) rfl ?_
    refine A_stk (st' := [vI q12]) rfl ?_
    refine A_pc (pc' := 106) rfl ?_
    refine A_istore (Ls' := [(4, vI q12), (0, vA 135), (2, vA l2)]) rfl (by decide) rfl ?_
    refine A_iload 0 rfl rfl ?_
    refine A_if_eq (tgt := 117) rfl (by decide) (fun hc14 => ?_) (fun hc14 => ?_)
    · rw [if_pos hc14] at h
      refine A_iconst (v := 2) rfl (by decide) ?_
      obtain ⟨rfl, rfl⟩ := leaf h
      exact A_iret rfl rfl
    · rw [if_neg hc14] at h
      refine A_pc (pc' := 113) rfl ?_
      refine A_iconst (v := 0) rfl (by decide) ?_
      refine A_goto (tgt := 118) rfl (by decide) ?_
      obtain ⟨rfl, rfl⟩ := leaf h
      exact A_iret rfl rfl
  · rw [if_pos hc9] at h
    refine A_pc (pc' := 73) rfl ?_
    refine A_aload_n 0 rfl rfl rfl ?_
    refine A_getL (r := 68) rfl fl_Gate_44 rfl (by decide) rfl rfl ?_
    refine A_aload_n 0 rfl rfl rfl ?_
    refine A_getL (r := 8) rfl fl_Gate_48 rfl (by decide) rfl rfl ?_
    refine A_aload_n 1 rfl rfl rfl ?_
    refine A_pc (pc' := 82) rfl ?_
    refine A_getI rfl fl_Gate_148 rfl hg8 (Or.inl rfl) ?_
    obtain ⟨hg15, h⟩ := gi_out h
    refine A_aald (t := 4) (C := "MethodWarden$Expression") (n := 8) rfl (by decide) ⟨by decide, by decide, rfl⟩ (by decide) (Or.inl rfl) hg15 ?_
    obtain ⟨r16, hr16, h⟩ := kM_out h
    refine A_nA hr16 ?_
    obtain ⟨q17, M18, hcq17, h⟩ := bnd_out h
    refine A_callV (ci := 6) (as := [vA r16]) (st' := []) (r1 := (some (vA q17), M18)) rfl ml_Gate_151 rfl (by decide) (by decide) (Or.inl rfl) rfl rfl (Nat.le_of_ble_eq_true rfl) (by decide) (c_Worker_workOut hcq17) (Or.inl rfl) ?_
    refine A_pc (pc' := 89) rfl ?_
    refine A_stk (st' := [vA q17]) rfl ?_
    obtain ⟨hg19, h⟩ := gk_out h
    obtain ⟨q20, M21, hcq20, h⟩ := bnd_out h
    refine A_callV (ci := 7) (as := []) (st' := []) (r1 := (some (vI q20), M21)) rfl ml_Gate_155 rfl (by decide) hg19 (Or.inl rfl) rfl rfl (Nat.le_of_ble_eq_true rfl) (by decide) (c_Val_isTrue hcq20) (Or.inl rfl) ?_
    refine A_pc (pc' := 92) rfl ?_
    refine A_stk (st' := [vI q20]) rfl ?_
    refine A_goto (tgt := 106) rfl (by decide) ?_
    refine A_istore (Ls' := [(4, vI q20), (0, vA 135), (2, vA l2)]) rfl (by decide) rfl ?_
    refine A_pc (pc' := 108) rfl ?_
    refine A_iload 0 rfl rfl ?_
    refine A_if_eq (tgt := 117) rfl (by decide) (fun hc22 => ?_) (fun hc22 => ?_)
    · rw [if_pos hc22] at h
      refine A_iconst (v := 2) rfl (by decide) ?_
      obtain ⟨rfl, rfl⟩ := leaf h
      exact A_iret rfl rfl
    · rw [if_neg hc22] at h
      refine A_pc (pc' := 113) rfl ?_
      refine A_iconst (v := 0) rfl (by decide) ?_
      refine A_goto (tgt := 118) rfl (by decide) ?_
      obtain ⟨rfl, rfl⟩ := leaf h
      exact A_iret rfl rfl
def f_Gate_letIn_26 (l1 : Nat) (l2 : Nat) (l3 : Nat) (M : ax_M) : Option (Int32 × ax_M) :=
  bnd (f_Worker_setLists l3 0 M) (fun q4 M5 => gk l1 9 (if (gI M5 l1 0) = ((-1)) then (f_Gate_letIn_65 l2 M5) else (gi (gI M5 l1 0) 8 (kM (gA M5 8 (gI M5 l1 0).toNatClampNeg) (fun r24 => bnd (f_Worker_filter r24 l3 M5) (fun q25 M26 => if q25 = 0 then (some (2, M26)) else (f_Gate_letIn_65 l2 M26)))))))
set_option maxHeartbeats 4000000 in
set_option maxRecDepth 100000 in
theorem o_Gate_letIn_26 {l : Launch} {g : ax_G} (l1 : Nat) (l2 : Nat) (l3 : Nat) (M : ax_M) (r : Int32) (M' : ax_M) (h : f_Gate_letIn_26  l1 l2 l3 M = some (r, M')) : AW l g true Y_Gate_letIn 98 (some (vI r), M') 26 [(0, vA 135), (1, vA l1), (2, vA l2), (3, vA l3)] [] M := by
  unfold f_Gate_letIn_26 at h
  refine A_aload_n 0 rfl rfl rfl ?_
  refine A_getL (r := 68) rfl fl_Gate_44 rfl (by decide) rfl rfl ?_
  refine A_aload_n 3 rfl rfl rfl ?_
  refine A_null rfl ?_
  obtain ⟨q4, M5, hcq4, h⟩ := bnd_out h
  refine A_callV (ci := 6) (as := [vA l3, vA 0]) (st' := []) (r1 := (none, M5)) rfl ml_Gate_134 rfl (by decide) (by decide) (Or.inl rfl) rfl rfl (Nat.le_of_ble_eq_true rfl) (by decide) (c_Worker_setLists hcq4) (Or.inl rfl) ?_
  refine A_pc (pc' := 35) rfl ?_
  refine A_stk (st' := []) rfl ?_
  refine A_pc (pc' := 35) rfl ?_
  refine A_aload_n 1 rfl rfl rfl ?_
  obtain ⟨hg6, h⟩ := gk_out h
  refine A_getI rfl fl_Gate_138 rfl hg6 (Or.inl rfl) ?_
  refine A_iconst (v := (-1)) rfl (by decide) ?_
  refine A_icmp_eq (tgt := 65) rfl (by decide) (fun hc7 => ?_) (fun hc7 => ?_)
  · rw [if_pos hc7] at h
    refine A_pc (pc' := 65) rfl ?_
    refine A_sub (Ls' := [(0, vA 135), (2, vA l2)]) [0, 2] rfl ?_
    exact o_Gate_letIn_65  _ _ _ _ h
  · rw [if_neg hc7] at h
    refine A_pc (pc' := 43) rfl ?_
    refine A_aload_n 0 rfl rfl rfl ?_
    refine A_getL (r := 68) rfl fl_Gate_44 rfl (by decide) rfl rfl ?_
    refine A_aload_n 0 rfl rfl rfl ?_
    refine A_getL (r := 8) rfl fl_Gate_48 rfl (by decide) rfl rfl ?_
    refine A_aload_n 1 rfl rfl rfl ?_
    refine A_pc (pc' := 52) rfl ?_
    refine A_getI rfl fl_Gate_138 rfl hg6 (Or.inl rfl) ?_
    obtain ⟨hg23, h⟩ := gi_out h
    refine A_aald (t := 4) (C := "MethodWarden$Expression") (n := 8) rfl (by decide) ⟨by decide, by decide, rfl⟩ (by decide) (Or.inl rfl) hg23 ?_
    obtain ⟨r24, hr24, h⟩ := kM_out h
    refine A_nA hr24 ?_
    refine A_aload_n 3 rfl rfl rfl ?_
    obtain ⟨q25, M26, hcq25, h⟩ := bnd_out h
    refine A_callV (ci := 6) (as := [vA r24, vA l3]) (st' := []) (r1 := (some (vI q25), M26)) rfl ml_Gate_141 rfl (by decide) (by decide) (Or.inl rfl) rfl rfl (Nat.le_of_ble_eq_true rfl) (by decide) (c_Worker_filter hcq25) (Or.inl rfl) ?_
    refine A_pc (pc' := 60) rfl ?_
    refine A_stk (st' := [vI q25]) rfl ?_
    refine A_if_ne (tgt := 65) rfl (by decide) (fun hc27 => ?_) (fun hc27 => ?_)
    · rw [if_neg hc27] at h
      refine A_pc (pc' := 65) rfl ?_
      refine A_sub (Ls' := [(0, vA 135), (2, vA l2)]) [0, 2] rfl ?_
      exact o_Gate_letIn_65  _ _ _ _ h
    · rw [if_pos hc27] at h
      refine A_pc (pc' := 63) rfl ?_
      refine A_iconst (v := 2) rfl (by decide) ?_
      obtain ⟨rfl, rfl⟩ := leaf h
      exact A_iret rfl rfl
def f_Gate_letIn (a1 : Nat) (a2 : Nat) (a3 : Nat) (M : ax_M) : Option (Int32 × ax_M) :=
  bnd (f_Ctx_isNobody  M) (fun q1 M2 => if q1 = 0 then (f_Gate_letIn_26 a1 a2 a3 M2) else (gk a2 10 (bnd (f_Guard_watches a2 M2) (fun q29 M30 => if q29 = 0 then (gk a1 9 (bnd (f_Meth_hasRule a1 M30) (fun q33 M34 => if q33 = 0 then (f_Gate_letIn_26 a1 a2 a3 M34) else (some (3, M34))))) else (some (3, M30))))))
set_option maxHeartbeats 4000000 in
set_option maxRecDepth 100000 in
theorem c_Gate_letIn {l : Launch} {g : ax_G} {a1 : Nat} {a2 : Nat} {a3 : Nat} {M : ax_M} {r : Int32} {M' : ax_M} (h : f_Gate_letIn a1 a2 a3 M = some (r, M')) : Ctr l g true Y_Gate_letIn 98 [vA 135, vA a1, vA a2, vA a3] M (some (vI r), M') := by
  refine Ctr.ofAW yok_Gate_letIn (Nat.le_of_ble_eq_true rfl) (Or.inl rfl) ?_
  show AW l g true Y_Gate_letIn 98 (some (vI r), M') 0 [(0, vA 135), (1, vA a1), (2, vA a2), (3, vA a3)] [] M
  unfold f_Gate_letIn at h
  refine A_aload_n 0 rfl rfl rfl ?_
  refine A_getL (r := 63) rfl fl_Gate_40 rfl (by decide) rfl rfl ?_
  obtain ⟨q1, M2, hcq1, h⟩ := bnd_out h
  refine A_callV (ci := 4) (as := []) (st' := []) (r1 := (some (vI q1), M2)) rfl ml_Gate_125 rfl (by decide) (by decide) (Or.inl rfl) rfl rfl (Nat.le_of_ble_eq_true rfl) (by decide) (c_Ctx_isNobody hcq1) (Or.inl rfl) ?_
  refine A_pc (pc' := 7) rfl ?_
  refine A_stk (st' := [vI q1]) rfl ?_
  refine A_if_eq (tgt := 26) rfl (by decide) (fun hc3 => ?_) (fun hc3 => ?_)
  · rw [if_pos hc3] at h
    refine A_pc (pc' := 26) rfl ?_
    refine A_sub (Ls' := [(0, vA 135), (1, vA a1), (2, vA a2), (3, vA a3)]) [0, 1, 2, 3] rfl ?_
    exact o_Gate_letIn_26  _ _ _ _ _ _ h
  · rw [if_neg hc3] at h
    refine A_pc (pc' := 10) rfl ?_
    refine A_aload_n 2 rfl rfl rfl ?_
    obtain ⟨hg28, h⟩ := gk_out h
    obtain ⟨q29, M30, hcq29, h⟩ := bnd_out h
    refine A_callV (ci := 10) (as := []) (st' := []) (r1 := (some (vI q29), M30)) rfl ml_Gate_128 rfl (by decide) hg28 (Or.inl rfl) rfl rfl (Nat.le_of_ble_eq_true rfl) (by decide) (c_Guard_watches hcq29) (Or.inl rfl) ?_
    refine A_pc (pc' := 14) rfl ?_
    refine A_stk (st' := [vI q29]) rfl ?_
    refine A_if_ne (tgt := 24) rfl (by decide) (fun hc31 => ?_) (fun hc31 => ?_)
    · rw [if_neg hc31] at h
      refine A_iconst (v := 3) rfl (by decide) ?_
      obtain ⟨rfl, rfl⟩ := leaf h
      exact A_iret rfl rfl
    · rw [if_pos hc31] at h
      refine A_pc (pc' := 17) rfl ?_
      refine A_aload_n 1 rfl rfl rfl ?_
      obtain ⟨hg32, h⟩ := gk_out h
      obtain ⟨q33, M34, hcq33, h⟩ := bnd_out h
      refine A_callV (ci := 9) (as := []) (st' := []) (r1 := (some (vI q33), M34)) rfl ml_Gate_131 rfl (by decide) hg32 (Or.inl rfl) rfl rfl (Nat.le_of_ble_eq_true rfl) (by decide) (c_Meth_hasRule hcq33) (Or.inl rfl) ?_
      refine A_pc (pc' := 21) rfl ?_
      refine A_stk (st' := [vI q33]) rfl ?_
      refine A_if_eq (tgt := 26) rfl (by decide) (fun hc35 => ?_) (fun hc35 => ?_)
      · rw [if_pos hc35] at h
        refine A_pc (pc' := 26) rfl ?_
        refine A_sub (Ls' := [(0, vA 135), (1, vA a1), (2, vA a2), (3, vA a3)]) [0, 1, 2, 3] rfl ?_
        exact o_Gate_letIn_26  _ _ _ _ _ _ h
      · rw [if_neg hc35] at h
        refine A_pc (pc' := 24) rfl ?_
        refine A_iconst (v := 3) rfl (by decide) ?_
        obtain ⟨rfl, rfl⟩ := leaf h
        exact A_iret rfl rfl
def tb_Gate_letOut : List (Nat × Instr × Nat) := [(0, .aload_n 0, 1), (1, .getfield 44, 3), (4, .aload_n 2, 1), (5, .aload_n 0, 1), (6, .getfield 32, 3), (9, .invokevirtual 134, 3), (12, .aload_n 1, 1), (13, .getfield 207, 3), (16, .iconst (-1), 1), (17, .if_icmp .eq 27, 3), (20, .aload_n 0, 1), (21, .getfield 44, 3), (24, .aload_n 0, 1), (25, .getfield 48, 3), (28, .aload_n 1, 1), (29, .getfield 207, 3), (32, .aaload, 1), (33, .invokevirtual 151, 3), (36, .invokevirtual 155, 3), (39, .ifCond .ne 5, 3), (42, .iconst 4, 1), (43, .ireturn, 1), (44, .aload_n 1, 1), (45, .getfield 210, 3), (48, .iconst (-1), 1), (49, .if_icmp .eq 13, 3), (52, .aload_n 0, 1), (53, .getfield 32, 3), (56, .invokevirtual 68, 3), (59, .ifCond .eq 5, 3), (62, .iconst 0, 1), (63, .ireturn, 1), (64, .aload_n 0, 1), (65, .getfield 32, 3), (68, .invokevirtual 72, 3), (71, .ifCond .eq 29, 3), (74, .aload_n 0, 1), (75, .getfield 44, 3), (78, .aload_n 0, 1), (79, .getfield 48, 3), (82, .aload_n 1, 1), (83, .getfield 210, 3), (86, .aaload, 1), (87, .aload_n 0, 1), (88, .getfield 32, 3), (91, .getfield 82, 3), (94, .invokevirtual 141, 3), (97, .ifCond .ne 5, 3), (100, .iconst 4, 1), (101, .ireturn, 1), (102, .iconst 0, 1), (103, .ireturn, 1)]
def Y_Gate_letOut : ax_Y := (⟨"MethodWarden$Gate", "letOut", "(LMethodWarden$Method;LMethodWarden$Items;)I"⟩, prog_4_method_12_code, 3, some .int, tb_Gate_letOut)
theorem yok_Gate_letOut : yOK Y_Gate_letOut := ⟨by decide +kernel, by decide +kernel, inWG 1029 (by decide +kernel) (by decide +kernel), inWG 104 (by decide +kernel) (by decide +kernel), by decide +kernel⟩
theorem fl_Gate_207 : fldOK "MethodWarden$Gate" 207 9 1 false := ⟨_, _, _, cls_Meth, by decide, by decide, rfl, Or.inr ⟨"MethodWarden", inNW 342 (by decide +kernel) (by decide +kernel)⟩⟩
theorem fl_Gate_210 : fldOK "MethodWarden$Gate" 210 9 2 false := ⟨_, _, _, cls_Meth, by decide, by decide, rfl, Or.inr ⟨"MethodWarden", inNW 344 (by decide +kernel) (by decide +kernel)⟩⟩
def f_Gate_letOut_44 (l1 : Nat) (M : ax_M) : Option (Int32 × ax_M) :=
  gk l1 9 (if (gI M l1 2) = ((-1)) then (some (0, M)) else (bnd (f_Val_isNothing 139 M) (fun q7 M8 => if q7 = 0 then (bnd (f_Val_isList 139 M8) (fun q10 M11 => if q10 = 0 then (some (4, M11)) else (gi (gI M11 l1 2) 8 (kM (gA M11 8 (gI M11 l1 2).toNatClampNeg) (fun r14 => bnd (f_Worker_filter r14 140 M11) (fun q15 M16 => if q15 = 0 then (some (4, M16)) else (some (0, M16)))))))) else (some (0, M8)))))
set_option maxHeartbeats 4000000 in
set_option maxRecDepth 100000 in
theorem o_Gate_letOut_44 {l : Launch} {g : ax_G} (l1 : Nat) (M : ax_M) (r : Int32) (M' : ax_M) (h : f_Gate_letOut_44  l1 M = some (r, M')) : AW l g true Y_Gate_letOut 98 (some (vI r), M') 44 [(0, vA 135), (1, vA l1)] [] M := by
  unfold f_Gate_letOut_44 at h
  refine A_aload_n 1 rfl rfl rfl ?_
  obtain ⟨hg5, h⟩ := gk_out h
  refine A_getI rfl fl_Gate_210 rfl hg5 (Or.inl rfl) ?_
  refine A_iconst (v := (-1)) rfl (by decide) ?_
  refine A_icmp_eq (tgt := 62) rfl (by decide) (fun hc6 => ?_) (fun hc6 => ?_)
  · rw [if_pos hc6] at h
    refine A_iconst (v := 0) rfl (by decide) ?_
    obtain ⟨rfl, rfl⟩ := leaf h
    exact A_iret rfl rfl
  · rw [if_neg hc6] at h
    refine A_pc (pc' := 52) rfl ?_
    refine A_aload_n 0 rfl rfl rfl ?_
    refine A_getL (r := 139) rfl fl_Gate_32 rfl (by decide) rfl rfl ?_
    obtain ⟨q7, M8, hcq7, h⟩ := bnd_out h
    refine A_callV (ci := 7) (as := []) (st' := []) (r1 := (some (vI q7), M8)) rfl ml_Gate_68 rfl (by decide) (by decide) (Or.inl rfl) rfl rfl (Nat.le_of_ble_eq_true rfl) (by decide) (c_Val_isNothing hcq7) (Or.inl rfl) ?_
    refine A_pc (pc' := 59) rfl ?_
    refine A_stk (st' := [vI q7]) rfl ?_
    refine A_if_eq (tgt := 64) rfl (by decide) (fun hc9 => ?_) (fun hc9 => ?_)
    · rw [if_pos hc9] at h
      refine A_aload_n 0 rfl rfl rfl ?_
      refine A_getL (r := 139) rfl fl_Gate_32 rfl (by decide) rfl rfl ?_
      obtain ⟨q10, M11, hcq10, h⟩ := bnd_out h
      refine A_callV (ci := 7) (as := []) (st' := []) (r1 := (some (vI q10), M11)) rfl ml_Gate_72 rfl (by decide) (by decide) (Or.inl rfl) rfl rfl (Nat.le_of_ble_eq_true rfl) (by decide) (c_Val_isList hcq10) (Or.inl rfl) ?_
      refine A_pc (pc' := 71) rfl ?_
      refine A_stk (st' := [vI q10]) rfl ?_
      refine A_if_eq (tgt := 100) rfl (by decide) (fun hc12 => ?_) (fun hc12 => ?_)
      · rw [if_pos hc12] at h
        refine A_iconst (v := 4) rfl (by decide) ?_
        obtain ⟨rfl, rfl⟩ := leaf h
        exact A_iret rfl rfl
      · rw [if_neg hc12] at h
        refine A_pc (pc' := 74) rfl ?_
        refine A_aload_n 0 rfl rfl rfl ?_
        refine A_getL (r := 68) rfl fl_Gate_44 rfl (by decide) rfl rfl ?_
        refine A_aload_n 0 rfl rfl rfl ?_
        refine A_getL (r := 8) rfl fl_Gate_48 rfl (by decide) rfl rfl ?_
        refine A_aload_n 1 rfl rfl rfl ?_
        refine A_pc (pc' := 83) rfl ?_
        refine A_getI rfl fl_Gate_210 rfl hg5 (Or.inl rfl) ?_
        obtain ⟨hg13, h⟩ := gi_out h
        refine A_aald (t := 4) (C := "MethodWarden$Expression") (n := 8) rfl (by decide) ⟨by decide, by decide, rfl⟩ (by decide) (Or.inl rfl) hg13 ?_
        obtain ⟨r14, hr14, h⟩ := kM_out h
        refine A_nA hr14 ?_
        refine A_aload_n 0 rfl rfl rfl ?_
        refine A_getL (r := 139) rfl fl_Gate_32 rfl (by decide) rfl rfl ?_
        refine A_getL (r := 140) rfl fl_Gate_82 rfl (by decide) rfl rfl ?_
        obtain ⟨q15, M16, hcq15, h⟩ := bnd_out h
        refine A_callV (ci := 6) (as := [vA r14, vA 140]) (st' := []) (r1 := (some (vI q15), M16)) rfl ml_Gate_141 rfl (by decide) (by decide) (Or.inl rfl) rfl rfl (Nat.le_of_ble_eq_true rfl) (by decide) (c_Worker_filter hcq15) (Or.inl rfl) ?_
        refine A_pc (pc' := 97) rfl ?_
        refine A_stk (st' := [vI q15]) rfl ?_
        refine A_pc (pc' := 97) rfl ?_
        refine A_if_ne (tgt := 102) rfl (by decide) (fun hc17 => ?_) (fun hc17 => ?_)
        · rw [if_neg hc17] at h
          refine A_iconst (v := 0) rfl (by decide) ?_
          obtain ⟨rfl, rfl⟩ := leaf h
          exact A_iret rfl rfl
        · rw [if_pos hc17] at h
          refine A_pc (pc' := 100) rfl ?_
          refine A_iconst (v := 4) rfl (by decide) ?_
          obtain ⟨rfl, rfl⟩ := leaf h
          exact A_iret rfl rfl
    · rw [if_neg hc9] at h
      refine A_pc (pc' := 62) rfl ?_
      refine A_iconst (v := 0) rfl (by decide) ?_
      obtain ⟨rfl, rfl⟩ := leaf h
      exact A_iret rfl rfl
def f_Gate_letOut (a1 : Nat) (a2 : Nat) (M : ax_M) : Option (Int32 × ax_M) :=
  bnd (f_Worker_setLists a2 139 M) (fun q1 M2 => gk a1 9 (if (gI M2 a1 1) = ((-1)) then (f_Gate_letOut_44 a1 M2) else (gi (gI M2 a1 1) 8 (kM (gA M2 8 (gI M2 a1 1).toNatClampNeg) (fun r19 => bnd (f_Worker_workOut r19 M2) (fun q20 M21 => gk q20 7 (bnd (f_Val_isTrue q20 M21) (fun q23 M24 => if q23 = 0 then (some (4, M24)) else (f_Gate_letOut_44 a1 M24)))))))))
set_option maxHeartbeats 4000000 in
set_option maxRecDepth 100000 in
theorem c_Gate_letOut {l : Launch} {g : ax_G} {a1 : Nat} {a2 : Nat} {M : ax_M} {r : Int32} {M' : ax_M} (h : f_Gate_letOut a1 a2 M = some (r, M')) : Ctr l g true Y_Gate_letOut 98 [vA 135, vA a1, vA a2] M (some (vI r), M') := by
  refine Ctr.ofAW yok_Gate_letOut (Nat.le_of_ble_eq_true rfl) (Or.inl rfl) ?_
  show AW l g true Y_Gate_letOut 98 (some (vI r), M') 0 [(0, vA 135), (1, vA a1), (2, vA a2)] [] M
  unfold f_Gate_letOut at h
  refine A_aload_n 0 rfl rfl rfl ?_
  refine A_getL (r := 68) rfl fl_Gate_44 rfl (by decide) rfl rfl ?_
  refine A_aload_n 2 rfl rfl rfl ?_
  refine A_aload_n 0 rfl rfl rfl ?_
  refine A_getL (r := 139) rfl fl_Gate_32 rfl (by decide) rfl rfl ?_
  refine A_pc (pc' := 9) rfl ?_
  obtain ⟨q1, M2, hcq1, h⟩ := bnd_out h
  refine A_callV (ci := 6) (as := [vA a2, vA 139]) (st' := []) (r1 := (none, M2)) rfl ml_Gate_134 rfl (by decide) (by decide) (Or.inl rfl) rfl rfl (Nat.le_of_ble_eq_true rfl) (by decide) (c_Worker_setLists hcq1) (Or.inl rfl) ?_
  refine A_pc (pc' := 12) rfl ?_
  refine A_stk (st' := []) rfl ?_
  refine A_aload_n 1 rfl rfl rfl ?_
  obtain ⟨hg3, h⟩ := gk_out h
  refine A_getI rfl fl_Gate_207 rfl hg3 (Or.inl rfl) ?_
  refine A_iconst (v := (-1)) rfl (by decide) ?_
  refine A_icmp_eq (tgt := 44) rfl (by decide) (fun hc4 => ?_) (fun hc4 => ?_)
  · rw [if_pos hc4] at h
    refine A_pc (pc' := 44) rfl ?_
    refine A_sub (Ls' := [(0, vA 135), (1, vA a1)]) [0, 1] rfl ?_
    exact o_Gate_letOut_44  _ _ _ _ h
  · rw [if_neg hc4] at h
    refine A_pc (pc' := 20) rfl ?_
    refine A_aload_n 0 rfl rfl rfl ?_
    refine A_getL (r := 68) rfl fl_Gate_44 rfl (by decide) rfl rfl ?_
    refine A_aload_n 0 rfl rfl rfl ?_
    refine A_getL (r := 8) rfl fl_Gate_48 rfl (by decide) rfl rfl ?_
    refine A_aload_n 1 rfl rfl rfl ?_
    refine A_pc (pc' := 29) rfl ?_
    refine A_getI rfl fl_Gate_207 rfl hg3 (Or.inl rfl) ?_
    obtain ⟨hg18, h⟩ := gi_out h
    refine A_aald (t := 4) (C := "MethodWarden$Expression") (n := 8) rfl (by decide) ⟨by decide, by decide, rfl⟩ (by decide) (Or.inl rfl) hg18 ?_
    obtain ⟨r19, hr19, h⟩ := kM_out h
    refine A_nA hr19 ?_
    obtain ⟨q20, M21, hcq20, h⟩ := bnd_out h
    refine A_callV (ci := 6) (as := [vA r19]) (st' := []) (r1 := (some (vA q20), M21)) rfl ml_Gate_151 rfl (by decide) (by decide) (Or.inl rfl) rfl rfl (Nat.le_of_ble_eq_true rfl) (by decide) (c_Worker_workOut hcq20) (Or.inl rfl) ?_
    refine A_pc (pc' := 36) rfl ?_
    refine A_stk (st' := [vA q20]) rfl ?_
    obtain ⟨hg22, h⟩ := gk_out h
    obtain ⟨q23, M24, hcq23, h⟩ := bnd_out h
    refine A_callV (ci := 7) (as := []) (st' := []) (r1 := (some (vI q23), M24)) rfl ml_Gate_155 rfl (by decide) hg22 (Or.inl rfl) rfl rfl (Nat.le_of_ble_eq_true rfl) (by decide) (c_Val_isTrue hcq23) (Or.inl rfl) ?_
    refine A_pc (pc' := 39) rfl ?_
    refine A_stk (st' := [vI q23]) rfl ?_
    refine A_if_ne (tgt := 44) rfl (by decide) (fun hc25 => ?_) (fun hc25 => ?_)
    · rw [if_neg hc25] at h
      refine A_pc (pc' := 44) rfl ?_
      refine A_sub (Ls' := [(0, vA 135), (1, vA a1)]) [0, 1] rfl ?_
      exact o_Gate_letOut_44  _ _ _ _ h
    · rw [if_pos hc25] at h
      refine A_pc (pc' := 42) rfl ?_
      refine A_iconst (v := 4) rfl (by decide) ?_
      obtain ⟨rfl, rfl⟩ := leaf h
      exact A_iret rfl rfl
def tb_Gate_throwing : List (Nat × Instr × Nat) := [(0, .aload_n 0, 1), (1, .iload_n 1, 1), (2, .putfield 75, 3), (5, .iconst 1, 1), (6, .ireturn, 1)]
def Y_Gate_throwing : ax_Y := (⟨"MethodWarden$Gate", "throwing", "(I)I"⟩, prog_4_method_10_code, 2, some .int, tb_Gate_throwing)
theorem yok_Gate_throwing : yOK Y_Gate_throwing := ⟨by decide +kernel, by decide +kernel, inWG 1016 (by decide +kernel) (by decide +kernel), inWG 104 (by decide +kernel) (by decide +kernel), by decide +kernel⟩
def f_Gate_throwing (a1 : Int32) (M : ax_M) : Option (Int32 × ax_M) :=
  kM (mI M 135 8 a1) (fun M1 => some (1, M1))
set_option maxHeartbeats 4000000 in
set_option maxRecDepth 100000 in
theorem c_Gate_throwing {l : Launch} {g : ax_G} {a1 : Int32} {M : ax_M} {r : Int32} {M' : ax_M} (h : f_Gate_throwing a1 M = some (r, M')) : Ctr l g true Y_Gate_throwing 1 [vA 135, vI a1] M (some (vI r), M') := by
  refine Ctr.ofAW yok_Gate_throwing (Nat.le_of_ble_eq_true rfl) (Or.inl rfl) ?_
  show AW l g true Y_Gate_throwing 1 (some (vI r), M') 0 [(0, vA 135), (1, vI a1)] [] M
  unfold f_Gate_throwing at h
  refine A_aload_n 0 rfl rfl rfl ?_
  refine A_iload_n 1 rfl rfl rfl ?_
  refine A_putI rfl (Or.inl fl_Gate_75) rfl (by decide) (Or.inl rfl) rfl ?_
  obtain ⟨M1, hM1, h⟩ := kM_out h
  refine A_mem hM1 ?_
  refine A_iconst (v := 1) rfl (by decide) ?_
  obtain ⟨rfl, rfl⟩ := leaf h
  exact A_iret rfl rfl
def tb_Gate_callOn : List (Nat × Instr × Nat) := [(0, .iload_n 2, 1), (1, .iconst 1, 1), (2, .iadd, 1), (3, .istore_n 3, 1), (4, .iload_n 3, 1), (5, .bipush 8, 2), (7, .if_icmp .lt 9, 3), (10, .aload_n 0, 1), (11, .iconst (-1), 1), (12, .invokevirtual 189, 3), (15, .ireturn, 1), (16, .aload_n 0, 1), (17, .getfield 25, 3), (20, .iload_n 3, 1), (21, .aaload, 1), (22, .aload_n 0, 1), (23, .getfield 25, 3), (26, .iload_n 2, 1), (27, .aaload, 1), (28, .invokevirtual 64, 3), (31, .aload_n 0, 1), (32, .iload_n 1, 1), (33, .iload_n 3, 1), (34, .invokevirtual 204, 3), (37, .ireturn, 1)]
def Y_Gate_callOn : ax_Y := (⟨"MethodWarden$Gate", "callOn", "(II)I"⟩, prog_4_method_11_code, 4, some .int, tb_Gate_callOn)
theorem yok_Gate_callOn : yOK Y_Gate_callOn := ⟨by decide +kernel, by decide +kernel, inWG 1022 (by decide +kernel) (by decide +kernel), inWG 104 (by decide +kernel) (by decide +kernel), by decide +kernel⟩
theorem ml_Gate_204 : mlV "MethodWarden$Gate" 204 Y_Gate_run 2 := ⟨⟨yok_Gate_run, by decide +kernel, by decide⟩, Or.inl (inWG 1023 (by decide +kernel) (by decide +kernel)), inWG 813 (by decide +kernel) (by decide +kernel), inWG 30 (by decide +kernel) (by decide +kernel)⟩
theorem ml_Gate_189 : mlV "MethodWarden$Gate" 189 Y_Gate_throwing 1 := ⟨⟨yok_Gate_throwing, by decide +kernel, by decide⟩, Or.inl (inWG 1013 (by decide +kernel) (by decide +kernel)), inWG 1015 (by decide +kernel) (by decide +kernel), inWG 49 (by decide +kernel) (by decide +kernel)⟩
def f_Gate_callOn (v : Int32 → Int32 → ax_M → Option (Int32 × ax_M)) (a1 : Int32) (a2 : Int32) (M : ax_M) : Option (Int32 × ax_M) :=
  kM (a2 + 1) (fun x1 => if x1 < 8 then (gi x1 8 (kM (168 + 2 * x1.toNatClampNeg) (fun r4 => gi a2 8 (kM (168 + 2 * a2.toNatClampNeg) (fun r6 => bnd (f_Items_copyFrom r4 r6 M) (fun q7 M8 => bnd (v a1 x1 M8) (fun q9 M10 => some (q9, M10)))))))) else (bnd (f_Gate_throwing ((-1)) M) (fun q11 M12 => some (q11, M12))))
set_option maxHeartbeats 4000000 in
set_option maxRecDepth 100000 in
theorem c_Gate_callOn {l : Launch} {g : ax_G} (dv : Nat) (hdv : 110 ≤ dv) (v : Int32 → Int32 → ax_M → Option (Int32 × ax_M)) (hv : ∀ (a b : Int32) (M : ax_M) (r : Int32) (M' : ax_M), v a b M = some (r, M') → Ctr l g true Y_Gate_run dv [vA 135, vI a, vI b] M (some (vI r), M')) {a1 : Int32} {a2 : Int32} {M : ax_M} {r : Int32} {M' : ax_M} (h : f_Gate_callOn v a1 a2 M = some (r, M')) : Ctr l g true Y_Gate_callOn (dv + 1) [vA 135, vI a1, vI a2] M (some (vI r), M') := by
  refine Ctr.ofAW yok_Gate_callOn (Nat.le_of_ble_eq_true rfl) (Or.inl rfl) ?_
  show AW l g true Y_Gate_callOn (dv + 1) (some (vI r), M') 0 [(0, vA 135), (1, vI a1), (2, vI a2)] [] M
  unfold f_Gate_callOn at h
  refine A_iload_n 2 rfl rfl rfl ?_
  refine A_iconst (v := 1) rfl (by decide) ?_
  refine A_iadd rfl ?_
  obtain ⟨x1, hx1, h⟩ := kM_out h
  refine A_nI hx1 ?_
  refine A_istore_n (Ls' := [(3, vI x1), (0, vA 135), (1, vI a1), (2, vI a2)]) rfl rfl (by decide) rfl ?_
  refine A_iload_n 0 rfl rfl rfl ?_
  refine A_pc (pc' := 5) rfl ?_
  refine A_bipush (v := 8) rfl (by decide) ?_
  refine A_icmp_lt (tgt := 16) rfl (by decide) (fun hc2 => ?_) (fun hc2 => ?_)
  · rw [if_pos hc2] at h
    refine A_aload_n 1 rfl rfl rfl ?_
    refine A_getL (r := 138) rfl fl_Gate_25 rfl (by decide) rfl rfl ?_
    refine A_iload_n 0 rfl rfl rfl ?_
    obtain ⟨hg3, h⟩ := gi_out h
    refine A_aldL (t := 8) (C := "MethodWarden$Items") (n := 8) (r := 168 + 2 * x1.toNatClampNeg) rfl (by decide) ⟨by decide, by decide, rfl⟩ (by decide) hg3 rfl rfl ?_
    obtain ⟨r4, hr4, h⟩ := kM_out h
    refine A_nA hr4 ?_
    refine A_aload_n 1 rfl rfl rfl ?_
    refine A_pc (pc' := 23) rfl ?_
    refine A_getL (r := 138) rfl fl_Gate_25 rfl (by decide) rfl rfl ?_
    refine A_iload_n 3 rfl rfl rfl ?_
    obtain ⟨hg5, h⟩ := gi_out h
    refine A_aldL (t := 8) (C := "MethodWarden$Items") (n := 8) (r := 168 + 2 * a2.toNatClampNeg) rfl (by decide) ⟨by decide, by decide, rfl⟩ (by decide) hg5 rfl rfl ?_
    obtain ⟨r6, hr6, h⟩ := kM_out h
    refine A_nA hr6 ?_
    obtain ⟨q7, M8, hcq7, h⟩ := bnd_out h
    refine A_callV (ci := 5) (as := [vA r6]) (st' := []) (r1 := (none, M8)) rfl ml_Gate_64 rfl (by decide) (hr4 ▸ (la_108 _ (vin_lt hg3))) (Or.inl rfl) rfl rfl (Nat.le_of_ble_eq_true rfl) (by omega) (c_Items_copyFrom hcq7) (Or.inl rfl) ?_
    refine A_pc (pc' := 31) rfl ?_
    refine A_stk (st' := []) rfl ?_
    refine A_aload_n 1 rfl rfl rfl ?_
    refine A_iload_n 2 rfl rfl rfl ?_
    refine A_pc (pc' := 33) rfl ?_
    refine A_iload_n 0 rfl rfl rfl ?_
    obtain ⟨q9, M10, hcq9, h⟩ := bnd_out h
    refine A_callV (ci := 8) (as := [vI a1, vI x1]) (st' := []) (r1 := (some (vI q9), M10)) rfl ml_Gate_204 rfl (by decide) (by decide) (Or.inl rfl) rfl rfl (Nat.le_of_ble_eq_true rfl) (by omega) (hv _ _ _ _ _ hcq9) (Or.inl rfl) ?_
    refine A_pc (pc' := 37) rfl ?_
    refine A_stk (st' := [vI q9]) rfl ?_
    obtain ⟨rfl, rfl⟩ := leaf h
    exact A_iret rfl rfl
  · rw [if_neg hc2] at h
    refine A_pc (pc' := 10) rfl ?_
    refine A_aload_n 1 rfl rfl rfl ?_
    refine A_iconst (v := (-1)) rfl (by decide) ?_
    obtain ⟨q11, M12, hcq11, h⟩ := bnd_out h
    refine A_callV (ci := 8) (as := [vI ((-1))]) (st' := []) (r1 := (some (vI q11), M12)) rfl ml_Gate_189 rfl (by decide) (by decide) (Or.inl rfl) rfl rfl (Nat.le_of_ble_eq_true rfl) (by omega) (c_Gate_throwing hcq11) (Or.inl rfl) ?_
    refine A_pc (pc' := 15) rfl ?_
    refine A_stk (st' := [vI q11]) rfl ?_
    obtain ⟨rfl, rfl⟩ := leaf h
    exact A_iret rfl rfl
def tb_Gate_work : List (Nat × Instr × Nat) := [(0, .aload_n 0, 1), (1, .getfield 40, 3), (4, .aload_n 1, 1), (5, .getfield 166, 3), (8, .invokevirtual 169, 3), (11, .aload_n 1, 1), (12, .getfield 172, 3), (15, .tableswitch 151 1 6 #[37, 56, 86, 95, 124, 134], 37), (52, .aload_n 0, 1), (53, .getfield 32, 3), (56, .aload_n 0, 1), (57, .getfield 55, 3), (60, .aload_n 1, 1), (61, .getfield 175, 3), (64, .iadd, 1), (65, .invokevirtual 178, 3), (68, .pop, 1), (69, .iconst 0, 1), (70, .ireturn, 1), (71, .aload_n 0, 1), (72, .getfield 32, 3), (75, .aload_n 0, 1), (76, .getfield 25, 3), (79, .iload_n 2, 1), (80, .aaload, 1), (81, .invokevirtual 182, 3), (84, .pop, 1), (85, .aload_n 0, 1), (86, .getfield 32, 3), (89, .getfield 82, 3), (92, .aload_n 1, 1), (93, .getfield 175, 3), (96, .invokevirtual 186, 3), (99, .iconst 0, 1), (100, .ireturn, 1), (101, .aload_n 0, 1), (102, .aload_n 1, 1), (103, .getfield 175, 3), (106, .invokevirtual 189, 3), (109, .ireturn, 1), (110, .aload_n 0, 1), (111, .getfield 40, 3), (114, .aload_n 1, 1), (115, .getfield 175, 3), (118, .ldc 192, 2), (120, .invokevirtual 114, 3), (123, .aload_n 0, 1), (124, .getfield 32, 3), (127, .aload_n 0, 1), (128, .getfield 25, 3), (131, .iload_n 2, 1), (132, .aaload, 1), (133, .invokevirtual 182, 3), (136, .pop, 1), (137, .iconst 0, 1), (138, .ireturn, 1), (139, .aload_n 0, 1), (140, .aload_n 1, 1), (141, .getfield 175, 3), (144, .iload_n 2, 1), (145, .invokevirtual 193, 3), (148, .ireturn, 1), (149, .aload_n 0, 1), (150, .getfield 40, 3), (153, .invokevirtual 197, 3), (156, .aload_n 0, 1), (157, .aload_n 1, 1), (158, .getfield 175, 3), (161, .iload_n 2, 1), (162, .invokevirtual 193, 3), (165, .ireturn, 1), (166, .aload_n 0, 1), (167, .getfield 32, 3), (170, .invokevirtual 200, 3), (173, .pop, 1), (174, .iconst 0, 1), (175, .ireturn, 1)]
def Y_Gate_work : ax_Y := (⟨"MethodWarden$Gate", "work", "(LMethodWarden$Method;I)I"⟩, prog_4_method_9_code, 3, some .int, tb_Gate_work)
theorem yok_Gate_work : yOK Y_Gate_work := ⟨by decide +kernel, by decide +kernel, inWG 1001 (by decide +kernel) (by decide +kernel), inWG 104 (by decide +kernel) (by decide +kernel), by decide +kernel⟩
theorem fl_Gate_166 : fldOK "MethodWarden$Gate" 166 9 5 false := ⟨_, _, _, cls_Meth, by decide, by decide, rfl, Or.inr ⟨"MethodWarden", inNW 350 (by decide +kernel) (by decide +kernel)⟩⟩
theorem fl_Gate_172 : fldOK "MethodWarden$Gate" 172 9 3 false := ⟨_, _, _, cls_Meth, by decide, by decide, rfl, Or.inr ⟨"MethodWarden", inNW 346 (by decide +kernel) (by decide +kernel)⟩⟩
theorem fl_Gate_175 : fldOK "MethodWarden$Gate" 175 9 4 false := ⟨_, _, _, cls_Meth, by decide, by decide, rfl, Or.inr ⟨"MethodWarden", inNW 348 (by decide +kernel) (by decide +kernel)⟩⟩
theorem ml_Gate_169 : mlV "MethodWarden$Gate" 169 Y_Ctx_lend 1 := ⟨⟨yok_Ctx_lend, by decide +kernel, by decide⟩, Or.inl (inWG 1002 (by decide +kernel) (by decide +kernel)), inWG 1003 (by decide +kernel) (by decide +kernel), inWG 1004 (by decide +kernel) (by decide +kernel)⟩
theorem ml_Gate_178 : mlV "MethodWarden$Gate" 178 Y_Val_beInt 1 := ⟨⟨yok_Val_beInt, by decide +kernel, by decide⟩, Or.inl (inWG 1007 (by decide +kernel) (by decide +kernel)), inWG 900 (by decide +kernel) (by decide +kernel), inWG 901 (by decide +kernel) (by decide +kernel)⟩
theorem ml_Gate_182 : mlV "MethodWarden$Gate" 182 Y_Val_beList 1 := ⟨⟨yok_Val_beList, by decide +kernel, by decide⟩, Or.inl (inWG 1008 (by decide +kernel) (by decide +kernel)), inWG 922 (by decide +kernel) (by decide +kernel), inWG 923 (by decide +kernel) (by decide +kernel)⟩
theorem ml_Gate_186 : mlV "MethodWarden$Gate" 186 Y_Items_raiseEach 1 := ⟨⟨yok_Items_raiseEach, by decide +kernel, by decide⟩, Or.inl (inWG 1009 (by decide +kernel) (by decide +kernel)), inWG 1010 (by decide +kernel) (by decide +kernel), inWG 1011 (by decide +kernel) (by decide +kernel)⟩
theorem ml_Gate_114 : mlV "MethodWarden$Gate" 114 Y_Ctx_become 2 := ⟨⟨yok_Ctx_become, by decide +kernel, by decide⟩, Or.inl (inWG 1018 (by decide +kernel) (by decide +kernel)), inWG 705 (by decide +kernel) (by decide +kernel), inWG 706 (by decide +kernel) (by decide +kernel)⟩
theorem ml_Gate_193 : mlV "MethodWarden$Gate" 193 Y_Gate_callOn 2 := ⟨⟨yok_Gate_callOn, by decide +kernel, by decide⟩, Or.inl (inWG 1019 (by decide +kernel) (by decide +kernel)), inWG 1021 (by decide +kernel) (by decide +kernel), inWG 50 (by decide +kernel) (by decide +kernel)⟩
theorem ml_Gate_197 : mlV "MethodWarden$Gate" 197 Y_Ctx_leave 0 := ⟨⟨yok_Ctx_leave, by decide +kernel, by decide⟩, Or.inl (inWG 1024 (by decide +kernel) (by decide +kernel)), inWG 701 (by decide +kernel) (by decide +kernel), inWG 702 (by decide +kernel) (by decide +kernel)⟩
theorem ml_Gate_200 : mlV "MethodWarden$Gate" 200 Y_Val_beNothing 0 := ⟨⟨yok_Val_beNothing, by decide +kernel, by decide⟩, Or.inl (inWG 1025 (by decide +kernel) (by decide +kernel)), inWG 904 (by decide +kernel) (by decide +kernel), inWG 905 (by decide +kernel) (by decide +kernel)⟩
def f_Gate_work (v : Int32 → Int32 → ax_M → Option (Int32 × ax_M)) (a1 : Nat) (a2 : Int32) (M : ax_M) : Option (Int32 × ax_M) :=
  gk a1 9 (bnd (f_Ctx_lend (gI M a1 5) M) (fun q2 M3 => kM (gI M3 a1 3) (fun x4 => if x4 = 1 then (bnd (f_Val_beInt 139 ((gI M3 135 7) + (gI M3 a1 4)) M3) (fun q6 M7 => some (0, M7))) else (if x4 = 2 then (gi a2 8 (kM (168 + 2 * a2.toNatClampNeg) (fun r10 => bnd (f_Val_beList 139 r10 M3) (fun q11 M12 => bnd (f_Items_raiseEach 140 (gI M12 a1 4) M12) (fun q13 M14 => some (0, M14)))))) else (if x4 = 3 then (bnd (f_Gate_throwing (gI M3 a1 4) M3) (fun q16 M17 => some (q16, M17))) else (if x4 = 4 then (bnd (f_Ctx_become (gI M3 a1 4) 65535 M3) (fun q19 M20 => gi a2 8 (kM (168 + 2 * a2.toNatClampNeg) (fun r22 => bnd (f_Val_beList 139 r22 M20) (fun q23 M24 => some (0, M24)))))) else (if x4 = 5 then (bnd (f_Gate_callOn v (gI M3 a1 4) a2 M3) (fun q26 M27 => some (q26, M27))) else (if x4 = 6 then (bnd (f_Ctx_leave  M3) (fun q29 M30 => bnd (f_Gate_callOn v (gI M30 a1 4) a2 M30) (fun q31 M32 => some (q31, M32)))) else (bnd (f_Val_beNothing 139 M3) (fun q33 M34 => some (0, M34)))))))))))
set_option maxHeartbeats 4000000 in
set_option maxRecDepth 100000 in
theorem c_Gate_work {l : Launch} {g : ax_G} (dv : Nat) (hdv : 110 ≤ dv) (v : Int32 → Int32 → ax_M → Option (Int32 × ax_M)) (hv : ∀ (a b : Int32) (M : ax_M) (r : Int32) (M' : ax_M), v a b M = some (r, M') → Ctr l g true Y_Gate_run dv [vA 135, vI a, vI b] M (some (vI r), M')) {a1 : Nat} {a2 : Int32} {M : ax_M} {r : Int32} {M' : ax_M} (h : f_Gate_work v a1 a2 M = some (r, M')) : Ctr l g true Y_Gate_work (dv + 2) [vA 135, vA a1, vI a2] M (some (vI r), M') := by
  refine Ctr.ofAW yok_Gate_work (Nat.le_of_ble_eq_true rfl) (Or.inl rfl) ?_
  show AW l g true Y_Gate_work (dv + 2) (some (vI r), M') 0 [(0, vA 135), (1, vA a1), (2, vI a2)] [] M
  unfold f_Gate_work at h
  refine A_aload_n 0 rfl rfl rfl ?_
  refine A_getL (r := 63) rfl fl_Gate_40 rfl (by decide) rfl rfl ?_
  refine A_aload_n 1 rfl rfl rfl ?_
  obtain ⟨hg1, h⟩ := gk_out h
  refine A_getI rfl fl_Gate_166 rfl hg1 (Or.inl rfl) ?_
  obtain ⟨q2, M3, hcq2, h⟩ := bnd_out h
  refine A_callV (ci := 4) (as := [vI (gI M a1 5)]) (st' := []) (r1 := (none, M3)) rfl ml_Gate_169 rfl (by decide) (by decide) (Or.inl rfl) rfl rfl (Nat.le_of_ble_eq_true rfl) (by omega) (c_Ctx_lend hcq2) (Or.inl rfl) ?_
  refine A_pc (pc' := 11) rfl ?_
  refine A_stk (st' := []) rfl ?_
  refine A_pc (pc' := 11) rfl ?_
  refine A_aload_n 1 rfl rfl rfl ?_
  refine A_getI rfl fl_Gate_172 rfl hg1 (Or.inl rfl) ?_
  obtain ⟨x4, hx4, h⟩ := kM_out h
  refine A_nI hx4 ?_
  by_cases hc5 : x4 = 1
  · rw [if_pos hc5] at h
    refine A_tableIn (tgt := 52) (off := 37) rfl (by rw [hc5]; decide) (by rw [hc5]; decide) (by rw [hc5]; rfl) (by decide) ?_
    refine A_aload_n 0 rfl rfl rfl ?_
    refine A_getL (r := 139) rfl fl_Gate_32 rfl (by decide) rfl rfl ?_
    refine A_aload_n 0 rfl rfl rfl ?_
    refine A_getI rfl fl_Gate_55 rfl (by decide) (Or.inl rfl) ?_
    refine A_aload_n 1 rfl rfl rfl ?_
    refine A_pc (pc' := 61) rfl ?_
    refine A_getI rfl fl_Gate_175 rfl hg1 (Or.inl rfl) ?_
    refine A_iadd rfl ?_
    obtain ⟨q6, M7, hcq6, h⟩ := bnd_out h
    refine A_callV (ci := 7) (as := [vI ((gI M3 135 7) + (gI M3 a1 4))]) (st' := []) (r1 := (some (vA q6), M7)) rfl ml_Gate_178 rfl (by decide) (by decide) (Or.inl rfl) rfl rfl (Nat.le_of_ble_eq_true rfl) (by omega) (c_Val_beInt hcq6) (Or.inl rfl) ?_
    refine A_pc (pc' := 68) rfl ?_
    refine A_stk (st' := [vA q6]) rfl ?_
    refine A_pop rfl rfl ?_
    refine A_iconst (v := 0) rfl (by decide) ?_
    obtain ⟨rfl, rfl⟩ := leaf h
    exact A_iret rfl rfl
  · rw [if_neg hc5] at h
    by_cases hc8 : x4 = 2
    · rw [if_pos hc8] at h
      refine A_tableIn (tgt := 71) (off := 56) rfl (by rw [hc8]; decide) (by rw [hc8]; decide) (by rw [hc8]; rfl) (by decide) ?_
      refine A_aload_n 0 rfl rfl rfl ?_
      refine A_getL (r := 139) rfl fl_Gate_32 rfl (by decide) rfl rfl ?_
      refine A_aload_n 0 rfl rfl rfl ?_
      refine A_getL (r := 138) rfl fl_Gate_25 rfl (by decide) rfl rfl ?_
      refine A_iload_n 2 rfl rfl rfl ?_
      refine A_pc (pc' := 80) rfl ?_
      obtain ⟨hg9, h⟩ := gi_out h
      refine A_aldL (t := 8) (C := "MethodWarden$Items") (n := 8) (r := 168 + 2 * a2.toNatClampNeg) rfl (by decide) ⟨by decide, by decide, rfl⟩ (by decide) hg9 rfl rfl ?_
      obtain ⟨r10, hr10, h⟩ := kM_out h
      refine A_nA hr10 ?_
      obtain ⟨q11, M12, hcq11, h⟩ := bnd_out h
      refine A_callV (ci := 7) (as := [vA r10]) (st' := []) (r1 := (some (vA q11), M12)) rfl ml_Gate_182 rfl (by decide) (by decide) (Or.inl rfl) rfl rfl (Nat.le_of_ble_eq_true rfl) (by omega) (c_Val_beList hcq11) (Or.inl rfl) ?_
      refine A_pc (pc' := 84) rfl ?_
      refine A_stk (st' := [vA q11]) rfl ?_
      refine A_pop rfl rfl ?_
      refine A_aload_n 0 rfl rfl rfl ?_
      refine A_getL (r := 139) rfl fl_Gate_32 rfl (by decide) rfl rfl ?_
      refine A_getL (r := 140) rfl fl_Gate_82 rfl (by decide) rfl rfl ?_
      refine A_pc (pc' := 92) rfl ?_
      refine A_aload_n 1 rfl rfl rfl ?_
      refine A_getI rfl fl_Gate_175 rfl hg1 (Or.inl rfl) ?_
      obtain ⟨q13, M14, hcq13, h⟩ := bnd_out h
      refine A_callV (ci := 5) (as := [vI (gI M12 a1 4)]) (st' := []) (r1 := (none, M14)) rfl ml_Gate_186 rfl (by decide) (by decide) (Or.inl rfl) rfl rfl (Nat.le_of_ble_eq_true rfl) (by omega) (c_Items_raiseEach hcq13) (Or.inl rfl) ?_
      refine A_pc (pc' := 99) rfl ?_
      refine A_stk (st' := []) rfl ?_
      refine A_iconst (v := 0) rfl (by decide) ?_
      obtain ⟨rfl, rfl⟩ := leaf h
      exact A_iret rfl rfl
    · rw [if_neg hc8] at h
      by_cases hc15 : x4 = 3
      · rw [if_pos hc15] at h
        refine A_tableIn (tgt := 101) (off := 86) rfl (by rw [hc15]; decide) (by rw [hc15]; decide) (by rw [hc15]; rfl) (by decide) ?_
        refine A_aload_n 0 rfl rfl rfl ?_
        refine A_aload_n 1 rfl rfl rfl ?_
        refine A_getI rfl fl_Gate_175 rfl hg1 (Or.inl rfl) ?_
        obtain ⟨q16, M17, hcq16, h⟩ := bnd_out h
        refine A_callV (ci := 8) (as := [vI (gI M3 a1 4)]) (st' := []) (r1 := (some (vI q16), M17)) rfl ml_Gate_189 rfl (by decide) (by decide) (Or.inl rfl) rfl rfl (Nat.le_of_ble_eq_true rfl) (by omega) (c_Gate_throwing hcq16) (Or.inl rfl) ?_
        refine A_pc (pc' := 109) rfl ?_
        refine A_stk (st' := [vI q16]) rfl ?_
        obtain ⟨rfl, rfl⟩ := leaf h
        exact A_iret rfl rfl
      · rw [if_neg hc15] at h
        by_cases hc18 : x4 = 4
        · rw [if_pos hc18] at h
          refine A_tableIn (tgt := 110) (off := 95) rfl (by rw [hc18]; decide) (by rw [hc18]; decide) (by rw [hc18]; rfl) (by decide) ?_
          refine A_aload_n 0 rfl rfl rfl ?_
          refine A_getL (r := 63) rfl fl_Gate_40 rfl (by decide) rfl rfl ?_
          refine A_aload_n 1 rfl rfl rfl ?_
          refine A_getI rfl fl_Gate_175 rfl hg1 (Or.inl rfl) ?_
          refine A_ldc (v := 65535) rfl (inWG 1017 (by decide +kernel) (by decide +kernel)) ?_
          refine A_pc (pc' := 120) rfl ?_
          obtain ⟨q19, M20, hcq19, h⟩ := bnd_out h
          refine A_callV (ci := 4) (as := [vI (gI M3 a1 4), vI 65535]) (st' := []) (r1 := (none, M20)) rfl ml_Gate_114 rfl (by decide) (by decide) (Or.inl rfl) rfl rfl (Nat.le_of_ble_eq_true rfl) (by omega) (c_Ctx_become hcq19) (Or.inl rfl) ?_
          refine A_pc (pc' := 123) rfl ?_
          refine A_stk (st' := []) rfl ?_
          refine A_aload_n 0 rfl rfl rfl ?_
          refine A_getL (r := 139) rfl fl_Gate_32 rfl (by decide) rfl rfl ?_
          refine A_aload_n 0 rfl rfl rfl ?_
          refine A_getL (r := 138) rfl fl_Gate_25 rfl (by decide) rfl rfl ?_
          refine A_iload_n 2 rfl rfl rfl ?_
          refine A_pc (pc' := 132) rfl ?_
          obtain ⟨hg21, h⟩ := gi_out h
          refine A_aldL (t := 8) (C := "MethodWarden$Items") (n := 8) (r := 168 + 2 * a2.toNatClampNeg) rfl (by decide) ⟨by decide, by decide, rfl⟩ (by decide) hg21 rfl rfl ?_
          obtain ⟨r22, hr22, h⟩ := kM_out h
          refine A_nA hr22 ?_
          obtain ⟨q23, M24, hcq23, h⟩ := bnd_out h
          refine A_callV (ci := 7) (as := [vA r22]) (st' := []) (r1 := (some (vA q23), M24)) rfl ml_Gate_182 rfl (by decide) (by decide) (Or.inl rfl) rfl rfl (Nat.le_of_ble_eq_true rfl) (by omega) (c_Val_beList hcq23) (Or.inl rfl) ?_
          refine A_pc (pc' := 136) rfl ?_
          refine A_stk (st' := [vA q23]) rfl ?_
          refine A_pop rfl rfl ?_
          refine A_iconst (v := 0) rfl (by decide) ?_
          obtain ⟨rfl, rfl⟩ := leaf h
          exact A_iret rfl rfl
        · rw [if_neg hc18] at h
          by_cases hc25 : x4 = 5
          · rw [if_pos hc25] at h
            refine A_tableIn (tgt := 139) (off := 124) rfl (by rw [hc25]; decide) (by rw [hc25]; decide) (by rw [hc25]; rfl) (by decide) ?_
            refine A_aload_n 0 rfl rfl rfl ?_
            refine A_aload_n 1 rfl rfl rfl ?_
            refine A_getI rfl fl_Gate_175 rfl hg1 (Or.inl rfl) ?_
            refine A_iload_n 2 rfl rfl rfl ?_
            obtain ⟨q26, M27, hcq26, h⟩ := bnd_out h
            refine A_callV (ci := 8) (as := [vI (gI M3 a1 4), vI a2]) (st' := []) (r1 := (some (vI q26), M27)) rfl ml_Gate_193 rfl (by decide) (by decide) (Or.inl rfl) rfl rfl (Nat.le_of_ble_eq_true rfl) (by omega) (c_Gate_callOn dv hdv v hv hcq26) (Or.inl rfl) ?_
            refine A_pc (pc' := 148) rfl ?_
            refine A_stk (st' := [vI q26]) rfl ?_
            refine A_pc (pc' := 148) rfl ?_
            obtain ⟨rfl, rfl⟩ := leaf h
            exact A_iret rfl rfl
          · rw [if_neg hc25] at h
            by_cases hc28 : x4 = 6
            · rw [if_pos hc28] at h
              refine A_tableIn (tgt := 149) (off := 134) rfl (by rw [hc28]; decide) (by rw [hc28]; decide) (by rw [hc28]; rfl) (by decide) ?_
              refine A_aload_n 0 rfl rfl rfl ?_
              refine A_getL (r := 63) rfl fl_Gate_40 rfl (by decide) rfl rfl ?_
              obtain ⟨q29, M30, hcq29, h⟩ := bnd_out h
              refine A_callV (ci := 4) (as := []) (st' := []) (r1 := (none, M30)) rfl ml_Gate_197 rfl (by decide) (by decide) (Or.inl rfl) rfl rfl (Nat.le_of_ble_eq_true rfl) (by omega) (c_Ctx_leave hcq29) (Or.inl rfl) ?_
              refine A_pc (pc' := 156) rfl ?_
              refine A_stk (st' := []) rfl ?_
              refine A_aload_n 0 rfl rfl rfl ?_
              refine A_aload_n 1 rfl rfl rfl ?_
              refine A_pc (pc' := 158) rfl ?_
              refine A_getI rfl fl_Gate_175 rfl hg1 (Or.inl rfl) ?_
              refine A_iload_n 2 rfl rfl rfl ?_
              obtain ⟨q31, M32, hcq31, h⟩ := bnd_out h
              refine A_callV (ci := 8) (as := [vI (gI M30 a1 4), vI a2]) (st' := []) (r1 := (some (vI q31), M32)) rfl ml_Gate_193 rfl (by decide) (by decide) (Or.inl rfl) rfl rfl (Nat.le_of_ble_eq_true rfl) (by omega) (c_Gate_callOn dv hdv v hv hcq31) (Or.inl rfl) ?_
              refine A_pc (pc' := 165) rfl ?_
              refine A_stk (st' := [vI q31]) rfl ?_
              obtain ⟨rfl, rfl⟩ := leaf h
              exact A_iret rfl rfl
            · rw [if_neg hc28] at h
              refine A_tableDef (tgt := 166) [1, 2, 3, 4, 5, 6] rfl (by decide) (by decide) (fa_cons (ne_i hc5 (by decide)) (fa_cons (ne_i hc8 (by decide)) (fa_cons (ne_i hc15 (by decide)) (fa_cons (ne_i hc18 (by decide)) (fa_cons (ne_i hc25 (by decide)) (fa_cons (ne_i hc28 (by decide)) fa_nil)))))) (by decide) ?_
              refine A_aload_n 0 rfl rfl rfl ?_
              refine A_getL (r := 139) rfl fl_Gate_32 rfl (by decide) rfl rfl ?_
              obtain ⟨q33, M34, hcq33, h⟩ := bnd_out h
              refine A_callV (ci := 7) (as := []) (st' := []) (r1 := (some (vA q33), M34)) rfl ml_Gate_200 rfl (by decide) (by decide) (Or.inl rfl) rfl rfl (Nat.le_of_ble_eq_true rfl) (by omega) (c_Val_beNothing hcq33) (Or.inl rfl) ?_
              refine A_pc (pc' := 173) rfl ?_
              refine A_stk (st' := [vA q33]) rfl ?_
              refine A_pop rfl rfl ?_
              refine A_iconst (v := 0) rfl (by decide) ?_
              refine A_pc (pc' := 175) rfl ?_
              obtain ⟨rfl, rfl⟩ := leaf h
              exact A_iret rfl rfl
theorem fl_Gate_11 : fldOK "MethodWarden$Gate" 11 8 3 true := ⟨_, _, _, cls_Gate, by decide, by decide, rfl, Or.inl (inWG 385 (by decide +kernel) (by decide +kernel))⟩
theorem fl_Gate_90 : fldOK "MethodWarden$Gate" 90 4 2 false := ⟨_, _, _, cls_Ctx, by decide, by decide, rfl, Or.inr ⟨"MethodWarden", inNW 225 (by decide +kernel) (by decide +kernel)⟩⟩
theorem fl_Gate_95 : fldOK "MethodWarden$Gate" 95 4 3 false := ⟨_, _, _, cls_Ctx, by decide, by decide, rfl, Or.inr ⟨"MethodWarden", inNW 229 (by decide +kernel) (by decide +kernel)⟩⟩
theorem ml_Gate_98 : mlV "MethodWarden$Gate" 98 Y_Gate_guardOf 1 := ⟨⟨yok_Gate_guardOf, by decide +kernel, by decide⟩, Or.inl (inWG 815 (by decide +kernel) (by decide +kernel)), inWG 817 (by decide +kernel) (by decide +kernel), inWG 31 (by decide +kernel) (by decide +kernel)⟩
theorem ml_Gate_102 : mlV "MethodWarden$Gate" 102 Y_Gate_letIn 3 := ⟨⟨yok_Gate_letIn, by decide +kernel, by decide⟩, Or.inl (inWG 820 (by decide +kernel) (by decide +kernel)), inWG 822 (by decide +kernel) (by decide +kernel), inWG 32 (by decide +kernel) (by decide +kernel)⟩
theorem ml_Gate_106 : mlV "MethodWarden$Gate" 106 Y_Meth_note 1 := ⟨⟨yok_Meth_note, by decide +kernel, by decide⟩, Or.inl (inWG 994 (by decide +kernel) (by decide +kernel)), inWG 995 (by decide +kernel) (by decide +kernel), inWG 996 (by decide +kernel) (by decide +kernel)⟩
theorem ml_Gate_118 : mlV "MethodWarden$Gate" 118 Y_Gate_letOut 2 := ⟨⟨yok_Gate_letOut, by decide +kernel, by decide⟩, Or.inl (inWG 1026 (by decide +kernel) (by decide +kernel)), inWG 1028 (by decide +kernel) (by decide +kernel), inWG 51 (by decide +kernel) (by decide +kernel)⟩
theorem ml_Gate_110 : mlV "MethodWarden$Gate" 110 Y_Gate_work 2 := ⟨⟨yok_Gate_work, by decide +kernel, by decide⟩, Or.inl (inWG 998 (by decide +kernel) (by decide +kernel)), inWG 1000 (by decide +kernel) (by decide +kernel), inWG 48 (by decide +kernel) (by decide +kernel)⟩
def f_Gate_run_61 (v : Int32 → Int32 → ax_M → Option (Int32 × ax_M)) (l2 : Int32) (l3 : Nat) (l4 : Int32) (l5 : Int32) (l6 : Int32) (M : ax_M) : Option (Int32 × ax_M) :=
  bnd (f_Ctx_become l4 l5 M) (fun q12 M13 => if l6 = 0 then (gi l2 8 (kM (168 + 2 * l2.toNatClampNeg) (fun r20 => bnd (f_Gate_letOut l3 r20 M13) (fun q21 M22 => gk l3 9 (bnd (f_Meth_note l3 q21 M22) (fun q24 M25 => kM (mI M25 135 9 q21) (fun M26 => some (q21, M26)))))))) else (gk l3 9 (bnd (f_Meth_note l3 l6 M13) (fun q16 M17 => kM (mI M17 135 9 l6) (fun M18 => some (l6, M18))))))
set_option maxHeartbeats 4000000 in
set_option maxRecDepth 100000 in
theorem o_Gate_run_61 {l : Launch} {g : ax_G} (dv : Nat) (hdv : 110 ≤ dv) (v : Int32 → Int32 → ax_M → Option (Int32 × ax_M)) (hv : ∀ (a b : Int32) (M : ax_M) (r : Int32) (M' : ax_M), v a b M = some (r, M') → Ctr l g true Y_Gate_run dv [vA 135, vI a, vI b] M (some (vI r), M')) (l2 : Int32) (l3 : Nat) (l4 : Int32) (l5 : Int32) (l6 : Int32) (M : ax_M) (r : Int32) (M' : ax_M) (h : f_Gate_run_61 v  l2 l3 l4 l5 l6 M = some (r, M')) : AW l g true Y_Gate_run (dv + 3) (some (vI r), M') 61 [(0, vA 135), (2, vI l2), (3, vA l3), (4, vI l4), (5, vI l5), (6, vI l6)] [] M := by
  unfold f_Gate_run_61 at h
  refine A_aload_n 0 rfl rfl rfl ?_
  refine A_getL (r := 63) rfl fl_Gate_40 rfl (by decide) rfl rfl ?_
  refine A_iload 3 rfl rfl ?_
  refine A_iload 4 rfl rfl ?_
  obtain ⟨q12, M13, hcq12, h⟩ := bnd_out h
  refine A_callV (ci := 4) (as := [vI l4, vI l5]) (st' := []) (r1 := (none, M13)) rfl ml_Gate_114 rfl (by decide) (by decide) (Or.inl rfl) rfl rfl (Nat.le_of_ble_eq_true rfl) (by omega) (c_Ctx_become hcq12) (Or.inl rfl) ?_
  refine A_pc (pc' := 72) rfl ?_
  refine A_stk (st' := []) rfl ?_
  refine A_pc (pc' := 72) rfl ?_
  refine A_iload 5 rfl rfl ?_
  refine A_if_ne (tgt := 90) rfl (by decide) (fun hc14 => ?_) (fun hc14 => ?_)
  · rw [if_neg hc14] at h
    refine A_aload_n 2 rfl rfl rfl ?_
    refine A_iload 5 rfl rfl ?_
    obtain ⟨hg15, h⟩ := gk_out h
    obtain ⟨q16, M17, hcq16, h⟩ := bnd_out h
    refine A_callV (ci := 9) (as := [vI l6]) (st' := []) (r1 := (none, M17)) rfl ml_Gate_106 rfl (by decide) hg15 (Or.inl rfl) rfl rfl (Nat.le_of_ble_eq_true rfl) (by omega) (c_Meth_note hcq16) (Or.inl rfl) ?_
    refine A_pc (pc' := 96) rfl ?_
    refine A_stk (st' := []) rfl ?_
    refine A_aload_n 0 rfl rfl rfl ?_
    refine A_iload 5 rfl rfl ?_
    refine A_pc (pc' := 99) rfl ?_
    refine A_putI rfl (Or.inl fl_Gate_36) rfl (by decide) (Or.inl rfl) rfl ?_
    obtain ⟨M18, hM18, h⟩ := kM_out h
    refine A_mem hM18 ?_
    refine A_iload 5 rfl rfl ?_
    obtain ⟨rfl, rfl⟩ := leaf h
    exact A_iret rfl rfl
  · rw [if_pos hc14] at h
    refine A_pc (pc' := 77) rfl ?_
    refine A_aload_n 0 rfl rfl rfl ?_
    refine A_aload_n 2 rfl rfl rfl ?_
    refine A_aload_n 0 rfl rfl rfl ?_
    refine A_getL (r := 138) rfl fl_Gate_25 rfl (by decide) rfl rfl ?_
    refine A_iload_n 1 rfl rfl rfl ?_
    refine A_pc (pc' := 84) rfl ?_
    obtain ⟨hg19, h⟩ := gi_out h
    refine A_aldL (t := 8) (C := "MethodWarden$Items") (n := 8) (r := 168 + 2 * l2.toNatClampNeg) rfl (by decide) ⟨by decide, by decide, rfl⟩ (by decide) hg19 rfl rfl ?_
    obtain ⟨r20, hr20, h⟩ := kM_out h
    refine A_nA hr20 ?_
    obtain ⟨q21, M22, hcq21, h⟩ := bnd_out h
    refine A_callV (ci := 8) (as := [vA l3, vA r20]) (st' := []) (r1 := (some (vI q21), M22)) rfl ml_Gate_118 rfl (by decide) (by decide) (Or.inl rfl) rfl rfl (Nat.le_of_ble_eq_true rfl) (by omega) (c_Gate_letOut hcq21) (Or.inl rfl) ?_
    refine A_pc (pc' := 88) rfl ?_
    refine A_stk (st' := [vI q21]) rfl ?_
    refine A_istore (Ls' := [(6, vI q21), (0, vA 135), (2, vI l2), (3, vA l3), (4, vI l4), (5, vI l5)]) rfl (by decide) rfl ?_
    refine A_aload_n 3 rfl rfl rfl ?_
    refine A_iload 0 rfl rfl ?_
    obtain ⟨hg23, h⟩ := gk_out h
    obtain ⟨q24, M25, hcq24, h⟩ := bnd_out h
    refine A_callV (ci := 9) (as := [vI q21]) (st' := []) (r1 := (none, M25)) rfl ml_Gate_106 rfl (by decide) hg23 (Or.inl rfl) rfl rfl (Nat.le_of_ble_eq_true rfl) (by omega) (c_Meth_note hcq24) (Or.inl rfl) ?_
    refine A_pc (pc' := 96) rfl ?_
    refine A_stk (st' := []) rfl ?_
    refine A_pc (pc' := 96) rfl ?_
    refine A_aload_n 1 rfl rfl rfl ?_
    refine A_iload 0 rfl rfl ?_
    refine A_putI rfl (Or.inl fl_Gate_36) rfl (by decide) (Or.inl rfl) rfl ?_
    obtain ⟨M26, hM26, h⟩ := kM_out h
    refine A_mem hM26 ?_
    refine A_iload 0 rfl rfl ?_
    obtain ⟨rfl, rfl⟩ := leaf h
    exact A_iret rfl rfl
def fb_Gate_run (v : Int32 → Int32 → ax_M → Option (Int32 × ax_M)) (a1 : Int32) (a2 : Int32) (M : ax_M) : Option (Int32 × ax_M) :=
  gi a1 8 (kM (142 + 2 * a1.toNatClampNeg) (fun r2 => kM (gI M 63 2) (fun x3 => kM (gI M 63 3) (fun x4 => bnd (f_Gate_guardOf a1 M) (fun q5 M6 => gi a2 8 (kM (168 + 2 * a2.toNatClampNeg) (fun r8 => bnd (f_Gate_letIn r2 q5 r8 M6) (fun q9 M10 => if q9 = 0 then (bnd (f_Meth_note r2 5 M10) (fun q27 M28 => bnd (f_Gate_work v r2 a2 M28) (fun q29 M30 => f_Gate_run_61 v a2 r2 x3 x4 q29 M30))) else (f_Gate_run_61 v a2 r2 x3 x4 q9 M10)))))))))
set_option maxHeartbeats 4000000 in
set_option maxRecDepth 100000 in
theorem cb_Gate_run {l : Launch} {g : ax_G} (dv : Nat) (hdv : 110 ≤ dv) (v : Int32 → Int32 → ax_M → Option (Int32 × ax_M)) (hv : ∀ (a b : Int32) (M : ax_M) (r : Int32) (M' : ax_M), v a b M = some (r, M') → Ctr l g true Y_Gate_run dv [vA 135, vI a, vI b] M (some (vI r), M')) {a1 : Int32} {a2 : Int32} {M : ax_M} {r : Int32} {M' : ax_M} (h : fb_Gate_run v a1 a2 M = some (r, M')) : Ctr l g true Y_Gate_run (dv + 3) [vA 135, vI a1, vI a2] M (some (vI r), M') := by
  refine Ctr.ofAW yok_Gate_run (Nat.le_of_ble_eq_true rfl) (Or.inl rfl) ?_
  show AW l g true Y_Gate_run (dv + 3) (some (vI r), M') 0 [(0, vA 135), (1, vI a1), (2, vI a2)] [] M
  unfold fb_Gate_run at h
  refine A_aload_n 0 rfl rfl rfl ?_
  refine A_getL (r := 136) rfl fl_Gate_11 rfl (by decide) rfl rfl ?_
  refine A_iload_n 1 rfl rfl rfl ?_
  obtain ⟨hg1, h⟩ := gi_out h
  refine A_aldL (t := 6) (C := "MethodWarden$Method") (n := 8) (r := 142 + 2 * a1.toNatClampNeg) rfl (by decide) ⟨by decide, by decide, rfl⟩ (by decide) hg1 rfl rfl ?_
  obtain ⟨r2, hr2, h⟩ := kM_out h
  refine A_nA hr2 ?_
  refine A_astore_n (Ls' := [(3, vA r2), (0, vA 135), (1, vI a1), (2, vI a2)]) rfl rfl (by decide) rfl ?_
  refine A_pc (pc' := 7) rfl ?_
  refine A_aload_n 1 rfl rfl rfl ?_
  refine A_getL (r := 63) rfl fl_Gate_40 rfl (by decide) rfl rfl ?_
  refine A_getI rfl fl_Gate_90 rfl (by decide) (Or.inl rfl) ?_
  obtain ⟨x3, hx3, h⟩ := kM_out h
  refine A_nI hx3 ?_
  refine A_istore (Ls' := [(4, vI x3), (3, vA r2), (0, vA 135), (1, vI a1), (2, vI a2)]) rfl (by decide) rfl ?_
  refine A_aload_n 2 rfl rfl rfl ?_
  refine A_getL (r := 63) rfl fl_Gate_40 rfl (by decide) rfl rfl ?_
  refine A_pc (pc' := 20) rfl ?_
  refine A_getI rfl fl_Gate_95 rfl (by decide) (Or.inl rfl) ?_
  obtain ⟨x4, hx4, h⟩ := kM_out h
  refine A_nI hx4 ?_
  refine A_istore (Ls' := [(5, vI x4), (4, vI x3), (3, vA r2), (0, vA 135), (1, vI a1), (2, vI a2)]) rfl (by decide) rfl ?_
  refine A_aload_n 3 rfl rfl rfl ?_
  refine A_aload_n 2 rfl rfl rfl ?_
  refine A_aload_n 3 rfl rfl rfl ?_
  refine A_iload_n 4 rfl rfl rfl ?_
  refine A_pc (pc' := 29) rfl ?_
  obtain ⟨q5, M6, hcq5, h⟩ := bnd_out h
  refine A_callV (ci := 8) (as := [vI a1]) (st' := [vA r2, vA 135]) (r1 := (some (vA q5), M6)) rfl ml_Gate_98 rfl (by decide) (by decide) (Or.inl rfl) rfl rfl (Nat.le_of_ble_eq_true rfl) (by omega) (c_Gate_guardOf hcq5) (Or.inl rfl) ?_
  refine A_pc (pc' := 32) rfl ?_
  refine A_stk (st' := [vA q5, vA r2, vA 135]) rfl ?_
  refine A_aload_n 3 rfl rfl rfl ?_
  refine A_getL (r := 138) rfl fl_Gate_25 rfl (by decide) rfl rfl ?_
  refine A_iload_n 5 rfl rfl rfl ?_
  obtain ⟨hg7, h⟩ := gi_out h
  refine A_aldL (t := 8) (C := "MethodWarden$Items") (n := 8) (r := 168 + 2 * a2.toNatClampNeg) rfl (by decide) ⟨by decide, by decide, rfl⟩ (by decide) hg7 rfl rfl ?_
  obtain ⟨r8, hr8, h⟩ := kM_out h
  refine A_nA hr8 ?_
  obtain ⟨q9, M10, hcq9, h⟩ := bnd_out h
  refine A_callV (ci := 8) (as := [vA r2, vA q5, vA r8]) (st' := []) (r1 := (some (vI q9), M10)) rfl ml_Gate_102 rfl (by decide) (by decide) (Or.inl rfl) rfl rfl (Nat.le_of_ble_eq_true rfl) (by omega) (c_Gate_letIn hcq9) (Or.inl rfl) ?_
  refine A_pc (pc' := 41) rfl ?_
  refine A_stk (st' := [vI q9]) rfl ?_
  refine A_pc (pc' := 41) rfl ?_
  refine A_istore (Ls' := [(6, vI q9), (5, vI x4), (4, vI x3), (3, vA r2), (0, vA 135), (1, vI a1), (2, vI a2)]) rfl (by decide) rfl ?_
  refine A_iload 0 rfl rfl ?_
  refine A_if_ne (tgt := 61) rfl (by decide) (fun hc11 => ?_) (fun hc11 => ?_)
  · rw [if_neg hc11] at h
    refine A_pc (pc' := 61) rfl ?_
    refine A_sub (Ls' := [(0, vA 135), (2, vI a2), (3, vA r2), (4, vI x3), (5, vI x4), (6, vI q9)]) [4, 6, 3, 2, 1, 0] rfl ?_
    exact o_Gate_run_61 dv hdv v hv  _ _ _ _ _ _ _ _ h
  · rw [if_pos hc11] at h
    refine A_pc (pc' := 48) rfl ?_
    refine A_aload_n 3 rfl rfl rfl ?_
    refine A_iconst (v := 5) rfl (by decide) ?_
    obtain ⟨q27, M28, hcq27, h⟩ := bnd_out h
    refine A_callV (ci := 9) (as := [vI 5]) (st' := []) (r1 := (none, M28)) rfl ml_Gate_106 rfl (by decide) (hr2 ▸ (la_106 _ (vin_lt hg1))) (Or.inl rfl) rfl rfl (Nat.le_of_ble_eq_true rfl) (by omega) (c_Meth_note hcq27) (Or.inl rfl) ?_
    refine A_pc (pc' := 53) rfl ?_
    refine A_stk (st' := []) rfl ?_
    refine A_aload_n 4 rfl rfl rfl ?_
    refine A_aload_n 3 rfl rfl rfl ?_
    refine A_pc (pc' := 55) rfl ?_
    refine A_iload_n 6 rfl rfl rfl ?_
    obtain ⟨q29, M30, hcq29, h⟩ := bnd_out h
    refine A_callV (ci := 8) (as := [vA r2, vI a2]) (st' := []) (r1 := (some (vI q29), M30)) rfl ml_Gate_110 rfl (by decide) (by decide) (Or.inl rfl) rfl rfl (Nat.le_of_ble_eq_true rfl) (by omega) (c_Gate_work dv hdv v hv hcq29) (Or.inl rfl) ?_
    refine A_pc (pc' := 59) rfl ?_
    refine A_stk (st' := [vI q29]) rfl ?_
    refine A_istore (Ls' := [(6, vI q29), (5, vI x4), (4, vI x3), (3, vA r2), (0, vA 135), (1, vI a1), (2, vI a2)]) rfl (by decide) rfl ?_
    refine A_pc (pc' := 61) rfl ?_
    refine A_sub (Ls' := [(0, vA 135), (2, vI a2), (3, vA r2), (4, vI x3), (5, vI x4), (6, vI q29)]) [4, 6, 3, 2, 1, 0] rfl ?_
    exact o_Gate_run_61 dv hdv v hv  _ _ _ _ _ _ _ _ h
def f_Gate_run : Nat → Int32 → Int32 → ax_M → Option (Int32 × ax_M)
  | 0, _, _, _ => none
  | n + 1, a, b, M => fb_Gate_run (f_Gate_run n) a b M
theorem c_Gate_run {l : Launch} {g : ax_G} : ∀ (n : Nat) {a b : Int32} {M : ax_M} {r : Int32} {M' : ax_M}, f_Gate_run n a b M = some (r, M') → Ctr l g true Y_Gate_run (3 * n + 110) [vA 135, vI a, vI b] M (some (vI r), M')
  | 0, _, _, _, _, _, h => by cases h
  | n + 1, _, _, _, _, _, h => cb_Gate_run (3 * n + 110) (by omega) _ (fun _ _ _ _ _ z => c_Gate_run n z) h
