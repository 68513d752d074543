/-! Reader. Printed by gen_methods.py. -/
def tb_Reader_pushOperand : List (Nat × Instr × Nat) := [(0, .aload_n 0, 1), (1, .getfield 31, 3), (4, .bipush 20, 2), (6, .if_icmp .ge 23, 3), (9, .aload_n 0, 1), (10, .getfield 15, 3), (13, .aload_n 0, 1), (14, .getfield 31, 3), (17, .iload_n 1, 1), (18, .iastore, 1), (19, .aload_n 0, 1), (20, .dup, 1), (21, .getfield 31, 3), (24, .iconst 1, 1), (25, .iadd, 1), (26, .putfield 31, 3), (29, .return_, 1)]
def Y_Reader_pushOperand : ax_Y := (⟨"MethodWarden$Reader", "pushOperand", "(I)V"⟩, prog_8_method_18_code, 2, none, tb_Reader_pushOperand)
theorem yok_Reader_pushOperand : yOK Y_Reader_pushOperand := ⟨by decide +kernel, by decide +kernel, inWG 614 (by decide +kernel) (by decide +kernel), inWG 98 (by decide +kernel) (by decide +kernel), by decide +kernel⟩
theorem fl_Reader_31 : fldOK "MethodWarden$Reader" 31 2 3 false := ⟨_, _, _, cls_Reader, by decide, by decide, rfl, Or.inl (inWG 160 (by decide +kernel) (by decide +kernel))⟩
theorem fl_Reader_15 : fldOK "MethodWarden$Reader" 15 2 2 true := ⟨_, _, _, cls_Reader, by decide, by decide, rfl, Or.inl (inWG 159 (by decide +kernel) (by decide +kernel))⟩
def f_Reader_pushOperand (a1 : Int32) (M : ax_M) : Option (Unit × ax_M) :=
  if 20 ≤ (gI M 5 3) then (some ((), M)) else (gi (gI M 5 3) 20 (kM (mI M 7 (gI M 5 3).toNatClampNeg a1) (fun M3 => kM (mI M3 5 3 ((gI M3 5 3) + 1)) (fun M4 => some ((), M4)))))
set_option maxHeartbeats 4000000 in
set_option maxRecDepth 100000 in
theorem c_Reader_pushOperand {l : Launch} {g : ax_G} {a1 : Int32} {M : ax_M} {r : Unit} {M' : ax_M} (h : f_Reader_pushOperand a1 M = some (r, M')) : Ctr l g true Y_Reader_pushOperand 1 [vA 5, vI a1] M (none, M') := by
  refine Ctr.ofAW yok_Reader_pushOperand (Nat.le_of_ble_eq_true rfl) (Or.inl rfl) ?_
  show AW l g true Y_Reader_pushOperand 1 (none, M') 0 [(0, vA 5), (1, vI a1)] [] M
  unfold f_Reader_pushOperand at h
  refine A_aload_n 0 rfl rfl rfl ?_
  refine A_getI rfl fl_Reader_31 rfl (by decide) (Or.inl rfl) ?_
  refine A_bipush (v := 20) rfl (by decide) ?_
  refine A_icmp_ge (tgt := 29) rfl (by decide) (fun hc1 => ?_) (fun hc1 => ?_)
  · rw [if_pos hc1] at h
    obtain ⟨rfl, rfl⟩ := leaf h
    exact A_vret rfl rfl
  · rw [if_neg hc1] at h
    refine A_pc (pc' := 9) rfl ?_
    refine A_aload_n 0 rfl rfl rfl ?_
    refine A_getL (r := 7) rfl fl_Reader_15 rfl (by decide) rfl rfl ?_
    refine A_aload_n 0 rfl rfl rfl ?_
    refine A_getI rfl fl_Reader_31 rfl (by decide) (Or.inl rfl) ?_
    refine A_iload_n 1 rfl rfl rfl ?_
    refine A_pc (pc' := 18) rfl ?_
    obtain ⟨hg2, h⟩ := gi_out h
    refine A_iast (n := 20) rfl (by decide) (by decide) (Or.inl rfl) hg2 ?_
    obtain ⟨M3, hM3, h⟩ := kM_out h
    refine A_mem hM3 ?_
    refine A_aload_n 0 rfl rfl rfl ?_
    refine A_dup rfl rfl ?_
    refine A_getI rfl fl_Reader_31 rfl (by decide) (Or.inl rfl) ?_
    refine A_iconst (v := 1) rfl (by decide) ?_
    refine A_iadd rfl ?_
    refine A_pc (pc' := 26) rfl ?_
    refine A_putI rfl (Or.inl fl_Reader_31) rfl (by decide) (Or.inl rfl) rfl ?_
    obtain ⟨M4, hM4, h⟩ := kM_out h
    refine A_mem hM4 ?_
    obtain ⟨rfl, rfl⟩ := leaf h
    exact A_vret rfl rfl
def tb_Reader_popOperand : List (Nat × Instr × Nat) := [(0, .aload_n 0, 1), (1, .getfield 31, 3), (4, .ifCond .gt 5, 3), (7, .iconst (-1), 1), (8, .ireturn, 1), (9, .aload_n 0, 1), (10, .dup, 1), (11, .getfield 31, 3), (14, .iconst 1, 1), (15, .isub, 1), (16, .putfield 31, 3), (19, .aload_n 0, 1), (20, .getfield 15, 3), (23, .aload_n 0, 1), (24, .getfield 31, 3), (27, .iaload, 1), (28, .ireturn, 1)]
def Y_Reader_popOperand : ax_Y := (⟨"MethodWarden$Reader", "popOperand", "()I"⟩, prog_8_method_19_code, 1, some .int, tb_Reader_popOperand)
theorem yok_Reader_popOperand : yOK Y_Reader_popOperand := ⟨by decide +kernel, by decide +kernel, inWG 603 (by decide +kernel) (by decide +kernel), inWG 98 (by decide +kernel) (by decide +kernel), by decide +kernel⟩
def f_Reader_popOperand  (M : ax_M) : Option (Int32 × ax_M) :=
  if 0 < (gI M 5 3) then (kM (mI M 5 3 ((gI M 5 3) - 1)) (fun M2 => gi (gI M2 5 3) 20 (some (gI M2 7 (gI M2 5 3).toNatClampNeg, M2)))) else (some ((-1), M))
set_option maxHeartbeats 4000000 in
set_option maxRecDepth 100000 in
theorem c_Reader_popOperand {l : Launch} {g : ax_G}  {M : ax_M} {r : Int32} {M' : ax_M} (h : f_Reader_popOperand  M = some (r, M')) : Ctr l g true Y_Reader_popOperand 1 [vA 5] M (some (vI r), M') := by
  refine Ctr.ofAW yok_Reader_popOperand (Nat.le_of_ble_eq_true rfl) (Or.inl rfl) ?_
  show AW l g true Y_Reader_popOperand 1 (some (vI r), M') 0 [(0, vA 5)] [] M
  unfold f_Reader_popOperand at h
  refine A_aload_n 0 rfl rfl rfl ?_
  refine A_getI rfl fl_Reader_31 rfl (by decide) (Or.inl rfl) ?_
  refine A_if_gt (tgt := 9) rfl (by decide) (fun hc1 => ?_) (fun hc1 => ?_)
  · rw [if_pos hc1] at h
    refine A_aload_n 0 rfl rfl rfl ?_
    refine A_dup rfl rfl ?_
    refine A_getI rfl fl_Reader_31 rfl (by decide) (Or.inl rfl) ?_
    refine A_iconst (v := 1) rfl (by decide) ?_
    refine A_isub rfl ?_
    refine A_pc (pc' := 16) rfl ?_
    refine A_putI rfl (Or.inl fl_Reader_31) rfl (by decide) (Or.inl rfl) rfl ?_
    obtain ⟨M2, hM2, h⟩ := kM_out h
    refine A_mem hM2 ?_
    refine A_aload_n 0 rfl rfl rfl ?_
    refine A_getL (r := 7) rfl fl_Reader_15 rfl (by decide) rfl rfl ?_
    refine A_aload_n 0 rfl rfl rfl ?_
    refine A_getI rfl fl_Reader_31 rfl (by decide) (Or.inl rfl) ?_
    obtain ⟨hg3, h⟩ := gi_out h
    refine A_iald (n := 20) rfl (by decide) (by decide) (Or.inl rfl) hg3 ?_
    refine A_pc (pc' := 28) rfl ?_
    obtain ⟨rfl, rfl⟩ := leaf h
    exact A_iret rfl rfl
  · rw [if_neg hc1] at h
    refine A_pc (pc' := 7) rfl ?_
    refine A_iconst (v := (-1)) rfl (by decide) ?_
    obtain ⟨rfl, rfl⟩ := leaf h
    exact A_iret rfl rfl
def tb_Reader_join : List (Nat × Instr × Nat) := [(0, .iload_n 1, 1), (1, .bipush 42, 2), (3, .if_icmp .ne 10, 3), (6, .aload_n 0, 1), (7, .invokevirtual 136, 3), (10, .goto 4, 3), (13, .iconst (-1), 1), (14, .istore_n 2, 1), (15, .iload_n 1, 1), (16, .invokestatic 139, 3), (19, .ifCond .eq 7, 3), (22, .iconst (-1), 1), (23, .goto 7, 3), (26, .aload_n 0, 1), (27, .invokevirtual 136, 3), (30, .istore_n 3, 1), (31, .aload_n 0, 1), (32, .invokevirtual 136, 3), (35, .istore 4, 2), (37, .aload_n 0, 1), (38, .aload_n 0, 1), (39, .getfield 23, 3), (42, .iload_n 1, 1), (43, .iload 4, 2), (45, .iload_n 3, 1), (46, .iload_n 2, 1), (47, .invokevirtual 142, 3), (50, .invokevirtual 104, 3), (53, .return_, 1)]
def Y_Reader_join : ax_Y := (⟨"MethodWarden$Reader", "join", "(I)V"⟩, prog_8_method_17_code, 5, none, tb_Reader_join)
theorem yok_Reader_join : yOK Y_Reader_join := ⟨by decide +kernel, by decide +kernel, inWG 599 (by decide +kernel) (by decide +kernel), inWG 98 (by decide +kernel) (by decide +kernel), by decide +kernel⟩
theorem fl_Reader_23 : fldOK "MethodWarden$Reader" 23 2 7 false := ⟨_, _, _, cls_Reader, by decide, by decide, rfl, Or.inl (inWG 164 (by decide +kernel) (by decide +kernel))⟩
theorem ml_Reader_139 : mlS "MethodWarden$Reader" 139 Y_Tok_isOfOne 1 := ⟨⟨yok_Tok_isOfOne, by decide +kernel, by decide⟩, Or.inl (inWG 604 (by decide +kernel) (by decide +kernel)), inWG 605 (by decide +kernel) (by decide +kernel)⟩
theorem ml_Reader_136 : mlV "MethodWarden$Reader" 136 Y_Reader_popOperand 0 := ⟨⟨yok_Reader_popOperand, by decide +kernel, by decide⟩, Or.inl (inWG 600 (by decide +kernel) (by decide +kernel)), inWG 602 (by decide +kernel) (by decide +kernel), inWG 13 (by decide +kernel) (by decide +kernel)⟩
theorem ml_Reader_142 : mlV "MethodWarden$Reader" 142 Y_Expr_appendPart 4 := ⟨⟨yok_Expr_appendPart, by decide +kernel, by decide⟩, Or.inl (inWG 607 (by decide +kernel) (by decide +kernel)), inWG 608 (by decide +kernel) (by decide +kernel), inWG 609 (by decide +kernel) (by decide +kernel)⟩
theorem ml_Reader_104 : mlV "MethodWarden$Reader" 104 Y_Reader_pushOperand 1 := ⟨⟨yok_Reader_pushOperand, by decide +kernel, by decide⟩, Or.inl (inWG 611 (by decide +kernel) (by decide +kernel)), inWG 613 (by decide +kernel) (by decide +kernel), inWG 14 (by decide +kernel) (by decide +kernel)⟩
def f_Reader_join_14 (l1 : Int32) (s0 : Int32) (M : ax_M) : Option (Unit × ax_M) :=
  bnd (f_Tok_isOfOne l1 M) (fun q2 M3 => if q2 = 0 then (bnd (f_Reader_popOperand  M3) (fun q5 M6 => bnd (f_Reader_popOperand  M6) (fun q7 M8 => kM (gA M8 5 7) (fun r9 => gk r9 3 (bnd (f_Expr_appendPart r9 l1 q7 q5 s0 M8) (fun q11 M12 => bnd (f_Reader_pushOperand q11 M12) (fun q13 M14 => some ((), M14)))))))) else (bnd (f_Reader_popOperand  M3) (fun q15 M16 => kM (gA M16 5 7) (fun r17 => gk r17 3 (bnd (f_Expr_appendPart r17 l1 q15 ((-1)) s0 M16) (fun q19 M20 => bnd (f_Reader_pushOperand q19 M20) (fun q21 M22 => some ((), M22))))))))
set_option maxHeartbeats 4000000 in
set_option maxRecDepth 100000 in
theorem o_Reader_join_14 {l : Launch} {g : ax_G} (l1 : Int32) (s0 : Int32) (M : ax_M) (r : Unit) (M' : ax_M) (h : f_Reader_join_14  l1 s0 M = some (r, M')) : AW l g true Y_Reader_join 2 (none, M') 14 [(0, vA 5), (1, vI l1)] [vI s0] M := by
  unfold f_Reader_join_14 at h
  refine A_istore_n (Ls' := [(2, vI s0), (0, vA 5), (1, vI l1)]) rfl rfl (by decide) rfl ?_
  refine A_iload_n 2 rfl rfl rfl ?_
  obtain ⟨q2, M3, hcq2, h⟩ := bnd_out h
  refine A_callS (as := [vI l1]) (st' := []) (r1 := (some (vI q2), M3)) rfl ml_Reader_139 rfl rfl (Nat.le_of_ble_eq_true rfl) (by decide) (c_Tok_isOfOne hcq2) (Or.inl rfl) ?_
  refine A_pc (pc' := 19) rfl ?_
  refine A_stk (st' := [vI q2]) rfl ?_
  refine A_if_eq (tgt := 26) rfl (by decide) (fun hc4 => ?_) (fun hc4 => ?_)
  · rw [if_pos hc4] at h
    refine A_aload_n 1 rfl rfl rfl ?_
    obtain ⟨q5, M6, hcq5, h⟩ := bnd_out h
    refine A_callV (ci := 2) (as := []) (st' := []) (r1 := (some (vI q5), M6)) rfl ml_Reader_136 rfl (by decide) (by decide) (Or.inl rfl) rfl rfl (Nat.le_of_ble_eq_true rfl) (by decide) (c_Reader_popOperand hcq5) (Or.inl rfl) ?_
    refine A_pc (pc' := 30) rfl ?_
    refine A_stk (st' := [vI q5]) rfl ?_
    refine A_istore_n (Ls' := [(3, vI q5), (2, vI s0), (0, vA 5), (1, vI l1)]) rfl rfl (by decide) rfl ?_
    refine A_aload_n 2 rfl rfl rfl ?_
    obtain ⟨q7, M8, hcq7, h⟩ := bnd_out h
    refine A_callV (ci := 2) (as := []) (st' := []) (r1 := (some (vI q7), M8)) rfl ml_Reader_136 rfl (by decide) (by decide) (Or.inl rfl) rfl rfl (Nat.le_of_ble_eq_true rfl) (by decide) (c_Reader_popOperand hcq7) (Or.inl rfl) ?_
    refine A_pc (pc' := 35) rfl ?_
    refine A_stk (st' := [vI q7]) rfl ?_
    refine A_pc (pc' := 35) rfl ?_
    refine A_istore (Ls' := [(4, vI q7), (3, vI q5), (2, vI s0), (0, vA 5), (1, vI l1)]) rfl (by decide) rfl ?_
    refine A_aload_n 3 rfl rfl rfl ?_
    refine A_aload_n 3 rfl rfl rfl ?_
    refine A_getA rfl fl_Reader_23 rfl (by decide) (Or.inl rfl) ?_
    obtain ⟨r9, hr9, h⟩ := kM_out h
    refine A_nA hr9 ?_
    refine A_iload_n 4 rfl rfl rfl ?_
    refine A_iload 0 rfl rfl ?_
    refine A_pc (pc' := 45) rfl ?_
    refine A_iload_n 1 rfl rfl rfl ?_
    refine A_iload_n 2 rfl rfl rfl ?_
    obtain ⟨hg10, h⟩ := gk_out h
    obtain ⟨q11, M12, hcq11, h⟩ := bnd_out h
    refine A_callV (ci := 3) (as := [vI l1, vI q7, vI q5, vI s0]) (st' := [vA 5]) (r1 := (some (vI q11), M12)) rfl ml_Reader_142 rfl (by decide) hg10 (Or.inl rfl) rfl rfl (Nat.le_of_ble_eq_true rfl) (by decide) (c_Expr_appendPart hcq11) (Or.inl rfl) ?_
    refine A_pc (pc' := 50) rfl ?_
    refine A_stk (st' := [vI q11, vA 5]) rfl ?_
    obtain ⟨q13, M14, hcq13, h⟩ := bnd_out h
    refine A_callV (ci := 2) (as := [vI q11]) (st' := []) (r1 := (none, M14)) rfl ml_Reader_104 rfl (by decide) (by decide) (Or.inl rfl) rfl rfl (Nat.le_of_ble_eq_true rfl) (by decide) (c_Reader_pushOperand hcq13) (Or.inl rfl) ?_
    refine A_pc (pc' := 53) rfl ?_
    refine A_stk (st' := []) rfl ?_
    obtain ⟨rfl, rfl⟩ := leaf h
    exact A_vret rfl rfl
  · rw [if_neg hc4] at h
    refine A_pc (pc' := 22) rfl ?_
    refine A_iconst (v := (-1)) rfl (by decide) ?_
    refine A_goto (tgt := 30) rfl (by decide) ?_
    refine A_istore_n (Ls' := [(3, vI ((-1))), (2, vI s0), (0, vA 5), (1, vI l1)]) rfl rfl (by decide) rfl ?_
    refine A_aload_n 2 rfl rfl rfl ?_
    obtain ⟨q15, M16, hcq15, h⟩ := bnd_out h
    refine A_callV (ci := 2) (as := []) (st' := []) (r1 := (some (vI q15), M16)) rfl ml_Reader_136 rfl (by decide) (by decide) (Or.inl rfl) rfl rfl (Nat.le_of_ble_eq_true rfl) (by decide) (c_Reader_popOperand hcq15) (Or.inl rfl) ?_
    refine A_pc (pc' := 35) rfl ?_
    refine A_stk (st' := [vI q15]) rfl ?_
    refine A_pc (pc' := 35) rfl ?_
    refine A_istore (Ls' := [(4, vI q15), (3, vI ((-1))), (2, vI s0), (0, vA 5), (1, vI l1)]) rfl (by decide) rfl ?_
    refine A_aload_n 3 rfl rfl rfl ?_
    refine A_aload_n 3 rfl rfl rfl ?_
    refine A_getA rfl fl_Reader_23 rfl (by decide) (Or.inl rfl) ?_
    obtain ⟨r17, hr17, h⟩ := kM_out h
    refine A_nA hr17 ?_
    refine A_iload_n 4 rfl rfl rfl ?_
    refine A_iload 0 rfl rfl ?_
    refine A_pc (pc' := 45) rfl ?_
    refine A_iload_n 1 rfl rfl rfl ?_
    refine A_iload_n 2 rfl rfl rfl ?_
    obtain ⟨hg18, h⟩ := gk_out h
    obtain ⟨q19, M20, hcq19, h⟩ := bnd_out h
    refine A_callV (ci := 3) (as := [vI l1, vI q15, vI ((-1)), vI s0]) (st' := [vA 5]) (r1 := (some (vI q19), M20)) rfl ml_Reader_142 rfl (by decide) hg18 (Or.inl rfl) rfl rfl (Nat.le_of_ble_eq_true rfl) (by decide) (c_Expr_appendPart hcq19) (Or.inl rfl) ?_
    refine A_pc (pc' := 50) rfl ?_
    refine A_stk (st' := [vI q19, vA 5]) rfl ?_
    obtain ⟨q21, M22, hcq21, h⟩ := bnd_out h
    refine A_callV (ci := 2) (as := [vI q19]) (st' := []) (r1 := (none, M22)) rfl ml_Reader_104 rfl (by decide) (by decide) (Or.inl rfl) rfl rfl (Nat.le_of_ble_eq_true rfl) (by decide) (c_Reader_pushOperand hcq21) (Or.inl rfl) ?_
    refine A_pc (pc' := 53) rfl ?_
    refine A_stk (st' := []) rfl ?_
    obtain ⟨rfl, rfl⟩ := leaf h
    exact A_vret rfl rfl
def f_Reader_join (a1 : Int32) (M : ax_M) : Option (Unit × ax_M) :=
  if a1 = 42 then (bnd (f_Reader_popOperand  M) (fun q23 M24 => f_Reader_join_14 a1 q23 M24)) else (f_Reader_join_14 a1 ((-1)) M)
set_option maxHeartbeats 4000000 in
set_option maxRecDepth 100000 in
theorem c_Reader_join {l : Launch} {g : ax_G} {a1 : Int32} {M : ax_M} {r : Unit} {M' : ax_M} (h : f_Reader_join a1 M = some (r, M')) : Ctr l g true Y_Reader_join 2 [vA 5, vI a1] M (none, M') := by
  refine Ctr.ofAW yok_Reader_join (Nat.le_of_ble_eq_true rfl) (Or.inl rfl) ?_
  show AW l g true Y_Reader_join 2 (none, M') 0 [(0, vA 5), (1, vI a1)] [] M
  unfold f_Reader_join at h
  refine A_iload_n 1 rfl rfl rfl ?_
  refine A_bipush (v := 42) rfl (by decide) ?_
  refine A_icmp_ne (tgt := 13) rfl (by decide) (fun hc1 => ?_) (fun hc1 => ?_)
  · rw [if_neg hc1] at h
    refine A_iconst (v := (-1)) rfl (by decide) ?_
    refine A_pc (pc' := 14) rfl ?_
    refine A_sub (Ls' := [(0, vA 5), (1, vI a1)]) [0, 1] rfl ?_
    exact o_Reader_join_14  _ _ _ _ _ h
  · rw [if_pos hc1] at h
    refine A_pc (pc' := 6) rfl ?_
    refine A_aload_n 0 rfl rfl rfl ?_
    obtain ⟨q23, M24, hcq23, h⟩ := bnd_out h
    refine A_callV (ci := 2) (as := []) (st' := []) (r1 := (some (vI q23), M24)) rfl ml_Reader_136 rfl (by decide) (by decide) (Or.inl rfl) rfl rfl (Nat.le_of_ble_eq_true rfl) (by decide) (c_Reader_popOperand hcq23) (Or.inl rfl) ?_
    refine A_pc (pc' := 10) rfl ?_
    refine A_stk (st' := [vI q23]) rfl ?_
    refine A_goto (tgt := 14) rfl (by decide) ?_
    refine A_pc (pc' := 14) rfl ?_
    refine A_sub (Ls' := [(0, vA 5), (1, vI a1)]) [0, 1] rfl ?_
    exact o_Reader_join_14  _ _ _ _ _ h
def tb_Reader_joinDownTo : List (Nat × Instr × Nat) := [(0, .aload_n 0, 1), (1, .getfield 27, 3), (4, .ifCond .le 47, 3), (7, .aload_n 0, 1), (8, .getfield 9, 3), (11, .aload_n 0, 1), (12, .getfield 27, 3), (15, .iconst 1, 1), (16, .isub, 1), (17, .iaload, 1), (18, .invokestatic 122, 3), (21, .iload_n 1, 1), (22, .if_icmp .lt 29, 3), (25, .aload_n 0, 1), (26, .dup, 1), (27, .getfield 27, 3), (30, .iconst 1, 1), (31, .isub, 1), (32, .putfield 27, 3), (35, .aload_n 0, 1), (36, .aload_n 0, 1), (37, .getfield 9, 3), (40, .aload_n 0, 1), (41, .getfield 27, 3), (44, .iaload, 1), (45, .invokevirtual 133, 3), (48, .goto (-48), 3), (51, .return_, 1)]
def Y_Reader_joinDownTo : ax_Y := (⟨"MethodWarden$Reader", "joinDownTo", "(I)V"⟩, prog_8_method_15_code, 2, none, tb_Reader_joinDownTo)
theorem yok_Reader_joinDownTo : yOK Y_Reader_joinDownTo := ⟨by decide +kernel, by decide +kernel, inWG 592 (by decide +kernel) (by decide +kernel), inWG 98 (by decide +kernel) (by decide +kernel), by decide +kernel⟩
theorem fl_Reader_27 : fldOK "MethodWarden$Reader" 27 2 1 false := ⟨_, _, _, cls_Reader, by decide, by decide, rfl, Or.inl (inWG 158 (by decide +kernel) (by decide +kernel))⟩
theorem fl_Reader_9 : fldOK "MethodWarden$Reader" 9 2 0 true := ⟨_, _, _, cls_Reader, by decide, by decide, rfl, Or.inl (inWG 157 (by decide +kernel) (by decide +kernel))⟩
theorem ml_Reader_122 : mlS "MethodWarden$Reader" 122 Y_Tok_rankOf 1 := ⟨⟨yok_Tok_rankOf, by decide +kernel, by decide⟩, Or.inl (inWG 593 (by decide +kernel) (by decide +kernel)), inWG 594 (by decide +kernel) (by decide +kernel)⟩
theorem ml_Reader_133 : mlV "MethodWarden$Reader" 133 Y_Reader_join 1 := ⟨⟨yok_Reader_join, by decide +kernel, by decide⟩, Or.inl (inWG 596 (by decide +kernel) (by decide +kernel)), inWG 598 (by decide +kernel) (by decide +kernel), inWG 12 (by decide +kernel) (by decide +kernel)⟩
def f_Reader_joinDownTo_0_b (K0 : Int32 → ax_M → Option (Unit × ax_M)) (l1 : Int32) (M : ax_M) : Option (Unit × ax_M) :=
  if (gI M 5 1) ≤ 0 then (some ((), M)) else (gi ((gI M 5 1) - 1) 48 (bnd (f_Tok_rankOf (gI M 6 ((gI M 5 1) - 1).toNatClampNeg) M) (fun q12 M13 => if q12 < l1 then (some ((), M13)) else (kM (mI M13 5 1 ((gI M13 5 1) - 1)) (fun M15 => gi (gI M15 5 1) 48 (bnd (f_Reader_join (gI M15 6 (gI M15 5 1).toNatClampNeg) M15) (fun q17 M18 => K0 l1 M18)))))))
def f_Reader_joinDownTo_0 : Nat → Int32 → ax_M → Option (Unit × ax_M)
  | 0, _, _ => none
  | n + 1, l1, M => f_Reader_joinDownTo_0_b  (f_Reader_joinDownTo_0 n) l1 M
set_option maxHeartbeats 4000000 in
set_option maxRecDepth 100000 in
theorem o_Reader_joinDownTo_0_b {l : Launch} {g : ax_G} (K0 : Int32 → ax_M → Option (Unit × ax_M)) (hK0 : ∀ (l1 : Int32) (M : ax_M) (r : Unit) (M' : ax_M), K0 l1 M = some (r, M') → AW l g true Y_Reader_joinDownTo 3 (none, M') 0 [(0, vA 5), (1, vI l1)] [] M) (l1 : Int32) (M : ax_M) (r : Unit) (M' : ax_M) (h : f_Reader_joinDownTo_0_b  K0 l1 M = some (r, M')) : AW l g true Y_Reader_joinDownTo 3 (none, M') 0 [(0, vA 5), (1, vI l1)] [] M := by
  unfold f_Reader_joinDownTo_0_b at h
  refine A_aload_n 0 rfl rfl rfl ?_
  refine A_getI rfl fl_Reader_27 rfl (by decide) (Or.inl rfl) ?_
  refine A_if_le (tgt := 51) rfl (by decide) (fun hc10 => ?_) (fun hc10 => ?_)
  · rw [if_pos hc10] at h
    obtain ⟨rfl, rfl⟩ := leaf h
    exact A_vret rfl rfl
  · rw [if_neg hc10] at h
    refine A_pc (pc' := 7) rfl ?_
    refine A_aload_n 0 rfl rfl rfl ?_
    refine A_getL (r := 6) rfl fl_Reader_9 rfl (by decide) rfl rfl ?_
    refine A_aload_n 0 rfl rfl rfl ?_
    refine A_getI rfl fl_Reader_27 rfl (by decide) (Or.inl rfl) ?_
    refine A_iconst (v := 1) rfl (by decide) ?_
    refine A_pc (pc' := 16) rfl ?_
    refine A_isub rfl ?_
    obtain ⟨hg11, h⟩ := gi_out h
    refine A_iald (n := 48) rfl (by decide) (by decide) (Or.inl rfl) hg11 ?_
    obtain ⟨q12, M13, hcq12, h⟩ := bnd_out h
    refine A_callS (as := [vI (gI M 6 ((gI M 5 1) - 1).toNatClampNeg)]) (st' := []) (r1 := (some (vI q12), M13)) rfl ml_Reader_122 rfl rfl (Nat.le_of_ble_eq_true rfl) (by decide) (c_Tok_rankOf hcq12) (Or.inl rfl) ?_
    refine A_pc (pc' := 21) rfl ?_
    refine A_stk (st' := [vI q12]) rfl ?_
    refine A_iload_n 1 rfl rfl rfl ?_
    refine A_icmp_lt (tgt := 51) rfl (by decide) (fun hc14 => ?_) (fun hc14 => ?_)
    · rw [if_pos hc14] at h
      obtain ⟨rfl, rfl⟩ := leaf h
      exact A_vret rfl rfl
    · rw [if_neg hc14] at h
      refine A_pc (pc' := 25) rfl ?_
      refine A_aload_n 0 rfl rfl rfl ?_
      refine A_dup rfl rfl ?_
      refine A_getI rfl fl_Reader_27 rfl (by decide) (Or.inl rfl) ?_
      refine A_iconst (v := 1) rfl (by decide) ?_
      refine A_isub rfl ?_
      refine A_pc (pc' := 32) rfl ?_
      refine A_putI rfl (Or.inl fl_Reader_27) rfl (by decide) (Or.inl rfl) rfl ?_
      obtain ⟨M15, hM15, h⟩ := kM_out h
      refine A_mem hM15 ?_
      refine A_aload_n 0 rfl rfl rfl ?_
      refine A_aload_n 0 rfl rfl rfl ?_
      refine A_getL (r := 6) rfl fl_Reader_9 rfl (by decide) rfl rfl ?_
      refine A_aload_n 0 rfl rfl rfl ?_
      refine A_getI rfl fl_Reader_27 rfl (by decide) (Or.inl rfl) ?_
      refine A_pc (pc' := 44) rfl ?_
      obtain ⟨hg16, h⟩ := gi_out h
      refine A_iald (n := 48) rfl (by decide) (by decide) (Or.inl rfl) hg16 ?_
      obtain ⟨q17, M18, hcq17, h⟩ := bnd_out h
      refine A_callV (ci := 2) (as := [vI (gI M15 6 (gI M15 5 1).toNatClampNeg)]) (st' := []) (r1 := (none, M18)) rfl ml_Reader_133 rfl (by decide) (by decide) (Or.inl rfl) rfl rfl (Nat.le_of_ble_eq_true rfl) (by decide) (c_Reader_join hcq17) (Or.inl rfl) ?_
      refine A_pc (pc' := 48) rfl ?_
      refine A_stk (st' := []) rfl ?_
      refine A_goto (tgt := 0) rfl (by decide) ?_
      refine A_pc (pc' := 0) rfl ?_
      refine A_sub (Ls' := [(0, vA 5), (1, vI l1)]) [0, 1] rfl ?_
      exact hK0 _ _ _ _ h
theorem o_Reader_joinDownTo_0 {l : Launch} {g : ax_G} : ∀ (n : Nat) (l1 : Int32) (M : ax_M) (r : Unit) (M' : ax_M), f_Reader_joinDownTo_0  n l1 M = some (r, M') → AW l g true Y_Reader_joinDownTo 3 (none, M') 0 [(0, vA 5), (1, vI l1)] [] M := by
  intro n
  induction n with
  | zero =>
    intro l1 M r M' h
    cases h
  | succ n ih =>
    intro l1 M r M' h
    exact o_Reader_joinDownTo_0_b  _ ih _ _ _ _ h
def f_Reader_joinDownTo (a1 : Int32) (M : ax_M) : Option (Unit × ax_M) :=
  if (gI M 5 1) ≤ 0 then (some ((), M)) else (gi ((gI M 5 1) - 1) 48 (bnd (f_Tok_rankOf (gI M 6 ((gI M 5 1) - 1).toNatClampNeg) M) (fun q3 M4 => if q3 < a1 then (some ((), M4)) else (kM (mI M4 5 1 ((gI M4 5 1) - 1)) (fun M6 => gi (gI M6 5 1) 48 (bnd (f_Reader_join (gI M6 6 (gI M6 5 1).toNatClampNeg) M6) (fun q8 M9 => f_Reader_joinDownTo_0 64 a1 M9)))))))
set_option maxHeartbeats 4000000 in
set_option maxRecDepth 100000 in
theorem c_Reader_joinDownTo {l : Launch} {g : ax_G} {a1 : Int32} {M : ax_M} {r : Unit} {M' : ax_M} (h : f_Reader_joinDownTo a1 M = some (r, M')) : Ctr l g true Y_Reader_joinDownTo 3 [vA 5, vI a1] M (none, M') := by
  refine Ctr.ofAW yok_Reader_joinDownTo (Nat.le_of_ble_eq_true rfl) (Or.inl rfl) ?_
  show AW l g true Y_Reader_joinDownTo 3 (none, M') 0 [(0, vA 5), (1, vI a1)] [] M
  unfold f_Reader_joinDownTo at h
  refine A_aload_n 0 rfl rfl rfl ?_
  refine A_getI rfl fl_Reader_27 rfl (by decide) (Or.inl rfl) ?_
  refine A_if_le (tgt := 51) rfl (by decide) (fun hc1 => ?_) (fun hc1 => ?_)
  · rw [if_pos hc1] at h
    obtain ⟨rfl, rfl⟩ := leaf h
    exact A_vret rfl rfl
  · rw [if_neg hc1] at h
    refine A_pc (pc' := 7) rfl ?_
    refine A_aload_n 0 rfl rfl rfl ?_
    refine A_getL (r := 6) rfl fl_Reader_9 rfl (by decide) rfl rfl ?_
    refine A_aload_n 0 rfl rfl rfl ?_
    refine A_getI rfl fl_Reader_27 rfl (by decide) (Or.inl rfl) ?_
    refine A_iconst (v := 1) rfl (by decide) ?_
    refine A_pc (pc' := 16) rfl ?_
    refine A_isub rfl ?_
    obtain ⟨hg2, h⟩ := gi_out h
    refine A_iald (n := 48) rfl (by decide) (by decide) (Or.inl rfl) hg2 ?_
    obtain ⟨q3, M4, hcq3, h⟩ := bnd_out h
    refine A_callS (as := [vI (gI M 6 ((gI M 5 1) - 1).toNatClampNeg)]) (st' := []) (r1 := (some (vI q3), M4)) rfl ml_Reader_122 rfl rfl (Nat.le_of_ble_eq_true rfl) (by decide) (c_Tok_rankOf hcq3) (Or.inl rfl) ?_
    refine A_pc (pc' := 21) rfl ?_
    refine A_stk (st' := [vI q3]) rfl ?_
    refine A_iload_n 1 rfl rfl rfl ?_
    refine A_icmp_lt (tgt := 51) rfl (by decide) (fun hc5 => ?_) (fun hc5 => ?_)
    · rw [if_pos hc5] at h
      obtain ⟨rfl, rfl⟩ := leaf h
      exact A_vret rfl rfl
    · rw [if_neg hc5] at h
      refine A_pc (pc' := 25) rfl ?_
      refine A_aload_n 0 rfl rfl rfl ?_
      refine A_dup rfl rfl ?_
      refine A_getI rfl fl_Reader_27 rfl (by decide) (Or.inl rfl) ?_
      refine A_iconst (v := 1) rfl (by decide) ?_
      refine A_isub rfl ?_
      refine A_pc (pc' := 32) rfl ?_
      refine A_putI rfl (Or.inl fl_Reader_27) rfl (by decide) (Or.inl rfl) rfl ?_
      obtain ⟨M6, hM6, h⟩ := kM_out h
      refine A_mem hM6 ?_
      refine A_aload_n 0 rfl rfl rfl ?_
      refine A_aload_n 0 rfl rfl rfl ?_
      refine A_getL (r := 6) rfl fl_Reader_9 rfl (by decide) rfl rfl ?_
      refine A_aload_n 0 rfl rfl rfl ?_
      refine A_getI rfl fl_Reader_27 rfl (by decide) (Or.inl rfl) ?_
      refine A_pc (pc' := 44) rfl ?_
      obtain ⟨hg7, h⟩ := gi_out h
      refine A_iald (n := 48) rfl (by decide) (by decide) (Or.inl rfl) hg7 ?_
      obtain ⟨q8, M9, hcq8, h⟩ := bnd_out h
      refine A_callV (ci := 2) (as := [vI (gI M6 6 (gI M6 5 1).toNatClampNeg)]) (st' := []) (r1 := (none, M9)) rfl ml_Reader_133 rfl (by decide) (by decide) (Or.inl rfl) rfl rfl (Nat.le_of_ble_eq_true rfl) (by decide) (c_Reader_join hcq8) (Or.inl rfl) ?_
      refine A_pc (pc' := 48) rfl ?_
      refine A_stk (st' := []) rfl ?_
      refine A_goto (tgt := 0) rfl (by decide) ?_
      refine A_pc (pc' := 0) rfl ?_
      refine A_sub (Ls' := [(0, vA 5), (1, vI a1)]) [0, 1] rfl ?_
      exact o_Reader_joinDownTo_0  _ _ _ _ _ h
def tb_Reader_joinNow : List (Nat × Instr × Nat) := [(0, .aload_n 0, 1), (1, .iload_n 1, 1), (2, .invokevirtual 133, 3), (5, .aload_n 0, 1), (6, .iconst 1, 1), (7, .putfield 37, 3), (10, .iconst 1, 1), (11, .ireturn, 1)]
def Y_Reader_joinNow : ax_Y := (⟨"MethodWarden$Reader", "joinNow", "(I)Z"⟩, prog_8_method_16_code, 2, some .boolean, tb_Reader_joinNow)
theorem yok_Reader_joinNow : yOK Y_Reader_joinNow := ⟨by decide +kernel, by decide +kernel, inWG 645 (by decide +kernel) (by decide +kernel), inWG 98 (by decide +kernel) (by decide +kernel), by decide +kernel⟩
theorem fl_Reader_37 : fldOK "MethodWarden$Reader" 37 2 4 false := ⟨_, _, _, cls_Reader, by decide, by decide, rfl, Or.inl (inWG 161 (by decide +kernel) (by decide +kernel))⟩
def f_Reader_joinNow (a1 : Int32) (M : ax_M) : Option (Int32 × ax_M) :=
  bnd (f_Reader_join a1 M) (fun q1 M2 => kM (mI M2 5 4 1) (fun M3 => some (1, M3)))
set_option maxHeartbeats 4000000 in
set_option maxRecDepth 100000 in
theorem c_Reader_joinNow {l : Launch} {g : ax_G} {a1 : Int32} {M : ax_M} {r : Int32} {M' : ax_M} (h : f_Reader_joinNow a1 M = some (r, M')) : Ctr l g true Y_Reader_joinNow 3 [vA 5, vI a1] M (some (vI r), M') := by
  refine Ctr.ofAW yok_Reader_joinNow (Nat.le_of_ble_eq_true rfl) (Or.inl rfl) ?_
  show AW l g true Y_Reader_joinNow 3 (some (vI r), M') 0 [(0, vA 5), (1, vI a1)] [] M
  unfold f_Reader_joinNow at h
  refine A_aload_n 0 rfl rfl rfl ?_
  refine A_iload_n 1 rfl rfl rfl ?_
  obtain ⟨q1, M2, hcq1, h⟩ := bnd_out h
  refine A_callV (ci := 2) (as := [vI a1]) (st' := []) (r1 := (none, M2)) rfl ml_Reader_133 rfl (by decide) (by decide) (Or.inl rfl) rfl rfl (Nat.le_of_ble_eq_true rfl) (by decide) (c_Reader_join hcq1) (Or.inl rfl) ?_
  refine A_pc (pc' := 5) rfl ?_
  refine A_stk (st' := []) rfl ?_
  refine A_aload_n 0 rfl rfl rfl ?_
  refine A_iconst (v := 1) rfl (by decide) ?_
  refine A_pc (pc' := 7) rfl ?_
  refine A_putI rfl (Or.inl fl_Reader_37) rfl (by decide) (Or.inl rfl) rfl ?_
  obtain ⟨M3, hM3, h⟩ := kM_out h
  refine A_mem hM3 ?_
  refine A_iconst (v := 1) rfl (by decide) ?_
  obtain ⟨rfl, rfl⟩ := leaf h
  exact A_zret rfl rfl (Or.inr rfl)
def tb_Reader_begin : List (Nat × Instr × Nat) := [(0, .aload_n 0, 1), (1, .getfield 27, 3), (4, .bipush 48, 2), (6, .if_icmp .lt 5, 3), (9, .iconst 0, 1), (10, .ireturn, 1), (11, .aload_n 0, 1), (12, .getfield 9, 3), (15, .aload_n 0, 1), (16, .getfield 27, 3), (19, .iload_n 1, 1), (20, .iastore, 1), (21, .aload_n 0, 1), (22, .dup, 1), (23, .getfield 27, 3), (26, .iconst 1, 1), (27, .iadd, 1), (28, .putfield 27, 3), (31, .aload_n 0, 1), (32, .iconst 0, 1), (33, .putfield 37, 3), (36, .iconst 1, 1), (37, .ireturn, 1)]
def Y_Reader_begin : ax_Y := (⟨"MethodWarden$Reader", "begin", "(I)Z"⟩, prog_8_method_13_code, 2, some .boolean, tb_Reader_begin)
theorem yok_Reader_begin : yOK Y_Reader_begin := ⟨by decide +kernel, by decide +kernel, inWG 629 (by decide +kernel) (by decide +kernel), inWG 98 (by decide +kernel) (by decide +kernel), by decide +kernel⟩
def f_Reader_begin (a1 : Int32) (M : ax_M) : Option (Int32 × ax_M) :=
  if (gI M 5 1) < 48 then (gi (gI M 5 1) 48 (kM (mI M 6 (gI M 5 1).toNatClampNeg a1) (fun M3 => kM (mI M3 5 1 ((gI M3 5 1) + 1)) (fun M4 => kM (mI M4 5 4 0) (fun M5 => some (1, M5)))))) else (some (0, M))
set_option maxHeartbeats 4000000 in
set_option maxRecDepth 100000 in
theorem c_Reader_begin {l : Launch} {g : ax_G} {a1 : Int32} {M : ax_M} {r : Int32} {M' : ax_M} (h : f_Reader_begin a1 M = some (r, M')) : Ctr l g true Y_Reader_begin 1 [vA 5, vI a1] M (some (vI r), M') := by
  refine Ctr.ofAW yok_Reader_begin (Nat.le_of_ble_eq_true rfl) (Or.inl rfl) ?_
  show AW l g true Y_Reader_begin 1 (some (vI r), M') 0 [(0, vA 5), (1, vI a1)] [] M
  unfold f_Reader_begin at h
  refine A_aload_n 0 rfl rfl rfl ?_
  refine A_getI rfl fl_Reader_27 rfl (by decide) (Or.inl rfl) ?_
  refine A_bipush (v := 48) rfl (by decide) ?_
  refine A_icmp_lt (tgt := 11) rfl (by decide) (fun hc1 => ?_) (fun hc1 => ?_)
  · rw [if_pos hc1] at h
    refine A_aload_n 0 rfl rfl rfl ?_
    refine A_getL (r := 6) rfl fl_Reader_9 rfl (by decide) rfl rfl ?_
    refine A_aload_n 0 rfl rfl rfl ?_
    refine A_getI rfl fl_Reader_27 rfl (by decide) (Or.inl rfl) ?_
    refine A_iload_n 1 rfl rfl rfl ?_
    refine A_pc (pc' := 20) rfl ?_
    obtain ⟨hg2, h⟩ := gi_out h
    refine A_iast (n := 48) rfl (by decide) (by decide) (Or.inl rfl) hg2 ?_
    obtain ⟨M3, hM3, h⟩ := kM_out h
    refine A_mem hM3 ?_
    refine A_aload_n 0 rfl rfl rfl ?_
    refine A_dup rfl rfl ?_
    refine A_getI rfl fl_Reader_27 rfl (by decide) (Or.inl rfl) ?_
    refine A_iconst (v := 1) rfl (by decide) ?_
    refine A_iadd rfl ?_
    refine A_pc (pc' := 28) rfl ?_
    refine A_putI rfl (Or.inl fl_Reader_27) rfl (by decide) (Or.inl rfl) rfl ?_
    obtain ⟨M4, hM4, h⟩ := kM_out h
    refine A_mem hM4 ?_
    refine A_aload_n 0 rfl rfl rfl ?_
    refine A_iconst (v := 0) rfl (by decide) ?_
    refine A_putI rfl (Or.inl fl_Reader_37) rfl (by decide) (Or.inl rfl) rfl ?_
    obtain ⟨M5, hM5, h⟩ := kM_out h
    refine A_mem hM5 ?_
    refine A_iconst (v := 1) rfl (by decide) ?_
    obtain ⟨rfl, rfl⟩ := leaf h
    exact A_zret rfl rfl (Or.inr rfl)
  · rw [if_neg hc1] at h
    refine A_pc (pc' := 9) rfl ?_
    refine A_iconst (v := 0) rfl (by decide) ?_
    obtain ⟨rfl, rfl⟩ := leaf h
    exact A_zret rfl rfl (Or.inl rfl)
def tb_Reader_innermost : List (Nat × Instr × Nat) := [(0, .aload_n 0, 1), (1, .getfield 27, 3), (4, .ifCond .le 17, 3), (7, .aload_n 0, 1), (8, .getfield 9, 3), (11, .aload_n 0, 1), (12, .getfield 27, 3), (15, .iconst 1, 1), (16, .isub, 1), (17, .iaload, 1), (18, .goto 4, 3), (21, .iconst 0, 1), (22, .ireturn, 1)]
def Y_Reader_innermost : ax_Y := (⟨"MethodWarden$Reader", "innermost", "()I"⟩, prog_8_method_14_code, 1, some .int, tb_Reader_innermost)
theorem yok_Reader_innermost : yOK Y_Reader_innermost := ⟨by decide +kernel, by decide +kernel, inWG 657 (by decide +kernel) (by decide +kernel), inWG 98 (by decide +kernel) (by decide +kernel), by decide +kernel⟩
def f_Reader_innermost  (M : ax_M) : Option (Int32 × ax_M) :=
  if (gI M 5 1) ≤ 0 then (some (0, M)) else (gi ((gI M 5 1) - 1) 48 (some (gI M 6 ((gI M 5 1) - 1).toNatClampNeg, M)))
set_option maxHeartbeats 4000000 in
set_option maxRecDepth 100000 in
theorem c_Reader_innermost {l : Launch} {g : ax_G}  {M : ax_M} {r : Int32} {M' : ax_M} (h : f_Reader_innermost  M = some (r, M')) : Ctr l g true Y_Reader_innermost 1 [vA 5] M (some (vI r), M') := by
  refine Ctr.ofAW yok_Reader_innermost (Nat.le_of_ble_eq_true rfl) (Or.inl rfl) ?_
  show AW l g true Y_Reader_innermost 1 (some (vI r), M') 0 [(0, vA 5)] [] M
  unfold f_Reader_innermost at h
  refine A_aload_n 0 rfl rfl rfl ?_
  refine A_getI rfl fl_Reader_27 rfl (by decide) (Or.inl rfl) ?_
  refine A_if_le (tgt := 21) rfl (by decide) (fun hc1 => ?_) (fun hc1 => ?_)
  · rw [if_pos hc1] at h
    refine A_iconst (v := 0) rfl (by decide) ?_
    obtain ⟨rfl, rfl⟩ := leaf h
    exact A_iret rfl rfl
  · rw [if_neg hc1] at h
    refine A_pc (pc' := 7) rfl ?_
    refine A_aload_n 0 rfl rfl rfl ?_
    refine A_getL (r := 6) rfl fl_Reader_9 rfl (by decide) rfl rfl ?_
    refine A_aload_n 0 rfl rfl rfl ?_
    refine A_getI rfl fl_Reader_27 rfl (by decide) (Or.inl rfl) ?_
    refine A_iconst (v := 1) rfl (by decide) ?_
    refine A_pc (pc' := 16) rfl ?_
    refine A_isub rfl ?_
    obtain ⟨hg2, h⟩ := gi_out h
    refine A_iald (n := 48) rfl (by decide) (by decide) (Or.inl rfl) hg2 ?_
    refine A_goto (tgt := 22) rfl (by decide) ?_
    obtain ⟨rfl, rfl⟩ := leaf h
    exact A_iret rfl rfl
def tb_Reader_isFinished : List (Nat × Instr × Nat) := [(0, .aload_n 0, 1), (1, .getfield 37, 3), (4, .iconst 1, 1), (5, .if_icmp .eq 5, 3), (8, .iconst 0, 1), (9, .ireturn, 1), (10, .aload_n 0, 1), (11, .iconst 1, 1), (12, .invokevirtual 71, 3), (15, .aload_n 0, 1), (16, .getfield 27, 3), (19, .ifCond .ne 7, 3), (22, .iconst 1, 1), (23, .goto 4, 3), (26, .iconst 0, 1), (27, .ireturn, 1)]
def Y_Reader_isFinished : ax_Y := (⟨"MethodWarden$Reader", "isFinished", "()Z"⟩, prog_8_method_3_code, 1, some .boolean, tb_Reader_isFinished)
theorem yok_Reader_isFinished : yOK Y_Reader_isFinished := ⟨by decide +kernel, by decide +kernel, inWG 588 (by decide +kernel) (by decide +kernel), inWG 98 (by decide +kernel) (by decide +kernel), by decide +kernel⟩
theorem ml_Reader_71 : mlV "MethodWarden$Reader" 71 Y_Reader_joinDownTo 1 := ⟨⟨yok_Reader_joinDownTo, by decide +kernel, by decide⟩, Or.inl (inWG 589 (by decide +kernel) (by decide +kernel)), inWG 591 (by decide +kernel) (by decide +kernel), inWG 11 (by decide +kernel) (by decide +kernel)⟩
def f_Reader_isFinished  (M : ax_M) : Option (Int32 × ax_M) :=
  if (gI M 5 4) = 1 then (bnd (f_Reader_joinDownTo 1 M) (fun q2 M3 => if (gI M3 5 1) = 0 then (some (1, M3)) else (some (0, M3)))) else (some (0, M))
set_option maxHeartbeats 4000000 in
set_option maxRecDepth 100000 in
theorem c_Reader_isFinished {l : Launch} {g : ax_G}  {M : ax_M} {r : Int32} {M' : ax_M} (h : f_Reader_isFinished  M = some (r, M')) : Ctr l g true Y_Reader_isFinished 4 [vA 5] M (some (vI r), M') := by
  refine Ctr.ofAW yok_Reader_isFinished (Nat.le_of_ble_eq_true rfl) (Or.inl rfl) ?_
  show AW l g true Y_Reader_isFinished 4 (some (vI r), M') 0 [(0, vA 5)] [] M
  unfold f_Reader_isFinished at h
  refine A_aload_n 0 rfl rfl rfl ?_
  refine A_getI rfl fl_Reader_37 rfl (by decide) (Or.inl rfl) ?_
  refine A_iconst (v := 1) rfl (by decide) ?_
  refine A_icmp_eq (tgt := 10) rfl (by decide) (fun hc1 => ?_) (fun hc1 => ?_)
  · rw [if_pos hc1] at h
    refine A_aload_n 0 rfl rfl rfl ?_
    refine A_iconst (v := 1) rfl (by decide) ?_
    obtain ⟨q2, M3, hcq2, h⟩ := bnd_out h
    refine A_callV (ci := 2) (as := [vI 1]) (st' := []) (r1 := (none, M3)) rfl ml_Reader_71 rfl (by decide) (by decide) (Or.inl rfl) rfl rfl (Nat.le_of_ble_eq_true rfl) (by decide) (c_Reader_joinDownTo hcq2) (Or.inl rfl) ?_
    refine A_pc (pc' := 15) rfl ?_
    refine A_stk (st' := []) rfl ?_
    refine A_aload_n 0 rfl rfl rfl ?_
    refine A_getI rfl fl_Reader_27 rfl (by decide) (Or.inl rfl) ?_
    refine A_pc (pc' := 19) rfl ?_
    refine A_if_ne (tgt := 26) rfl (by decide) (fun hc4 => ?_) (fun hc4 => ?_)
    · rw [if_neg hc4] at h
      refine A_iconst (v := 0) rfl (by decide) ?_
      obtain ⟨rfl, rfl⟩ := leaf h
      exact A_zret rfl rfl (Or.inl rfl)
    · rw [if_pos hc4] at h
      refine A_pc (pc' := 22) rfl ?_
      refine A_iconst (v := 1) rfl (by decide) ?_
      refine A_goto (tgt := 27) rfl (by decide) ?_
      obtain ⟨rfl, rfl⟩ := leaf h
      exact A_zret rfl rfl (Or.inr rfl)
  · rw [if_neg hc1] at h
    refine A_pc (pc' := 8) rfl ?_
    refine A_iconst (v := 0) rfl (by decide) ?_
    obtain ⟨rfl, rfl⟩ := leaf h
    exact A_zret rfl rfl (Or.inl rfl)
def tb_Reader_takesLeaf : List (Nat × Instr × Nat) := [(0, .aload_n 0, 1), (1, .aload_n 0, 1), (2, .getfield 23, 3), (5, .iload_n 1, 1), (6, .lload_n 2, 1), (7, .invokevirtual 100, 3), (10, .invokevirtual 104, 3), (13, .aload_n 0, 1), (14, .iconst 1, 1), (15, .putfield 37, 3), (18, .iconst 1, 1), (19, .ireturn, 1)]
def Y_Reader_takesLeaf : ax_Y := (⟨"MethodWarden$Reader", "takesLeaf", "(IJ)Z"⟩, prog_8_method_6_code, 4, some .boolean, tb_Reader_takesLeaf)
theorem yok_Reader_takesLeaf : yOK Y_Reader_takesLeaf := ⟨by decide +kernel, by decide +kernel, inWG 636 (by decide +kernel) (by decide +kernel), inWG 98 (by decide +kernel) (by decide +kernel), by decide +kernel⟩
theorem ml_Reader_100 : mlV "MethodWarden$Reader" 100 Y_Expr_appendLeaf 2 := ⟨⟨yok_Expr_appendLeaf, by decide +kernel, by decide⟩, Or.inl (inWG 637 (by decide +kernel) (by decide +kernel)), inWG 638 (by decide +kernel) (by decide +kernel), inWG 639 (by decide +kernel) (by decide +kernel)⟩
def f_Reader_takesLeaf (a1 : Int32) (a2 : Int64) (M : ax_M) : Option (Int32 × ax_M) :=
  kM (gA M 5 7) (fun r1 => gk r1 3 (bnd (f_Expr_appendLeaf r1 a1 a2 M) (fun q3 M4 => bnd (f_Reader_pushOperand q3 M4) (fun q5 M6 => kM (mI M6 5 4 1) (fun M7 => some (1, M7))))))
set_option maxHeartbeats 4000000 in
set_option maxRecDepth 100000 in
theorem c_Reader_takesLeaf {l : Launch} {g : ax_G} {a1 : Int32} {a2 : Int64} {M : ax_M} {r : Int32} {M' : ax_M} (h : f_Reader_takesLeaf a1 a2 M = some (r, M')) : Ctr l g true Y_Reader_takesLeaf 3 [vA 5, vI a1, vJ a2] M (some (vI r), M') := by
  refine Ctr.ofAW yok_Reader_takesLeaf (Nat.le_of_ble_eq_true rfl) (Or.inl rfl) ?_
  show AW l g true Y_Reader_takesLeaf 3 (some (vI r), M') 0 [(0, vA 5), (1, vI a1), (2, vJ a2)] [] M
  unfold f_Reader_takesLeaf at h
  refine A_aload_n 0 rfl rfl rfl ?_
  refine A_aload_n 0 rfl rfl rfl ?_
  refine A_getA rfl fl_Reader_23 rfl (by decide) (Or.inl rfl) ?_
  obtain ⟨r1, hr1, h⟩ := kM_out h
  refine A_nA hr1 ?_
  refine A_iload_n 1 rfl rfl rfl ?_
  refine A_lload_n 2 rfl rfl rfl ?_
  refine A_pc (pc' := 7) rfl ?_
  obtain ⟨hg2, h⟩ := gk_out h
  obtain ⟨q3, M4, hcq3, h⟩ := bnd_out h
  refine A_callV (ci := 3) (as := [vI a1, vJ a2]) (st' := [vA 5]) (r1 := (some (vI q3), M4)) rfl ml_Reader_100 rfl (by decide) hg2 (Or.inl rfl) rfl rfl (Nat.le_of_ble_eq_true rfl) (by decide) (c_Expr_appendLeaf hcq3) (Or.inl rfl) ?_
  refine A_pc (pc' := 10) rfl ?_
  refine A_stk (st' := [vI q3, vA 5]) rfl ?_
  obtain ⟨q5, M6, hcq5, h⟩ := bnd_out h
  refine A_callV (ci := 2) (as := [vI q3]) (st' := []) (r1 := (none, M6)) rfl ml_Reader_104 rfl (by decide) (by decide) (Or.inl rfl) rfl rfl (Nat.le_of_ble_eq_true rfl) (by decide) (c_Reader_pushOperand hcq5) (Or.inl rfl) ?_
  refine A_pc (pc' := 13) rfl ?_
  refine A_stk (st' := []) rfl ?_
  refine A_aload_n 0 rfl rfl rfl ?_
  refine A_iconst (v := 1) rfl (by decide) ?_
  refine A_putI rfl (Or.inl fl_Reader_37) rfl (by decide) (Or.inl rfl) rfl ?_
  obtain ⟨M7, hM7, h⟩ := kM_out h
  refine A_mem hM7 ?_
  refine A_iconst (v := 1) rfl (by decide) ?_
  refine A_pc (pc' := 19) rfl ?_
  obtain ⟨rfl, rfl⟩ := leaf h
  exact A_zret rfl rfl (Or.inr rfl)
def tb_Reader_takesForValue : List (Nat × Instr × Nat) := [(0, .iload_n 1, 1), (1, .lookupswitch 71 #[(13, 64), (15, 43), (30, 50), (34, 57)], 43), (44, .aload_n 0, 1), (45, .bipush 15, 2), (47, .invokevirtual 82, 3), (50, .ireturn, 1), (51, .aload_n 0, 1), (52, .bipush 41, 2), (54, .invokevirtual 82, 3), (57, .ireturn, 1), (58, .aload_n 0, 1), (59, .bipush 34, 2), (61, .invokevirtual 82, 3), (64, .ireturn, 1), (65, .aload_n 0, 1), (66, .iconst 2, 1), (67, .putfield 37, 3), (70, .iconst 1, 1), (71, .ireturn, 1), (72, .iload_n 1, 1), (73, .invokestatic 94, 3), (76, .ifCond .eq 16, 3), (79, .aload_n 0, 1), (80, .iload_n 1, 1), (81, .lload_n 2, 1), (82, .invokevirtual 97, 3), (85, .ifCond .eq 7, 3), (88, .iconst 1, 1), (89, .goto 4, 3), (92, .iconst 0, 1), (93, .ireturn, 1)]
def Y_Reader_takesForValue : ax_Y := (⟨"MethodWarden$Reader", "takesForValue", "(IJ)Z"⟩, prog_8_method_5_code, 4, some .boolean, tb_Reader_takesForValue)
theorem yok_Reader_takesForValue : yOK Y_Reader_takesForValue := ⟨by decide +kernel, by decide +kernel, inWG 625 (by decide +kernel) (by decide +kernel), inWG 98 (by decide +kernel) (by decide +kernel), by decide +kernel⟩
theorem ml_Reader_82 : mlV "MethodWarden$Reader" 82 Y_Reader_begin 1 := ⟨⟨yok_Reader_begin, by decide +kernel, by decide⟩, Or.inl (inWG 626 (by decide +kernel) (by decide +kernel)), inWG 628 (by decide +kernel) (by decide +kernel), inWG 17 (by decide +kernel) (by decide +kernel)⟩
theorem ml_Reader_94 : mlS "MethodWarden$Reader" 94 Y_Tok_isLeaf 1 := ⟨⟨yok_Tok_isLeaf, by decide +kernel, by decide⟩, Or.inl (inWG 630 (by decide +kernel) (by decide +kernel)), inWG 631 (by decide +kernel) (by decide +kernel)⟩
theorem ml_Reader_97 : mlV "MethodWarden$Reader" 97 Y_Reader_takesLeaf 2 := ⟨⟨yok_Reader_takesLeaf, by decide +kernel, by decide⟩, Or.inl (inWG 633 (by decide +kernel) (by decide +kernel)), inWG 635 (by decide +kernel) (by decide +kernel), inWG 18 (by decide +kernel) (by decide +kernel)⟩
def f_Reader_takesForValue (a1 : Int32) (a2 : Int64) (M : ax_M) : Option (Int32 × ax_M) :=
  if a1 = 13 then (kM (mI M 5 4 2) (fun M2 => some (1, M2))) else (if a1 = 15 then (bnd (f_Reader_begin 15 M) (fun q4 M5 => g2 q4 (some (q4, M5)))) else (if a1 = 30 then (bnd (f_Reader_begin 41 M) (fun q8 M9 => g2 q8 (some (q8, M9)))) else (if a1 = 34 then (bnd (f_Reader_begin 34 M) (fun q12 M13 => g2 q12 (some (q12, M13)))) else (bnd (f_Tok_isLeaf a1 M) (fun q15 M16 => if q15 = 0 then (some (0, M16)) else (bnd (f_Reader_takesLeaf a1 a2 M16) (fun q18 M19 => if q18 = 0 then (some (0, M19)) else (some (1, M19)))))))))
set_option maxHeartbeats 4000000 in
set_option maxRecDepth 100000 in
theorem c_Reader_takesForValue {l : Launch} {g : ax_G} {a1 : Int32} {a2 : Int64} {M : ax_M} {r : Int32} {M' : ax_M} (h : f_Reader_takesForValue a1 a2 M = some (r, M')) : Ctr l g true Y_Reader_takesForValue 4 [vA 5, vI a1, vJ a2] M (some (vI r), M') := by
  refine Ctr.ofAW yok_Reader_takesForValue (Nat.le_of_ble_eq_true rfl) (Or.inl rfl) ?_
  show AW l g true Y_Reader_takesForValue 4 (some (vI r), M') 0 [(0, vA 5), (1, vI a1), (2, vJ a2)] [] M
  unfold f_Reader_takesForValue at h
  refine A_iload_n 1 rfl rfl rfl ?_
  by_cases hc1 : a1 = 13
  · rw [if_pos hc1] at h
    refine A_lookup (tgt := 65) (off := 64) rfl (by decide) (by rw [hc1]; decide) (by decide) ?_
    refine A_aload_n 0 rfl rfl rfl ?_
    refine A_iconst (v := 2) rfl (by decide) ?_
    refine A_putI rfl (Or.inl fl_Reader_37) rfl (by decide) (Or.inl rfl) rfl ?_
    obtain ⟨M2, hM2, h⟩ := kM_out h
    refine A_mem hM2 ?_
    refine A_iconst (v := 1) rfl (by decide) ?_
    obtain ⟨rfl, rfl⟩ := leaf h
    exact A_zret rfl rfl (Or.inr rfl)
  · rw [if_neg hc1] at h
    by_cases hc3 : a1 = 15
    · rw [if_pos hc3] at h
      refine A_lookup (tgt := 44) (off := 43) rfl (by decide) (by rw [hc3]; decide) (by decide) ?_
      refine A_aload_n 0 rfl rfl rfl ?_
      refine A_bipush (v := 15) rfl (by decide) ?_
      obtain ⟨q4, M5, hcq4, h⟩ := bnd_out h
      refine A_callV (ci := 2) (as := [vI 15]) (st' := []) (r1 := (some (vI q4), M5)) rfl ml_Reader_82 rfl (by decide) (by decide) (Or.inl rfl) rfl rfl (Nat.le_of_ble_eq_true rfl) (by decide) (c_Reader_begin hcq4) (Or.inl rfl) ?_
      refine A_pc (pc' := 50) rfl ?_
      refine A_stk (st' := [vI q4]) rfl ?_
      obtain ⟨hg6, h⟩ := g2_out h
      obtain ⟨rfl, rfl⟩ := leaf h
      exact A_zret rfl rfl hg6
    · rw [if_neg hc3] at h
      by_cases hc7 : a1 = 30
      · rw [if_pos hc7] at h
        refine A_lookup (tgt := 51) (off := 50) rfl (by decide) (by rw [hc7]; decide) (by decide) ?_
        refine A_aload_n 0 rfl rfl rfl ?_
        refine A_bipush (v := 41) rfl (by decide) ?_
        obtain ⟨q8, M9, hcq8, h⟩ := bnd_out h
        refine A_callV (ci := 2) (as := [vI 41]) (st' := []) (r1 := (some (vI q8), M9)) rfl ml_Reader_82 rfl (by decide) (by decide) (Or.inl rfl) rfl rfl (Nat.le_of_ble_eq_true rfl) (by decide) (c_Reader_begin hcq8) (Or.inl rfl) ?_
        refine A_pc (pc' := 57) rfl ?_
        refine A_stk (st' := [vI q8]) rfl ?_
        obtain ⟨hg10, h⟩ := g2_out h
        obtain ⟨rfl, rfl⟩ := leaf h
        exact A_zret rfl rfl hg10
      · rw [if_neg hc7] at h
        by_cases hc11 : a1 = 34
        · rw [if_pos hc11] at h
          refine A_lookup (tgt := 58) (off := 57) rfl (by decide) (by rw [hc11]; decide) (by decide) ?_
          refine A_aload_n 0 rfl rfl rfl ?_
          refine A_bipush (v := 34) rfl (by decide) ?_
          obtain ⟨q12, M13, hcq12, h⟩ := bnd_out h
          refine A_callV (ci := 2) (as := [vI 34]) (st' := []) (r1 := (some (vI q12), M13)) rfl ml_Reader_82 rfl (by decide) (by decide) (Or.inl rfl) rfl rfl (Nat.le_of_ble_eq_true rfl) (by decide) (c_Reader_begin hcq12) (Or.inl rfl) ?_
          refine A_pc (pc' := 64) rfl ?_
          refine A_stk (st' := [vI q12]) rfl ?_
          obtain ⟨hg14, h⟩ := g2_out h
          obtain ⟨rfl, rfl⟩ := leaf h
          exact A_zret rfl rfl hg14
        · rw [if_neg hc11] at h
          refine A_lookup (tgt := 72) rfl (by decide) (lk_def _ _ _ (fa_cons (ne_i hc1 (by decide)) (fa_cons (ne_i hc3 (by decide)) (fa_cons (ne_i hc7 (by decide)) (fa_cons (ne_i hc11 (by decide)) fa_nil))))) (by decide) ?_
          refine A_iload_n 1 rfl rfl rfl ?_
          obtain ⟨q15, M16, hcq15, h⟩ := bnd_out h
          refine A_callS (as := [vI a1]) (st' := []) (r1 := (some (vI q15), M16)) rfl ml_Reader_94 rfl rfl (Nat.le_of_ble_eq_true rfl) (by decide) (c_Tok_isLeaf hcq15) (Or.inl rfl) ?_
          refine A_pc (pc' := 76) rfl ?_
          refine A_stk (st' := [vI q15]) rfl ?_
          refine A_if_eq (tgt := 92) rfl (by decide) (fun hc17 => ?_) (fun hc17 => ?_)
          · rw [if_pos hc17] at h
            refine A_iconst (v := 0) rfl (by decide) ?_
            obtain ⟨rfl, rfl⟩ := leaf h
            exact A_zret rfl rfl (Or.inl rfl)
          · rw [if_neg hc17] at h
            refine A_pc (pc' := 79) rfl ?_
            refine A_aload_n 0 rfl rfl rfl ?_
            refine A_iload_n 1 rfl rfl rfl ?_
            refine A_lload_n 2 rfl rfl rfl ?_
            obtain ⟨q18, M19, hcq18, h⟩ := bnd_out h
            refine A_callV (ci := 2) (as := [vI a1, vJ a2]) (st' := []) (r1 := (some (vI q18), M19)) rfl ml_Reader_97 rfl (by decide) (by decide) (Or.inl rfl) rfl rfl (Nat.le_of_ble_eq_true rfl) (by decide) (c_Reader_takesLeaf hcq18) (Or.inl rfl) ?_
            refine A_pc (pc' := 85) rfl ?_
            refine A_stk (st' := [vI q18]) rfl ?_
            refine A_if_eq (tgt := 92) rfl (by decide) (fun hc20 => ?_) (fun hc20 => ?_)
            · rw [if_pos hc20] at h
              refine A_iconst (v := 0) rfl (by decide) ?_
              obtain ⟨rfl, rfl⟩ := leaf h
              exact A_zret rfl rfl (Or.inl rfl)
            · rw [if_neg hc20] at h
              refine A_pc (pc' := 88) rfl ?_
              refine A_iconst (v := 1) rfl (by decide) ?_
              refine A_goto (tgt := 93) rfl (by decide) ?_
              obtain ⟨rfl, rfl⟩ := leaf h
              exact A_zret rfl rfl (Or.inr rfl)
def tb_Reader_waitsForSize : List (Nat × Instr × Nat) := [(0, .aload_n 0, 1), (1, .iload_n 1, 1), (2, .putfield 85, 3), (5, .aload_n 0, 1), (6, .iconst 3, 1), (7, .putfield 37, 3), (10, .iconst 1, 1), (11, .ireturn, 1)]
def Y_Reader_waitsForSize : ax_Y := (⟨"MethodWarden$Reader", "waitsForSize", "(I)Z"⟩, prog_8_method_9_code, 2, some .boolean, tb_Reader_waitsForSize)
theorem yok_Reader_waitsForSize : yOK Y_Reader_waitsForSize := ⟨by decide +kernel, by decide +kernel, inWG 672 (by decide +kernel) (by decide +kernel), inWG 98 (by decide +kernel) (by decide +kernel), by decide +kernel⟩
theorem fl_Reader_85 : fldOK "MethodWarden$Reader" 85 2 5 false := ⟨_, _, _, cls_Reader, by decide, by decide, rfl, Or.inl (inWG 162 (by decide +kernel) (by decide +kernel))⟩
def f_Reader_waitsForSize (a1 : Int32) (M : ax_M) : Option (Int32 × ax_M) :=
  kM (mI M 5 5 a1) (fun M1 => kM (mI M1 5 4 3) (fun M2 => some (1, M2)))
set_option maxHeartbeats 4000000 in
set_option maxRecDepth 100000 in
theorem c_Reader_waitsForSize {l : Launch} {g : ax_G} {a1 : Int32} {M : ax_M} {r : Int32} {M' : ax_M} (h : f_Reader_waitsForSize a1 M = some (r, M')) : Ctr l g true Y_Reader_waitsForSize 1 [vA 5, vI a1] M (some (vI r), M') := by
  refine Ctr.ofAW yok_Reader_waitsForSize (Nat.le_of_ble_eq_true rfl) (Or.inl rfl) ?_
  show AW l g true Y_Reader_waitsForSize 1 (some (vI r), M') 0 [(0, vA 5), (1, vI a1)] [] M
  unfold f_Reader_waitsForSize at h
  refine A_aload_n 0 rfl rfl rfl ?_
  refine A_iload_n 1 rfl rfl rfl ?_
  refine A_putI rfl (Or.inl fl_Reader_85) rfl (by decide) (Or.inl rfl) rfl ?_
  obtain ⟨M1, hM1, h⟩ := kM_out h
  refine A_mem hM1 ?_
  refine A_aload_n 0 rfl rfl rfl ?_
  refine A_iconst (v := 3) rfl (by decide) ?_
  refine A_pc (pc' := 7) rfl ?_
  refine A_putI rfl (Or.inl fl_Reader_37) rfl (by decide) (Or.inl rfl) rfl ?_
  obtain ⟨M2, hM2, h⟩ := kM_out h
  refine A_mem hM2 ?_
  refine A_iconst (v := 1) rfl (by decide) ?_
  obtain ⟨rfl, rfl⟩ := leaf h
  exact A_zret rfl rfl (Or.inr rfl)
def tb_Reader_closesRound : List (Nat × Instr × Nat) := [(0, .aload_n 0, 1), (1, .iconst 1, 1), (2, .invokevirtual 71, 3), (5, .aload_n 0, 1), (6, .invokevirtual 126, 3), (9, .istore_n 1, 1), (10, .iload_n 1, 1), (11, .bipush 13, 2), (13, .if_icmp .ne 20, 3), (16, .aload_n 0, 1), (17, .dup, 1), (18, .getfield 27, 3), (21, .iconst 1, 1), (22, .isub, 1), (23, .putfield 27, 3), (26, .aload_n 0, 1), (27, .bipush 13, 2), (29, .invokevirtual 88, 3), (32, .ireturn, 1), (33, .iload_n 1, 1), (34, .bipush 15, 2), (36, .if_icmp .eq 5, 3), (39, .iconst 0, 1), (40, .ireturn, 1), (41, .aload_n 0, 1), (42, .dup, 1), (43, .getfield 27, 3), (46, .iconst 1, 1), (47, .isub, 1), (48, .putfield 27, 3), (51, .iconst 1, 1), (52, .ireturn, 1)]
def Y_Reader_closesRound : ax_Y := (⟨"MethodWarden$Reader", "closesRound", "()Z"⟩, prog_8_method_10_code, 2, some .boolean, tb_Reader_closesRound)
theorem yok_Reader_closesRound : yOK Y_Reader_closesRound := ⟨by decide +kernel, by decide +kernel, inWG 653 (by decide +kernel) (by decide +kernel), inWG 98 (by decide +kernel) (by decide +kernel), by decide +kernel⟩
theorem ml_Reader_126 : mlV "MethodWarden$Reader" 126 Y_Reader_innermost 0 := ⟨⟨yok_Reader_innermost, by decide +kernel, by decide⟩, Or.inl (inWG 654 (by decide +kernel) (by decide +kernel)), inWG 656 (by decide +kernel) (by decide +kernel), inWG 22 (by decide +kernel) (by decide +kernel)⟩
theorem ml_Reader_88 : mlV "MethodWarden$Reader" 88 Y_Reader_joinNow 1 := ⟨⟨yok_Reader_joinNow, by decide +kernel, by decide⟩, Or.inl (inWG 642 (by decide +kernel) (by decide +kernel)), inWG 644 (by decide +kernel) (by decide +kernel), inWG 19 (by decide +kernel) (by decide +kernel)⟩
def f_Reader_closesRound  (M : ax_M) : Option (Int32 × ax_M) :=
  bnd (f_Reader_joinDownTo 1 M) (fun q1 M2 => bnd (f_Reader_innermost  M2) (fun q3 M4 => if q3 = 13 then (kM (mI M4 5 1 ((gI M4 5 1) - 1)) (fun M8 => bnd (f_Reader_joinNow 13 M8) (fun q9 M10 => g2 q9 (some (q9, M10))))) else (if q3 = 15 then (kM (mI M4 5 1 ((gI M4 5 1) - 1)) (fun M7 => some (1, M7))) else (some (0, M4)))))
set_option maxHeartbeats 4000000 in
set_option maxRecDepth 100000 in
theorem c_Reader_closesRound {l : Launch} {g : ax_G}  {M : ax_M} {r : Int32} {M' : ax_M} (h : f_Reader_closesRound  M = some (r, M')) : Ctr l g true Y_Reader_closesRound 4 [vA 5] M (some (vI r), M') := by
  refine Ctr.ofAW yok_Reader_closesRound (Nat.le_of_ble_eq_true rfl) (Or.inl rfl) ?_
  show AW l g true Y_Reader_closesRound 4 (some (vI r), M') 0 [(0, vA 5)] [] M
  unfold f_Reader_closesRound at h
  refine A_aload_n 0 rfl rfl rfl ?_
  refine A_iconst (v := 1) rfl (by decide) ?_
  obtain ⟨q1, M2, hcq1, h⟩ := bnd_out h
  refine A_callV (ci := 2) (as := [vI 1]) (st' := []) (r1 := (none, M2)) rfl ml_Reader_71 rfl (by decide) (by decide) (Or.inl rfl) rfl rfl (Nat.le_of_ble_eq_true rfl) (by decide) (c_Reader_joinDownTo hcq1) (Or.inl rfl) ?_
  refine A_pc (pc' := 5) rfl ?_
  refine A_stk (st' := []) rfl ?_
  refine A_aload_n 0 rfl rfl rfl ?_
  obtain ⟨q3, M4, hcq3, h⟩ := bnd_out h
  refine A_callV (ci := 2) (as := []) (st' := []) (r1 := (some (vI q3), M4)) rfl ml_Reader_126 rfl (by decide) (by decide) (Or.inl rfl) rfl rfl (Nat.le_of_ble_eq_true rfl) (by decide) (c_Reader_innermost hcq3) (Or.inl rfl) ?_
  refine A_pc (pc' := 9) rfl ?_
  refine A_stk (st' := [vI q3]) rfl ?_
  refine A_pc (pc' := 9) rfl ?_
  refine A_istore_n (Ls' := [(1, vI q3), (0, vA 5)]) rfl rfl (by decide) rfl ?_
  refine A_iload_n 0 rfl rfl rfl ?_
  refine A_bipush (v := 13) rfl (by decide) ?_
  refine A_icmp_ne (tgt := 33) rfl (by decide) (fun hc5 => ?_) (fun hc5 => ?_)
  · rw [if_neg hc5] at h
    refine A_iload_n 0 rfl rfl rfl ?_
    refine A_bipush (v := 15) rfl (by decide) ?_
    refine A_icmp_eq (tgt := 41) rfl (by decide) (fun hc6 => ?_) (fun hc6 => ?_)
    · rw [if_pos hc6] at h
      refine A_aload_n 1 rfl rfl rfl ?_
      refine A_dup rfl rfl ?_
      refine A_getI rfl fl_Reader_27 rfl (by decide) (Or.inl rfl) ?_
      refine A_iconst (v := 1) rfl (by decide) ?_
      refine A_isub rfl ?_
      refine A_pc (pc' := 48) rfl ?_
      refine A_putI rfl (Or.inl fl_Reader_27) rfl (by decide) (Or.inl rfl) rfl ?_
      obtain ⟨M7, hM7, h⟩ := kM_out h
      refine A_mem hM7 ?_
      refine A_iconst (v := 1) rfl (by decide) ?_
      obtain ⟨rfl, rfl⟩ := leaf h
      exact A_zret rfl rfl (Or.inr rfl)
    · rw [if_neg hc6] at h
      refine A_pc (pc' := 39) rfl ?_
      refine A_iconst (v := 0) rfl (by decide) ?_
      obtain ⟨rfl, rfl⟩ := leaf h
      exact A_zret rfl rfl (Or.inl rfl)
  · rw [if_pos hc5] at h
    refine A_pc (pc' := 16) rfl ?_
    refine A_aload_n 1 rfl rfl rfl ?_
    refine A_dup rfl rfl ?_
    refine A_getI rfl fl_Reader_27 rfl (by decide) (Or.inl rfl) ?_
    refine A_iconst (v := 1) rfl (by decide) ?_
    refine A_isub rfl ?_
    refine A_pc (pc' := 23) rfl ?_
    refine A_putI rfl (Or.inl fl_Reader_27) rfl (by decide) (Or.inl rfl) rfl ?_
    obtain ⟨M8, hM8, h⟩ := kM_out h
    refine A_mem hM8 ?_
    refine A_aload_n 1 rfl rfl rfl ?_
    refine A_bipush (v := 13) rfl (by decide) ?_
    obtain ⟨q9, M10, hcq9, h⟩ := bnd_out h
    refine A_callV (ci := 2) (as := [vI 13]) (st' := []) (r1 := (some (vI q9), M10)) rfl ml_Reader_88 rfl (by decide) (by decide) (Or.inl rfl) rfl rfl (Nat.le_of_ble_eq_true rfl) (by decide) (c_Reader_joinNow hcq9) (Or.inl rfl) ?_
    refine A_pc (pc' := 32) rfl ?_
    refine A_stk (st' := [vI q9]) rfl ?_
    obtain ⟨hg11, h⟩ := g2_out h
    obtain ⟨rfl, rfl⟩ := leaf h
    exact A_zret rfl rfl hg11
def tb_Reader_closesSquare : List (Nat × Instr × Nat) := [(0, .aload_n 0, 1), (1, .iconst 1, 1), (2, .invokevirtual 71, 3), (5, .aload_n 0, 1), (6, .invokevirtual 126, 3), (9, .istore_n 1, 1), (10, .iload_n 1, 1), (11, .invokestatic 130, 3), (14, .ifCond .ne 5, 3), (17, .iconst 0, 1), (18, .ireturn, 1), (19, .aload_n 0, 1), (20, .dup, 1), (21, .getfield 27, 3), (24, .iconst 1, 1), (25, .isub, 1), (26, .putfield 27, 3), (29, .aload_n 0, 1), (30, .iload_n 1, 1), (31, .invokevirtual 88, 3), (34, .ireturn, 1)]
def Y_Reader_closesSquare : ax_Y := (⟨"MethodWarden$Reader", "closesSquare", "()Z"⟩, prog_8_method_11_code, 2, some .boolean, tb_Reader_closesSquare)
theorem yok_Reader_closesSquare : yOK Y_Reader_closesSquare := ⟨by decide +kernel, by decide +kernel, inWG 661 (by decide +kernel) (by decide +kernel), inWG 98 (by decide +kernel) (by decide +kernel), by decide +kernel⟩
theorem ml_Reader_130 : mlS "MethodWarden$Reader" 130 Y_Tok_opensSquare 1 := ⟨⟨yok_Tok_opensSquare, by decide +kernel, by decide⟩, Or.inl (inWG 662 (by decide +kernel) (by decide +kernel)), inWG 663 (by decide +kernel) (by decide +kernel)⟩
def f_Reader_closesSquare  (M : ax_M) : Option (Int32 × ax_M) :=
  bnd (f_Reader_joinDownTo 1 M) (fun q1 M2 => bnd (f_Reader_innermost  M2) (fun q3 M4 => bnd (f_Tok_opensSquare q3 M4) (fun q5 M6 => if q5 = 0 then (some (0, M6)) else (kM (mI M6 5 1 ((gI M6 5 1) - 1)) (fun M8 => bnd (f_Reader_joinNow q3 M8) (fun q9 M10 => g2 q9 (some (q9, M10))))))))
set_option maxHeartbeats 4000000 in
set_option maxRecDepth 100000 in
theorem c_Reader_closesSquare {l : Launch} {g : ax_G}  {M : ax_M} {r : Int32} {M' : ax_M} (h : f_Reader_closesSquare  M = some (r, M')) : Ctr l g true Y_Reader_closesSquare 4 [vA 5] M (some (vI r), M') := by
  refine Ctr.ofAW yok_Reader_closesSquare (Nat.le_of_ble_eq_true rfl) (Or.inl rfl) ?_
  show AW l g true Y_Reader_closesSquare 4 (some (vI r), M') 0 [(0, vA 5)] [] M
  unfold f_Reader_closesSquare at h
  refine A_aload_n 0 rfl rfl rfl ?_
  refine A_iconst (v := 1) rfl (by decide) ?_
  obtain ⟨q1, M2, hcq1, h⟩ := bnd_out h
  refine A_callV (ci := 2) (as := [vI 1]) (st' := []) (r1 := (none, M2)) rfl ml_Reader_71 rfl (by decide) (by decide) (Or.inl rfl) rfl rfl (Nat.le_of_ble_eq_true rfl) (by decide) (c_Reader_joinDownTo hcq1) (Or.inl rfl) ?_
  refine A_pc (pc' := 5) rfl ?_
  refine A_stk (st' := []) rfl ?_
  refine A_aload_n 0 rfl rfl rfl ?_
  obtain ⟨q3, M4, hcq3, h⟩ := bnd_out h
  refine A_callV (ci := 2) (as := []) (st' := []) (r1 := (some (vI q3), M4)) rfl ml_Reader_126 rfl (by decide) (by decide) (Or.inl rfl) rfl rfl (Nat.le_of_ble_eq_true rfl) (by decide) (c_Reader_innermost hcq3) (Or.inl rfl) ?_
  refine A_pc (pc' := 9) rfl ?_
  refine A_stk (st' := [vI q3]) rfl ?_
  refine A_pc (pc' := 9) rfl ?_
  refine A_istore_n (Ls' := [(1, vI q3), (0, vA 5)]) rfl rfl (by decide) rfl ?_
  refine A_iload_n 0 rfl rfl rfl ?_
  obtain ⟨q5, M6, hcq5, h⟩ := bnd_out h
  refine A_callS (as := [vI q3]) (st' := []) (r1 := (some (vI q5), M6)) rfl ml_Reader_130 rfl rfl (Nat.le_of_ble_eq_true rfl) (by decide) (c_Tok_opensSquare hcq5) (Or.inl rfl) ?_
  refine A_pc (pc' := 14) rfl ?_
  refine A_stk (st' := [vI q5]) rfl ?_
  refine A_if_ne (tgt := 19) rfl (by decide) (fun hc7 => ?_) (fun hc7 => ?_)
  · rw [if_neg hc7] at h
    refine A_aload_n 1 rfl rfl rfl ?_
    refine A_dup rfl rfl ?_
    refine A_getI rfl fl_Reader_27 rfl (by decide) (Or.inl rfl) ?_
    refine A_iconst (v := 1) rfl (by decide) ?_
    refine A_isub rfl ?_
    refine A_pc (pc' := 26) rfl ?_
    refine A_putI rfl (Or.inl fl_Reader_27) rfl (by decide) (Or.inl rfl) rfl ?_
    obtain ⟨M8, hM8, h⟩ := kM_out h
    refine A_mem hM8 ?_
    refine A_aload_n 1 rfl rfl rfl ?_
    refine A_iload_n 0 rfl rfl rfl ?_
    obtain ⟨q9, M10, hcq9, h⟩ := bnd_out h
    refine A_callV (ci := 2) (as := [vI q3]) (st' := []) (r1 := (some (vI q9), M10)) rfl ml_Reader_88 rfl (by decide) (by decide) (Or.inl rfl) rfl rfl (Nat.le_of_ble_eq_true rfl) (by decide) (c_Reader_joinNow hcq9) (Or.inl rfl) ?_
    refine A_pc (pc' := 34) rfl ?_
    refine A_stk (st' := [vI q9]) rfl ?_
    obtain ⟨hg11, h⟩ := g2_out h
    obtain ⟨rfl, rfl⟩ := leaf h
    exact A_zret rfl rfl hg11
  · rw [if_pos hc7] at h
    refine A_pc (pc' := 17) rfl ?_
    refine A_iconst (v := 0) rfl (by decide) ?_
    obtain ⟨rfl, rfl⟩ := leaf h
    exact A_zret rfl rfl (Or.inl rfl)
def tb_Reader_takesColon : List (Nat × Instr × Nat) := [(0, .aload_n 0, 1), (1, .iconst 1, 1), (2, .invokevirtual 71, 3), (5, .aload_n 0, 1), (6, .invokevirtual 126, 3), (9, .bipush 20, 2), (11, .if_icmp .eq 5, 3), (14, .iconst 0, 1), (15, .ireturn, 1), (16, .aload_n 0, 1), (17, .dup, 1), (18, .getfield 27, 3), (21, .iconst 1, 1), (22, .isub, 1), (23, .putfield 27, 3), (26, .aload_n 0, 1), (27, .bipush 42, 2), (29, .invokevirtual 82, 3), (32, .ireturn, 1)]
def Y_Reader_takesColon : ax_Y := (⟨"MethodWarden$Reader", "takesColon", "()Z"⟩, prog_8_method_12_code, 1, some .boolean, tb_Reader_takesColon)
theorem yok_Reader_takesColon : yOK Y_Reader_takesColon := ⟨by decide +kernel, by decide +kernel, inWG 668 (by decide +kernel) (by decide +kernel), inWG 98 (by decide +kernel) (by decide +kernel), by decide +kernel⟩
def f_Reader_takesColon  (M : ax_M) : Option (Int32 × ax_M) :=
  bnd (f_Reader_joinDownTo 1 M) (fun q1 M2 => bnd (f_Reader_innermost  M2) (fun q3 M4 => if q3 = 20 then (kM (mI M4 5 1 ((gI M4 5 1) - 1)) (fun M6 => bnd (f_Reader_begin 42 M6) (fun q7 M8 => g2 q7 (some (q7, M8))))) else (some (0, M4))))
set_option maxHeartbeats 4000000 in
set_option maxRecDepth 100000 in
theorem c_Reader_takesColon {l : Launch} {g : ax_G}  {M : ax_M} {r : Int32} {M' : ax_M} (h : f_Reader_takesColon  M = some (r, M')) : Ctr l g true Y_Reader_takesColon 4 [vA 5] M (some (vI r), M') := by
  refine Ctr.ofAW yok_Reader_takesColon (Nat.le_of_ble_eq_true rfl) (Or.inl rfl) ?_
  show AW l g true Y_Reader_takesColon 4 (some (vI r), M') 0 [(0, vA 5)] [] M
  unfold f_Reader_takesColon at h
  refine A_aload_n 0 rfl rfl rfl ?_
  refine A_iconst (v := 1) rfl (by decide) ?_
  obtain ⟨q1, M2, hcq1, h⟩ := bnd_out h
  refine A_callV (ci := 2) (as := [vI 1]) (st' := []) (r1 := (none, M2)) rfl ml_Reader_71 rfl (by decide) (by decide) (Or.inl rfl) rfl rfl (Nat.le_of_ble_eq_true rfl) (by decide) (c_Reader_joinDownTo hcq1) (Or.inl rfl) ?_
  refine A_pc (pc' := 5) rfl ?_
  refine A_stk (st' := []) rfl ?_
  refine A_aload_n 0 rfl rfl rfl ?_
  obtain ⟨q3, M4, hcq3, h⟩ := bnd_out h
  refine A_callV (ci := 2) (as := []) (st' := []) (r1 := (some (vI q3), M4)) rfl ml_Reader_126 rfl (by decide) (by decide) (Or.inl rfl) rfl rfl (Nat.le_of_ble_eq_true rfl) (by decide) (c_Reader_innermost hcq3) (Or.inl rfl) ?_
  refine A_pc (pc' := 9) rfl ?_
  refine A_stk (st' := [vI q3]) rfl ?_
  refine A_pc (pc' := 9) rfl ?_
  refine A_bipush (v := 20) rfl (by decide) ?_
  refine A_icmp_eq (tgt := 16) rfl (by decide) (fun hc5 => ?_) (fun hc5 => ?_)
  · rw [if_pos hc5] at h
    refine A_aload_n 0 rfl rfl rfl ?_
    refine A_dup rfl rfl ?_
    refine A_getI rfl fl_Reader_27 rfl (by decide) (Or.inl rfl) ?_
    refine A_iconst (v := 1) rfl (by decide) ?_
    refine A_isub rfl ?_
    refine A_pc (pc' := 23) rfl ?_
    refine A_putI rfl (Or.inl fl_Reader_27) rfl (by decide) (Or.inl rfl) rfl ?_
    obtain ⟨M6, hM6, h⟩ := kM_out h
    refine A_mem hM6 ?_
    refine A_aload_n 0 rfl rfl rfl ?_
    refine A_bipush (v := 42) rfl (by decide) ?_
    obtain ⟨q7, M8, hcq7, h⟩ := bnd_out h
    refine A_callV (ci := 2) (as := [vI 42]) (st' := []) (r1 := (some (vI q7), M8)) rfl ml_Reader_82 rfl (by decide) (by decide) (Or.inl rfl) rfl rfl (Nat.le_of_ble_eq_true rfl) (by decide) (c_Reader_begin hcq7) (Or.inl rfl) ?_
    refine A_pc (pc' := 32) rfl ?_
    refine A_stk (st' := [vI q7]) rfl ?_
    obtain ⟨hg9, h⟩ := g2_out h
    obtain ⟨rfl, rfl⟩ := leaf h
    exact A_zret rfl rfl hg9
  · rw [if_neg hc5] at h
    refine A_pc (pc' := 14) rfl ?_
    refine A_iconst (v := 0) rfl (by decide) ?_
    obtain ⟨rfl, rfl⟩ := leaf h
    exact A_zret rfl rfl (Or.inl rfl)
def tb_Reader_takesBetween : List (Nat × Instr × Nat) := [(0, .iload_n 1, 1), (1, .invokestatic 122, 3), (4, .istore_n 2, 1), (5, .iload_n 2, 1), (6, .iconst 2, 1), (7, .if_icmp .lt 9, 3), (10, .iload_n 2, 1), (11, .bipush 7, 2), (13, .if_icmp .le 5, 3), (16, .iconst 0, 1), (17, .ireturn, 1), (18, .aload_n 0, 1), (19, .iload_n 2, 1), (20, .invokevirtual 71, 3), (23, .aload_n 0, 1), (24, .iload_n 1, 1), (25, .invokevirtual 82, 3), (28, .ireturn, 1)]
def Y_Reader_takesBetween : ax_Y := (⟨"MethodWarden$Reader", "takesBetween", "(I)Z"⟩, prog_8_method_8_code, 3, some .boolean, tb_Reader_takesBetween)
theorem yok_Reader_takesBetween : yOK Y_Reader_takesBetween := ⟨by decide +kernel, by decide +kernel, inWG 676 (by decide +kernel) (by decide +kernel), inWG 98 (by decide +kernel) (by decide +kernel), by decide +kernel⟩
def f_Reader_takesBetween (a1 : Int32) (M : ax_M) : Option (Int32 × ax_M) :=
  bnd (f_Tok_rankOf a1 M) (fun q1 M2 => if q1 < 2 then (some (0, M2)) else (if q1 ≤ 7 then (bnd (f_Reader_joinDownTo q1 M2) (fun q5 M6 => bnd (f_Reader_begin a1 M6) (fun q7 M8 => g2 q7 (some (q7, M8))))) else (some (0, M2))))
set_option maxHeartbeats 4000000 in
set_option maxRecDepth 100000 in
theorem c_Reader_takesBetween {l : Launch} {g : ax_G} {a1 : Int32} {M : ax_M} {r : Int32} {M' : ax_M} (h : f_Reader_takesBetween a1 M = some (r, M')) : Ctr l g true Y_Reader_takesBetween 4 [vA 5, vI a1] M (some (vI r), M') := by
  refine Ctr.ofAW yok_Reader_takesBetween (Nat.le_of_ble_eq_true rfl) (Or.inl rfl) ?_
  show AW l g true Y_Reader_takesBetween 4 (some (vI r), M') 0 [(0, vA 5), (1, vI a1)] [] M
  unfold f_Reader_takesBetween at h
  refine A_iload_n 1 rfl rfl rfl ?_
  obtain ⟨q1, M2, hcq1, h⟩ := bnd_out h
  refine A_callS (as := [vI a1]) (st' := []) (r1 := (some (vI q1), M2)) rfl ml_Reader_122 rfl rfl (Nat.le_of_ble_eq_true rfl) (by decide) (c_Tok_rankOf hcq1) (Or.inl rfl) ?_
  refine A_pc (pc' := 4) rfl ?_
  refine A_stk (st' := [vI q1]) rfl ?_
  refine A_istore_n (Ls' := [(2, vI q1), (0, vA 5), (1, vI a1)]) rfl rfl (by decide) rfl ?_
  refine A_iload_n 0 rfl rfl rfl ?_
  refine A_iconst (v := 2) rfl (by decide) ?_
  refine A_pc (pc' := 7) rfl ?_
  refine A_icmp_lt (tgt := 16) rfl (by decide) (fun hc3 => ?_) (fun hc3 => ?_)
  · rw [if_pos hc3] at h
    refine A_iconst (v := 0) rfl (by decide) ?_
    obtain ⟨rfl, rfl⟩ := leaf h
    exact A_zret rfl rfl (Or.inl rfl)
  · rw [if_neg hc3] at h
    refine A_pc (pc' := 10) rfl ?_
    refine A_iload_n 0 rfl rfl rfl ?_
    refine A_bipush (v := 7) rfl (by decide) ?_
    refine A_icmp_le (tgt := 18) rfl (by decide) (fun hc4 => ?_) (fun hc4 => ?_)
    · rw [if_pos hc4] at h
      refine A_aload_n 1 rfl rfl rfl ?_
      refine A_iload_n 0 rfl rfl rfl ?_
      obtain ⟨q5, M6, hcq5, h⟩ := bnd_out h
      refine A_callV (ci := 2) (as := [vI q1]) (st' := []) (r1 := (none, M6)) rfl ml_Reader_71 rfl (by decide) (by decide) (Or.inl rfl) rfl rfl (Nat.le_of_ble_eq_true rfl) (by decide) (c_Reader_joinDownTo hcq5) (Or.inl rfl) ?_
      refine A_pc (pc' := 23) rfl ?_
      refine A_stk (st' := []) rfl ?_
      refine A_aload_n 1 rfl rfl rfl ?_
      refine A_iload_n 2 rfl rfl rfl ?_
      refine A_pc (pc' := 25) rfl ?_
      obtain ⟨q7, M8, hcq7, h⟩ := bnd_out h
      refine A_callV (ci := 2) (as := [vI a1]) (st' := []) (r1 := (some (vI q7), M8)) rfl ml_Reader_82 rfl (by decide) (by decide) (Or.inl rfl) rfl rfl (Nat.le_of_ble_eq_true rfl) (by decide) (c_Reader_begin hcq7) (Or.inl rfl) ?_
      refine A_pc (pc' := 28) rfl ?_
      refine A_stk (st' := [vI q7]) rfl ?_
      obtain ⟨hg9, h⟩ := g2_out h
      obtain ⟨rfl, rfl⟩ := leaf h
      exact A_zret rfl rfl hg9
    · rw [if_neg hc4] at h
      refine A_pc (pc' := 16) rfl ?_
      refine A_iconst (v := 0) rfl (by decide) ?_
      obtain ⟨rfl, rfl⟩ := leaf h
      exact A_zret rfl rfl (Or.inl rfl)
def tb_Reader_takesBehindValue : List (Nat × Instr × Nat) := [(0, .iload_n 1, 1), (1, .tableswitch 161 16 40 #[115, 144, 120, 125, 150, 161, 161, 161, 161, 161, 161, 161, 161, 161, 161, 161, 161, 161, 161, 130, 137, 150, 144, 144, 144], 115), (116, .aload_n 0, 1), (117, .invokevirtual 107, 3), (120, .ireturn, 1), (121, .aload_n 0, 1), (122, .invokevirtual 110, 3), (125, .ireturn, 1), (126, .aload_n 0, 1), (127, .invokevirtual 113, 3), (130, .ireturn, 1), (131, .aload_n 0, 1), (132, .bipush 14, 2), (134, .invokevirtual 116, 3), (137, .ireturn, 1), (138, .aload_n 0, 1), (139, .bipush 43, 2), (141, .invokevirtual 116, 3), (144, .ireturn, 1), (145, .aload_n 0, 1), (146, .iload_n 1, 1), (147, .invokevirtual 82, 3), (150, .ireturn, 1), (151, .aload_n 0, 1), (152, .iconst 2, 1), (153, .invokevirtual 71, 3), (156, .aload_n 0, 1), (157, .iload_n 1, 1), (158, .invokevirtual 82, 3), (161, .ireturn, 1), (162, .aload_n 0, 1), (163, .iload_n 1, 1), (164, .invokevirtual 119, 3), (167, .ireturn, 1)]
def Y_Reader_takesBehindValue : ax_Y := (⟨"MethodWarden$Reader", "takesBehindValue", "(I)Z"⟩, prog_8_method_7_code, 2, some .boolean, tb_Reader_takesBehindValue)
theorem yok_Reader_takesBehindValue : yOK Y_Reader_takesBehindValue := ⟨by decide +kernel, by decide +kernel, inWG 649 (by decide +kernel) (by decide +kernel), inWG 98 (by decide +kernel) (by decide +kernel), by decide +kernel⟩
theorem ml_Reader_107 : mlV "MethodWarden$Reader" 107 Y_Reader_closesRound 0 := ⟨⟨yok_Reader_closesRound, by decide +kernel, by decide⟩, Or.inl (inWG 650 (by decide +kernel) (by decide +kernel)), inWG 652 (by decide +kernel) (by decide +kernel), inWG 21 (by decide +kernel) (by decide +kernel)⟩
theorem ml_Reader_110 : mlV "MethodWarden$Reader" 110 Y_Reader_closesSquare 0 := ⟨⟨yok_Reader_closesSquare, by decide +kernel, by decide⟩, Or.inl (inWG 658 (by decide +kernel) (by decide +kernel)), inWG 660 (by decide +kernel) (by decide +kernel), inWG 23 (by decide +kernel) (by decide +kernel)⟩
theorem ml_Reader_113 : mlV "MethodWarden$Reader" 113 Y_Reader_takesColon 0 := ⟨⟨yok_Reader_takesColon, by decide +kernel, by decide⟩, Or.inl (inWG 665 (by decide +kernel) (by decide +kernel)), inWG 667 (by decide +kernel) (by decide +kernel), inWG 24 (by decide +kernel) (by decide +kernel)⟩
theorem ml_Reader_116 : mlV "MethodWarden$Reader" 116 Y_Reader_waitsForSize 1 := ⟨⟨yok_Reader_waitsForSize, by decide +kernel, by decide⟩, Or.inl (inWG 669 (by decide +kernel) (by decide +kernel)), inWG 671 (by decide +kernel) (by decide +kernel), inWG 25 (by decide +kernel) (by decide +kernel)⟩
theorem ml_Reader_119 : mlV "MethodWarden$Reader" 119 Y_Reader_takesBetween 1 := ⟨⟨yok_Reader_takesBetween, by decide +kernel, by decide⟩, Or.inl (inWG 673 (by decide +kernel) (by decide +kernel)), inWG 675 (by decide +kernel) (by decide +kernel), inWG 26 (by decide +kernel) (by decide +kernel)⟩
def f_Reader_takesBehindValue (a1 : Int32) (M : ax_M) : Option (Int32 × ax_M) :=
  if a1 = 16 then (bnd (f_Reader_closesRound  M) (fun q2 M3 => g2 q2 (some (q2, M3)))) else (if a1 = 17 then (bnd (f_Reader_begin a1 M) (fun q6 M7 => g2 q6 (some (q6, M7)))) else (if a1 = 18 then (bnd (f_Reader_closesSquare  M) (fun q10 M11 => g2 q10 (some (q10, M11)))) else (if a1 = 19 then (bnd (f_Reader_takesColon  M) (fun q14 M15 => g2 q14 (some (q14, M15)))) else (if a1 = 20 then (bnd (f_Reader_joinDownTo 2 M) (fun q18 M19 => bnd (f_Reader_begin a1 M19) (fun q20 M21 => g2 q20 (some (q20, M21))))) else (if a1 = 35 then (bnd (f_Reader_waitsForSize 14 M) (fun q24 M25 => g2 q24 (some (q24, M25)))) else (if a1 = 36 then (bnd (f_Reader_waitsForSize 43 M) (fun q28 M29 => g2 q28 (some (q28, M29)))) else (if a1 = 37 then (bnd (f_Reader_joinDownTo 2 M) (fun q32 M33 => bnd (f_Reader_begin a1 M33) (fun q34 M35 => g2 q34 (some (q34, M35))))) else (if a1 = 38 then (bnd (f_Reader_begin a1 M) (fun q38 M39 => g2 q38 (some (q38, M39)))) else (if a1 = 39 then (bnd (f_Reader_begin a1 M) (fun q42 M43 => g2 q42 (some (q42, M43)))) else (if a1 = 40 then (bnd (f_Reader_begin a1 M) (fun q46 M47 => g2 q46 (some (q46, M47)))) else (bnd (f_Reader_takesBetween a1 M) (fun q49 M50 => g2 q49 (some (q49, M50))))))))))))))
set_option maxHeartbeats 4000000 in
set_option maxRecDepth 100000 in
theorem c_Reader_takesBehindValue {l : Launch} {g : ax_G} {a1 : Int32} {M : ax_M} {r : Int32} {M' : ax_M} (h : f_Reader_takesBehindValue a1 M = some (r, M')) : Ctr l g true Y_Reader_takesBehindValue 5 [vA 5, vI a1] M (some (vI r), M') := by
  refine Ctr.ofAW yok_Reader_takesBehindValue (Nat.le_of_ble_eq_true rfl) (Or.inl rfl) ?_
  show AW l g true Y_Reader_takesBehindValue 5 (some (vI r), M') 0 [(0, vA 5), (1, vI a1)] [] M
  unfold f_Reader_takesBehindValue at h
  refine A_iload_n 1 rfl rfl rfl ?_
  by_cases hc1 : a1 = 16
  · rw [if_pos hc1] at h
    refine A_tableIn (tgt := 116) (off := 115) rfl (by rw [hc1]; decide) (by rw [hc1]; decide) (by rw [hc1]; rfl) (by decide) ?_
    refine A_aload_n 0 rfl rfl rfl ?_
    obtain ⟨q2, M3, hcq2, h⟩ := bnd_out h
    refine A_callV (ci := 2) (as := []) (st' := []) (r1 := (some (vI q2), M3)) rfl ml_Reader_107 rfl (by decide) (by decide) (Or.inl rfl) rfl rfl (Nat.le_of_ble_eq_true rfl) (by decide) (c_Reader_closesRound hcq2) (Or.inl rfl) ?_
    refine A_pc (pc' := 120) rfl ?_
    refine A_stk (st' := [vI q2]) rfl ?_
    obtain ⟨hg4, h⟩ := g2_out h
    obtain ⟨rfl, rfl⟩ := leaf h
    exact A_zret rfl rfl hg4
  · rw [if_neg hc1] at h
    by_cases hc5 : a1 = 17
    · rw [if_pos hc5] at h
      refine A_tableIn (tgt := 145) (off := 144) rfl (by rw [hc5]; decide) (by rw [hc5]; decide) (by rw [hc5]; rfl) (by decide) ?_
      refine A_aload_n 0 rfl rfl rfl ?_
      refine A_iload_n 1 rfl rfl rfl ?_
      obtain ⟨q6, M7, hcq6, h⟩ := bnd_out h
      refine A_callV (ci := 2) (as := [vI a1]) (st' := []) (r1 := (some (vI q6), M7)) rfl ml_Reader_82 rfl (by decide) (by decide) (Or.inl rfl) rfl rfl (Nat.le_of_ble_eq_true rfl) (by decide) (c_Reader_begin hcq6) (Or.inl rfl) ?_
      refine A_pc (pc' := 150) rfl ?_
      refine A_stk (st' := [vI q6]) rfl ?_
      obtain ⟨hg8, h⟩ := g2_out h
      obtain ⟨rfl, rfl⟩ := leaf h
      exact A_zret rfl rfl hg8
    · rw [if_neg hc5] at h
      by_cases hc9 : a1 = 18
      · rw [if_pos hc9] at h
        refine A_tableIn (tgt := 121) (off := 120) rfl (by rw [hc9]; decide) (by rw [hc9]; decide) (by rw [hc9]; rfl) (by decide) ?_
        refine A_aload_n 0 rfl rfl rfl ?_
        obtain ⟨q10, M11, hcq10, h⟩ := bnd_out h
        refine A_callV (ci := 2) (as := []) (st' := []) (r1 := (some (vI q10), M11)) rfl ml_Reader_110 rfl (by decide) (by decide) (Or.inl rfl) rfl rfl (Nat.le_of_ble_eq_true rfl) (by decide) (c_Reader_closesSquare hcq10) (Or.inl rfl) ?_
        refine A_pc (pc' := 125) rfl ?_
        refine A_stk (st' := [vI q10]) rfl ?_
        obtain ⟨hg12, h⟩ := g2_out h
        obtain ⟨rfl, rfl⟩ := leaf h
        exact A_zret rfl rfl hg12
      · rw [if_neg hc9] at h
        by_cases hc13 : a1 = 19
        · rw [if_pos hc13] at h
          refine A_tableIn (tgt := 126) (off := 125) rfl (by rw [hc13]; decide) (by rw [hc13]; decide) (by rw [hc13]; rfl) (by decide) ?_
          refine A_aload_n 0 rfl rfl rfl ?_
          obtain ⟨q14, M15, hcq14, h⟩ := bnd_out h
          refine A_callV (ci := 2) (as := []) (st' := []) (r1 := (some (vI q14), M15)) rfl ml_Reader_113 rfl (by decide) (by decide) (Or.inl rfl) rfl rfl (Nat.le_of_ble_eq_true rfl) (by decide) (c_Reader_takesColon hcq14) (Or.inl rfl) ?_
          refine A_pc (pc' := 130) rfl ?_
          refine A_stk (st' := [vI q14]) rfl ?_
          obtain ⟨hg16, h⟩ := g2_out h
          obtain ⟨rfl, rfl⟩ := leaf h
          exact A_zret rfl rfl hg16
        · rw [if_neg hc13] at h
          by_cases hc17 : a1 = 20
          · rw [if_pos hc17] at h
            refine A_tableIn (tgt := 151) (off := 150) rfl (by rw [hc17]; decide) (by rw [hc17]; decide) (by rw [hc17]; rfl) (by decide) ?_
            refine A_aload_n 0 rfl rfl rfl ?_
            refine A_iconst (v := 2) rfl (by decide) ?_
            obtain ⟨q18, M19, hcq18, h⟩ := bnd_out h
            refine A_callV (ci := 2) (as := [vI 2]) (st' := []) (r1 := (none, M19)) rfl ml_Reader_71 rfl (by decide) (by decide) (Or.inl rfl) rfl rfl (Nat.le_of_ble_eq_true rfl) (by decide) (c_Reader_joinDownTo hcq18) (Or.inl rfl) ?_
            refine A_pc (pc' := 156) rfl ?_
            refine A_stk (st' := []) rfl ?_
            refine A_aload_n 0 rfl rfl rfl ?_
            refine A_iload_n 1 rfl rfl rfl ?_
            refine A_pc (pc' := 158) rfl ?_
            obtain ⟨q20, M21, hcq20, h⟩ := bnd_out h
            refine A_callV (ci := 2) (as := [vI a1]) (st' := []) (r1 := (some (vI q20), M21)) rfl ml_Reader_82 rfl (by decide) (by decide) (Or.inl rfl) rfl rfl (Nat.le_of_ble_eq_true rfl) (by decide) (c_Reader_begin hcq20) (Or.inl rfl) ?_
            refine A_pc (pc' := 161) rfl ?_
            refine A_stk (st' := [vI q20]) rfl ?_
            obtain ⟨hg22, h⟩ := g2_out h
            obtain ⟨rfl, rfl⟩ := leaf h
            exact A_zret rfl rfl hg22
          · rw [if_neg hc17] at h
            by_cases hc23 : a1 = 35
            · rw [if_pos hc23] at h
              refine A_tableIn (tgt := 131) (off := 130) rfl (by rw [hc23]; decide) (by rw [hc23]; decide) (by rw [hc23]; rfl) (by decide) ?_
              refine A_aload_n 0 rfl rfl rfl ?_
              refine A_bipush (v := 14) rfl (by decide) ?_
              obtain ⟨q24, M25, hcq24, h⟩ := bnd_out h
              refine A_callV (ci := 2) (as := [vI 14]) (st' := []) (r1 := (some (vI q24), M25)) rfl ml_Reader_116 rfl (by decide) (by decide) (Or.inl rfl) rfl rfl (Nat.le_of_ble_eq_true rfl) (by decide) (c_Reader_waitsForSize hcq24) (Or.inl rfl) ?_
              refine A_pc (pc' := 137) rfl ?_
              refine A_stk (st' := [vI q24]) rfl ?_
              obtain ⟨hg26, h⟩ := g2_out h
              obtain ⟨rfl, rfl⟩ := leaf h
              exact A_zret rfl rfl hg26
            · rw [if_neg hc23] at h
              by_cases hc27 : a1 = 36
              · rw [if_pos hc27] at h
                refine A_tableIn (tgt := 138) (off := 137) rfl (by rw [hc27]; decide) (by rw [hc27]; decide) (by rw [hc27]; rfl) (by decide) ?_
                refine A_aload_n 0 rfl rfl rfl ?_
                refine A_bipush (v := 43) rfl (by decide) ?_
                obtain ⟨q28, M29, hcq28, h⟩ := bnd_out h
                refine A_callV (ci := 2) (as := [vI 43]) (st' := []) (r1 := (some (vI q28), M29)) rfl ml_Reader_116 rfl (by decide) (by decide) (Or.inl rfl) rfl rfl (Nat.le_of_ble_eq_true rfl) (by decide) (c_Reader_waitsForSize hcq28) (Or.inl rfl) ?_
                refine A_pc (pc' := 144) rfl ?_
                refine A_stk (st' := [vI q28]) rfl ?_
                obtain ⟨hg30, h⟩ := g2_out h
                obtain ⟨rfl, rfl⟩ := leaf h
                exact A_zret rfl rfl hg30
              · rw [if_neg hc27] at h
                by_cases hc31 : a1 = 37
                · rw [if_pos hc31] at h
                  refine A_tableIn (tgt := 151) (off := 150) rfl (by rw [hc31]; decide) (by rw [hc31]; decide) (by rw [hc31]; rfl) (by decide) ?_
                  refine A_aload_n 0 rfl rfl rfl ?_
                  refine A_iconst (v := 2) rfl (by decide) ?_
                  obtain ⟨q32, M33, hcq32, h⟩ := bnd_out h
                  refine A_callV (ci := 2) (as := [vI 2]) (st' := []) (r1 := (none, M33)) rfl ml_Reader_71 rfl (by decide) (by decide) (Or.inl rfl) rfl rfl (Nat.le_of_ble_eq_true rfl) (by decide) (c_Reader_joinDownTo hcq32) (Or.inl rfl) ?_
                  refine A_pc (pc' := 156) rfl ?_
                  refine A_stk (st' := []) rfl ?_
                  refine A_aload_n 0 rfl rfl rfl ?_
                  refine A_iload_n 1 rfl rfl rfl ?_
                  refine A_pc (pc' := 158) rfl ?_
                  obtain ⟨q34, M35, hcq34, h⟩ := bnd_out h
                  refine A_callV (ci := 2) (as := [vI a1]) (st' := []) (r1 := (some (vI q34), M35)) rfl ml_Reader_82 rfl (by decide) (by decide) (Or.inl rfl) rfl rfl (Nat.le_of_ble_eq_true rfl) (by decide) (c_Reader_begin hcq34) (Or.inl rfl) ?_
                  refine A_pc (pc' := 161) rfl ?_
                  refine A_stk (st' := [vI q34]) rfl ?_
                  obtain ⟨hg36, h⟩ := g2_out h
                  obtain ⟨rfl, rfl⟩ := leaf h
                  exact A_zret rfl rfl hg36
                · rw [if_neg hc31] at h
                  by_cases hc37 : a1 = 38
                  · rw [if_pos hc37] at h
                    refine A_tableIn (tgt := 145) (off := 144) rfl (by rw [hc37]; decide) (by rw [hc37]; decide) (by rw [hc37]; rfl) (by decide) ?_
                    refine A_aload_n 0 rfl rfl rfl ?_
                    refine A_iload_n 1 rfl rfl rfl ?_
                    obtain ⟨q38, M39, hcq38, h⟩ := bnd_out h
                    refine A_callV (ci := 2) (as := [vI a1]) (st' := []) (r1 := (some (vI q38), M39)) rfl ml_Reader_82 rfl (by decide) (by decide) (Or.inl rfl) rfl rfl (Nat.le_of_ble_eq_true rfl) (by decide) (c_Reader_begin hcq38) (Or.inl rfl) ?_
                    refine A_pc (pc' := 150) rfl ?_
                    refine A_stk (st' := [vI q38]) rfl ?_
                    obtain ⟨hg40, h⟩ := g2_out h
                    obtain ⟨rfl, rfl⟩ := leaf h
                    exact A_zret rfl rfl hg40
                  · rw [if_neg hc37] at h
                    by_cases hc41 : a1 = 39
                    · rw [if_pos hc41] at h
                      refine A_tableIn (tgt := 145) (off := 144) rfl (by rw [hc41]; decide) (by rw [hc41]; decide) (by rw [hc41]; rfl) (by decide) ?_
                      refine A_aload_n 0 rfl rfl rfl ?_
                      refine A_iload_n 1 rfl rfl rfl ?_
                      obtain ⟨q42, M43, hcq42, h⟩ := bnd_out h
                      refine A_callV (ci := 2) (as := [vI a1]) (st' := []) (r1 := (some (vI q42), M43)) rfl ml_Reader_82 rfl (by decide) (by decide) (Or.inl rfl) rfl rfl (Nat.le_of_ble_eq_true rfl) (by decide) (c_Reader_begin hcq42) (Or.inl rfl) ?_
                      refine A_pc (pc' := 150) rfl ?_
                      refine A_stk (st' := [vI q42]) rfl ?_
                      obtain ⟨hg44, h⟩ := g2_out h
                      obtain ⟨rfl, rfl⟩ := leaf h
                      exact A_zret rfl rfl hg44
                    · rw [if_neg hc41] at h
                      by_cases hc45 : a1 = 40
                      · rw [if_pos hc45] at h
                        refine A_tableIn (tgt := 145) (off := 144) rfl (by rw [hc45]; decide) (by rw [hc45]; decide) (by rw [hc45]; rfl) (by decide) ?_
                        refine A_aload_n 0 rfl rfl rfl ?_
                        refine A_iload_n 1 rfl rfl rfl ?_
                        obtain ⟨q46, M47, hcq46, h⟩ := bnd_out h
                        refine A_callV (ci := 2) (as := [vI a1]) (st' := []) (r1 := (some (vI q46), M47)) rfl ml_Reader_82 rfl (by decide) (by decide) (Or.inl rfl) rfl rfl (Nat.le_of_ble_eq_true rfl) (by decide) (c_Reader_begin hcq46) (Or.inl rfl) ?_
                        refine A_pc (pc' := 150) rfl ?_
                        refine A_stk (st' := [vI q46]) rfl ?_
                        obtain ⟨hg48, h⟩ := g2_out h
                        obtain ⟨rfl, rfl⟩ := leaf h
                        exact A_zret rfl rfl hg48
                      · rw [if_neg hc45] at h
                        refine A_tableDef (tgt := 162) [16, 17, 18, 19, 20, 35, 36, 37, 38, 39, 40] rfl (by decide) (by decide) (fa_cons (ne_i hc1 (by decide)) (fa_cons (ne_i hc5 (by decide)) (fa_cons (ne_i hc9 (by decide)) (fa_cons (ne_i hc13 (by decide)) (fa_cons (ne_i hc17 (by decide)) (fa_cons (ne_i hc23 (by decide)) (fa_cons (ne_i hc27 (by decide)) (fa_cons (ne_i hc31 (by decide)) (fa_cons (ne_i hc37 (by decide)) (fa_cons (ne_i hc41 (by decide)) (fa_cons (ne_i hc45 (by decide)) fa_nil))))))))))) (by decide) ?_
                        refine A_aload_n 0 rfl rfl rfl ?_
                        refine A_iload_n 1 rfl rfl rfl ?_
                        obtain ⟨q49, M50, hcq49, h⟩ := bnd_out h
                        refine A_callV (ci := 2) (as := [vI a1]) (st' := []) (r1 := (some (vI q49), M50)) rfl ml_Reader_119 rfl (by decide) (by decide) (Or.inl rfl) rfl rfl (Nat.le_of_ble_eq_true rfl) (by decide) (c_Reader_takesBetween hcq49) (Or.inl rfl) ?_
                        refine A_pc (pc' := 167) rfl ?_
                        refine A_stk (st' := [vI q49]) rfl ?_
                        obtain ⟨hg51, h⟩ := g2_out h
                        obtain ⟨rfl, rfl⟩ := leaf h
                        exact A_zret rfl rfl hg51
def tb_Reader_takes : List (Nat × Instr × Nat) := [(0, .iload_n 1, 1), (1, .iconst 1, 1), (2, .if_icmp .ne 5, 3), (5, .iconst 0, 1), (6, .ireturn, 1), (7, .iload_n 1, 1), (8, .invokestatic 75, 3), (11, .ifCond .eq 13, 3), (14, .aload_n 0, 1), (15, .dup, 1), (16, .getfield 34, 3), (19, .iconst 1, 1), (20, .iadd, 1), (21, .putfield 34, 3), (24, .aload_n 0, 1), (25, .getfield 34, 3), (28, .bipush 20, 2), (30, .if_icmp .le 5, 3), (33, .iconst 0, 1), (34, .ireturn, 1), (35, .aload_n 0, 1), (36, .getfield 37, 3), (39, .tableswitch 80 0 3 #[29, 80, 36, 57], 29), (68, .aload_n 0, 1), (69, .iload_n 1, 1), (70, .lload_n 2, 1), (71, .invokevirtual 79, 3), (74, .ireturn, 1), (75, .iload_n 1, 1), (76, .bipush 15, 2), (78, .if_icmp .ne 16, 3), (81, .aload_n 0, 1), (82, .bipush 13, 2), (84, .invokevirtual 82, 3), (87, .ifCond .eq 7, 3), (90, .iconst 1, 1), (91, .goto 4, 3), (94, .iconst 0, 1), (95, .ireturn, 1), (96, .iload_n 1, 1), (97, .bipush 14, 2), (99, .if_icmp .ne 18, 3), (102, .aload_n 0, 1), (103, .aload_n 0, 1), (104, .getfield 85, 3), (107, .invokevirtual 88, 3), (110, .ifCond .eq 7, 3), (113, .iconst 1, 1), (114, .goto 4, 3), (117, .iconst 0, 1), (118, .ireturn, 1), (119, .aload_n 0, 1), (120, .iload_n 1, 1), (121, .invokevirtual 91, 3), (124, .ireturn, 1)]
def Y_Reader_takes : ax_Y := (⟨"MethodWarden$Reader", "takes", "(IJ)Z"⟩, prog_8_method_4_code, 4, some .boolean, tb_Reader_takes)
theorem yok_Reader_takes : yOK Y_Reader_takes := ⟨by decide +kernel, by decide +kernel, inWG 618 (by decide +kernel) (by decide +kernel), inWG 98 (by decide +kernel) (by decide +kernel), by decide +kernel⟩
theorem fl_Reader_34 : fldOK "MethodWarden$Reader" 34 2 6 false := ⟨_, _, _, cls_Reader, by decide, by decide, rfl, Or.inl (inWG 163 (by decide +kernel) (by decide +kernel))⟩
theorem ml_Reader_75 : mlS "MethodWarden$Reader" 75 Y_Tok_isPart 1 := ⟨⟨yok_Tok_isPart, by decide +kernel, by decide⟩, Or.inl (inWG 619 (by decide +kernel) (by decide +kernel)), inWG 620 (by decide +kernel) (by decide +kernel)⟩
theorem ml_Reader_79 : mlV "MethodWarden$Reader" 79 Y_Reader_takesForValue 2 := ⟨⟨yok_Reader_takesForValue, by decide +kernel, by decide⟩, Or.inl (inWG 622 (by decide +kernel) (by decide +kernel)), inWG 624 (by decide +kernel) (by decide +kernel), inWG 16 (by decide +kernel) (by decide +kernel)⟩
theorem ml_Reader_91 : mlV "MethodWarden$Reader" 91 Y_Reader_takesBehindValue 1 := ⟨⟨yok_Reader_takesBehindValue, by decide +kernel, by decide⟩, Or.inl (inWG 646 (by decide +kernel) (by decide +kernel)), inWG 648 (by decide +kernel) (by decide +kernel), inWG 20 (by decide +kernel) (by decide +kernel)⟩
def f_Reader_takes_24 (l1 : Int32) (l2 : Int64) (M : ax_M) : Option (Int32 × ax_M) :=
  if (gI M 5 6) ≤ 20 then (kM (gI M 5 4) (fun x6 => if x6 = 0 then (bnd (f_Reader_takesForValue l1 l2 M) (fun q8 M9 => g2 q8 (some (q8, M9)))) else (if x6 = 2 then (if l1 = 15 then (bnd (f_Reader_begin 13 M) (fun q13 M14 => if q13 = 0 then (some (0, M14)) else (some (1, M14)))) else (some (0, M))) else (if x6 = 3 then (if l1 = 14 then (bnd (f_Reader_joinNow (gI M 5 5) M) (fun q18 M19 => if q18 = 0 then (some (0, M19)) else (some (1, M19)))) else (some (0, M))) else (bnd (f_Reader_takesBehindValue l1 M) (fun q21 M22 => g2 q21 (some (q21, M22)))))))) else (some (0, M))
set_option maxHeartbeats 4000000 in
set_option maxRecDepth 100000 in
theorem o_Reader_takes_24 {l : Launch} {g : ax_G} (l1 : Int32) (l2 : Int64) (M : ax_M) (r : Int32) (M' : ax_M) (h : f_Reader_takes_24  l1 l2 M = some (r, M')) : AW l g true Y_Reader_takes 6 (some (vI r), M') 24 [(0, vA 5), (1, vI l1), (2, vJ l2)] [] M := by
  unfold f_Reader_takes_24 at h
  refine A_aload_n 0 rfl rfl rfl ?_
  refine A_getI rfl fl_Reader_34 rfl (by decide) (Or.inl rfl) ?_
  refine A_bipush (v := 20) rfl (by decide) ?_
  refine A_icmp_le (tgt := 35) rfl (by decide) (fun hc5 => ?_) (fun hc5 => ?_)
  · rw [if_pos hc5] at h
    refine A_aload_n 0 rfl rfl rfl ?_
    refine A_getI rfl fl_Reader_37 rfl (by decide) (Or.inl rfl) ?_
    obtain ⟨x6, hx6, h⟩ := kM_out h
    refine A_nI hx6 ?_
    by_cases hc7 : x6 = 0
    · rw [if_pos hc7] at h
      refine A_tableIn (tgt := 68) (off := 29) rfl (by rw [hc7]; decide) (by rw [hc7]; decide) (by rw [hc7]; rfl) (by decide) ?_
      refine A_aload_n 0 rfl rfl rfl ?_
      refine A_iload_n 1 rfl rfl rfl ?_
      refine A_lload_n 2 rfl rfl rfl ?_
      obtain ⟨q8, M9, hcq8, h⟩ := bnd_out h
      refine A_callV (ci := 2) (as := [vI l1, vJ l2]) (st' := []) (r1 := (some (vI q8), M9)) rfl ml_Reader_79 rfl (by decide) (by decide) (Or.inl rfl) rfl rfl (Nat.le_of_ble_eq_true rfl) (by decide) (c_Reader_takesForValue hcq8) (Or.inl rfl) ?_
      refine A_pc (pc' := 74) rfl ?_
      refine A_stk (st' := [vI q8]) rfl ?_
      obtain ⟨hg10, h⟩ := g2_out h
      obtain ⟨rfl, rfl⟩ := leaf h
      exact A_zret rfl rfl hg10
    · rw [if_neg hc7] at h
      by_cases hc11 : x6 = 2
      · rw [if_pos hc11] at h
        refine A_tableIn (tgt := 75) (off := 36) rfl (by rw [hc11]; decide) (by rw [hc11]; decide) (by rw [hc11]; rfl) (by decide) ?_
        refine A_iload_n 1 rfl rfl rfl ?_
        refine A_bipush (v := 15) rfl (by decide) ?_
        refine A_icmp_ne (tgt := 94) rfl (by decide) (fun hc12 => ?_) (fun hc12 => ?_)
        · rw [if_neg hc12] at h
          refine A_iconst (v := 0) rfl (by decide) ?_
          obtain ⟨rfl, rfl⟩ := leaf h
          exact A_zret rfl rfl (Or.inl rfl)
        · rw [if_pos hc12] at h
          refine A_pc (pc' := 81) rfl ?_
          refine A_aload_n 0 rfl rfl rfl ?_
          refine A_bipush (v := 13) rfl (by decide) ?_
          obtain ⟨q13, M14, hcq13, h⟩ := bnd_out h
          refine A_callV (ci := 2) (as := [vI 13]) (st' := []) (r1 := (some (vI q13), M14)) rfl ml_Reader_82 rfl (by decide) (by decide) (Or.inl rfl) rfl rfl (Nat.le_of_ble_eq_true rfl) (by decide) (c_Reader_begin hcq13) (Or.inl rfl) ?_
          refine A_pc (pc' := 87) rfl ?_
          refine A_stk (st' := [vI q13]) rfl ?_
          refine A_if_eq (tgt := 94) rfl (by decide) (fun hc15 => ?_) (fun hc15 => ?_)
          · rw [if_pos hc15] at h
            refine A_iconst (v := 0) rfl (by decide) ?_
            obtain ⟨rfl, rfl⟩ := leaf h
            exact A_zret rfl rfl (Or.inl rfl)
          · rw [if_neg hc15] at h
            refine A_pc (pc' := 90) rfl ?_
            refine A_iconst (v := 1) rfl (by decide) ?_
            refine A_goto (tgt := 95) rfl (by decide) ?_
            obtain ⟨rfl, rfl⟩ := leaf h
            exact A_zret rfl rfl (Or.inr rfl)
      · rw [if_neg hc11] at h
        by_cases hc16 : x6 = 3
        · rw [if_pos hc16] at h
          refine A_tableIn (tgt := 96) (off := 57) rfl (by rw [hc16]; decide) (by rw [hc16]; decide) (by rw [hc16]; rfl) (by decide) ?_
          refine A_iload_n 1 rfl rfl rfl ?_
          refine A_bipush (v := 14) rfl (by decide) ?_
          refine A_icmp_ne (tgt := 117) rfl (by decide) (fun hc17 => ?_) (fun hc17 => ?_)
          · rw [if_neg hc17] at h
            refine A_iconst (v := 0) rfl (by decide) ?_
            obtain ⟨rfl, rfl⟩ := leaf h
            exact A_zret rfl rfl (Or.inl rfl)
          · rw [if_pos hc17] at h
            refine A_pc (pc' := 102) rfl ?_
            refine A_aload_n 0 rfl rfl rfl ?_
            refine A_aload_n 0 rfl rfl rfl ?_
            refine A_getI rfl fl_Reader_85 rfl (by decide) (Or.inl rfl) ?_
            obtain ⟨q18, M19, hcq18, h⟩ := bnd_out h
            refine A_callV (ci := 2) (as := [vI (gI M 5 5)]) (st' := []) (r1 := (some (vI q18), M19)) rfl ml_Reader_88 rfl (by decide) (by decide) (Or.inl rfl) rfl rfl (Nat.le_of_ble_eq_true rfl) (by decide) (c_Reader_joinNow hcq18) (Or.inl rfl) ?_
            refine A_pc (pc' := 110) rfl ?_
            refine A_stk (st' := [vI q18]) rfl ?_
            refine A_if_eq (tgt := 117) rfl (by decide) (fun hc20 => ?_) (fun hc20 => ?_)
            · rw [if_pos hc20] at h
              refine A_iconst (v := 0) rfl (by decide) ?_
              obtain ⟨rfl, rfl⟩ := leaf h
              exact A_zret rfl rfl (Or.inl rfl)
            · rw [if_neg hc20] at h
              refine A_pc (pc' := 113) rfl ?_
              refine A_iconst (v := 1) rfl (by decide) ?_
              refine A_goto (tgt := 118) rfl (by decide) ?_
              obtain ⟨rfl, rfl⟩ := leaf h
              exact A_zret rfl rfl (Or.inr rfl)
        · rw [if_neg hc16] at h
          refine A_tableDef (tgt := 119) [0, 2, 3] rfl (by decide) (by decide) (fa_cons (ne_i hc7 (by decide)) (fa_cons (ne_i hc11 (by decide)) (fa_cons (ne_i hc16 (by decide)) fa_nil))) (by decide) ?_
          refine A_aload_n 0 rfl rfl rfl ?_
          refine A_iload_n 1 rfl rfl rfl ?_
          obtain ⟨q21, M22, hcq21, h⟩ := bnd_out h
          refine A_callV (ci := 2) (as := [vI l1]) (st' := []) (r1 := (some (vI q21), M22)) rfl ml_Reader_91 rfl (by decide) (by decide) (Or.inl rfl) rfl rfl (Nat.le_of_ble_eq_true rfl) (by decide) (c_Reader_takesBehindValue hcq21) (Or.inl rfl) ?_
          refine A_pc (pc' := 124) rfl ?_
          refine A_stk (st' := [vI q21]) rfl ?_
          obtain ⟨hg23, h⟩ := g2_out h
          obtain ⟨rfl, rfl⟩ := leaf h
          exact A_zret rfl rfl hg23
  · rw [if_neg hc5] at h
    refine A_pc (pc' := 33) rfl ?_
    refine A_iconst (v := 0) rfl (by decide) ?_
    obtain ⟨rfl, rfl⟩ := leaf h
    exact A_zret rfl rfl (Or.inl rfl)
def f_Reader_takes (a1 : Int32) (a2 : Int64) (M : ax_M) : Option (Int32 × ax_M) :=
  if a1 = 1 then (some (0, M)) else (bnd (f_Tok_isPart a1 M) (fun q2 M3 => if q2 = 0 then (f_Reader_takes_24 a1 a2 M3) else (kM (mI M3 5 6 ((gI M3 5 6) + 1)) (fun M24 => f_Reader_takes_24 a1 a2 M24))))
set_option maxHeartbeats 4000000 in
set_option maxRecDepth 100000 in
theorem c_Reader_takes {l : Launch} {g : ax_G} {a1 : Int32} {a2 : Int64} {M : ax_M} {r : Int32} {M' : ax_M} (h : f_Reader_takes a1 a2 M = some (r, M')) : Ctr l g true Y_Reader_takes 6 [vA 5, vI a1, vJ a2] M (some (vI r), M') := by
  refine Ctr.ofAW yok_Reader_takes (Nat.le_of_ble_eq_true rfl) (Or.inl rfl) ?_
  show AW l g true Y_Reader_takes 6 (some (vI r), M') 0 [(0, vA 5), (1, vI a1), (2, vJ a2)] [] M
  unfold f_Reader_takes at h
  refine A_iload_n 1 rfl rfl rfl ?_
  refine A_iconst (v := 1) rfl (by decide) ?_
  refine A_icmp_ne (tgt := 7) rfl (by decide) (fun hc1 => ?_) (fun hc1 => ?_)
  · rw [if_neg hc1] at h
    refine A_iload_n 1 rfl rfl rfl ?_
    obtain ⟨q2, M3, hcq2, h⟩ := bnd_out h
    refine A_callS (as := [vI a1]) (st' := []) (r1 := (some (vI q2), M3)) rfl ml_Reader_75 rfl rfl (Nat.le_of_ble_eq_true rfl) (by decide) (c_Tok_isPart hcq2) (Or.inl rfl) ?_
    refine A_pc (pc' := 11) rfl ?_
    refine A_stk (st' := [vI q2]) rfl ?_
    refine A_if_eq (tgt := 24) rfl (by decide) (fun hc4 => ?_) (fun hc4 => ?_)
    · rw [if_pos hc4] at h
      refine A_pc (pc' := 24) rfl ?_
      refine A_sub (Ls' := [(0, vA 5), (1, vI a1), (2, vJ a2)]) [0, 1, 2] rfl ?_
      exact o_Reader_takes_24  _ _ _ _ _ h
    · rw [if_neg hc4] at h
      refine A_pc (pc' := 14) rfl ?_
      refine A_aload_n 0 rfl rfl rfl ?_
      refine A_dup rfl rfl ?_
      refine A_getI rfl fl_Reader_34 rfl (by decide) (Or.inl rfl) ?_
      refine A_iconst (v := 1) rfl (by decide) ?_
      refine A_iadd rfl ?_
      refine A_pc (pc' := 21) rfl ?_
      refine A_putI rfl (Or.inl fl_Reader_34) rfl (by decide) (Or.inl rfl) rfl ?_
      obtain ⟨M24, hM24, h⟩ := kM_out h
      refine A_mem hM24 ?_
      refine A_pc (pc' := 24) rfl ?_
      refine A_sub (Ls' := [(0, vA 5), (1, vI a1), (2, vJ a2)]) [0, 1, 2] rfl ?_
      exact o_Reader_takes_24  _ _ _ _ _ h
  · rw [if_pos hc1] at h
    refine A_pc (pc' := 5) rfl ?_
    refine A_iconst (v := 0) rfl (by decide) ?_
    obtain ⟨rfl, rfl⟩ := leaf h
    exact A_zret rfl rfl (Or.inl rfl)
def tb_Reader_read : List (Nat × Instr × Nat) := [(0, .aload_n 2, 1), (1, .invokevirtual 18, 3), (4, .aload_n 0, 1), (5, .aload_n 2, 1), (6, .putfield 23, 3), (9, .aload_n 0, 1), (10, .iconst 0, 1), (11, .putfield 27, 3), (14, .aload_n 0, 1), (15, .iconst 0, 1), (16, .putfield 31, 3), (19, .aload_n 0, 1), (20, .iconst 0, 1), (21, .putfield 34, 3), (24, .aload_n 0, 1), (25, .iconst 0, 1), (26, .putfield 37, 3), (29, .aload_n 1, 1), (30, .invokevirtual 40, 3), (33, .iconst 0, 1), (34, .istore_n 3, 1), (35, .iload_n 3, 1), (36, .bipush 48, 2), (38, .if_icmp .gt 56, 3), (41, .aload_n 1, 1), (42, .invokevirtual 45, 3), (45, .aload_n 1, 1), (46, .getfield 48, 3), (49, .ifCond .ne 19, 3), (52, .aload_n 0, 1), (53, .invokevirtual 51, 3), (56, .ifCond .eq 7, 3), (59, .iconst (-1), 1), (60, .goto 7, 3), (63, .aload_n 1, 1), (64, .getfield 55, 3), (67, .ireturn, 1), (68, .aload_n 0, 1), (69, .aload_n 1, 1), (70, .getfield 48, 3), (73, .aload_n 1, 1), (74, .getfield 58, 3), (77, .invokevirtual 62, 3), (80, .ifCond .ne 8, 3), (83, .aload_n 1, 1), (84, .getfield 66, 3), (87, .ireturn, 1), (88, .iinc 3 1, 3), (91, .goto (-56), 3), (94, .aload_n 1, 1), (95, .getfield 55, 3), (98, .ireturn, 1)]
def Y_Reader_read : ax_Y := (⟨"MethodWarden$Reader", "read", "(LMethodWarden$Text;LMethodWarden$Expression;)I"⟩, prog_8_method_2_code, 4, some .int, tb_Reader_read)
theorem yok_Reader_read : yOK Y_Reader_read := ⟨by decide +kernel, by decide +kernel, inWG 461 (by decide +kernel) (by decide +kernel), inWG 98 (by decide +kernel) (by decide +kernel), by decide +kernel⟩
theorem fl_Reader_55 : fldOK "MethodWarden$Reader" 55 1 1 false := ⟨_, _, _, cls_Text, by decide, by decide, rfl, Or.inr ⟨"MethodWarden", inNW 129 (by decide +kernel) (by decide +kernel)⟩⟩
theorem fl_Reader_48 : fldOK "MethodWarden$Reader" 48 1 3 false := ⟨_, _, _, cls_Text, by decide, by decide, rfl, Or.inr ⟨"MethodWarden", inNW 131 (by decide +kernel) (by decide +kernel)⟩⟩
theorem fl_Reader_58 : fldOK "MethodWarden$Reader" 58 1 5 false := ⟨_, _, _, cls_Text, by decide, by decide, rfl, Or.inr ⟨"MethodWarden", inNW 135 (by decide +kernel) (by decide +kernel)⟩⟩
theorem fl_Reader_66 : fldOK "MethodWarden$Reader" 66 1 4 false := ⟨_, _, _, cls_Text, by decide, by decide, rfl, Or.inr ⟨"MethodWarden", inNW 133 (by decide +kernel) (by decide +kernel)⟩⟩
theorem ml_Reader_18 : mlV "MethodWarden$Reader" 18 Y_Expr_clear 0 := ⟨⟨yok_Expr_clear, by decide +kernel, by decide⟩, Or.inl (inWG 462 (by decide +kernel) (by decide +kernel)), inWG 463 (by decide +kernel) (by decide +kernel), inWG 464 (by decide +kernel) (by decide +kernel)⟩
theorem ml_Reader_40 : mlV "MethodWarden$Reader" 40 Y_Text_rewind 0 := ⟨⟨yok_Text_rewind, by decide +kernel, by decide⟩, Or.inl (inWG 466 (by decide +kernel) (by decide +kernel)), inWG 467 (by decide +kernel) (by decide +kernel), inWG 468 (by decide +kernel) (by decide +kernel)⟩
theorem ml_Reader_45 : mlV "MethodWarden$Reader" 45 Y_Text_cutNext 0 := ⟨⟨yok_Text_cutNext, by decide +kernel, by decide⟩, Or.inl (inWG 470 (by decide +kernel) (by decide +kernel)), inWG 471 (by decide +kernel) (by decide +kernel), inWG 472 (by decide +kernel) (by decide +kernel)⟩
theorem ml_Reader_62 : mlV "MethodWarden$Reader" 62 Y_Reader_takes 2 := ⟨⟨yok_Reader_takes, by decide +kernel, by decide⟩, Or.inl (inWG 615 (by decide +kernel) (by decide +kernel)), inWG 617 (by decide +kernel) (by decide +kernel), inWG 15 (by decide +kernel) (by decide +kernel)⟩
theorem ml_Reader_51 : mlV "MethodWarden$Reader" 51 Y_Reader_isFinished 0 := ⟨⟨yok_Reader_isFinished, by decide +kernel, by decide⟩, Or.inl (inWG 585 (by decide +kernel) (by decide +kernel)), inWG 587 (by decide +kernel) (by decide +kernel), inWG 10 (by decide +kernel) (by decide +kernel)⟩
def f_Reader_read_35_b (K35 : Int32 → ax_M → Option (Int32 × ax_M)) (l3 : Int32) (M : ax_M) : Option (Int32 × ax_M) :=
  if 48 < l3 then (some (gI M 3 1, M)) else (bnd (f_Text_cutNext  M) (fun q12 M13 => if (gI M13 3 3) = 0 then (bnd (f_Reader_isFinished  M13) (fun q19 M20 => if q19 = 0 then (some (gI M20 3 1, M20)) else (some ((-1), M20)))) else (bnd (f_Reader_takes (gI M13 3 3) (gJ M13 3 5) M13) (fun q15 M16 => if q15 = 0 then (some (gI M16 3 4, M16)) else (kM (l3 + 1) (fun x18 => K35 x18 M16))))))
def f_Reader_read_35 : Nat → Int32 → ax_M → Option (Int32 × ax_M)
  | 0, _, _ => none
  | n + 1, l3, M => f_Reader_read_35_b  (f_Reader_read_35 n) l3 M
set_option maxHeartbeats 4000000 in
set_option maxRecDepth 100000 in
theorem o_Reader_read_35_b {l : Launch} {g : ax_G} (K35 : Int32 → ax_M → Option (Int32 × ax_M)) (hK35 : ∀ (l3 : Int32) (M : ax_M) (r : Int32) (M' : ax_M), K35 l3 M = some (r, M') → AW l g true Y_Reader_read 10 (some (vI r), M') 35 [(0, vA 5), (1, vA 3), (3, vI l3)] [] M) (l3 : Int32) (M : ax_M) (r : Int32) (M' : ax_M) (h : f_Reader_read_35_b  K35 l3 M = some (r, M')) : AW l g true Y_Reader_read 10 (some (vI r), M') 35 [(0, vA 5), (1, vA 3), (3, vI l3)] [] M := by
  unfold f_Reader_read_35_b at h
  refine A_iload_n 2 rfl rfl rfl ?_
  refine A_bipush (v := 48) rfl (by decide) ?_
  refine A_icmp_gt (tgt := 94) rfl (by decide) (fun hc11 => ?_) (fun hc11 => ?_)
  · rw [if_pos hc11] at h
    refine A_aload_n 1 rfl rfl rfl ?_
    refine A_getI rfl fl_Reader_55 rfl (by decide) (Or.inl rfl) ?_
    obtain ⟨rfl, rfl⟩ := leaf h
    exact A_iret rfl rfl
  · rw [if_neg hc11] at h
    refine A_pc (pc' := 41) rfl ?_
    refine A_aload_n 1 rfl rfl rfl ?_
    obtain ⟨q12, M13, hcq12, h⟩ := bnd_out h
    refine A_callV (ci := 1) (as := []) (st' := []) (r1 := (none, M13)) rfl ml_Reader_45 rfl (by decide) (by decide) (Or.inl rfl) rfl rfl (Nat.le_of_ble_eq_true rfl) (by decide) (c_Text_cutNext hcq12) (Or.inl rfl) ?_
    refine A_pc (pc' := 45) rfl ?_
    refine A_stk (st' := []) rfl ?_
    refine A_aload_n 1 rfl rfl rfl ?_
    refine A_getI rfl fl_Reader_48 rfl (by decide) (Or.inl rfl) ?_
    refine A_if_ne (tgt := 68) rfl (by decide) (fun hc14 => ?_) (fun hc14 => ?_)
    · rw [if_neg hc14] at h
      refine A_aload_n 0 rfl rfl rfl ?_
      refine A_aload_n 1 rfl rfl rfl ?_
      refine A_getI rfl fl_Reader_48 rfl (by decide) (Or.inl rfl) ?_
      refine A_aload_n 1 rfl rfl rfl ?_
      refine A_getJ rfl fl_Reader_58 rfl (by decide) (Or.inl rfl) ?_
      refine A_pc (pc' := 77) rfl ?_
      obtain ⟨q15, M16, hcq15, h⟩ := bnd_out h
      refine A_callV (ci := 2) (as := [vI (gI M13 3 3), vJ (gJ M13 3 5)]) (st' := []) (r1 := (some (vI q15), M16)) rfl ml_Reader_62 rfl (by decide) (by decide) (Or.inl rfl) rfl rfl (Nat.le_of_ble_eq_true rfl) (by decide) (c_Reader_takes hcq15) (Or.inl rfl) ?_
      refine A_pc (pc' := 80) rfl ?_
      refine A_stk (st' := [vI q15]) rfl ?_
      refine A_if_ne (tgt := 88) rfl (by decide) (fun hc17 => ?_) (fun hc17 => ?_)
      · rw [if_neg hc17] at h
        obtain ⟨x18, hx18, h⟩ := kM_out h
        refine A_iinc 2 (v := x18) (Ls' := [(3, vI x18), (0, vA 5), (1, vA 3)]) rfl rfl ((iiN (k := 1) (by decide) _).trans hx18) (by decide) rfl ?_
        refine A_goto (tgt := 35) rfl (by decide) ?_
        refine A_pc (pc' := 35) rfl ?_
        refine A_sub (Ls' := [(0, vA 5), (1, vA 3), (3, vI x18)]) [1, 2, 0] rfl ?_
        exact hK35 _ _ _ _ h
      · rw [if_pos hc17] at h
        refine A_pc (pc' := 83) rfl ?_
        refine A_aload_n 1 rfl rfl rfl ?_
        refine A_getI rfl fl_Reader_66 rfl (by decide) (Or.inl rfl) ?_
        obtain ⟨rfl, rfl⟩ := leaf h
        exact A_iret rfl rfl
    · rw [if_pos hc14] at h
      refine A_pc (pc' := 52) rfl ?_
      refine A_aload_n 0 rfl rfl rfl ?_
      obtain ⟨q19, M20, hcq19, h⟩ := bnd_out h
      refine A_callV (ci := 2) (as := []) (st' := []) (r1 := (some (vI q19), M20)) rfl ml_Reader_51 rfl (by decide) (by decide) (Or.inl rfl) rfl rfl (Nat.le_of_ble_eq_true rfl) (by decide) (c_Reader_isFinished hcq19) (Or.inl rfl) ?_
      refine A_pc (pc' := 56) rfl ?_
      refine A_stk (st' := [vI q19]) rfl ?_
      refine A_if_eq (tgt := 63) rfl (by decide) (fun hc21 => ?_) (fun hc21 => ?_)
      · rw [if_pos hc21] at h
        refine A_aload_n 1 rfl rfl rfl ?_
        refine A_getI rfl fl_Reader_55 rfl (by decide) (Or.inl rfl) ?_
        obtain ⟨rfl, rfl⟩ := leaf h
        exact A_iret rfl rfl
      · rw [if_neg hc21] at h
        refine A_pc (pc' := 59) rfl ?_
        refine A_iconst (v := (-1)) rfl (by decide) ?_
        refine A_goto (tgt := 67) rfl (by decide) ?_
        obtain ⟨rfl, rfl⟩ := leaf h
        exact A_iret rfl rfl
theorem o_Reader_read_35 {l : Launch} {g : ax_G} : ∀ (n : Nat) (l3 : Int32) (M : ax_M) (r : Int32) (M' : ax_M), f_Reader_read_35  n l3 M = some (r, M') → AW l g true Y_Reader_read 10 (some (vI r), M') 35 [(0, vA 5), (1, vA 3), (3, vI l3)] [] M := by
  intro n
  induction n with
  | zero =>
    intro l3 M r M' h
    cases h
  | succ n ih =>
    intro l3 M r M' h
    exact o_Reader_read_35_b  _ ih _ _ _ _ h
def f_Reader_read (a2 : Nat) (M : ax_M) : Option (Int32 × ax_M) :=
  gk a2 3 (bnd (f_Expr_clear a2 M) (fun q2 M3 => kM (mA M3 5 7 a2) (fun M4 => kM (mI M4 5 1 0) (fun M5 => kM (mI M5 5 3 0) (fun M6 => kM (mI M6 5 6 0) (fun M7 => kM (mI M7 5 4 0) (fun M8 => bnd (f_Text_rewind  M8) (fun q9 M10 => f_Reader_read_35 64 0 M10))))))))
set_option maxHeartbeats 4000000 in
set_option maxRecDepth 100000 in
theorem c_Reader_read {l : Launch} {g : ax_G} {a2 : Nat} {M : ax_M} {r : Int32} {M' : ax_M} (h : f_Reader_read a2 M = some (r, M')) : Ctr l g true Y_Reader_read 10 [vA 5, vA 3, vA a2] M (some (vI r), M') := by
  refine Ctr.ofAW yok_Reader_read (Nat.le_of_ble_eq_true rfl) (Or.inl rfl) ?_
  show AW l g true Y_Reader_read 10 (some (vI r), M') 0 [(0, vA 5), (1, vA 3), (2, vA a2)] [] M
  unfold f_Reader_read at h
  refine A_aload_n 2 rfl rfl rfl ?_
  obtain ⟨hg1, h⟩ := gk_out h
  obtain ⟨q2, M3, hcq2, h⟩ := bnd_out h
  refine A_callV (ci := 3) (as := []) (st' := []) (r1 := (none, M3)) rfl ml_Reader_18 rfl (by decide) hg1 (Or.inl rfl) rfl rfl (Nat.le_of_ble_eq_true rfl) (by decide) (c_Expr_clear hcq2) (Or.inl rfl) ?_
  refine A_pc (pc' := 4) rfl ?_
  refine A_stk (st' := []) rfl ?_
  refine A_aload_n 0 rfl rfl rfl ?_
  refine A_aload_n 2 rfl rfl rfl ?_
  refine A_putA rfl (Or.inl fl_Reader_23) rfl (by decide) (Or.inl rfl) rfl (Or.inr rfl) ?_
  obtain ⟨M4, hM4, h⟩ := kM_out h
  refine A_mem hM4 ?_
  refine A_pc (pc' := 9) rfl ?_
  refine A_aload_n 0 rfl rfl rfl ?_
  refine A_iconst (v := 0) rfl (by decide) ?_
  refine A_putI rfl (Or.inl fl_Reader_27) rfl (by decide) (Or.inl rfl) rfl ?_
  obtain ⟨M5, hM5, h⟩ := kM_out h
  refine A_mem hM5 ?_
  refine A_aload_n 0 rfl rfl rfl ?_
  refine A_iconst (v := 0) rfl (by decide) ?_
  refine A_putI rfl (Or.inl fl_Reader_31) rfl (by decide) (Or.inl rfl) rfl ?_
  obtain ⟨M6, hM6, h⟩ := kM_out h
  refine A_mem hM6 ?_
  refine A_pc (pc' := 19) rfl ?_
  refine A_aload_n 0 rfl rfl rfl ?_
  refine A_iconst (v := 0) rfl (by decide) ?_
  refine A_putI rfl (Or.inl fl_Reader_34) rfl (by decide) (Or.inl rfl) rfl ?_
  obtain ⟨M7, hM7, h⟩ := kM_out h
  refine A_mem hM7 ?_
  refine A_aload_n 0 rfl rfl rfl ?_
  refine A_iconst (v := 0) rfl (by decide) ?_
  refine A_putI rfl (Or.inl fl_Reader_37) rfl (by decide) (Or.inl rfl) rfl ?_
  obtain ⟨M8, hM8, h⟩ := kM_out h
  refine A_mem hM8 ?_
  refine A_pc (pc' := 29) rfl ?_
  refine A_aload_n 1 rfl rfl rfl ?_
  obtain ⟨q9, M10, hcq9, h⟩ := bnd_out h
  refine A_callV (ci := 1) (as := []) (st' := []) (r1 := (none, M10)) rfl ml_Reader_40 rfl (by decide) (by decide) (Or.inl rfl) rfl rfl (Nat.le_of_ble_eq_true rfl) (by decide) (c_Text_rewind hcq9) (Or.inl rfl) ?_
  refine A_pc (pc' := 33) rfl ?_
  refine A_stk (st' := []) rfl ?_
  refine A_iconst (v := 0) rfl (by decide) ?_
  refine A_istore_n (Ls' := [(3, vI 0), (0, vA 5), (1, vA 3), (2, vA a2)]) rfl rfl (by decide) rfl ?_
  refine A_pc (pc' := 35) rfl ?_
  refine A_sub (Ls' := [(0, vA 5), (1, vA 3), (3, vI 0)]) [1, 2, 0] rfl ?_
  exact o_Reader_read_35  _ _ _ _ _ h
