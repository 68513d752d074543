/-! MethodWarden. Printed by gen_methods.py. -/
def tb_MW_isSlot : List (Nat × Instr × Nat) := [(0, .iload_n 0, 1), (1, .ifCond .lt 13, 3), (4, .iload_n 0, 1), (5, .bipush 8, 2), (7, .if_icmp .ge 7, 3), (10, .iconst 1, 1), (11, .goto 4, 3), (14, .iconst 0, 1), (15, .ireturn, 1)]
def Y_MW_isSlot : ax_Y := (⟨"MethodWarden", "isSlot", "(I)Z"⟩, prog_1_method_19_code, 1, some .boolean, tb_MW_isSlot)
theorem yok_MW_isSlot : yOK Y_MW_isSlot := ⟨by decide +kernel, by decide +kernel, inWG 457 (by decide +kernel) (by decide +kernel), inWG 96 (by decide +kernel) (by decide +kernel), by decide +kernel⟩
def f_MW_isSlot (a0 : Int32) (M : ax_M) : Option (Int32 × ax_M) :=
  if a0 < 0 then (some (0, M)) else (if 8 ≤ a0 then (some (0, M)) else (some (1, M)))
set_option maxHeartbeats 4000000 in
set_option maxRecDepth 100000 in
theorem c_MW_isSlot {l : Launch} {g : ax_G} {a0 : Int32} {M : ax_M} {r : Int32} {M' : ax_M} (h : f_MW_isSlot a0 M = some (r, M')) : Ctr l g true Y_MW_isSlot 1 [vI a0] M (some (vI r), M') := by
  refine Ctr.ofAW yok_MW_isSlot (Nat.le_of_ble_eq_true rfl) (Or.inl rfl) ?_
  show AW l g true Y_MW_isSlot 1 (some (vI r), M') 0 [(0, vI a0)] [] M
  unfold f_MW_isSlot at h
  refine A_iload_n 0 rfl rfl rfl ?_
  refine A_if_lt (tgt := 14) rfl (by decide) (fun hc1 => ?_) (fun hc1 => ?_)
  · rw [if_pos hc1] at h
    refine A_iconst (v := 0) rfl (by decide) ?_
    obtain ⟨rfl, rfl⟩ := leaf h
    exact A_zret rfl rfl (Or.inl rfl)
  · rw [if_neg hc1] at h
    refine A_pc (pc' := 4) rfl ?_
    refine A_iload_n 0 rfl rfl rfl ?_
    refine A_bipush (v := 8) rfl (by decide) ?_
    refine A_icmp_ge (tgt := 14) rfl (by decide) (fun hc2 => ?_) (fun hc2 => ?_)
    · rw [if_pos hc2] at h
      refine A_iconst (v := 0) rfl (by decide) ?_
      obtain ⟨rfl, rfl⟩ := leaf h
      exact A_zret rfl rfl (Or.inl rfl)
    · rw [if_neg hc2] at h
      refine A_pc (pc' := 10) rfl ?_
      refine A_iconst (v := 1) rfl (by decide) ?_
      refine A_goto (tgt := 15) rfl (by decide) ?_
      obtain ⟨rfl, rfl⟩ := leaf h
      exact A_zret rfl rfl (Or.inr rfl)
def tb_MW_isMethod : List (Nat × Instr × Nat) := [(0, .iload_n 0, 1), (1, .ifCond .lt 13, 3), (4, .iload_n 0, 1), (5, .bipush 8, 2), (7, .if_icmp .ge 7, 3), (10, .iconst 1, 1), (11, .goto 4, 3), (14, .iconst 0, 1), (15, .ireturn, 1)]
def Y_MW_isMethod : ax_Y := (⟨"MethodWarden", "isMethod", "(I)Z"⟩, prog_1_method_20_code, 1, some .boolean, tb_MW_isMethod)
theorem yok_MW_isMethod : yOK Y_MW_isMethod := ⟨by decide +kernel, by decide +kernel, inWG 775 (by decide +kernel) (by decide +kernel), inWG 96 (by decide +kernel) (by decide +kernel), by decide +kernel⟩
def f_MW_isMethod (a0 : Int32) (M : ax_M) : Option (Int32 × ax_M) :=
  if a0 < 0 then (some (0, M)) else (if 8 ≤ a0 then (some (0, M)) else (some (1, M)))
set_option maxHeartbeats 4000000 in
set_option maxRecDepth 100000 in
theorem c_MW_isMethod {l : Launch} {g : ax_G} {a0 : Int32} {M : ax_M} {r : Int32} {M' : ax_M} (h : f_MW_isMethod a0 M = some (r, M')) : Ctr l g true Y_MW_isMethod 1 [vI a0] M (some (vI r), M') := by
  refine Ctr.ofAW yok_MW_isMethod (Nat.le_of_ble_eq_true rfl) (Or.inl rfl) ?_
  show AW l g true Y_MW_isMethod 1 (some (vI r), M') 0 [(0, vI a0)] [] M
  unfold f_MW_isMethod at h
  refine A_iload_n 0 rfl rfl rfl ?_
  refine A_if_lt (tgt := 14) rfl (by decide) (fun hc1 => ?_) (fun hc1 => ?_)
  · rw [if_pos hc1] at h
    refine A_iconst (v := 0) rfl (by decide) ?_
    obtain ⟨rfl, rfl⟩ := leaf h
    exact A_zret rfl rfl (Or.inl rfl)
  · rw [if_neg hc1] at h
    refine A_pc (pc' := 4) rfl ?_
    refine A_iload_n 0 rfl rfl rfl ?_
    refine A_bipush (v := 8) rfl (by decide) ?_
    refine A_icmp_ge (tgt := 14) rfl (by decide) (fun hc2 => ?_) (fun hc2 => ?_)
    · rw [if_pos hc2] at h
      refine A_iconst (v := 0) rfl (by decide) ?_
      obtain ⟨rfl, rfl⟩ := leaf h
      exact A_zret rfl rfl (Or.inl rfl)
    · rw [if_neg hc2] at h
      refine A_pc (pc' := 10) rfl ?_
      refine A_iconst (v := 1) rfl (by decide) ?_
      refine A_goto (tgt := 15) rfl (by decide) ?_
      obtain ⟨rfl, rfl⟩ := leaf h
      exact A_zret rfl rfl (Or.inr rfl)
def tb_MW_isRole : List (Nat × Instr × Nat) := [(0, .iload_n 0, 1), (1, .ifCond .lt 13, 3), (4, .iload_n 0, 1), (5, .bipush 16, 2), (7, .if_icmp .ge 7, 3), (10, .iconst 1, 1), (11, .goto 4, 3), (14, .iconst 0, 1), (15, .ireturn, 1)]
def Y_MW_isRole : ax_Y := (⟨"MethodWarden", "isRole", "(I)Z"⟩, prog_1_method_21_code, 1, some .boolean, tb_MW_isRole)
theorem yok_MW_isRole : yOK Y_MW_isRole := ⟨by decide +kernel, by decide +kernel, inWG 688 (by decide +kernel) (by decide +kernel), inWG 96 (by decide +kernel) (by decide +kernel), by decide +kernel⟩
def f_MW_isRole (a0 : Int32) (M : ax_M) : Option (Int32 × ax_M) :=
  if a0 < 0 then (some (0, M)) else (if 16 ≤ a0 then (some (0, M)) else (some (1, M)))
set_option maxHeartbeats 4000000 in
set_option maxRecDepth 100000 in
theorem c_MW_isRole {l : Launch} {g : ax_G} {a0 : Int32} {M : ax_M} {r : Int32} {M' : ax_M} (h : f_MW_isRole a0 M = some (r, M')) : Ctr l g true Y_MW_isRole 1 [vI a0] M (some (vI r), M') := by
  refine Ctr.ofAW yok_MW_isRole (Nat.le_of_ble_eq_true rfl) (Or.inl rfl) ?_
  show AW l g true Y_MW_isRole 1 (some (vI r), M') 0 [(0, vI a0)] [] M
  unfold f_MW_isRole at h
  refine A_iload_n 0 rfl rfl rfl ?_
  refine A_if_lt (tgt := 14) rfl (by decide) (fun hc1 => ?_) (fun hc1 => ?_)
  · rw [if_pos hc1] at h
    refine A_iconst (v := 0) rfl (by decide) ?_
    obtain ⟨rfl, rfl⟩ := leaf h
    exact A_zret rfl rfl (Or.inl rfl)
  · rw [if_neg hc1] at h
    refine A_pc (pc' := 4) rfl ?_
    refine A_iload_n 0 rfl rfl rfl ?_
    refine A_bipush (v := 16) rfl (by decide) ?_
    refine A_icmp_ge (tgt := 14) rfl (by decide) (fun hc2 => ?_) (fun hc2 => ?_)
    · rw [if_pos hc2] at h
      refine A_iconst (v := 0) rfl (by decide) ?_
      obtain ⟨rfl, rfl⟩ := leaf h
      exact A_zret rfl rfl (Or.inl rfl)
    · rw [if_neg hc2] at h
      refine A_pc (pc' := 10) rfl ?_
      refine A_iconst (v := 1) rfl (by decide) ?_
      refine A_goto (tgt := 15) rfl (by decide) ?_
      obtain ⟨rfl, rfl⟩ := leaf h
      exact A_zret rfl rfl (Or.inr rfl)
def tb_MW_isRoleSet : List (Nat × Instr × Nat) := [(0, .iload_n 0, 1), (1, .ifCond .lt 13, 3), (4, .iload_n 0, 1), (5, .ldc 200, 2), (7, .if_icmp .gt 7, 3), (10, .iconst 1, 1), (11, .goto 4, 3), (14, .iconst 0, 1), (15, .ireturn, 1)]
def Y_MW_isRoleSet : ax_Y := (⟨"MethodWarden", "isRoleSet", "(I)Z"⟩, prog_1_method_22_code, 1, some .boolean, tb_MW_isRoleSet)
theorem yok_MW_isRoleSet : yOK Y_MW_isRoleSet := ⟨by decide +kernel, by decide +kernel, inWG 713 (by decide +kernel) (by decide +kernel), inWG 96 (by decide +kernel) (by decide +kernel), by decide +kernel⟩
def f_MW_isRoleSet (a0 : Int32) (M : ax_M) : Option (Int32 × ax_M) :=
  if a0 < 0 then (some (0, M)) else (if 65535 < a0 then (some (0, M)) else (some (1, M)))
set_option maxHeartbeats 4000000 in
set_option maxRecDepth 100000 in
theorem c_MW_isRoleSet {l : Launch} {g : ax_G} {a0 : Int32} {M : ax_M} {r : Int32} {M' : ax_M} (h : f_MW_isRoleSet a0 M = some (r, M')) : Ctr l g true Y_MW_isRoleSet 1 [vI a0] M (some (vI r), M') := by
  refine Ctr.ofAW yok_MW_isRoleSet (Nat.le_of_ble_eq_true rfl) (Or.inl rfl) ?_
  show AW l g true Y_MW_isRoleSet 1 (some (vI r), M') 0 [(0, vI a0)] [] M
  unfold f_MW_isRoleSet at h
  refine A_iload_n 0 rfl rfl rfl ?_
  refine A_if_lt (tgt := 14) rfl (by decide) (fun hc1 => ?_) (fun hc1 => ?_)
  · rw [if_pos hc1] at h
    refine A_iconst (v := 0) rfl (by decide) ?_
    obtain ⟨rfl, rfl⟩ := leaf h
    exact A_zret rfl rfl (Or.inl rfl)
  · rw [if_neg hc1] at h
    refine A_pc (pc' := 4) rfl ?_
    refine A_iload_n 0 rfl rfl rfl ?_
    refine A_ldc (v := 65535) rfl (inWG 714 (by decide +kernel) (by decide +kernel)) ?_
    refine A_icmp_gt (tgt := 14) rfl (by decide) (fun hc2 => ?_) (fun hc2 => ?_)
    · rw [if_pos hc2] at h
      refine A_iconst (v := 0) rfl (by decide) ?_
      obtain ⟨rfl, rfl⟩ := leaf h
      exact A_zret rfl rfl (Or.inl rfl)
    · rw [if_neg hc2] at h
      refine A_pc (pc' := 10) rfl ?_
      refine A_iconst (v := 1) rfl (by decide) ?_
      refine A_goto (tgt := 15) rfl (by decide) ?_
      obtain ⟨rfl, rfl⟩ := leaf h
      exact A_zret rfl rfl (Or.inr rfl)
def tb_MW_isUser : List (Nat × Instr × Nat) := [(0, .iload_n 0, 1), (1, .ifCond .lt 14, 3), (4, .iload_n 0, 1), (5, .sipush 999, 3), (8, .if_icmp .gt 7, 3), (11, .iconst 1, 1), (12, .goto 4, 3), (15, .iconst 0, 1), (16, .ireturn, 1)]
def Y_MW_isUser : ax_Y := (⟨"MethodWarden", "isUser", "(I)Z"⟩, prog_1_method_23_code, 1, some .boolean, tb_MW_isUser)
theorem yok_MW_isUser : yOK Y_MW_isUser := ⟨by decide +kernel, by decide +kernel, inWG 710 (by decide +kernel) (by decide +kernel), inWG 96 (by decide +kernel) (by decide +kernel), by decide +kernel⟩
def f_MW_isUser (a0 : Int32) (M : ax_M) : Option (Int32 × ax_M) :=
  if a0 < 0 then (some (0, M)) else (if 999 < a0 then (some (0, M)) else (some (1, M)))
set_option maxHeartbeats 4000000 in
set_option maxRecDepth 100000 in
theorem c_MW_isUser {l : Launch} {g : ax_G} {a0 : Int32} {M : ax_M} {r : Int32} {M' : ax_M} (h : f_MW_isUser a0 M = some (r, M')) : Ctr l g true Y_MW_isUser 1 [vI a0] M (some (vI r), M') := by
  refine Ctr.ofAW yok_MW_isUser (Nat.le_of_ble_eq_true rfl) (Or.inl rfl) ?_
  show AW l g true Y_MW_isUser 1 (some (vI r), M') 0 [(0, vI a0)] [] M
  unfold f_MW_isUser at h
  refine A_iload_n 0 rfl rfl rfl ?_
  refine A_if_lt (tgt := 15) rfl (by decide) (fun hc1 => ?_) (fun hc1 => ?_)
  · rw [if_pos hc1] at h
    refine A_iconst (v := 0) rfl (by decide) ?_
    obtain ⟨rfl, rfl⟩ := leaf h
    exact A_zret rfl rfl (Or.inl rfl)
  · rw [if_neg hc1] at h
    refine A_pc (pc' := 4) rfl ?_
    refine A_iload_n 0 rfl rfl rfl ?_
    refine A_sipush (v := 999) rfl (by decide) ?_
    refine A_icmp_gt (tgt := 15) rfl (by decide) (fun hc2 => ?_) (fun hc2 => ?_)
    · rw [if_pos hc2] at h
      refine A_iconst (v := 0) rfl (by decide) ?_
      obtain ⟨rfl, rfl⟩ := leaf h
      exact A_zret rfl rfl (Or.inl rfl)
    · rw [if_neg hc2] at h
      refine A_pc (pc' := 11) rfl ?_
      refine A_iconst (v := 1) rfl (by decide) ?_
      refine A_goto (tgt := 16) rfl (by decide) ?_
      obtain ⟨rfl, rfl⟩ := leaf h
      exact A_zret rfl rfl (Or.inr rfl)
def tb_MW_hasExpression : List (Nat × Instr × Nat) := [(0, .iload_n 1, 1), (1, .invokestatic 70, 3), (4, .ifCond .eq 19, 3), (7, .aload_n 0, 1), (8, .getfield 25, 3), (11, .iload_n 1, 1), (12, .aaload, 1), (13, .invokevirtual 201, 3), (16, .ifCond .eq 7, 3), (19, .iconst 1, 1), (20, .goto 4, 3), (23, .iconst 0, 1), (24, .ireturn, 1)]
def Y_MW_hasExpression : ax_Y := (⟨"MethodWarden", "hasExpression", "(I)Z"⟩, prog_1_method_24_code, 2, some .boolean, tb_MW_hasExpression)
theorem yok_MW_hasExpression : yOK Y_MW_hasExpression := ⟨by decide +kernel, by decide +kernel, inWG 756 (by decide +kernel) (by decide +kernel), inWG 96 (by decide +kernel) (by decide +kernel), by decide +kernel⟩
theorem fl_MW_25 : fldOK "MethodWarden" 25 0 2 true := ⟨_, _, _, cls_MW, by decide, by decide, rfl, Or.inl (inWG 417 (by decide +kernel) (by decide +kernel))⟩
theorem ml_MW_70 : mlS "MethodWarden" 70 Y_MW_isSlot 1 := ⟨⟨yok_MW_isSlot, by decide +kernel, by decide⟩, Or.inl (inWG 455 (by decide +kernel) (by decide +kernel)), inWG 456 (by decide +kernel) (by decide +kernel)⟩
theorem ml_MW_201 : mlV "MethodWarden" 201 Y_Expr_isThere 0 := ⟨⟨yok_Expr_isThere, by decide +kernel, by decide⟩, Or.inl (inWG 757 (by decide +kernel) (by decide +kernel)), inWG 758 (by decide +kernel) (by decide +kernel), inWG 759 (by decide +kernel) (by decide +kernel)⟩
def f_MW_hasExpression (a1 : Int32) (M : ax_M) : Option (Int32 × ax_M) :=
  bnd (f_MW_isSlot a1 M) (fun q1 M2 => if q1 = 0 then (some (0, M2)) else (gi a1 8 (kM (gA M2 8 a1.toNatClampNeg) (fun r5 => gk r5 3 (bnd (f_Expr_isThere r5 M2) (fun q7 M8 => if q7 = 0 then (some (0, M8)) else (some (1, M8))))))))
set_option maxHeartbeats 4000000 in
set_option maxRecDepth 100000 in
theorem c_MW_hasExpression {l : Launch} {g : ax_G} {a1 : Int32} {M : ax_M} {r : Int32} {M' : ax_M} (h : f_MW_hasExpression a1 M = some (r, M')) : Ctr l g true Y_MW_hasExpression 2 [vA 2, vI a1] M (some (vI r), M') := by
  refine Ctr.ofAW yok_MW_hasExpression (Nat.le_of_ble_eq_true rfl) (Or.inl rfl) ?_
  show AW l g true Y_MW_hasExpression 2 (some (vI r), M') 0 [(0, vA 2), (1, vI a1)] [] M
  unfold f_MW_hasExpression at h
  refine A_iload_n 1 rfl rfl rfl ?_
  obtain ⟨q1, M2, hcq1, h⟩ := bnd_out h
  refine A_callS (as := [vI a1]) (st' := []) (r1 := (some (vI q1), M2)) rfl ml_MW_70 rfl rfl (Nat.le_of_ble_eq_true rfl) (by decide) (c_MW_isSlot hcq1) (Or.inl rfl) ?_
  refine A_pc (pc' := 4) rfl ?_
  refine A_stk (st' := [vI q1]) rfl ?_
  refine A_if_eq (tgt := 23) rfl (by decide) (fun hc3 => ?_) (fun hc3 => ?_)
  · rw [if_pos hc3] at h
    refine A_iconst (v := 0) rfl (by decide) ?_
    obtain ⟨rfl, rfl⟩ := leaf h
    exact A_zret rfl rfl (Or.inl rfl)
  · rw [if_neg hc3] at h
    refine A_pc (pc' := 7) rfl ?_
    refine A_aload_n 0 rfl rfl rfl ?_
    refine A_getL (r := 8) rfl fl_MW_25 rfl (by decide) rfl rfl ?_
    refine A_iload_n 1 rfl rfl rfl ?_
    obtain ⟨hg4, h⟩ := gi_out h
    refine A_aald (t := 4) (C := "MethodWarden$Expression") (n := 8) rfl (by decide) ⟨by decide, by decide, rfl⟩ (by decide) (Or.inl rfl) hg4 ?_
    obtain ⟨r5, hr5, h⟩ := kM_out h
    refine A_nA hr5 ?_
    obtain ⟨hg6, h⟩ := gk_out h
    obtain ⟨q7, M8, hcq7, h⟩ := bnd_out h
    refine A_callV (ci := 3) (as := []) (st' := []) (r1 := (some (vI q7), M8)) rfl ml_MW_201 rfl (by decide) hg6 (Or.inl rfl) rfl rfl (Nat.le_of_ble_eq_true rfl) (by decide) (c_Expr_isThere hcq7) (Or.inl rfl) ?_
    refine A_pc (pc' := 16) rfl ?_
    refine A_stk (st' := [vI q7]) rfl ?_
    refine A_pc (pc' := 16) rfl ?_
    refine A_if_eq (tgt := 23) rfl (by decide) (fun hc9 => ?_) (fun hc9 => ?_)
    · rw [if_pos hc9] at h
      refine A_iconst (v := 0) rfl (by decide) ?_
      obtain ⟨rfl, rfl⟩ := leaf h
      exact A_zret rfl rfl (Or.inl rfl)
    · rw [if_neg hc9] at h
      refine A_pc (pc' := 19) rfl ?_
      refine A_iconst (v := 1) rfl (by decide) ?_
      refine A_goto (tgt := 24) rfl (by decide) ?_
      obtain ⟨rfl, rfl⟩ := leaf h
      exact A_zret rfl rfl (Or.inr rfl)
def tb_MW_isRule : List (Nat × Instr × Nat) := [(0, .iload_n 1, 1), (1, .iconst (-1), 1), (2, .if_icmp .eq 11, 3), (5, .aload_n 0, 1), (6, .iload_n 1, 1), (7, .invokevirtual 172, 3), (10, .ifCond .eq 7, 3), (13, .iconst 1, 1), (14, .goto 4, 3), (17, .iconst 0, 1), (18, .ireturn, 1)]
def Y_MW_isRule : ax_Y := (⟨"MethodWarden", "isRule", "(I)Z"⟩, prog_1_method_25_code, 2, some .boolean, tb_MW_isRule)
theorem yok_MW_isRule : yOK Y_MW_isRule := ⟨by decide +kernel, by decide +kernel, inWG 779 (by decide +kernel) (by decide +kernel), inWG 96 (by decide +kernel) (by decide +kernel), by decide +kernel⟩
theorem ml_MW_172 : mlV "MethodWarden" 172 Y_MW_hasExpression 1 := ⟨⟨yok_MW_hasExpression, by decide +kernel, by decide⟩, Or.inl (inWG 753 (by decide +kernel) (by decide +kernel)), inWG 755 (by decide +kernel) (by decide +kernel), inWG 28 (by decide +kernel) (by decide +kernel)⟩
def f_MW_isRule (a1 : Int32) (M : ax_M) : Option (Int32 × ax_M) :=
  if a1 = ((-1)) then (some (1, M)) else (bnd (f_MW_hasExpression a1 M) (fun q2 M3 => if q2 = 0 then (some (0, M3)) else (some (1, M3))))
set_option maxHeartbeats 4000000 in
set_option maxRecDepth 100000 in
theorem c_MW_isRule {l : Launch} {g : ax_G} {a1 : Int32} {M : ax_M} {r : Int32} {M' : ax_M} (h : f_MW_isRule a1 M = some (r, M')) : Ctr l g true Y_MW_isRule 3 [vA 2, vI a1] M (some (vI r), M') := by
  refine Ctr.ofAW yok_MW_isRule (Nat.le_of_ble_eq_true rfl) (Or.inl rfl) ?_
  show AW l g true Y_MW_isRule 3 (some (vI r), M') 0 [(0, vA 2), (1, vI a1)] [] M
  unfold f_MW_isRule at h
  refine A_iload_n 1 rfl rfl rfl ?_
  refine A_iconst (v := (-1)) rfl (by decide) ?_
  refine A_icmp_eq (tgt := 13) rfl (by decide) (fun hc1 => ?_) (fun hc1 => ?_)
  · rw [if_pos hc1] at h
    refine A_iconst (v := 1) rfl (by decide) ?_
    refine A_goto (tgt := 18) rfl (by decide) ?_
    obtain ⟨rfl, rfl⟩ := leaf h
    exact A_zret rfl rfl (Or.inr rfl)
  · rw [if_neg hc1] at h
    refine A_pc (pc' := 5) rfl ?_
    refine A_aload_n 0 rfl rfl rfl ?_
    refine A_iload_n 1 rfl rfl rfl ?_
    obtain ⟨q2, M3, hcq2, h⟩ := bnd_out h
    refine A_callV (ci := 0) (as := [vI a1]) (st' := []) (r1 := (some (vI q2), M3)) rfl ml_MW_172 rfl (by decide) (by decide) (Or.inl rfl) rfl rfl (Nat.le_of_ble_eq_true rfl) (by decide) (c_MW_hasExpression hcq2) (Or.inl rfl) ?_
    refine A_pc (pc' := 10) rfl ?_
    refine A_stk (st' := [vI q2]) rfl ?_
    refine A_if_eq (tgt := 17) rfl (by decide) (fun hc4 => ?_) (fun hc4 => ?_)
    · rw [if_pos hc4] at h
      refine A_iconst (v := 0) rfl (by decide) ?_
      obtain ⟨rfl, rfl⟩ := leaf h
      exact A_zret rfl rfl (Or.inl rfl)
    · rw [if_neg hc4] at h
      refine A_pc (pc' := 13) rfl ?_
      refine A_iconst (v := 1) rfl (by decide) ?_
      refine A_goto (tgt := 18) rfl (by decide) ?_
      obtain ⟨rfl, rfl⟩ := leaf h
      exact A_zret rfl rfl (Or.inr rfl)
def tb_MW_isGuard : List (Nat × Instr × Nat) := [(0, .iload_n 1, 1), (1, .tableswitch 48 0 4 #[35, 35, 35, 37, 42], 35), (36, .iconst 1, 1), (37, .ireturn, 1), (38, .iload_n 2, 1), (39, .invokestatic 94, 3), (42, .ireturn, 1), (43, .aload_n 0, 1), (44, .iload_n 2, 1), (45, .invokevirtual 172, 3), (48, .ireturn, 1), (49, .iconst 0, 1), (50, .ireturn, 1)]
def Y_MW_isGuard : ax_Y := (⟨"MethodWarden", "isGuard", "(II)Z"⟩, prog_1_method_26_code, 3, some .boolean, tb_MW_isGuard)
theorem yok_MW_isGuard : yOK Y_MW_isGuard := ⟨by decide +kernel, by decide +kernel, inWG 752 (by decide +kernel) (by decide +kernel), inWG 96 (by decide +kernel) (by decide +kernel), by decide +kernel⟩
theorem ml_MW_94 : mlS "MethodWarden" 94 Y_MW_isRoleSet 1 := ⟨⟨yok_MW_isRoleSet, by decide +kernel, by decide⟩, Or.inl (inWG 711 (by decide +kernel) (by decide +kernel)), inWG 712 (by decide +kernel) (by decide +kernel)⟩
def f_MW_isGuard (a1 : Int32) (a2 : Int32) (M : ax_M) : Option (Int32 × ax_M) :=
  if a1 = 0 then (some (1, M)) else (if a1 = 1 then (some (1, M)) else (if a1 = 2 then (some (1, M)) else (if a1 = 3 then (bnd (f_MW_isRoleSet a2 M) (fun q5 M6 => g2 q5 (some (q5, M6)))) else (if a1 = 4 then (bnd (f_MW_hasExpression a2 M) (fun q9 M10 => g2 q9 (some (q9, M10)))) else (some (0, M))))))
set_option maxHeartbeats 4000000 in
set_option maxRecDepth 100000 in
theorem c_MW_isGuard {l : Launch} {g : ax_G} {a1 : Int32} {a2 : Int32} {M : ax_M} {r : Int32} {M' : ax_M} (h : f_MW_isGuard a1 a2 M = some (r, M')) : Ctr l g true Y_MW_isGuard 3 [vA 2, vI a1, vI a2] M (some (vI r), M') := by
  refine Ctr.ofAW yok_MW_isGuard (Nat.le_of_ble_eq_true rfl) (Or.inl rfl) ?_
  show AW l g true Y_MW_isGuard 3 (some (vI r), M') 0 [(0, vA 2), (1, vI a1), (2, vI a2)] [] M
  unfold f_MW_isGuard at h
  refine A_iload_n 1 rfl rfl rfl ?_
  by_cases hc1 : a1 = 0
  · rw [if_pos hc1] at h
    refine A_tableIn (tgt := 36) (off := 35) rfl (by rw [hc1]; decide) (by rw [hc1]; decide) (by rw [hc1]; rfl) (by decide) ?_
    refine A_iconst (v := 1) rfl (by decide) ?_
    obtain ⟨rfl, rfl⟩ := leaf h
    exact A_zret rfl rfl (Or.inr rfl)
  · rw [if_neg hc1] at h
    by_cases hc2 : a1 = 1
    · rw [if_pos hc2] at h
      refine A_tableIn (tgt := 36) (off := 35) rfl (by rw [hc2]; decide) (by rw [hc2]; decide) (by rw [hc2]; rfl) (by decide) ?_
      refine A_iconst (v := 1) rfl (by decide) ?_
      obtain ⟨rfl, rfl⟩ := leaf h
      exact A_zret rfl rfl (Or.inr rfl)
    · rw [if_neg hc2] at h
      by_cases hc3 : a1 = 2
      · rw [if_pos hc3] at h
        refine A_tableIn (tgt := 36) (off := 35) rfl (by rw [hc3]; decide) (by rw [hc3]; decide) (by rw [hc3]; rfl) (by decide) ?_
        refine A_iconst (v := 1) rfl (by decide) ?_
        obtain ⟨rfl, rfl⟩ := leaf h
        exact A_zret rfl rfl (Or.inr rfl)
      · rw [if_neg hc3] at h
        by_cases hc4 : a1 = 3
        · rw [if_pos hc4] at h
          refine A_tableIn (tgt := 38) (off := 37) rfl (by rw [hc4]; decide) (by rw [hc4]; decide) (by rw [hc4]; rfl) (by decide) ?_
          refine A_iload_n 2 rfl rfl rfl ?_
          obtain ⟨q5, M6, hcq5, h⟩ := bnd_out h
          refine A_callS (as := [vI a2]) (st' := []) (r1 := (some (vI q5), M6)) rfl ml_MW_94 rfl rfl (Nat.le_of_ble_eq_true rfl) (by decide) (c_MW_isRoleSet hcq5) (Or.inl rfl) ?_
          refine A_pc (pc' := 42) rfl ?_
          refine A_stk (st' := [vI q5]) rfl ?_
          obtain ⟨hg7, h⟩ := g2_out h
          obtain ⟨rfl, rfl⟩ := leaf h
          exact A_zret rfl rfl hg7
        · rw [if_neg hc4] at h
          by_cases hc8 : a1 = 4
          · rw [if_pos hc8] at h
            refine A_tableIn (tgt := 43) (off := 42) rfl (by rw [hc8]; decide) (by rw [hc8]; decide) (by rw [hc8]; rfl) (by decide) ?_
            refine A_aload_n 0 rfl rfl rfl ?_
            refine A_iload_n 2 rfl rfl rfl ?_
            obtain ⟨q9, M10, hcq9, h⟩ := bnd_out h
            refine A_callV (ci := 0) (as := [vI a2]) (st' := []) (r1 := (some (vI q9), M10)) rfl ml_MW_172 rfl (by decide) (by decide) (Or.inl rfl) rfl rfl (Nat.le_of_ble_eq_true rfl) (by decide) (c_MW_hasExpression hcq9) (Or.inl rfl) ?_
            refine A_pc (pc' := 48) rfl ?_
            refine A_stk (st' := [vI q9]) rfl ?_
            obtain ⟨hg11, h⟩ := g2_out h
            obtain ⟨rfl, rfl⟩ := leaf h
            exact A_zret rfl rfl hg11
          · rw [if_neg hc8] at h
            refine A_tableDef (tgt := 49) [0, 1, 2, 3, 4] rfl (by decide) (by decide) (fa_cons (ne_i hc1 (by decide)) (fa_cons (ne_i hc2 (by decide)) (fa_cons (ne_i hc3 (by decide)) (fa_cons (ne_i hc4 (by decide)) (fa_cons (ne_i hc8 (by decide)) fa_nil))))) (by decide) ?_
            refine A_iconst (v := 0) rfl (by decide) ?_
            obtain ⟨rfl, rfl⟩ := leaf h
            exact A_zret rfl rfl (Or.inl rfl)
def tb_MW_isTarget : List (Nat × Instr × Nat) := [(0, .iload_n 0, 1), (1, .tableswitch 55 0 6 #[43, 43, 43, 43, 45, 50, 50], 43), (44, .iconst 1, 1), (45, .ireturn, 1), (46, .iload_n 1, 1), (47, .invokestatic 91, 3), (50, .ireturn, 1), (51, .iload_n 1, 1), (52, .invokestatic 129, 3), (55, .ireturn, 1), (56, .iconst 0, 1), (57, .ireturn, 1)]
def Y_MW_isTarget : ax_Y := (⟨"MethodWarden", "isTarget", "(II)Z"⟩, prog_1_method_27_code, 2, some .boolean, tb_MW_isTarget)
theorem yok_MW_isTarget : yOK Y_MW_isTarget := ⟨by decide +kernel, by decide +kernel, inWG 790 (by decide +kernel) (by decide +kernel), inWG 96 (by decide +kernel) (by decide +kernel), by decide +kernel⟩
theorem ml_MW_91 : mlS "MethodWarden" 91 Y_MW_isUser 1 := ⟨⟨yok_MW_isUser, by decide +kernel, by decide⟩, Or.inl (inWG 708 (by decide +kernel) (by decide +kernel)), inWG 709 (by decide +kernel) (by decide +kernel)⟩
theorem ml_MW_129 : mlS "MethodWarden" 129 Y_MW_isMethod 1 := ⟨⟨yok_MW_isMethod, by decide +kernel, by decide⟩, Or.inl (inWG 773 (by decide +kernel) (by decide +kernel)), inWG 774 (by decide +kernel) (by decide +kernel)⟩
def f_MW_isTarget (a0 : Int32) (a1 : Int32) (M : ax_M) : Option (Int32 × ax_M) :=
  if a0 = 0 then (some (1, M)) else (if a0 = 1 then (some (1, M)) else (if a0 = 2 then (some (1, M)) else (if a0 = 3 then (some (1, M)) else (if a0 = 4 then (bnd (f_MW_isUser a1 M) (fun q6 M7 => g2 q6 (some (q6, M7)))) else (if a0 = 5 then (bnd (f_MW_isMethod a1 M) (fun q10 M11 => g2 q10 (some (q10, M11)))) else (if a0 = 6 then (bnd (f_MW_isMethod a1 M) (fun q14 M15 => g2 q14 (some (q14, M15)))) else (some (0, M))))))))
set_option maxHeartbeats 4000000 in
set_option maxRecDepth 100000 in
theorem c_MW_isTarget {l : Launch} {g : ax_G} {a0 : Int32} {a1 : Int32} {M : ax_M} {r : Int32} {M' : ax_M} (h : f_MW_isTarget a0 a1 M = some (r, M')) : Ctr l g true Y_MW_isTarget 2 [vI a0, vI a1] M (some (vI r), M') := by
  refine Ctr.ofAW yok_MW_isTarget (Nat.le_of_ble_eq_true rfl) (Or.inl rfl) ?_
  show AW l g true Y_MW_isTarget 2 (some (vI r), M') 0 [(0, vI a0), (1, vI a1)] [] M
  unfold f_MW_isTarget at h
  refine A_iload_n 0 rfl rfl rfl ?_
  by_cases hc1 : a0 = 0
  · rw [if_pos hc1] at h
    refine A_tableIn (tgt := 44) (off := 43) rfl (by rw [hc1]; decide) (by rw [hc1]; decide) (by rw [hc1]; rfl) (by decide) ?_
    refine A_iconst (v := 1) rfl (by decide) ?_
    obtain ⟨rfl, rfl⟩ := leaf h
    exact A_zret rfl rfl (Or.inr rfl)
  · rw [if_neg hc1] at h
    by_cases hc2 : a0 = 1
    · rw [if_pos hc2] at h
      refine A_tableIn (tgt := 44) (off := 43) rfl (by rw [hc2]; decide) (by rw [hc2]; decide) (by rw [hc2]; rfl) (by decide) ?_
      refine A_iconst (v := 1) rfl (by decide) ?_
      obtain ⟨rfl, rfl⟩ := leaf h
      exact A_zret rfl rfl (Or.inr rfl)
    · rw [if_neg hc2] at h
      by_cases hc3 : a0 = 2
      · rw [if_pos hc3] at h
        refine A_tableIn (tgt := 44) (off := 43) rfl (by rw [hc3]; decide) (by rw [hc3]; decide) (by rw [hc3]; rfl) (by decide) ?_
        refine A_iconst (v := 1) rfl (by decide) ?_
        obtain ⟨rfl, rfl⟩ := leaf h
        exact A_zret rfl rfl (Or.inr rfl)
      · rw [if_neg hc3] at h
        by_cases hc4 : a0 = 3
        · rw [if_pos hc4] at h
          refine A_tableIn (tgt := 44) (off := 43) rfl (by rw [hc4]; decide) (by rw [hc4]; decide) (by rw [hc4]; rfl) (by decide) ?_
          refine A_iconst (v := 1) rfl (by decide) ?_
          obtain ⟨rfl, rfl⟩ := leaf h
          exact A_zret rfl rfl (Or.inr rfl)
        · rw [if_neg hc4] at h
          by_cases hc5 : a0 = 4
          · rw [if_pos hc5] at h
            refine A_tableIn (tgt := 46) (off := 45) rfl (by rw [hc5]; decide) (by rw [hc5]; decide) (by rw [hc5]; rfl) (by decide) ?_
            refine A_iload_n 1 rfl rfl rfl ?_
            obtain ⟨q6, M7, hcq6, h⟩ := bnd_out h
            refine A_callS (as := [vI a1]) (st' := []) (r1 := (some (vI q6), M7)) rfl ml_MW_91 rfl rfl (Nat.le_of_ble_eq_true rfl) (by decide) (c_MW_isUser hcq6) (Or.inl rfl) ?_
            refine A_pc (pc' := 50) rfl ?_
            refine A_stk (st' := [vI q6]) rfl ?_
            obtain ⟨hg8, h⟩ := g2_out h
            obtain ⟨rfl, rfl⟩ := leaf h
            exact A_zret rfl rfl hg8
          · rw [if_neg hc5] at h
            by_cases hc9 : a0 = 5
            · rw [if_pos hc9] at h
              refine A_tableIn (tgt := 51) (off := 50) rfl (by rw [hc9]; decide) (by rw [hc9]; decide) (by rw [hc9]; rfl) (by decide) ?_
              refine A_iload_n 1 rfl rfl rfl ?_
              obtain ⟨q10, M11, hcq10, h⟩ := bnd_out h
              refine A_callS (as := [vI a1]) (st' := []) (r1 := (some (vI q10), M11)) rfl ml_MW_129 rfl rfl (Nat.le_of_ble_eq_true rfl) (by decide) (c_MW_isMethod hcq10) (Or.inl rfl) ?_
              refine A_pc (pc' := 55) rfl ?_
              refine A_stk (st' := [vI q10]) rfl ?_
              obtain ⟨hg12, h⟩ := g2_out h
              obtain ⟨rfl, rfl⟩ := leaf h
              exact A_zret rfl rfl hg12
            · rw [if_neg hc9] at h
              by_cases hc13 : a0 = 6
              · rw [if_pos hc13] at h
                refine A_tableIn (tgt := 51) (off := 50) rfl (by rw [hc13]; decide) (by rw [hc13]; decide) (by rw [hc13]; rfl) (by decide) ?_
                refine A_iload_n 1 rfl rfl rfl ?_
                obtain ⟨q14, M15, hcq14, h⟩ := bnd_out h
                refine A_callS (as := [vI a1]) (st' := []) (r1 := (some (vI q14), M15)) rfl ml_MW_129 rfl rfl (Nat.le_of_ble_eq_true rfl) (by decide) (c_MW_isMethod hcq14) (Or.inl rfl) ?_
                refine A_pc (pc' := 55) rfl ?_
                refine A_stk (st' := [vI q14]) rfl ?_
                obtain ⟨hg16, h⟩ := g2_out h
                obtain ⟨rfl, rfl⟩ := leaf h
                exact A_zret rfl rfl hg16
              · rw [if_neg hc13] at h
                refine A_tableDef (tgt := 56) [0, 1, 2, 3, 4, 5, 6] rfl (by decide) (by decide) (fa_cons (ne_i hc1 (by decide)) (fa_cons (ne_i hc2 (by decide)) (fa_cons (ne_i hc3 (by decide)) (fa_cons (ne_i hc4 (by decide)) (fa_cons (ne_i hc5 (by decide)) (fa_cons (ne_i hc9 (by decide)) (fa_cons (ne_i hc13 (by decide)) fa_nil))))))) (by decide) ?_
                refine A_iconst (v := 0) rfl (by decide) ?_
                obtain ⟨rfl, rfl⟩ := leaf h
                exact A_zret rfl rfl (Or.inl rfl)
def tb_MW_type : List (Nat × Instr × Nat) := [(0, .aload_n 0, 1), (1, .getfield 10, 3), (4, .iload_n 1, 1), (5, .invokevirtual 66, 3), (8, .ireturn, 1)]
def Y_MW_type : ax_Y := (⟨"MethodWarden", "type", "(C)Z"⟩, prog_1_method_2_code, 2, some .boolean, tb_MW_type)
theorem yok_MW_type : yOK Y_MW_type := ⟨by decide +kernel, by decide +kernel, inWG 446 (by decide +kernel) (by decide +kernel), inWG 96 (by decide +kernel) (by decide +kernel), by decide +kernel⟩
theorem fl_MW_10 : fldOK "MethodWarden" 10 0 0 true := ⟨_, _, _, cls_MW, by decide, by decide, rfl, Or.inl (inWG 415 (by decide +kernel) (by decide +kernel))⟩
theorem ml_MW_66 : mlV "MethodWarden" 66 Y_Text_append 1 := ⟨⟨yok_Text_append, by decide +kernel, by decide⟩, Or.inl (inWG 447 (by decide +kernel) (by decide +kernel)), inWG 448 (by decide +kernel) (by decide +kernel), inWG 449 (by decide +kernel) (by decide +kernel)⟩
def f_MW_type (a1 : Int32) (M : ax_M) : Option (Int32 × ax_M) :=
  bnd (f_Text_append a1 M) (fun q1 M2 => g2 q1 (some (q1, M2)))
set_option maxHeartbeats 4000000 in
set_option maxRecDepth 100000 in
theorem c_MW_type {l : Launch} {g : ax_G} {a1 : Int32} {M : ax_M} {r : Int32} {M' : ax_M} (h : f_MW_type a1 M = some (r, M')) : Ctr l g true Y_MW_type 2 [vA 2, vI a1] M (some (vI r), M') := by
  refine Ctr.ofAW yok_MW_type (Nat.le_of_ble_eq_true rfl) (Or.inl rfl) ?_
  show AW l g true Y_MW_type 2 (some (vI r), M') 0 [(0, vA 2), (1, vI a1)] [] M
  unfold f_MW_type at h
  refine A_aload_n 0 rfl rfl rfl ?_
  refine A_getL (r := 3) rfl fl_MW_10 rfl (by decide) rfl rfl ?_
  refine A_iload_n 1 rfl rfl rfl ?_
  obtain ⟨q1, M2, hcq1, h⟩ := bnd_out h
  refine A_callV (ci := 1) (as := [vI a1]) (st' := []) (r1 := (some (vI q1), M2)) rfl ml_MW_66 rfl (by decide) (by decide) (Or.inl rfl) rfl rfl (Nat.le_of_ble_eq_true rfl) (by decide) (c_Text_append hcq1) (Or.inl rfl) ?_
  refine A_pc (pc' := 8) rfl ?_
  refine A_stk (st' := [vI q1]) rfl ?_
  obtain ⟨hg3, h⟩ := g2_out h
  obtain ⟨rfl, rfl⟩ := leaf h
  exact A_zret rfl rfl hg3
def tb_MW_define : List (Nat × Instr × Nat) := [(0, .iload_n 1, 1), (1, .invokestatic 70, 3), (4, .ifCond .ne 6, 3), (7, .bipush (-2), 2), (9, .ireturn, 1), (10, .aload_n 0, 1), (11, .getfield 19, 3), (14, .aload_n 0, 1), (15, .getfield 10, 3), (18, .aload_n 0, 1), (19, .getfield 30, 3), (22, .invokevirtual 74, 3), (25, .istore_n 2, 1), (26, .aload_n 0, 1), (27, .getfield 10, 3), (30, .invokevirtual 78, 3), (33, .iload_n 2, 1), (34, .iconst (-1), 1), (35, .if_icmp .ne 25, 3), (38, .aload_n 0, 1), (39, .getfield 25, 3), (42, .iload_n 1, 1), (43, .aaload, 1), (44, .astore_n 3, 1), (45, .aload_n 0, 1), (46, .getfield 25, 3), (49, .iload_n 1, 1), (50, .aload_n 0, 1), (51, .getfield 30, 3), (54, .aastore, 1), (55, .aload_n 0, 1), (56, .aload_n 3, 1), (57, .putfield 30, 3), (60, .iload_n 2, 1), (61, .ireturn, 1)]
def Y_MW_define : ax_Y := (⟨"MethodWarden", "define", "(I)I"⟩, prog_1_method_3_code, 4, some .int, tb_MW_define)
theorem yok_MW_define : yOK Y_MW_define := ⟨by decide +kernel, by decide +kernel, inWG 454 (by decide +kernel) (by decide +kernel), inWG 96 (by decide +kernel) (by decide +kernel), by decide +kernel⟩
theorem fl_MW_19 : fldOK "MethodWarden" 19 0 1 true := ⟨_, _, _, cls_MW, by decide, by decide, rfl, Or.inl (inWG 416 (by decide +kernel) (by decide +kernel))⟩
theorem fl_MW_30 : fldOK "MethodWarden" 30 0 3 false := ⟨_, _, _, cls_MW, by decide, by decide, rfl, Or.inl (inWG 418 (by decide +kernel) (by decide +kernel))⟩
theorem ml_MW_74 : mlV "MethodWarden" 74 Y_Reader_read 2 := ⟨⟨yok_Reader_read, by decide +kernel, by decide⟩, Or.inl (inWG 458 (by decide +kernel) (by decide +kernel)), inWG 459 (by decide +kernel) (by decide +kernel), inWG 460 (by decide +kernel) (by decide +kernel)⟩
theorem ml_MW_78 : mlV "MethodWarden" 78 Y_Text_clear 0 := ⟨⟨yok_Text_clear, by decide +kernel, by decide⟩, Or.inl (inWG 677 (by decide +kernel) (by decide +kernel)), inWG 678 (by decide +kernel) (by decide +kernel), inWG 679 (by decide +kernel) (by decide +kernel)⟩
def f_MW_define (a1 : Int32) (M : ax_M) : Option (Int32 × ax_M) :=
  bnd (f_MW_isSlot a1 M) (fun q1 M2 => if q1 = 0 then (some ((-2), M2)) else (kM (gA M2 2 3) (fun r4 => bnd (f_Reader_read r4 M2) (fun q5 M6 => bnd (f_Text_clear  M6) (fun q7 M8 => if q5 = ((-1)) then (gi a1 8 (kM (gA M8 8 a1.toNatClampNeg) (fun r11 => kM (gA M8 2 3) (fun r12 => gk r12 3 (kM (mA M8 8 a1.toNatClampNeg r12) (fun M14 => kM (mA M14 2 3 r11) (fun M15 => some (q5, M15)))))))) else (some (q5, M8)))))))
set_option maxHeartbeats 4000000 in
set_option maxRecDepth 100000 in
theorem c_MW_define {l : Launch} {g : ax_G} {a1 : Int32} {M : ax_M} {r : Int32} {M' : ax_M} (h : f_MW_define a1 M = some (r, M')) : Ctr l g true Y_MW_define 11 [vA 2, vI a1] M (some (vI r), M') := by
  refine Ctr.ofAW yok_MW_define (Nat.le_of_ble_eq_true rfl) (Or.inl rfl) ?_
  show AW l g true Y_MW_define 11 (some (vI r), M') 0 [(0, vA 2), (1, vI a1)] [] M
  unfold f_MW_define at h
  refine A_iload_n 1 rfl rfl rfl ?_
  obtain ⟨q1, M2, hcq1, h⟩ := bnd_out h
  refine A_callS (as := [vI a1]) (st' := []) (r1 := (some (vI q1), M2)) rfl ml_MW_70 rfl rfl (Nat.le_of_ble_eq_true rfl) (by decide) (c_MW_isSlot hcq1) (Or.inl rfl) ?_
  refine A_pc (pc' := 4) rfl ?_
  refine A_stk (st' := [vI q1]) rfl ?_
  refine A_if_ne (tgt := 10) rfl (by decide) (fun hc3 => ?_) (fun hc3 => ?_)
  · rw [if_neg hc3] at h
    refine A_aload_n 0 rfl rfl rfl ?_
    refine A_getL (r := 5) rfl fl_MW_19 rfl (by decide) rfl rfl ?_
    refine A_aload_n 0 rfl rfl rfl ?_
    refine A_getL (r := 3) rfl fl_MW_10 rfl (by decide) rfl rfl ?_
    refine A_aload_n 0 rfl rfl rfl ?_
    refine A_pc (pc' := 19) rfl ?_
    refine A_getA rfl fl_MW_30 rfl (by decide) (Or.inl rfl) ?_
    obtain ⟨r4, hr4, h⟩ := kM_out h
    refine A_nA hr4 ?_
    obtain ⟨q5, M6, hcq5, h⟩ := bnd_out h
    refine A_callV (ci := 2) (as := [vA 3, vA r4]) (st' := []) (r1 := (some (vI q5), M6)) rfl ml_MW_74 rfl (by decide) (by decide) (Or.inl rfl) rfl rfl (Nat.le_of_ble_eq_true rfl) (by decide) (c_Reader_read hcq5) (Or.inl rfl) ?_
    refine A_pc (pc' := 25) rfl ?_
    refine A_stk (st' := [vI q5]) rfl ?_
    refine A_istore_n (Ls' := [(2, vI q5), (0, vA 2), (1, vI a1)]) rfl rfl (by decide) rfl ?_
    refine A_aload_n 1 rfl rfl rfl ?_
    refine A_getL (r := 3) rfl fl_MW_10 rfl (by decide) rfl rfl ?_
    obtain ⟨q7, M8, hcq7, h⟩ := bnd_out h
    refine A_callV (ci := 1) (as := []) (st' := []) (r1 := (none, M8)) rfl ml_MW_78 rfl (by decide) (by decide) (Or.inl rfl) rfl rfl (Nat.le_of_ble_eq_true rfl) (by decide) (c_Text_clear hcq7) (Or.inl rfl) ?_
    refine A_pc (pc' := 33) rfl ?_
    refine A_stk (st' := []) rfl ?_
    refine A_pc (pc' := 33) rfl ?_
    refine A_iload_n 0 rfl rfl rfl ?_
    refine A_iconst (v := (-1)) rfl (by decide) ?_
    refine A_icmp_ne (tgt := 60) rfl (by decide) (fun hc9 => ?_) (fun hc9 => ?_)
    · rw [if_neg hc9] at h
      refine A_iload_n 0 rfl rfl rfl ?_
      obtain ⟨rfl, rfl⟩ := leaf h
      exact A_iret rfl rfl
    · rw [if_pos hc9] at h
      refine A_pc (pc' := 38) rfl ?_
      refine A_aload_n 1 rfl rfl rfl ?_
      refine A_getL (r := 8) rfl fl_MW_25 rfl (by decide) rfl rfl ?_
      refine A_iload_n 2 rfl rfl rfl ?_
      obtain ⟨hg10, h⟩ := gi_out h
      refine A_aald (t := 4) (C := "MethodWarden$Expression") (n := 8) rfl (by decide) ⟨by decide, by decide, rfl⟩ (by decide) (Or.inl rfl) hg10 ?_
      obtain ⟨r11, hr11, h⟩ := kM_out h
      refine A_nA hr11 ?_
      refine A_astore_n (Ls' := [(3, vA r11), (2, vI q5), (0, vA 2), (1, vI a1)]) rfl rfl (by decide) rfl ?_
      refine A_pc (pc' := 45) rfl ?_
      refine A_aload_n 2 rfl rfl rfl ?_
      refine A_getL (r := 8) rfl fl_MW_25 rfl (by decide) rfl rfl ?_
      refine A_iload_n 3 rfl rfl rfl ?_
      refine A_aload_n 2 rfl rfl rfl ?_
      refine A_getA rfl fl_MW_30 rfl (by decide) (Or.inl rfl) ?_
      obtain ⟨r12, hr12, h⟩ := kM_out h
      refine A_nA hr12 ?_
      obtain ⟨hg13, h⟩ := gk_out h
      refine A_aast (t := 4) (n := 8) rfl (by decide) ⟨by decide, by decide, rfl⟩ (by decide) (Or.inl rfl) hg10 cls_Expr hg13 (Or.inl rfl) (Or.inr (fun _ => rfl)) ?_
      obtain ⟨M14, hM14, h⟩ := kM_out h
      refine A_mem hM14 ?_
      refine A_pc (pc' := 55) rfl ?_
      refine A_aload_n 2 rfl rfl rfl ?_
      refine A_aload_n 0 rfl rfl rfl ?_
      refine A_putA rfl (Or.inl fl_MW_30) rfl (by decide) (Or.inl rfl) rfl (Or.inr rfl) ?_
      obtain ⟨M15, hM15, h⟩ := kM_out h
      refine A_mem hM15 ?_
      refine A_iload_n 1 rfl rfl rfl ?_
      obtain ⟨rfl, rfl⟩ := leaf h
      exact A_iret rfl rfl
  · rw [if_pos hc3] at h
    refine A_pc (pc' := 7) rfl ?_
    refine A_bipush (v := (-2)) rfl (by decide) ?_
    obtain ⟨rfl, rfl⟩ := leaf h
    exact A_iret rfl rfl
def tb_MW_senior : List (Nat × Instr × Nat) := [(0, .iload_n 1, 1), (1, .invokestatic 81, 3), (4, .ifCond .eq 26, 3), (7, .iload_n 2, 1), (8, .invokestatic 81, 3), (11, .ifCond .eq 19, 3), (14, .aload_n 0, 1), (15, .getfield 37, 3), (18, .iload_n 1, 1), (19, .iload_n 2, 1), (20, .invokevirtual 84, 3), (23, .ifCond .eq 7, 3), (26, .iconst 1, 1), (27, .goto 4, 3), (30, .iconst 0, 1), (31, .ireturn, 1)]
def Y_MW_senior : ax_Y := (⟨"MethodWarden", "senior", "(II)Z"⟩, prog_1_method_4_code, 3, some .boolean, tb_MW_senior)
theorem yok_MW_senior : yOK Y_MW_senior := ⟨by decide +kernel, by decide +kernel, inWG 685 (by decide +kernel) (by decide +kernel), inWG 96 (by decide +kernel) (by decide +kernel), by decide +kernel⟩
theorem fl_MW_37 : fldOK "MethodWarden" 37 0 4 true := ⟨_, _, _, cls_MW, by decide, by decide, rfl, Or.inl (inWG 419 (by decide +kernel) (by decide +kernel))⟩
theorem ml_MW_81 : mlS "MethodWarden" 81 Y_MW_isRole 1 := ⟨⟨yok_MW_isRole, by decide +kernel, by decide⟩, Or.inl (inWG 686 (by decide +kernel) (by decide +kernel)), inWG 687 (by decide +kernel) (by decide +kernel)⟩
theorem ml_MW_84 : mlV "MethodWarden" 84 Y_Ctx_include 2 := ⟨⟨yok_Ctx_include, by decide +kernel, by decide⟩, Or.inl (inWG 689 (by decide +kernel) (by decide +kernel)), inWG 690 (by decide +kernel) (by decide +kernel), inWG 691 (by decide +kernel) (by decide +kernel)⟩
def f_MW_senior (a1 : Int32) (a2 : Int32) (M : ax_M) : Option (Int32 × ax_M) :=
  bnd (f_MW_isRole a1 M) (fun q1 M2 => if q1 = 0 then (some (0, M2)) else (bnd (f_MW_isRole a2 M2) (fun q4 M5 => if q4 = 0 then (some (0, M5)) else (bnd (f_Ctx_include a1 a2 M5) (fun q7 M8 => if q7 = 0 then (some (0, M8)) else (some (1, M8)))))))
set_option maxHeartbeats 4000000 in
set_option maxRecDepth 100000 in
theorem c_MW_senior {l : Launch} {g : ax_G} {a1 : Int32} {a2 : Int32} {M : ax_M} {r : Int32} {M' : ax_M} (h : f_MW_senior a1 a2 M = some (r, M')) : Ctr l g true Y_MW_senior 3 [vA 2, vI a1, vI a2] M (some (vI r), M') := by
  refine Ctr.ofAW yok_MW_senior (Nat.le_of_ble_eq_true rfl) (Or.inl rfl) ?_
  show AW l g true Y_MW_senior 3 (some (vI r), M') 0 [(0, vA 2), (1, vI a1), (2, vI a2)] [] M
  unfold f_MW_senior at h
  refine A_iload_n 1 rfl rfl rfl ?_
  obtain ⟨q1, M2, hcq1, h⟩ := bnd_out h
  refine A_callS (as := [vI a1]) (st' := []) (r1 := (some (vI q1), M2)) rfl ml_MW_81 rfl rfl (Nat.le_of_ble_eq_true rfl) (by decide) (c_MW_isRole hcq1) (Or.inl rfl) ?_
  refine A_pc (pc' := 4) rfl ?_
  refine A_stk (st' := [vI q1]) rfl ?_
  refine A_if_eq (tgt := 30) rfl (by decide) (fun hc3 => ?_) (fun hc3 => ?_)
  · rw [if_pos hc3] at h
    refine A_iconst (v := 0) rfl (by decide) ?_
    obtain ⟨rfl, rfl⟩ := leaf h
    exact A_zret rfl rfl (Or.inl rfl)
  · rw [if_neg hc3] at h
    refine A_pc (pc' := 7) rfl ?_
    refine A_iload_n 2 rfl rfl rfl ?_
    obtain ⟨q4, M5, hcq4, h⟩ := bnd_out h
    refine A_callS (as := [vI a2]) (st' := []) (r1 := (some (vI q4), M5)) rfl ml_MW_81 rfl rfl (Nat.le_of_ble_eq_true rfl) (by decide) (c_MW_isRole hcq4) (Or.inl rfl) ?_
    refine A_pc (pc' := 11) rfl ?_
    refine A_stk (st' := [vI q4]) rfl ?_
    refine A_if_eq (tgt := 30) rfl (by decide) (fun hc6 => ?_) (fun hc6 => ?_)
    · rw [if_pos hc6] at h
      refine A_iconst (v := 0) rfl (by decide) ?_
      obtain ⟨rfl, rfl⟩ := leaf h
      exact A_zret rfl rfl (Or.inl rfl)
    · rw [if_neg hc6] at h
      refine A_pc (pc' := 14) rfl ?_
      refine A_aload_n 0 rfl rfl rfl ?_
      refine A_getL (r := 63) rfl fl_MW_37 rfl (by decide) rfl rfl ?_
      refine A_iload_n 1 rfl rfl rfl ?_
      refine A_iload_n 2 rfl rfl rfl ?_
      obtain ⟨q7, M8, hcq7, h⟩ := bnd_out h
      refine A_callV (ci := 4) (as := [vI a1, vI a2]) (st' := []) (r1 := (some (vI q7), M8)) rfl ml_MW_84 rfl (by decide) (by decide) (Or.inl rfl) rfl rfl (Nat.le_of_ble_eq_true rfl) (by decide) (c_Ctx_include hcq7) (Or.inl rfl) ?_
      refine A_pc (pc' := 23) rfl ?_
      refine A_stk (st' := [vI q7]) rfl ?_
      refine A_pc (pc' := 23) rfl ?_
      refine A_if_eq (tgt := 30) rfl (by decide) (fun hc9 => ?_) (fun hc9 => ?_)
      · rw [if_pos hc9] at h
        refine A_iconst (v := 0) rfl (by decide) ?_
        obtain ⟨rfl, rfl⟩ := leaf h
        exact A_zret rfl rfl (Or.inl rfl)
      · rw [if_neg hc9] at h
        refine A_pc (pc' := 26) rfl ?_
        refine A_iconst (v := 1) rfl (by decide) ?_
        refine A_goto (tgt := 31) rfl (by decide) ?_
        obtain ⟨rfl, rfl⟩ := leaf h
        exact A_zret rfl rfl (Or.inr rfl)
def tb_MW_login : List (Nat × Instr × Nat) := [(0, .iload_n 1, 1), (1, .iconst (-1), 1), (2, .if_icmp .ne 12, 3), (5, .aload_n 0, 1), (6, .getfield 37, 3), (9, .invokevirtual 88, 3), (12, .iconst 1, 1), (13, .ireturn, 1), (14, .iload_n 1, 1), (15, .invokestatic 91, 3), (18, .ifCond .eq 10, 3), (21, .iload_n 2, 1), (22, .invokestatic 94, 3), (25, .ifCond .ne 5, 3), (28, .iconst 0, 1), (29, .ireturn, 1), (30, .aload_n 0, 1), (31, .getfield 37, 3), (34, .iload_n 1, 1), (35, .iload_n 2, 1), (36, .invokevirtual 97, 3), (39, .iconst 1, 1), (40, .ireturn, 1)]
def Y_MW_login : ax_Y := (⟨"MethodWarden", "login", "(II)Z"⟩, prog_1_method_5_code, 3, some .boolean, tb_MW_login)
theorem yok_MW_login : yOK Y_MW_login := ⟨by decide +kernel, by decide +kernel, inWG 699 (by decide +kernel) (by decide +kernel), inWG 96 (by decide +kernel) (by decide +kernel), by decide +kernel⟩
theorem ml_MW_97 : mlV "MethodWarden" 97 Y_Ctx_become 2 := ⟨⟨yok_Ctx_become, by decide +kernel, by decide⟩, Or.inl (inWG 715 (by decide +kernel) (by decide +kernel)), inWG 705 (by decide +kernel) (by decide +kernel), inWG 706 (by decide +kernel) (by decide +kernel)⟩
theorem ml_MW_88 : mlV "MethodWarden" 88 Y_Ctx_leave 0 := ⟨⟨yok_Ctx_leave, by decide +kernel, by decide⟩, Or.inl (inWG 700 (by decide +kernel) (by decide +kernel)), inWG 701 (by decide +kernel) (by decide +kernel), inWG 702 (by decide +kernel) (by decide +kernel)⟩
def f_MW_login (a1 : Int32) (a2 : Int32) (M : ax_M) : Option (Int32 × ax_M) :=
  if a1 = ((-1)) then (bnd (f_Ctx_leave  M) (fun q10 M11 => some (1, M11))) else (bnd (f_MW_isUser a1 M) (fun q2 M3 => if q2 = 0 then (some (0, M3)) else (bnd (f_MW_isRoleSet a2 M3) (fun q5 M6 => if q5 = 0 then (some (0, M6)) else (bnd (f_Ctx_become a1 a2 M6) (fun q8 M9 => some (1, M9)))))))
set_option maxHeartbeats 4000000 in
set_option maxRecDepth 100000 in
theorem c_MW_login {l : Launch} {g : ax_G} {a1 : Int32} {a2 : Int32} {M : ax_M} {r : Int32} {M' : ax_M} (h : f_MW_login a1 a2 M = some (r, M')) : Ctr l g true Y_MW_login 3 [vA 2, vI a1, vI a2] M (some (vI r), M') := by
  refine Ctr.ofAW yok_MW_login (Nat.le_of_ble_eq_true rfl) (Or.inl rfl) ?_
  show AW l g true Y_MW_login 3 (some (vI r), M') 0 [(0, vA 2), (1, vI a1), (2, vI a2)] [] M
  unfold f_MW_login at h
  refine A_iload_n 1 rfl rfl rfl ?_
  refine A_iconst (v := (-1)) rfl (by decide) ?_
  refine A_icmp_ne (tgt := 14) rfl (by decide) (fun hc1 => ?_) (fun hc1 => ?_)
  · rw [if_neg hc1] at h
    refine A_iload_n 1 rfl rfl rfl ?_
    obtain ⟨q2, M3, hcq2, h⟩ := bnd_out h
    refine A_callS (as := [vI a1]) (st' := []) (r1 := (some (vI q2), M3)) rfl ml_MW_91 rfl rfl (Nat.le_of_ble_eq_true rfl) (by decide) (c_MW_isUser hcq2) (Or.inl rfl) ?_
    refine A_pc (pc' := 18) rfl ?_
    refine A_stk (st' := [vI q2]) rfl ?_
    refine A_if_eq (tgt := 28) rfl (by decide) (fun hc4 => ?_) (fun hc4 => ?_)
    · rw [if_pos hc4] at h
      refine A_iconst (v := 0) rfl (by decide) ?_
      obtain ⟨rfl, rfl⟩ := leaf h
      exact A_zret rfl rfl (Or.inl rfl)
    · rw [if_neg hc4] at h
      refine A_pc (pc' := 21) rfl ?_
      refine A_iload_n 2 rfl rfl rfl ?_
      obtain ⟨q5, M6, hcq5, h⟩ := bnd_out h
      refine A_callS (as := [vI a2]) (st' := []) (r1 := (some (vI q5), M6)) rfl ml_MW_94 rfl rfl (Nat.le_of_ble_eq_true rfl) (by decide) (c_MW_isRoleSet hcq5) (Or.inl rfl) ?_
      refine A_pc (pc' := 25) rfl ?_
      refine A_stk (st' := [vI q5]) rfl ?_
      refine A_if_ne (tgt := 30) rfl (by decide) (fun hc7 => ?_) (fun hc7 => ?_)
      · rw [if_neg hc7] at h
        refine A_aload_n 0 rfl rfl rfl ?_
        refine A_getL (r := 63) rfl fl_MW_37 rfl (by decide) rfl rfl ?_
        refine A_iload_n 1 rfl rfl rfl ?_
        refine A_iload_n 2 rfl rfl rfl ?_
        obtain ⟨q8, M9, hcq8, h⟩ := bnd_out h
        refine A_callV (ci := 4) (as := [vI a1, vI a2]) (st' := []) (r1 := (none, M9)) rfl ml_MW_97 rfl (by decide) (by decide) (Or.inl rfl) rfl rfl (Nat.le_of_ble_eq_true rfl) (by decide) (c_Ctx_become hcq8) (Or.inl rfl) ?_
        refine A_pc (pc' := 39) rfl ?_
        refine A_stk (st' := []) rfl ?_
        refine A_pc (pc' := 39) rfl ?_
        refine A_iconst (v := 1) rfl (by decide) ?_
        obtain ⟨rfl, rfl⟩ := leaf h
        exact A_zret rfl rfl (Or.inr rfl)
      · rw [if_pos hc7] at h
        refine A_pc (pc' := 28) rfl ?_
        refine A_iconst (v := 0) rfl (by decide) ?_
        obtain ⟨rfl, rfl⟩ := leaf h
        exact A_zret rfl rfl (Or.inl rfl)
  · rw [if_pos hc1] at h
    refine A_pc (pc' := 5) rfl ?_
    refine A_aload_n 0 rfl rfl rfl ?_
    refine A_getL (r := 63) rfl fl_MW_37 rfl (by decide) rfl rfl ?_
    obtain ⟨q10, M11, hcq10, h⟩ := bnd_out h
    refine A_callV (ci := 4) (as := []) (st' := []) (r1 := (none, M11)) rfl ml_MW_88 rfl (by decide) (by decide) (Or.inl rfl) rfl rfl (Nat.le_of_ble_eq_true rfl) (by decide) (c_Ctx_leave hcq10) (Or.inl rfl) ?_
    refine A_pc (pc' := 12) rfl ?_
    refine A_stk (st' := []) rfl ?_
    refine A_iconst (v := 1) rfl (by decide) ?_
    obtain ⟨rfl, rfl⟩ := leaf h
    exact A_zret rfl rfl (Or.inr rfl)
def tb_MW_context : List (Nat × Instr × Nat) := [(0, .aload_n 0, 1), (1, .getfield 37, 3), (4, .invokevirtual 101, 3), (7, .ifCond .eq 7, 3), (10, .iconst (-1), 1), (11, .goto 21, 3), (14, .aload_n 0, 1), (15, .getfield 37, 3), (18, .getfield 105, 3), (21, .ldc 109, 2), (23, .imul, 1), (24, .aload_n 0, 1), (25, .getfield 37, 3), (28, .invokevirtual 110, 3), (31, .iadd, 1), (32, .ireturn, 1)]
def Y_MW_context : ax_Y := (⟨"MethodWarden", "context", "()I"⟩, prog_1_method_6_code, 1, some .int, tb_MW_context)
theorem yok_MW_context : yOK Y_MW_context := ⟨by decide +kernel, by decide +kernel, inWG 719 (by decide +kernel) (by decide +kernel), inWG 96 (by decide +kernel) (by decide +kernel), by decide +kernel⟩
theorem fl_MW_105 : fldOK "MethodWarden" 105 4 2 false := ⟨_, _, _, cls_Ctx, by decide, by decide, rfl, Or.inr ⟨"MethodWarden", inNW 226 (by decide +kernel) (by decide +kernel)⟩⟩
theorem ml_MW_101 : mlV "MethodWarden" 101 Y_Ctx_isNobody 0 := ⟨⟨yok_Ctx_isNobody, by decide +kernel, by decide⟩, Or.inl (inWG 720 (by decide +kernel) (by decide +kernel)), inWG 721 (by decide +kernel) (by decide +kernel), inWG 722 (by decide +kernel) (by decide +kernel)⟩
theorem ml_MW_110 : mlV "MethodWarden" 110 Y_Ctx_reachable 0 := ⟨⟨yok_Ctx_reachable, by decide +kernel, by decide⟩, Or.inl (inWG 725 (by decide +kernel) (by decide +kernel)), inWG 726 (by decide +kernel) (by decide +kernel), inWG 727 (by decide +kernel) (by decide +kernel)⟩
def f_MW_context  (M : ax_M) : Option (Int32 × ax_M) :=
  bnd (f_Ctx_isNobody  M) (fun q1 M2 => if q1 = 0 then (bnd (f_Ctx_reachable  M2) (fun q4 M5 => some (((gI M2 63 2) * 65536) + q4, M5))) else (some ((-1), M2)))
set_option maxHeartbeats 4000000 in
set_option maxRecDepth 100000 in
theorem c_MW_context {l : Launch} {g : ax_G}  {M : ax_M} {r : Int32} {M' : ax_M} (h : f_MW_context  M = some (r, M')) : Ctr l g true Y_MW_context 2 [vA 2] M (some (vI r), M') := by
  refine Ctr.ofAW yok_MW_context (Nat.le_of_ble_eq_true rfl) (Or.inl rfl) ?_
  show AW l g true Y_MW_context 2 (some (vI r), M') 0 [(0, vA 2)] [] M
  unfold f_MW_context at h
  refine A_aload_n 0 rfl rfl rfl ?_
  refine A_getL (r := 63) rfl fl_MW_37 rfl (by decide) rfl rfl ?_
  obtain ⟨q1, M2, hcq1, h⟩ := bnd_out h
  refine A_callV (ci := 4) (as := []) (st' := []) (r1 := (some (vI q1), M2)) rfl ml_MW_101 rfl (by decide) (by decide) (Or.inl rfl) rfl rfl (Nat.le_of_ble_eq_true rfl) (by decide) (c_Ctx_isNobody hcq1) (Or.inl rfl) ?_
  refine A_pc (pc' := 7) rfl ?_
  refine A_stk (st' := [vI q1]) rfl ?_
  refine A_if_eq (tgt := 14) rfl (by decide) (fun hc3 => ?_) (fun hc3 => ?_)
  · rw [if_pos hc3] at h
    refine A_aload_n 0 rfl rfl rfl ?_
    refine A_getL (r := 63) rfl fl_MW_37 rfl (by decide) rfl rfl ?_
    refine A_getI rfl fl_MW_105 rfl (by decide) (Or.inl rfl) ?_
    refine A_ldc (v := 65536) rfl (inWG 724 (by decide +kernel) (by decide +kernel)) ?_
    refine A_imul rfl ?_
    refine A_pc (pc' := 24) rfl ?_
    refine A_aload_n 0 rfl rfl rfl ?_
    refine A_getL (r := 63) rfl fl_MW_37 rfl (by decide) rfl rfl ?_
    obtain ⟨q4, M5, hcq4, h⟩ := bnd_out h
    refine A_callV (ci := 4) (as := []) (st' := [vI ((gI M2 63 2) * 65536)]) (r1 := (some (vI q4), M5)) rfl ml_MW_110 rfl (by decide) (by decide) (Or.inl rfl) rfl rfl (Nat.le_of_ble_eq_true rfl) (by decide) (c_Ctx_reachable hcq4) (Or.inl rfl) ?_
    refine A_pc (pc' := 31) rfl ?_
    refine A_stk (st' := [vI q4, vI ((gI M2 63 2) * 65536)]) rfl ?_
    refine A_iadd rfl ?_
    obtain ⟨rfl, rfl⟩ := leaf h
    exact A_iret rfl rfl
  · rw [if_neg hc3] at h
    refine A_pc (pc' := 10) rfl ?_
    refine A_iconst (v := (-1)) rfl (by decide) ?_
    refine A_goto (tgt := 32) rfl (by decide) ?_
    obtain ⟨rfl, rfl⟩ := leaf h
    exact A_iret rfl rfl
def tb_MW_add : List (Nat × Instr × Nat) := [(0, .aload_n 0, 1), (1, .getfield 44, 3), (4, .iload_n 1, 1), (5, .invokevirtual 114, 3), (8, .ireturn, 1)]
def Y_MW_add : ax_Y := (⟨"MethodWarden", "add", "(I)Z"⟩, prog_1_method_7_code, 2, some .boolean, tb_MW_add)
theorem yok_MW_add : yOK Y_MW_add := ⟨by decide +kernel, by decide +kernel, inWG 732 (by decide +kernel) (by decide +kernel), inWG 96 (by decide +kernel) (by decide +kernel), by decide +kernel⟩
theorem fl_MW_44 : fldOK "MethodWarden" 44 0 5 true := ⟨_, _, _, cls_MW, by decide, by decide, rfl, Or.inl (inWG 420 (by decide +kernel) (by decide +kernel))⟩
theorem ml_MW_114 : mlV "MethodWarden" 114 Y_Items_append 1 := ⟨⟨yok_Items_append, by decide +kernel, by decide⟩, Or.inl (inWG 733 (by decide +kernel) (by decide +kernel)), inWG 734 (by decide +kernel) (by decide +kernel), inWG 735 (by decide +kernel) (by decide +kernel)⟩
def f_MW_add (a1 : Int32) (M : ax_M) : Option (Int32 × ax_M) :=
  bnd (f_Items_append 66 a1 M) (fun q1 M2 => g2 q1 (some (q1, M2)))
set_option maxHeartbeats 4000000 in
set_option maxRecDepth 100000 in
theorem c_MW_add {l : Launch} {g : ax_G} {a1 : Int32} {M : ax_M} {r : Int32} {M' : ax_M} (h : f_MW_add a1 M = some (r, M')) : Ctr l g true Y_MW_add 2 [vA 2, vI a1] M (some (vI r), M') := by
  refine Ctr.ofAW yok_MW_add (Nat.le_of_ble_eq_true rfl) (Or.inl rfl) ?_
  show AW l g true Y_MW_add 2 (some (vI r), M') 0 [(0, vA 2), (1, vI a1)] [] M
  unfold f_MW_add at h
  refine A_aload_n 0 rfl rfl rfl ?_
  refine A_getL (r := 66) rfl fl_MW_44 rfl (by decide) rfl rfl ?_
  refine A_iload_n 1 rfl rfl rfl ?_
  obtain ⟨q1, M2, hcq1, h⟩ := bnd_out h
  refine A_callV (ci := 5) (as := [vI a1]) (st' := []) (r1 := (some (vI q1), M2)) rfl ml_MW_114 rfl (by decide) (by decide) (Or.inl rfl) rfl rfl (Nat.le_of_ble_eq_true rfl) (by decide) (c_Items_append hcq1) (Or.inl rfl) ?_
  refine A_pc (pc' := 8) rfl ?_
  refine A_stk (st' := [vI q1]) rfl ?_
  obtain ⟨hg3, h⟩ := g2_out h
  obtain ⟨rfl, rfl⟩ := leaf h
  exact A_zret rfl rfl hg3
def tb_MW_empty : List (Nat × Instr × Nat) := [(0, .aload_n 0, 1), (1, .getfield 44, 3), (4, .invokevirtual 116, 3), (7, .return_, 1)]
def Y_MW_empty : ax_Y := (⟨"MethodWarden", "empty", "()V"⟩, prog_1_method_8_code, 1, none, tb_MW_empty)
theorem yok_MW_empty : yOK Y_MW_empty := ⟨by decide +kernel, by decide +kernel, inWG 740 (by decide +kernel) (by decide +kernel), inWG 96 (by decide +kernel) (by decide +kernel), by decide +kernel⟩
theorem ml_MW_116 : mlV "MethodWarden" 116 Y_Items_clear 0 := ⟨⟨yok_Items_clear, by decide +kernel, by decide⟩, Or.inl (inWG 741 (by decide +kernel) (by decide +kernel)), inWG 742 (by decide +kernel) (by decide +kernel), inWG 743 (by decide +kernel) (by decide +kernel)⟩
def f_MW_empty  (M : ax_M) : Option (Unit × ax_M) :=
  bnd (f_Items_clear 66 M) (fun q1 M2 => some ((), M2))
set_option maxHeartbeats 4000000 in
set_option maxRecDepth 100000 in
theorem c_MW_empty {l : Launch} {g : ax_G}  {M : ax_M} {r : Unit} {M' : ax_M} (h : f_MW_empty  M = some (r, M')) : Ctr l g true Y_MW_empty 2 [vA 2] M (none, M') := by
  refine Ctr.ofAW yok_MW_empty (Nat.le_of_ble_eq_true rfl) (Or.inl rfl) ?_
  show AW l g true Y_MW_empty 2 (none, M') 0 [(0, vA 2)] [] M
  unfold f_MW_empty at h
  refine A_aload_n 0 rfl rfl rfl ?_
  refine A_getL (r := 66) rfl fl_MW_44 rfl (by decide) rfl rfl ?_
  obtain ⟨q1, M2, hcq1, h⟩ := bnd_out h
  refine A_callV (ci := 5) (as := []) (st' := []) (r1 := (none, M2)) rfl ml_MW_116 rfl (by decide) (by decide) (Or.inl rfl) rfl rfl (Nat.le_of_ble_eq_true rfl) (by decide) (c_Items_clear hcq1) (Or.inl rfl) ?_
  refine A_pc (pc' := 7) rfl ?_
  refine A_stk (st' := []) rfl ?_
  obtain ⟨rfl, rfl⟩ := leaf h
  exact A_vret rfl rfl
def tb_MW_guard : List (Nat × Instr × Nat) := [(0, .iload_n 1, 1), (1, .ifCond .lt 18, 3), (4, .iload_n 1, 1), (5, .bipush 10, 2), (7, .if_icmp .ge 12, 3), (10, .aload_n 0, 1), (11, .iload_n 2, 1), (12, .iload_n 3, 1), (13, .invokevirtual 117, 3), (16, .ifCond .ne 5, 3), (19, .iconst 0, 1), (20, .ireturn, 1), (21, .aload_n 0, 1), (22, .getfield 62, 3), (25, .getfield 120, 3), (28, .iload_n 1, 1), (29, .aaload, 1), (30, .iload_n 2, 1), (31, .iload_n 3, 1), (32, .invokevirtual 124, 3), (35, .ireturn, 1)]
def Y_MW_guard : ax_Y := (⟨"MethodWarden", "guard", "(III)Z"⟩, prog_1_method_9_code, 4, some .boolean, tb_MW_guard)
theorem yok_MW_guard : yOK Y_MW_guard := ⟨by decide +kernel, by decide +kernel, inWG 748 (by decide +kernel) (by decide +kernel), inWG 96 (by decide +kernel) (by decide +kernel), by decide +kernel⟩
theorem fl_MW_62 : fldOK "MethodWarden" 62 0 7 true := ⟨_, _, _, cls_MW, by decide, by decide, rfl, Or.inl (inWG 422 (by decide +kernel) (by decide +kernel))⟩
theorem fl_MW_120 : fldOK "MethodWarden" 120 8 4 true := ⟨_, _, _, cls_Gate, by decide, by decide, rfl, Or.inr ⟨"MethodWarden", inNW 388 (by decide +kernel) (by decide +kernel)⟩⟩
theorem ml_MW_117 : mlV "MethodWarden" 117 Y_MW_isGuard 2 := ⟨⟨yok_MW_isGuard, by decide +kernel, by decide⟩, Or.inl (inWG 749 (by decide +kernel) (by decide +kernel)), inWG 751 (by decide +kernel) (by decide +kernel), inWG 27 (by decide +kernel) (by decide +kernel)⟩
theorem ml_MW_124 : mlV "MethodWarden" 124 Y_Guard_turnInto 2 := ⟨⟨yok_Guard_turnInto, by decide +kernel, by decide⟩, Or.inl (inWG 761 (by decide +kernel) (by decide +kernel)), inWG 762 (by decide +kernel) (by decide +kernel), inWG 763 (by decide +kernel) (by decide +kernel)⟩
def f_MW_guard (a1 : Int32) (a2 : Int32) (a3 : Int32) (M : ax_M) : Option (Int32 × ax_M) :=
  if a1 < 0 then (some (0, M)) else (if 10 ≤ a1 then (some (0, M)) else (bnd (f_MW_isGuard a2 a3 M) (fun q3 M4 => if q3 = 0 then (some (0, M4)) else (gi a1 10 (kM (158 + a1.toNatClampNeg) (fun r7 => bnd (f_Guard_turnInto r7 a2 a3 M4) (fun q8 M9 => g2 q8 (some (q8, M9)))))))))
set_option maxHeartbeats 4000000 in
set_option maxRecDepth 100000 in
theorem c_MW_guard {l : Launch} {g : ax_G} {a1 : Int32} {a2 : Int32} {a3 : Int32} {M : ax_M} {r : Int32} {M' : ax_M} (h : f_MW_guard a1 a2 a3 M = some (r, M')) : Ctr l g true Y_MW_guard 4 [vA 2, vI a1, vI a2, vI a3] M (some (vI r), M') := by
  refine Ctr.ofAW yok_MW_guard (Nat.le_of_ble_eq_true rfl) (Or.inl rfl) ?_
  show AW l g true Y_MW_guard 4 (some (vI r), M') 0 [(0, vA 2), (1, vI a1), (2, vI a2), (3, vI a3)] [] M
  unfold f_MW_guard at h
  refine A_iload_n 1 rfl rfl rfl ?_
  refine A_if_lt (tgt := 19) rfl (by decide) (fun hc1 => ?_) (fun hc1 => ?_)
  · rw [if_pos hc1] at h
    refine A_iconst (v := 0) rfl (by decide) ?_
    obtain ⟨rfl, rfl⟩ := leaf h
    exact A_zret rfl rfl (Or.inl rfl)
  · rw [if_neg hc1] at h
    refine A_pc (pc' := 4) rfl ?_
    refine A_iload_n 1 rfl rfl rfl ?_
    refine A_bipush (v := 10) rfl (by decide) ?_
    refine A_icmp_ge (tgt := 19) rfl (by decide) (fun hc2 => ?_) (fun hc2 => ?_)
    · rw [if_pos hc2] at h
      refine A_iconst (v := 0) rfl (by decide) ?_
      obtain ⟨rfl, rfl⟩ := leaf h
      exact A_zret rfl rfl (Or.inl rfl)
    · rw [if_neg hc2] at h
      refine A_pc (pc' := 10) rfl ?_
      refine A_aload_n 0 rfl rfl rfl ?_
      refine A_iload_n 2 rfl rfl rfl ?_
      refine A_iload_n 3 rfl rfl rfl ?_
      obtain ⟨q3, M4, hcq3, h⟩ := bnd_out h
      refine A_callV (ci := 0) (as := [vI a2, vI a3]) (st' := []) (r1 := (some (vI q3), M4)) rfl ml_MW_117 rfl (by decide) (by decide) (Or.inl rfl) rfl rfl (Nat.le_of_ble_eq_true rfl) (by decide) (c_MW_isGuard hcq3) (Or.inl rfl) ?_
      refine A_pc (pc' := 16) rfl ?_
      refine A_stk (st' := [vI q3]) rfl ?_
      refine A_if_ne (tgt := 21) rfl (by decide) (fun hc5 => ?_) (fun hc5 => ?_)
      · rw [if_neg hc5] at h
        refine A_aload_n 0 rfl rfl rfl ?_
        refine A_getL (r := 135) rfl fl_MW_62 rfl (by decide) rfl rfl ?_
        refine A_getL (r := 137) rfl fl_MW_120 rfl (by decide) rfl rfl ?_
        refine A_iload_n 1 rfl rfl rfl ?_
        obtain ⟨hg6, h⟩ := gi_out h
        refine A_aldL (t := 7) (C := "MethodWarden$Guard") (n := 10) (r := 158 + a1.toNatClampNeg) rfl (by decide) ⟨by decide, by decide, rfl⟩ (by decide) hg6 rfl rfl ?_
        obtain ⟨r7, hr7, h⟩ := kM_out h
        refine A_nA hr7 ?_
        refine A_pc (pc' := 30) rfl ?_
        refine A_iload_n 2 rfl rfl rfl ?_
        refine A_iload_n 3 rfl rfl rfl ?_
        obtain ⟨q8, M9, hcq8, h⟩ := bnd_out h
        refine A_callV (ci := 10) (as := [vI a2, vI a3]) (st' := []) (r1 := (some (vI q8), M9)) rfl ml_MW_124 rfl (by decide) (hr7 ▸ (la_107 _ (vin_lt hg6))) (Or.inl rfl) rfl rfl (Nat.le_of_ble_eq_true rfl) (by decide) (c_Guard_turnInto hcq8) (Or.inl rfl) ?_
        refine A_pc (pc' := 35) rfl ?_
        refine A_stk (st' := [vI q8]) rfl ?_
        obtain ⟨hg10, h⟩ := g2_out h
        obtain ⟨rfl, rfl⟩ := leaf h
        exact A_zret rfl rfl hg10
      · rw [if_pos hc5] at h
        refine A_pc (pc' := 19) rfl ?_
        refine A_iconst (v := 0) rfl (by decide) ?_
        obtain ⟨rfl, rfl⟩ := leaf h
        exact A_zret rfl rfl (Or.inl rfl)
def tb_MW_rules : List (Nat × Instr × Nat) := [(0, .iload_n 1, 1), (1, .invokestatic 129, 3), (4, .ifCond .eq 28, 3), (7, .aload_n 0, 1), (8, .iload_n 2, 1), (9, .invokevirtual 132, 3), (12, .ifCond .eq 20, 3), (15, .aload_n 0, 1), (16, .iload_n 3, 1), (17, .invokevirtual 132, 3), (20, .ifCond .eq 12, 3), (23, .aload_n 0, 1), (24, .iload 4, 2), (26, .invokevirtual 132, 3), (29, .ifCond .ne 5, 3), (32, .iconst 0, 1), (33, .ireturn, 1), (34, .aload_n 0, 1), (35, .getfield 62, 3), (38, .getfield 135, 3), (41, .iload_n 1, 1), (42, .aaload, 1), (43, .iload_n 2, 1), (44, .iload_n 3, 1), (45, .iload 4, 2), (47, .invokevirtual 139, 3), (50, .iconst 1, 1), (51, .ireturn, 1)]
def Y_MW_rules : ax_Y := (⟨"MethodWarden", "rules", "(IIII)Z"⟩, prog_1_method_10_code, 5, some .boolean, tb_MW_rules)
theorem yok_MW_rules : yOK Y_MW_rules := ⟨by decide +kernel, by decide +kernel, inWG 772 (by decide +kernel) (by decide +kernel), inWG 96 (by decide +kernel) (by decide +kernel), by decide +kernel⟩
theorem fl_MW_135 : fldOK "MethodWarden" 135 8 3 true := ⟨_, _, _, cls_Gate, by decide, by decide, rfl, Or.inr ⟨"MethodWarden", inNW 386 (by decide +kernel) (by decide +kernel)⟩⟩
theorem ml_MW_132 : mlV "MethodWarden" 132 Y_MW_isRule 1 := ⟨⟨yok_MW_isRule, by decide +kernel, by decide⟩, Or.inl (inWG 776 (by decide +kernel) (by decide +kernel)), inWG 778 (by decide +kernel) (by decide +kernel), inWG 29 (by decide +kernel) (by decide +kernel)⟩
theorem ml_MW_139 : mlV "MethodWarden" 139 Y_Meth_setRules 3 := ⟨⟨yok_Meth_setRules, by decide +kernel, by decide⟩, Or.inl (inWG 780 (by decide +kernel) (by decide +kernel)), inWG 781 (by decide +kernel) (by decide +kernel), inWG 782 (by decide +kernel) (by decide +kernel)⟩
def f_MW_rules (a1 : Int32) (a2 : Int32) (a3 : Int32) (a4 : Int32) (M : ax_M) : Option (Int32 × ax_M) :=
  bnd (f_MW_isMethod a1 M) (fun q1 M2 => if q1 = 0 then (some (0, M2)) else (bnd (f_MW_isRule a2 M2) (fun q4 M5 => if q4 = 0 then (some (0, M5)) else (bnd (f_MW_isRule a3 M5) (fun q7 M8 => if q7 = 0 then (some (0, M8)) else (bnd (f_MW_isRule a4 M8) (fun q10 M11 => if q10 = 0 then (some (0, M11)) else (gi a1 8 (kM (142 + 2 * a1.toNatClampNeg) (fun r14 => bnd (f_Meth_setRules r14 a2 a3 a4 M11) (fun q15 M16 => some (1, M16))))))))))))
set_option maxHeartbeats 4000000 in
set_option maxRecDepth 100000 in
theorem c_MW_rules {l : Launch} {g : ax_G} {a1 : Int32} {a2 : Int32} {a3 : Int32} {a4 : Int32} {M : ax_M} {r : Int32} {M' : ax_M} (h : f_MW_rules a1 a2 a3 a4 M = some (r, M')) : Ctr l g true Y_MW_rules 4 [vA 2, vI a1, vI a2, vI a3, vI a4] M (some (vI r), M') := by
  refine Ctr.ofAW yok_MW_rules (Nat.le_of_ble_eq_true rfl) (Or.inl rfl) ?_
  show AW l g true Y_MW_rules 4 (some (vI r), M') 0 [(0, vA 2), (1, vI a1), (2, vI a2), (3, vI a3), (4, vI a4)] [] M
  unfold f_MW_rules at h
  refine A_iload_n 1 rfl rfl rfl ?_
  obtain ⟨q1, M2, hcq1, h⟩ := bnd_out h
  refine A_callS (as := [vI a1]) (st' := []) (r1 := (some (vI q1), M2)) rfl ml_MW_129 rfl rfl (Nat.le_of_ble_eq_true rfl) (by decide) (c_MW_isMethod hcq1) (Or.inl rfl) ?_
  refine A_pc (pc' := 4) rfl ?_
  refine A_stk (st' := [vI q1]) rfl ?_
  refine A_if_eq (tgt := 32) rfl (by decide) (fun hc3 => ?_) (fun hc3 => ?_)
  · rw [if_pos hc3] at h
    refine A_iconst (v := 0) rfl (by decide) ?_
    obtain ⟨rfl, rfl⟩ := leaf h
    exact A_zret rfl rfl (Or.inl rfl)
  · rw [if_neg hc3] at h
    refine A_pc (pc' := 7) rfl ?_
    refine A_aload_n 0 rfl rfl rfl ?_
    refine A_iload_n 2 rfl rfl rfl ?_
    obtain ⟨q4, M5, hcq4, h⟩ := bnd_out h
    refine A_callV (ci := 0) (as := [vI a2]) (st' := []) (r1 := (some (vI q4), M5)) rfl ml_MW_132 rfl (by decide) (by decide) (Or.inl rfl) rfl rfl (Nat.le_of_ble_eq_true rfl) (by decide) (c_MW_isRule hcq4) (Or.inl rfl) ?_
    refine A_pc (pc' := 12) rfl ?_
    refine A_stk (st' := [vI q4]) rfl ?_
    refine A_if_eq (tgt := 32) rfl (by decide) (fun hc6 => ?_) (fun hc6 => ?_)
    · rw [if_pos hc6] at h
      refine A_iconst (v := 0) rfl (by decide) ?_
      obtain ⟨rfl, rfl⟩ := leaf h
      exact A_zret rfl rfl (Or.inl rfl)
    · rw [if_neg hc6] at h
      refine A_pc (pc' := 15) rfl ?_
      refine A_aload_n 0 rfl rfl rfl ?_
      refine A_iload_n 3 rfl rfl rfl ?_
      obtain ⟨q7, M8, hcq7, h⟩ := bnd_out h
      refine A_callV (ci := 0) (as := [vI a3]) (st' := []) (r1 := (some (vI q7), M8)) rfl ml_MW_132 rfl (by decide) (by decide) (Or.inl rfl) rfl rfl (Nat.le_of_ble_eq_true rfl) (by decide) (c_MW_isRule hcq7) (Or.inl rfl) ?_
      refine A_pc (pc' := 20) rfl ?_
      refine A_stk (st' := [vI q7]) rfl ?_
      refine A_if_eq (tgt := 32) rfl (by decide) (fun hc9 => ?_) (fun hc9 => ?_)
      · rw [if_pos hc9] at h
        refine A_iconst (v := 0) rfl (by decide) ?_
        obtain ⟨rfl, rfl⟩ := leaf h
        exact A_zret rfl rfl (Or.inl rfl)
      · rw [if_neg hc9] at h
        refine A_pc (pc' := 23) rfl ?_
        refine A_aload_n 0 rfl rfl rfl ?_
        refine A_iload 4 rfl rfl ?_
        obtain ⟨q10, M11, hcq10, h⟩ := bnd_out h
        refine A_callV (ci := 0) (as := [vI a4]) (st' := []) (r1 := (some (vI q10), M11)) rfl ml_MW_132 rfl (by decide) (by decide) (Or.inl rfl) rfl rfl (Nat.le_of_ble_eq_true rfl) (by decide) (c_MW_isRule hcq10) (Or.inl rfl) ?_
        refine A_pc (pc' := 29) rfl ?_
        refine A_stk (st' := [vI q10]) rfl ?_
        refine A_if_ne (tgt := 34) rfl (by decide) (fun hc12 => ?_) (fun hc12 => ?_)
        · rw [if_neg hc12] at h
          refine A_aload_n 0 rfl rfl rfl ?_
          refine A_getL (r := 135) rfl fl_MW_62 rfl (by decide) rfl rfl ?_
          refine A_getL (r := 136) rfl fl_MW_135 rfl (by decide) rfl rfl ?_
          refine A_iload_n 1 rfl rfl rfl ?_
          obtain ⟨hg13, h⟩ := gi_out h
          refine A_aldL (t := 6) (C := "MethodWarden$Method") (n := 8) (r := 142 + 2 * a1.toNatClampNeg) rfl (by decide) ⟨by decide, by decide, rfl⟩ (by decide) hg13 rfl rfl ?_
          obtain ⟨r14, hr14, h⟩ := kM_out h
          refine A_nA hr14 ?_
          refine A_pc (pc' := 43) rfl ?_
          refine A_iload_n 2 rfl rfl rfl ?_
          refine A_iload_n 3 rfl rfl rfl ?_
          refine A_iload 4 rfl rfl ?_
          obtain ⟨q15, M16, hcq15, h⟩ := bnd_out h
          refine A_callV (ci := 9) (as := [vI a2, vI a3, vI a4]) (st' := []) (r1 := (none, M16)) rfl ml_MW_139 rfl (by decide) (hr14 ▸ (la_106 _ (vin_lt hg13))) (Or.inl rfl) rfl rfl (Nat.le_of_ble_eq_true rfl) (by decide) (c_Meth_setRules hcq15) (Or.inl rfl) ?_
          refine A_pc (pc' := 50) rfl ?_
          refine A_stk (st' := []) rfl ?_
          refine A_iconst (v := 1) rfl (by decide) ?_
          obtain ⟨rfl, rfl⟩ := leaf h
          exact A_zret rfl rfl (Or.inr rfl)
        · rw [if_pos hc12] at h
          refine A_pc (pc' := 32) rfl ?_
          refine A_iconst (v := 0) rfl (by decide) ?_
          obtain ⟨rfl, rfl⟩ := leaf h
          exact A_zret rfl rfl (Or.inl rfl)
def tb_MW_target : List (Nat × Instr × Nat) := [(0, .iload_n 1, 1), (1, .invokestatic 129, 3), (4, .ifCond .eq 19, 3), (7, .iload_n 2, 1), (8, .iload_n 3, 1), (9, .invokestatic 145, 3), (12, .ifCond .eq 11, 3), (15, .iload 4, 2), (17, .invokestatic 94, 3), (20, .ifCond .ne 5, 3), (23, .iconst 0, 1), (24, .ireturn, 1), (25, .aload_n 0, 1), (26, .getfield 62, 3), (29, .getfield 135, 3), (32, .iload_n 1, 1), (33, .aaload, 1), (34, .iload_n 2, 1), (35, .iload_n 3, 1), (36, .iload 4, 2), (38, .invokevirtual 148, 3), (41, .iconst 1, 1), (42, .ireturn, 1)]
def Y_MW_target : ax_Y := (⟨"MethodWarden", "target", "(IIII)Z"⟩, prog_1_method_11_code, 5, some .boolean, tb_MW_target)
theorem yok_MW_target : yOK Y_MW_target := ⟨by decide +kernel, by decide +kernel, inWG 787 (by decide +kernel) (by decide +kernel), inWG 96 (by decide +kernel) (by decide +kernel), by decide +kernel⟩
theorem ml_MW_145 : mlS "MethodWarden" 145 Y_MW_isTarget 2 := ⟨⟨yok_MW_isTarget, by decide +kernel, by decide⟩, Or.inl (inWG 788 (by decide +kernel) (by decide +kernel)), inWG 789 (by decide +kernel) (by decide +kernel)⟩
theorem ml_MW_148 : mlV "MethodWarden" 148 Y_Meth_setTarget 3 := ⟨⟨yok_Meth_setTarget, by decide +kernel, by decide⟩, Or.inl (inWG 791 (by decide +kernel) (by decide +kernel)), inWG 792 (by decide +kernel) (by decide +kernel), inWG 793 (by decide +kernel) (by decide +kernel)⟩
def f_MW_target (a1 : Int32) (a2 : Int32) (a3 : Int32) (a4 : Int32) (M : ax_M) : Option (Int32 × ax_M) :=
  bnd (f_MW_isMethod a1 M) (fun q1 M2 => if q1 = 0 then (some (0, M2)) else (bnd (f_MW_isTarget a2 a3 M2) (fun q4 M5 => if q4 = 0 then (some (0, M5)) else (bnd (f_MW_isRoleSet a4 M5) (fun q7 M8 => if q7 = 0 then (some (0, M8)) else (gi a1 8 (kM (142 + 2 * a1.toNatClampNeg) (fun r11 => bnd (f_Meth_setTarget r11 a2 a3 a4 M8) (fun q12 M13 => some (1, M13))))))))))
set_option maxHeartbeats 4000000 in
set_option maxRecDepth 100000 in
theorem c_MW_target {l : Launch} {g : ax_G} {a1 : Int32} {a2 : Int32} {a3 : Int32} {a4 : Int32} {M : ax_M} {r : Int32} {M' : ax_M} (h : f_MW_target a1 a2 a3 a4 M = some (r, M')) : Ctr l g true Y_MW_target 3 [vA 2, vI a1, vI a2, vI a3, vI a4] M (some (vI r), M') := by
  refine Ctr.ofAW yok_MW_target (Nat.le_of_ble_eq_true rfl) (Or.inl rfl) ?_
  show AW l g true Y_MW_target 3 (some (vI r), M') 0 [(0, vA 2), (1, vI a1), (2, vI a2), (3, vI a3), (4, vI a4)] [] M
  unfold f_MW_target at h
  refine A_iload_n 1 rfl rfl rfl ?_
  obtain ⟨q1, M2, hcq1, h⟩ := bnd_out h
  refine A_callS (as := [vI a1]) (st' := []) (r1 := (some (vI q1), M2)) rfl ml_MW_129 rfl rfl (Nat.le_of_ble_eq_true rfl) (by decide) (c_MW_isMethod hcq1) (Or.inl rfl) ?_
  refine A_pc (pc' := 4) rfl ?_
  refine A_stk (st' := [vI q1]) rfl ?_
  refine A_if_eq (tgt := 23) rfl (by decide) (fun hc3 => ?_) (fun hc3 => ?_)
  · rw [if_pos hc3] at h
    refine A_iconst (v := 0) rfl (by decide) ?_
    obtain ⟨rfl, rfl⟩ := leaf h
    exact A_zret rfl rfl (Or.inl rfl)
  · rw [if_neg hc3] at h
    refine A_pc (pc' := 7) rfl ?_
    refine A_iload_n 2 rfl rfl rfl ?_
    refine A_iload_n 3 rfl rfl rfl ?_
    obtain ⟨q4, M5, hcq4, h⟩ := bnd_out h
    refine A_callS (as := [vI a2, vI a3]) (st' := []) (r1 := (some (vI q4), M5)) rfl ml_MW_145 rfl rfl (Nat.le_of_ble_eq_true rfl) (by decide) (c_MW_isTarget hcq4) (Or.inl rfl) ?_
    refine A_pc (pc' := 12) rfl ?_
    refine A_stk (st' := [vI q4]) rfl ?_
    refine A_if_eq (tgt := 23) rfl (by decide) (fun hc6 => ?_) (fun hc6 => ?_)
    · rw [if_pos hc6] at h
      refine A_iconst (v := 0) rfl (by decide) ?_
      obtain ⟨rfl, rfl⟩ := leaf h
      exact A_zret rfl rfl (Or.inl rfl)
    · rw [if_neg hc6] at h
      refine A_pc (pc' := 15) rfl ?_
      refine A_iload 4 rfl rfl ?_
      obtain ⟨q7, M8, hcq7, h⟩ := bnd_out h
      refine A_callS (as := [vI a4]) (st' := []) (r1 := (some (vI q7), M8)) rfl ml_MW_94 rfl rfl (Nat.le_of_ble_eq_true rfl) (by decide) (c_MW_isRoleSet hcq7) (Or.inl rfl) ?_
      refine A_pc (pc' := 20) rfl ?_
      refine A_stk (st' := [vI q7]) rfl ?_
      refine A_if_ne (tgt := 25) rfl (by decide) (fun hc9 => ?_) (fun hc9 => ?_)
      · rw [if_neg hc9] at h
        refine A_aload_n 0 rfl rfl rfl ?_
        refine A_getL (r := 135) rfl fl_MW_62 rfl (by decide) rfl rfl ?_
        refine A_getL (r := 136) rfl fl_MW_135 rfl (by decide) rfl rfl ?_
        refine A_iload_n 1 rfl rfl rfl ?_
        obtain ⟨hg10, h⟩ := gi_out h
        refine A_aldL (t := 6) (C := "MethodWarden$Method") (n := 8) (r := 142 + 2 * a1.toNatClampNeg) rfl (by decide) ⟨by decide, by decide, rfl⟩ (by decide) hg10 rfl rfl ?_
        obtain ⟨r11, hr11, h⟩ := kM_out h
        refine A_nA hr11 ?_
        refine A_pc (pc' := 34) rfl ?_
        refine A_iload_n 2 rfl rfl rfl ?_
        refine A_iload_n 3 rfl rfl rfl ?_
        refine A_iload 4 rfl rfl ?_
        obtain ⟨q12, M13, hcq12, h⟩ := bnd_out h
        refine A_callV (ci := 9) (as := [vI a2, vI a3, vI a4]) (st' := []) (r1 := (none, M13)) rfl ml_MW_148 rfl (by decide) (hr11 ▸ (la_106 _ (vin_lt hg10))) (Or.inl rfl) rfl rfl (Nat.le_of_ble_eq_true rfl) (by decide) (c_Meth_setTarget hcq12) (Or.inl rfl) ?_
        refine A_pc (pc' := 41) rfl ?_
        refine A_stk (st' := []) rfl ?_
        refine A_iconst (v := 1) rfl (by decide) ?_
        obtain ⟨rfl, rfl⟩ := leaf h
        exact A_zret rfl rfl (Or.inr rfl)
      · rw [if_pos hc9] at h
        refine A_pc (pc' := 23) rfl ?_
        refine A_iconst (v := 0) rfl (by decide) ?_
        obtain ⟨rfl, rfl⟩ := leaf h
        exact A_zret rfl rfl (Or.inl rfl)
def tb_MW_call : List (Nat × Instr × Nat) := [(0, .iload_n 1, 1), (1, .invokestatic 129, 3), (4, .ifCond .ne 5, 3), (7, .iconst (-1), 1), (8, .ireturn, 1), (9, .aload_n 0, 1), (10, .getfield 62, 3), (13, .iload_n 2, 1), (14, .lload_n 3, 1), (15, .aload_n 0, 1), (16, .getfield 44, 3), (19, .invokevirtual 151, 3), (22, .aload_n 0, 1), (23, .getfield 62, 3), (26, .iload_n 1, 1), (27, .iconst 0, 1), (28, .invokevirtual 155, 3), (31, .ireturn, 1)]
def Y_MW_call : ax_Y := (⟨"MethodWarden", "call", "(IIJ)I"⟩, prog_1_method_12_code, 5, some .int, tb_MW_call)
theorem yok_MW_call : yOK Y_MW_call := ⟨by decide +kernel, by decide +kernel, inWG 798 (by decide +kernel) (by decide +kernel), inWG 96 (by decide +kernel) (by decide +kernel), by decide +kernel⟩
theorem ml_MW_151 : mlV "MethodWarden" 151 Y_Gate_prepare 3 := ⟨⟨yok_Gate_prepare, by decide +kernel, by decide⟩, Or.inl (inWG 799 (by decide +kernel) (by decide +kernel)), inWG 800 (by decide +kernel) (by decide +kernel), inWG 801 (by decide +kernel) (by decide +kernel)⟩
theorem ml_MW_155 : mlV "MethodWarden" 155 Y_Gate_run 2 := ⟨⟨yok_Gate_run, by decide +kernel, by decide⟩, Or.inr ⟨"MethodWarden", inNW 811 (by decide +kernel) (by decide +kernel)⟩, inWG 813 (by decide +kernel) (by decide +kernel), inWG 30 (by decide +kernel) (by decide +kernel)⟩
def f_MW_call (a1 : Int32) (a2 : Int32) (a3 : Int64) (M : ax_M) : Option (Int32 × ax_M) :=
  bnd (f_MW_isMethod a1 M) (fun q1 M2 => if q1 = 0 then (some ((-1), M2)) else (bnd (f_Gate_prepare a2 a3 66 M2) (fun q4 M5 => bnd (f_Gate_run 9 a1 0 M5) (fun q6 M7 => some (q6, M7)))))
set_option maxHeartbeats 4000000 in
set_option maxRecDepth 100000 in
theorem c_MW_call {l : Launch} {g : ax_G} {a1 : Int32} {a2 : Int32} {a3 : Int64} {M : ax_M} {r : Int32} {M' : ax_M} (h : f_MW_call a1 a2 a3 M = some (r, M')) : Ctr l g true Y_MW_call 138 [vA 2, vI a1, vI a2, vJ a3] M (some (vI r), M') := by
  refine Ctr.ofAW yok_MW_call (Nat.le_of_ble_eq_true rfl) (Or.inl rfl) ?_
  show AW l g true Y_MW_call 138 (some (vI r), M') 0 [(0, vA 2), (1, vI a1), (2, vI a2), (3, vJ a3)] [] M
  unfold f_MW_call at h
  refine A_iload_n 1 rfl rfl rfl ?_
  obtain ⟨q1, M2, hcq1, h⟩ := bnd_out h
  refine A_callS (as := [vI a1]) (st' := []) (r1 := (some (vI q1), M2)) rfl ml_MW_129 rfl rfl (Nat.le_of_ble_eq_true rfl) (by decide) (c_MW_isMethod hcq1) (Or.inl rfl) ?_
  refine A_pc (pc' := 4) rfl ?_
  refine A_stk (st' := [vI q1]) rfl ?_
  refine A_if_ne (tgt := 9) rfl (by decide) (fun hc3 => ?_) (fun hc3 => ?_)
  · rw [if_neg hc3] at h
    refine A_aload_n 0 rfl rfl rfl ?_
    refine A_getL (r := 135) rfl fl_MW_62 rfl (by decide) rfl rfl ?_
    refine A_iload_n 2 rfl rfl rfl ?_
    refine A_lload_n 3 rfl rfl rfl ?_
    refine A_aload_n 0 rfl rfl rfl ?_
    refine A_pc (pc' := 16) rfl ?_
    refine A_getL (r := 66) rfl fl_MW_44 rfl (by decide) rfl rfl ?_
    obtain ⟨q4, M5, hcq4, h⟩ := bnd_out h
    refine A_callV (ci := 8) (as := [vI a2, vJ a3, vA 66]) (st' := []) (r1 := (none, M5)) rfl ml_MW_151 rfl (by decide) (by decide) (Or.inl rfl) rfl rfl (Nat.le_of_ble_eq_true rfl) (by decide) (c_Gate_prepare hcq4) (Or.inl rfl) ?_
    refine A_pc (pc' := 22) rfl ?_
    refine A_stk (st' := []) rfl ?_
    refine A_aload_n 0 rfl rfl rfl ?_
    refine A_getL (r := 135) rfl fl_MW_62 rfl (by decide) rfl rfl ?_
    refine A_iload_n 1 rfl rfl rfl ?_
    refine A_iconst (v := 0) rfl (by decide) ?_
    refine A_pc (pc' := 28) rfl ?_
    obtain ⟨q6, M7, hcq6, h⟩ := bnd_out h
    refine A_callV (ci := 8) (as := [vI a1, vI 0]) (st' := []) (r1 := (some (vI q6), M7)) rfl ml_MW_155 rfl (by decide) (by decide) (Or.inl rfl) rfl rfl (Nat.le_of_ble_eq_true rfl) (by decide) (c_Gate_run 9 hcq6) (Or.inl rfl) ?_
    refine A_pc (pc' := 31) rfl ?_
    refine A_stk (st' := [vI q6]) rfl ?_
    obtain ⟨rfl, rfl⟩ := leaf h
    exact A_iret rfl rfl
  · rw [if_pos hc3] at h
    refine A_pc (pc' := 7) rfl ?_
    refine A_iconst (v := (-1)) rfl (by decide) ?_
    obtain ⟨rfl, rfl⟩ := leaf h
    exact A_iret rfl rfl
def tb_MW_kind : List (Nat × Instr × Nat) := [(0, .aload_n 0, 1), (1, .getfield 62, 3), (4, .invokevirtual 159, 3), (7, .ireturn, 1)]
def Y_MW_kind : ax_Y := (⟨"MethodWarden", "kind", "()I"⟩, prog_1_method_13_code, 1, some .int, tb_MW_kind)
theorem yok_MW_kind : yOK Y_MW_kind := ⟨by decide +kernel, by decide +kernel, inWG 1035 (by decide +kernel) (by decide +kernel), inWG 96 (by decide +kernel) (by decide +kernel), by decide +kernel⟩
theorem ml_MW_159 : mlV "MethodWarden" 159 Y_Gate_latestKind 0 := ⟨⟨yok_Gate_latestKind, by decide +kernel, by decide⟩, Or.inl (inWG 1036 (by decide +kernel) (by decide +kernel)), inWG 1037 (by decide +kernel) (by decide +kernel), inWG 1038 (by decide +kernel) (by decide +kernel)⟩
def f_MW_kind  (M : ax_M) : Option (Int32 × ax_M) :=
  bnd (f_Gate_latestKind  M) (fun q1 M2 => some (q1, M2))
set_option maxHeartbeats 4000000 in
set_option maxRecDepth 100000 in
theorem c_MW_kind {l : Launch} {g : ax_G}  {M : ax_M} {r : Int32} {M' : ax_M} (h : f_MW_kind  M = some (r, M')) : Ctr l g true Y_MW_kind 3 [vA 2] M (some (vI r), M') := by
  refine Ctr.ofAW yok_MW_kind (Nat.le_of_ble_eq_true rfl) (Or.inl rfl) ?_
  show AW l g true Y_MW_kind 3 (some (vI r), M') 0 [(0, vA 2)] [] M
  unfold f_MW_kind at h
  refine A_aload_n 0 rfl rfl rfl ?_
  refine A_getL (r := 135) rfl fl_MW_62 rfl (by decide) rfl rfl ?_
  obtain ⟨q1, M2, hcq1, h⟩ := bnd_out h
  refine A_callV (ci := 8) (as := []) (st' := []) (r1 := (some (vI q1), M2)) rfl ml_MW_159 rfl (by decide) (by decide) (Or.inl rfl) rfl rfl (Nat.le_of_ble_eq_true rfl) (by decide) (c_Gate_latestKind hcq1) (Or.inl rfl) ?_
  refine A_pc (pc' := 7) rfl ?_
  refine A_stk (st' := [vI q1]) rfl ?_
  obtain ⟨rfl, rfl⟩ := leaf h
  exact A_iret rfl rfl
def tb_MW_number : List (Nat × Instr × Nat) := [(0, .aload_n 0, 1), (1, .getfield 62, 3), (4, .invokevirtual 162, 3), (7, .ireturn, 1)]
def Y_MW_number : ax_Y := (⟨"MethodWarden", "number", "()I"⟩, prog_1_method_14_code, 1, some .int, tb_MW_number)
theorem yok_MW_number : yOK Y_MW_number := ⟨by decide +kernel, by decide +kernel, inWG 1043 (by decide +kernel) (by decide +kernel), inWG 96 (by decide +kernel) (by decide +kernel), by decide +kernel⟩
theorem ml_MW_162 : mlV "MethodWarden" 162 Y_Gate_latestNumber 0 := ⟨⟨yok_Gate_latestNumber, by decide +kernel, by decide⟩, Or.inl (inWG 1044 (by decide +kernel) (by decide +kernel)), inWG 1045 (by decide +kernel) (by decide +kernel), inWG 1046 (by decide +kernel) (by decide +kernel)⟩
def f_MW_number  (M : ax_M) : Option (Int32 × ax_M) :=
  bnd (f_Gate_latestNumber  M) (fun q1 M2 => some (q1, M2))
set_option maxHeartbeats 4000000 in
set_option maxRecDepth 100000 in
theorem c_MW_number {l : Launch} {g : ax_G}  {M : ax_M} {r : Int32} {M' : ax_M} (h : f_MW_number  M = some (r, M')) : Ctr l g true Y_MW_number 3 [vA 2] M (some (vI r), M') := by
  refine Ctr.ofAW yok_MW_number (Nat.le_of_ble_eq_true rfl) (Or.inl rfl) ?_
  show AW l g true Y_MW_number 3 (some (vI r), M') 0 [(0, vA 2)] [] M
  unfold f_MW_number at h
  refine A_aload_n 0 rfl rfl rfl ?_
  refine A_getL (r := 135) rfl fl_MW_62 rfl (by decide) rfl rfl ?_
  obtain ⟨q1, M2, hcq1, h⟩ := bnd_out h
  refine A_callV (ci := 8) (as := []) (st' := []) (r1 := (some (vI q1), M2)) rfl ml_MW_162 rfl (by decide) (by decide) (Or.inl rfl) rfl rfl (Nat.le_of_ble_eq_true rfl) (by decide) (c_Gate_latestNumber hcq1) (Or.inl rfl) ?_
  refine A_pc (pc' := 7) rfl ?_
  refine A_stk (st' := [vI q1]) rfl ?_
  obtain ⟨rfl, rfl⟩ := leaf h
  exact A_iret rfl rfl
def tb_MW_itemAt : List (Nat × Instr × Nat) := [(0, .aload_n 0, 1), (1, .getfield 62, 3), (4, .iload_n 1, 1), (5, .invokevirtual 165, 3), (8, .ireturn, 1)]
def Y_MW_itemAt : ax_Y := (⟨"MethodWarden", "itemAt", "(I)I"⟩, prog_1_method_15_code, 2, some .int, tb_MW_itemAt)
theorem yok_MW_itemAt : yOK Y_MW_itemAt := ⟨by decide +kernel, by decide +kernel, inWG 1055 (by decide +kernel) (by decide +kernel), inWG 96 (by decide +kernel) (by decide +kernel), by decide +kernel⟩
theorem ml_MW_165 : mlV "MethodWarden" 165 Y_Gate_latestItem 1 := ⟨⟨yok_Gate_latestItem, by decide +kernel, by decide⟩, Or.inl (inWG 1056 (by decide +kernel) (by decide +kernel)), inWG 1057 (by decide +kernel) (by decide +kernel), inWG 1058 (by decide +kernel) (by decide +kernel)⟩
def f_MW_itemAt (a1 : Int32) (M : ax_M) : Option (Int32 × ax_M) :=
  bnd (f_Gate_latestItem a1 M) (fun q1 M2 => some (q1, M2))
set_option maxHeartbeats 4000000 in
set_option maxRecDepth 100000 in
theorem c_MW_itemAt {l : Launch} {g : ax_G} {a1 : Int32} {M : ax_M} {r : Int32} {M' : ax_M} (h : f_MW_itemAt a1 M = some (r, M')) : Ctr l g true Y_MW_itemAt 3 [vA 2, vI a1] M (some (vI r), M') := by
  refine Ctr.ofAW yok_MW_itemAt (Nat.le_of_ble_eq_true rfl) (Or.inl rfl) ?_
  show AW l g true Y_MW_itemAt 3 (some (vI r), M') 0 [(0, vA 2), (1, vI a1)] [] M
  unfold f_MW_itemAt at h
  refine A_aload_n 0 rfl rfl rfl ?_
  refine A_getL (r := 135) rfl fl_MW_62 rfl (by decide) rfl rfl ?_
  refine A_iload_n 1 rfl rfl rfl ?_
  obtain ⟨q1, M2, hcq1, h⟩ := bnd_out h
  refine A_callV (ci := 8) (as := [vI a1]) (st' := []) (r1 := (some (vI q1), M2)) rfl ml_MW_165 rfl (by decide) (by decide) (Or.inl rfl) rfl rfl (Nat.le_of_ble_eq_true rfl) (by decide) (c_Gate_latestItem hcq1) (Or.inl rfl) ?_
  refine A_pc (pc' := 8) rfl ?_
  refine A_stk (st' := [vI q1]) rfl ?_
  obtain ⟨rfl, rfl⟩ := leaf h
  exact A_iret rfl rfl
def tb_MW_count : List (Nat × Instr × Nat) := [(0, .iload_n 1, 1), (1, .invokestatic 129, 3), (4, .ifCond .eq 19, 3), (7, .aload_n 0, 1), (8, .getfield 62, 3), (11, .getfield 135, 3), (14, .iload_n 1, 1), (15, .aaload, 1), (16, .iload_n 2, 1), (17, .invokevirtual 169, 3), (20, .goto 4, 3), (23, .iconst 0, 1), (24, .ireturn, 1)]
def Y_MW_count : ax_Y := (⟨"MethodWarden", "count", "(II)I"⟩, prog_1_method_16_code, 3, some .int, tb_MW_count)
theorem yok_MW_count : yOK Y_MW_count := ⟨by decide +kernel, by decide +kernel, inWG 1064 (by decide +kernel) (by decide +kernel), inWG 96 (by decide +kernel) (by decide +kernel), by decide +kernel⟩
theorem ml_MW_169 : mlV "MethodWarden" 169 Y_Meth_timesOf 1 := ⟨⟨yok_Meth_timesOf, by decide +kernel, by decide⟩, Or.inl (inWG 1065 (by decide +kernel) (by decide +kernel)), inWG 1066 (by decide +kernel) (by decide +kernel), inWG 1067 (by decide +kernel) (by decide +kernel)⟩
def f_MW_count (a1 : Int32) (a2 : Int32) (M : ax_M) : Option (Int32 × ax_M) :=
  bnd (f_MW_isMethod a1 M) (fun q1 M2 => if q1 = 0 then (some (0, M2)) else (gi a1 8 (kM (142 + 2 * a1.toNatClampNeg) (fun r5 => bnd (f_Meth_timesOf r5 a2 M2) (fun q6 M7 => some (q6, M7))))))
set_option maxHeartbeats 4000000 in
set_option maxRecDepth 100000 in
theorem c_MW_count {l : Launch} {g : ax_G} {a1 : Int32} {a2 : Int32} {M : ax_M} {r : Int32} {M' : ax_M} (h : f_MW_count a1 a2 M = some (r, M')) : Ctr l g true Y_MW_count 2 [vA 2, vI a1, vI a2] M (some (vI r), M') := by
  refine Ctr.ofAW yok_MW_count (Nat.le_of_ble_eq_true rfl) (Or.inl rfl) ?_
  show AW l g true Y_MW_count 2 (some (vI r), M') 0 [(0, vA 2), (1, vI a1), (2, vI a2)] [] M
  unfold f_MW_count at h
  refine A_iload_n 1 rfl rfl rfl ?_
  obtain ⟨q1, M2, hcq1, h⟩ := bnd_out h
  refine A_callS (as := [vI a1]) (st' := []) (r1 := (some (vI q1), M2)) rfl ml_MW_129 rfl rfl (Nat.le_of_ble_eq_true rfl) (by decide) (c_MW_isMethod hcq1) (Or.inl rfl) ?_
  refine A_pc (pc' := 4) rfl ?_
  refine A_stk (st' := [vI q1]) rfl ?_
  refine A_if_eq (tgt := 23) rfl (by decide) (fun hc3 => ?_) (fun hc3 => ?_)
  · rw [if_pos hc3] at h
    refine A_iconst (v := 0) rfl (by decide) ?_
    obtain ⟨rfl, rfl⟩ := leaf h
    exact A_iret rfl rfl
  · rw [if_neg hc3] at h
    refine A_pc (pc' := 7) rfl ?_
    refine A_aload_n 0 rfl rfl rfl ?_
    refine A_getL (r := 135) rfl fl_MW_62 rfl (by decide) rfl rfl ?_
    refine A_getL (r := 136) rfl fl_MW_135 rfl (by decide) rfl rfl ?_
    refine A_iload_n 1 rfl rfl rfl ?_
    obtain ⟨hg4, h⟩ := gi_out h
    refine A_aldL (t := 6) (C := "MethodWarden$Method") (n := 8) (r := 142 + 2 * a1.toNatClampNeg) rfl (by decide) ⟨by decide, by decide, rfl⟩ (by decide) hg4 rfl rfl ?_
    obtain ⟨r5, hr5, h⟩ := kM_out h
    refine A_nA hr5 ?_
    refine A_pc (pc' := 16) rfl ?_
    refine A_iload_n 2 rfl rfl rfl ?_
    obtain ⟨q6, M7, hcq6, h⟩ := bnd_out h
    refine A_callV (ci := 9) (as := [vI a2]) (st' := []) (r1 := (some (vI q6), M7)) rfl ml_MW_169 rfl (by decide) (hr5 ▸ (la_106 _ (vin_lt hg4))) (Or.inl rfl) rfl rfl (Nat.le_of_ble_eq_true rfl) (by decide) (c_Meth_timesOf hcq6) (Or.inl rfl) ?_
    refine A_pc (pc' := 20) rfl ?_
    refine A_stk (st' := [vI q6]) rfl ?_
    refine A_goto (tgt := 24) rfl (by decide) ?_
    obtain ⟨rfl, rfl⟩ := leaf h
    exact A_iret rfl rfl
def tb_MW_ask : List (Nat × Instr × Nat) := [(0, .aload_n 0, 1), (1, .iload_n 1, 1), (2, .invokevirtual 172, 3), (5, .ifCond .ne 6, 3), (8, .bipush (-2), 2), (10, .ireturn, 1), (11, .aload_n 0, 1), (12, .getfield 53, 3), (15, .iload_n 2, 1), (16, .lload_n 3, 1), (17, .invokevirtual 175, 3), (20, .aload_n 0, 1), (21, .getfield 53, 3), (24, .aload_n 0, 1), (25, .getfield 44, 3), (28, .aconst_null, 1), (29, .invokevirtual 179, 3), (32, .aload_n 0, 1), (33, .getfield 53, 3), (36, .aload_n 0, 1), (37, .getfield 25, 3), (40, .iload_n 1, 1), (41, .aaload, 1), (42, .invokevirtual 183, 3), (45, .astore 5, 2), (47, .aload_n 0, 1), (48, .aload 5, 2), (50, .invokevirtual 187, 3), (53, .putfield 193, 3), (56, .aload 5, 2), (58, .getfield 197, 3), (61, .ireturn, 1)]
def Y_MW_ask : ax_Y := (⟨"MethodWarden", "ask", "(IIJ)I"⟩, prog_1_method_17_code, 6, some .int, tb_MW_ask)
theorem yok_MW_ask : yOK Y_MW_ask := ⟨by decide +kernel, by decide +kernel, inWG 1072 (by decide +kernel) (by decide +kernel), inWG 96 (by decide +kernel) (by decide +kernel), by decide +kernel⟩
theorem fl_MW_53 : fldOK "MethodWarden" 53 0 6 true := ⟨_, _, _, cls_MW, by decide, by decide, rfl, Or.inl (inWG 421 (by decide +kernel) (by decide +kernel))⟩
theorem fl_MW_193 : fldOK "MethodWarden" 193 0 8 false := ⟨_, _, _, cls_MW, by decide, by decide, rfl, Or.inl (inWG 423 (by decide +kernel) (by decide +kernel))⟩
theorem fl_MW_197 : fldOK "MethodWarden" 197 7 0 false := ⟨_, _, _, cls_Val, by decide, by decide, rfl, Or.inr ⟨"MethodWarden", inNW 271 (by decide +kernel) (by decide +kernel)⟩⟩
theorem ml_MW_175 : mlV "MethodWarden" 175 Y_Worker_setArguments 2 := ⟨⟨yok_Worker_setArguments, by decide +kernel, by decide⟩, Or.inl (inWG 1073 (by decide +kernel) (by decide +kernel)), inWG 804 (by decide +kernel) (by decide +kernel), inWG 805 (by decide +kernel) (by decide +kernel)⟩
theorem ml_MW_179 : mlV "MethodWarden" 179 Y_Worker_setLists 2 := ⟨⟨yok_Worker_setLists, by decide +kernel, by decide⟩, Or.inl (inWG 1074 (by decide +kernel) (by decide +kernel)), inWG 834 (by decide +kernel) (by decide +kernel), inWG 835 (by decide +kernel) (by decide +kernel)⟩
theorem ml_MW_183 : mlV "MethodWarden" 183 Y_Worker_workOut 1 := ⟨⟨yok_Worker_workOut, by decide +kernel, by decide⟩, Or.inl (inWG 1075 (by decide +kernel) (by decide +kernel)), inWG 985 (by decide +kernel) (by decide +kernel), inWG 986 (by decide +kernel) (by decide +kernel)⟩
theorem ml_MW_187 : mlV "MethodWarden" 187 Y_Val_asLong 0 := ⟨⟨yok_Val_asLong, by decide +kernel, by decide⟩, Or.inl (inWG 1076 (by decide +kernel) (by decide +kernel)), inWG 1049 (by decide +kernel) (by decide +kernel), inWG 1050 (by decide +kernel) (by decide +kernel)⟩
def f_MW_ask (a1 : Int32) (a2 : Int32) (a3 : Int64) (M : ax_M) : Option (Int32 × ax_M) :=
  bnd (f_MW_hasExpression a1 M) (fun q1 M2 => if q1 = 0 then (some ((-2), M2)) else (bnd (f_Worker_setArguments a2 a3 M2) (fun q4 M5 => bnd (f_Worker_setLists 66 0 M5) (fun q6 M7 => gi a1 8 (kM (gA M7 8 a1.toNatClampNeg) (fun r9 => bnd (f_Worker_workOut r9 M7) (fun q10 M11 => gk q10 7 (bnd (f_Val_asLong q10 M11) (fun q13 M14 => kM (mJ M14 2 8 q13) (fun M15 => some (gI M15 q10 0, M15)))))))))))
set_option maxHeartbeats 4000000 in
set_option maxRecDepth 100000 in
theorem c_MW_ask {l : Launch} {g : ax_G} {a1 : Int32} {a2 : Int32} {a3 : Int64} {M : ax_M} {r : Int32} {M' : ax_M} (h : f_MW_ask a1 a2 a3 M = some (r, M')) : Ctr l g true Y_MW_ask 96 [vA 2, vI a1, vI a2, vJ a3] M (some (vI r), M') := by
  refine Ctr.ofAW yok_MW_ask (Nat.le_of_ble_eq_true rfl) (Or.inl rfl) ?_
  show AW l g true Y_MW_ask 96 (some (vI r), M') 0 [(0, vA 2), (1, vI a1), (2, vI a2), (3, vJ a3)] [] M
  unfold f_MW_ask at h
  refine A_aload_n 0 rfl rfl rfl ?_
  refine A_iload_n 1 rfl rfl rfl ?_
  obtain ⟨q1, M2, hcq1, h⟩ := bnd_out h
  refine A_callV (ci := 0) (as := [vI a1]) (st' := []) (r1 := (some (vI q1), M2)) rfl ml_MW_172 rfl (by decide) (by decide) (Or.inl rfl) rfl rfl (Nat.le_of_ble_eq_true rfl) (by decide) (c_MW_hasExpression hcq1) (Or.inl rfl) ?_
  refine A_pc (pc' := 5) rfl ?_
  refine A_stk (st' := [vI q1]) rfl ?_
  refine A_if_ne (tgt := 11) rfl (by decide) (fun hc3 => ?_) (fun hc3 => ?_)
  · rw [if_neg hc3] at h
    refine A_aload_n 0 rfl rfl rfl ?_
    refine A_getL (r := 68) rfl fl_MW_53 rfl (by decide) rfl rfl ?_
    refine A_iload_n 2 rfl rfl rfl ?_
    refine A_lload_n 3 rfl rfl rfl ?_
    obtain ⟨q4, M5, hcq4, h⟩ := bnd_out h
    refine A_callV (ci := 6) (as := [vI a2, vJ a3]) (st' := []) (r1 := (none, M5)) rfl ml_MW_175 rfl (by decide) (by decide) (Or.inl rfl) rfl rfl (Nat.le_of_ble_eq_true rfl) (by decide) (c_Worker_setArguments hcq4) (Or.inl rfl) ?_
    refine A_pc (pc' := 20) rfl ?_
    refine A_stk (st' := []) rfl ?_
    refine A_pc (pc' := 20) rfl ?_
    refine A_aload_n 0 rfl rfl rfl ?_
    refine A_getL (r := 68) rfl fl_MW_53 rfl (by decide) rfl rfl ?_
    refine A_aload_n 0 rfl rfl rfl ?_
    refine A_getL (r := 66) rfl fl_MW_44 rfl (by decide) rfl rfl ?_
    refine A_null rfl ?_
    obtain ⟨q6, M7, hcq6, h⟩ := bnd_out h
    refine A_callV (ci := 6) (as := [vA 66, vA 0]) (st' := []) (r1 := (none, M7)) rfl ml_MW_179 rfl (by decide) (by decide) (Or.inl rfl) rfl rfl (Nat.le_of_ble_eq_true rfl) (by decide) (c_Worker_setLists hcq6) (Or.inl rfl) ?_
    refine A_pc (pc' := 32) rfl ?_
    refine A_stk (st' := []) rfl ?_
    refine A_pc (pc' := 32) rfl ?_
    refine A_aload_n 0 rfl rfl rfl ?_
    refine A_getL (r := 68) rfl fl_MW_53 rfl (by decide) rfl rfl ?_
    refine A_aload_n 0 rfl rfl rfl ?_
    refine A_getL (r := 8) rfl fl_MW_25 rfl (by decide) rfl rfl ?_
    refine A_iload_n 1 rfl rfl rfl ?_
    obtain ⟨hg8, h⟩ := gi_out h
    refine A_aald (t := 4) (C := "MethodWarden$Expression") (n := 8) rfl (by decide) ⟨by decide, by decide, rfl⟩ (by decide) (Or.inl rfl) hg8 ?_
    obtain ⟨r9, hr9, h⟩ := kM_out h
    refine A_nA hr9 ?_
    refine A_pc (pc' := 42) rfl ?_
    obtain ⟨q10, M11, hcq10, h⟩ := bnd_out h
    refine A_callV (ci := 6) (as := [vA r9]) (st' := []) (r1 := (some (vA q10), M11)) rfl ml_MW_183 rfl (by decide) (by decide) (Or.inl rfl) rfl rfl (Nat.le_of_ble_eq_true rfl) (by decide) (c_Worker_workOut hcq10) (Or.inl rfl) ?_
    refine A_pc (pc' := 45) rfl ?_
    refine A_stk (st' := [vA q10]) rfl ?_
    refine A_astore (Ls' := [(5, vA q10), (0, vA 2), (1, vI a1), (2, vI a2), (3, vJ a3)]) rfl (by decide) rfl ?_
    refine A_aload_n 1 rfl rfl rfl ?_
    refine A_aload 0 rfl rfl ?_
    obtain ⟨hg12, h⟩ := gk_out h
    obtain ⟨q13, M14, hcq13, h⟩ := bnd_out h
    refine A_callV (ci := 7) (as := []) (st' := [vA 2]) (r1 := (some (vJ q13), M14)) rfl ml_MW_187 rfl (by decide) hg12 (Or.inl rfl) rfl rfl (Nat.le_of_ble_eq_true rfl) (by decide) (c_Val_asLong hcq13) (Or.inl rfl) ?_
    refine A_pc (pc' := 53) rfl ?_
    refine A_stk (st' := [vJ q13, vA 2]) rfl ?_
    refine A_putJ rfl (Or.inl fl_MW_193) rfl (by decide) (Or.inl rfl) rfl ?_
    obtain ⟨M15, hM15, h⟩ := kM_out h
    refine A_mem hM15 ?_
    refine A_pc (pc' := 56) rfl ?_
    refine A_aload 0 rfl rfl ?_
    refine A_getI rfl fl_MW_197 rfl hg12 (Or.inl rfl) ?_
    obtain ⟨rfl, rfl⟩ := leaf h
    exact A_iret rfl rfl
  · rw [if_pos hc3] at h
    refine A_pc (pc' := 8) rfl ?_
    refine A_bipush (v := (-2)) rfl (by decide) ?_
    obtain ⟨rfl, rfl⟩ := leaf h
    exact A_iret rfl rfl
def tb_MW_asked : List (Nat × Instr × Nat) := [(0, .aload_n 0, 1), (1, .getfield 193, 3), (4, .lreturn, 1)]
def Y_MW_asked : ax_Y := (⟨"MethodWarden", "asked", "()J"⟩, prog_1_method_18_code, 1, some .long, tb_MW_asked)
theorem yok_MW_asked : yOK Y_MW_asked := ⟨by decide +kernel, by decide +kernel, inWG 1080 (by decide +kernel) (by decide +kernel), inWG 96 (by decide +kernel) (by decide +kernel), by decide +kernel⟩
def f_MW_asked  (M : ax_M) : Option (Int64 × ax_M) :=
  some (gJ M 2 8, M)
set_option maxHeartbeats 4000000 in
set_option maxRecDepth 100000 in
theorem c_MW_asked {l : Launch} {g : ax_G}  {M : ax_M} {r : Int64} {M' : ax_M} (h : f_MW_asked  M = some (r, M')) : Ctr l g true Y_MW_asked 1 [vA 2] M (some (vJ r), M') := by
  refine Ctr.ofAW yok_MW_asked (Nat.le_of_ble_eq_true rfl) (Or.inl rfl) ?_
  show AW l g true Y_MW_asked 1 (some (vJ r), M') 0 [(0, vA 2)] [] M
  unfold f_MW_asked at h
  refine A_aload_n 0 rfl rfl rfl ?_
  refine A_getJ rfl fl_MW_193 rfl (by decide) (Or.inl rfl) ?_
  obtain ⟨rfl, rfl⟩ := leaf h
  exact A_lret rfl rfl
