/-! The reference: working out. Printed by gen_methods.py. -/
def tb_Mod_push : List (Nat × Instr × Nat) := [(0, .aload_n 0, 1), (1, .getfield 66, 3), (4, .aload_n 0, 1), (5, .getfield 223, 3), (8, .iload_n 1, 1), (9, .iastore, 1), (10, .aload_n 0, 1), (11, .getfield 69, 3), (14, .aload_n 0, 1), (15, .getfield 223, 3), (18, .lload_n 2, 1), (19, .lastore, 1), (20, .aload_n 0, 1), (21, .dup, 1), (22, .getfield 223, 3), (25, .iconst 1, 1), (26, .iadd, 1), (27, .putfield 223, 3), (30, .return_, 1)]
def Y_Mod_push : ax_Y := (⟨"MethodWardenModel", "push", "(IJ)V"⟩, prog_14_method_29_code, 4, none, tb_Mod_push)
theorem yok_Mod_push : yOK Y_Mod_push := ⟨by decide +kernel, by decide +kernel, inWG 1424 (by decide +kernel) (by decide +kernel), inWG 107 (by decide +kernel) (by decide +kernel), by decide +kernel⟩
theorem fl_Mod_66 : fldOK "MethodWardenModel" 66 11 26 false := ⟨_, _, _, cls_Mod, by decide, by decide, rfl, Or.inl (inWG 1113 (by decide +kernel) (by decide +kernel))⟩
theorem fl_Mod_223 : fldOK "MethodWardenModel" 223 11 29 false := ⟨_, _, _, cls_Mod, by decide, by decide, rfl, Or.inl (inWG 1116 (by decide +kernel) (by decide +kernel))⟩
theorem fl_Mod_69 : fldOK "MethodWardenModel" 69 11 27 false := ⟨_, _, _, cls_Mod, by decide, by decide, rfl, Or.inl (inWG 1114 (by decide +kernel) (by decide +kernel))⟩
def f_Mod_push (a1 : Int32) (a2 : Int64) (M : ax_M) : Option (Unit × ax_M) :=
  gi (gI M 184 29) 48 (kM (mI M 202 (gI M 184 29).toNatClampNeg a1) (fun M2 => gi (gI M2 184 29) 48 (kM (mJ M2 203 (gI M2 184 29).toNatClampNeg a2) (fun M4 => kM (mI M4 184 29 ((gI M4 184 29) + 1)) (fun M5 => some ((), M5))))))
set_option maxHeartbeats 4000000 in
set_option maxRecDepth 100000 in
theorem c_Mod_push {l : Launch} {g : ax_G} {a1 : Int32} {a2 : Int64} {M : ax_M} {r : Unit} {M' : ax_M} (h : f_Mod_push a1 a2 M = some (r, M')) : Ctr l g true Y_Mod_push 1 [vA 184, vI a1, vJ a2] M (none, M') := by
  refine Ctr.ofAW yok_Mod_push (Nat.le_of_ble_eq_true rfl) (Or.inl rfl) ?_
  show AW l g true Y_Mod_push 1 (none, M') 0 [(0, vA 184), (1, vI a1), (2, vJ a2)] [] M
  unfold f_Mod_push at h
  refine A_aload_n 0 rfl rfl rfl ?_
  refine A_getL (r := 202) rfl fl_Mod_66 rfl (by decide) rfl rfl ?_
  refine A_aload_n 0 rfl rfl rfl ?_
  refine A_getI rfl fl_Mod_223 rfl (by decide) (Or.inl rfl) ?_
  refine A_iload_n 1 rfl rfl rfl ?_
  refine A_pc (pc' := 9) rfl ?_
  obtain ⟨hg1, h⟩ := gi_out h
  refine A_iast (n := 48) rfl (by decide) (by decide) (Or.inl rfl) hg1 ?_
  obtain ⟨M2, hM2, h⟩ := kM_out h
  refine A_mem hM2 ?_
  refine A_aload_n 0 rfl rfl rfl ?_
  refine A_getL (r := 203) rfl fl_Mod_69 rfl (by decide) rfl rfl ?_
  refine A_aload_n 0 rfl rfl rfl ?_
  refine A_getI rfl fl_Mod_223 rfl (by decide) (Or.inl rfl) ?_
  refine A_lload_n 2 rfl rfl rfl ?_
  refine A_pc (pc' := 19) rfl ?_
  obtain ⟨hg3, h⟩ := gi_out h
  refine A_last (n := 48) rfl (by decide) (by decide) (Or.inl rfl) hg3 ?_
  obtain ⟨M4, hM4, h⟩ := kM_out h
  refine A_mem hM4 ?_
  refine A_aload_n 0 rfl rfl rfl ?_
  refine A_dup rfl rfl ?_
  refine A_getI rfl fl_Mod_223 rfl (by decide) (Or.inl rfl) ?_
  refine A_iconst (v := 1) rfl (by decide) ?_
  refine A_iadd rfl ?_
  refine A_pc (pc' := 27) rfl ?_
  refine A_putI rfl (Or.inl fl_Mod_223) rfl (by decide) (Or.inl rfl) rfl ?_
  obtain ⟨M5, hM5, h⟩ := kM_out h
  refine A_mem hM5 ?_
  obtain ⟨rfl, rfl⟩ := leaf h
  exact A_vret rfl rfl
def tb_Mod_pushTruth : List (Nat × Instr × Nat) := [(0, .aload_n 0, 1), (1, .iconst 1, 1), (2, .iload_n 1, 1), (3, .ifCond .eq 7, 3), (6, .lconst 1, 1), (7, .goto 4, 3), (10, .lconst 0, 1), (11, .invokevirtual 226, 3), (14, .return_, 1)]
def Y_Mod_pushTruth : ax_Y := (⟨"MethodWardenModel", "pushTruth", "(Z)V"⟩, prog_14_method_30_code, 2, none, tb_Mod_pushTruth)
theorem yok_Mod_pushTruth : yOK Y_Mod_pushTruth := ⟨by decide +kernel, by decide +kernel, inWG 1440 (by decide +kernel) (by decide +kernel), inWG 107 (by decide +kernel) (by decide +kernel), by decide +kernel⟩
theorem ml_Mod_226 : mlV "MethodWardenModel" 226 Y_Mod_push 2 := ⟨⟨yok_Mod_push, by decide +kernel, by decide⟩, Or.inl (inWG 1421 (by decide +kernel) (by decide +kernel)), inWG 1423 (by decide +kernel) (by decide +kernel), inWG 77 (by decide +kernel) (by decide +kernel)⟩
def f_Mod_pushTruth (a1 : Int32) (M : ax_M) : Option (Unit × ax_M) :=
  if a1 = 0 then (bnd (f_Mod_push 1 0 M) (fun q2 M3 => some ((), M3))) else (bnd (f_Mod_push 1 1 M) (fun q4 M5 => some ((), M5)))
set_option maxHeartbeats 4000000 in
set_option maxRecDepth 100000 in
theorem c_Mod_pushTruth {l : Launch} {g : ax_G} {a1 : Int32} {M : ax_M} {r : Unit} {M' : ax_M} (h : f_Mod_pushTruth a1 M = some (r, M')) : Ctr l g true Y_Mod_pushTruth 2 [vA 184, vI a1] M (none, M') := by
  refine Ctr.ofAW yok_Mod_pushTruth (Nat.le_of_ble_eq_true rfl) (Or.inl rfl) ?_
  show AW l g true Y_Mod_pushTruth 2 (none, M') 0 [(0, vA 184), (1, vI a1)] [] M
  unfold f_Mod_pushTruth at h
  refine A_aload_n 0 rfl rfl rfl ?_
  refine A_iconst (v := 1) rfl (by decide) ?_
  refine A_iload_n 1 rfl rfl rfl ?_
  refine A_if_eq (tgt := 10) rfl (by decide) (fun hc1 => ?_) (fun hc1 => ?_)
  · rw [if_pos hc1] at h
    refine A_lconst (v := 0) rfl (by decide) ?_
    obtain ⟨q2, M3, hcq2, h⟩ := bnd_out h
    refine A_callV (ci := 11) (as := [vI 1, vJ 0]) (st' := []) (r1 := (none, M3)) rfl ml_Mod_226 rfl (by decide) (by decide) (Or.inl rfl) rfl rfl (Nat.le_of_ble_eq_true rfl) (by decide) (c_Mod_push hcq2) (Or.inl rfl) ?_
    refine A_pc (pc' := 14) rfl ?_
    refine A_stk (st' := []) rfl ?_
    obtain ⟨rfl, rfl⟩ := leaf h
    exact A_vret rfl rfl
  · rw [if_neg hc1] at h
    refine A_pc (pc' := 6) rfl ?_
    refine A_lconst (v := 1) rfl (by decide) ?_
    refine A_goto (tgt := 11) rfl (by decide) ?_
    obtain ⟨q4, M5, hcq4, h⟩ := bnd_out h
    refine A_callV (ci := 11) (as := [vI 1, vJ 1]) (st' := []) (r1 := (none, M5)) rfl ml_Mod_226 rfl (by decide) (by decide) (Or.inl rfl) rfl rfl (Nat.le_of_ble_eq_true rfl) (by decide) (c_Mod_push hcq4) (Or.inl rfl) ?_
    refine A_pc (pc' := 14) rfl ?_
    refine A_stk (st' := []) rfl ?_
    obtain ⟨rfl, rfl⟩ := leaf h
    exact A_vret rfl rfl
def tb_Mod_pushItems : List (Nat × Instr × Nat) := [(0, .iconst 0, 1), (1, .istore_n 3, 1), (2, .iload_n 3, 1), (3, .iload_n 2, 1), (4, .if_icmp .ge 64, 3), (7, .aload_n 0, 1), (8, .getfield 72, 3), (11, .iconst 5, 1), (12, .aload_n 0, 1), (13, .getfield 223, 3), (16, .imul, 1), (17, .iload_n 3, 1), (18, .iadd, 1), (19, .iload_n 1, 1), (20, .ifCond .ne 12, 3), (23, .aload_n 0, 1), (24, .getfield 97, 3), (27, .iload_n 3, 1), (28, .iaload, 1), (29, .goto 32, 3), (32, .iload_n 1, 1), (33, .iconst 1, 1), (34, .if_icmp .ne 12, 3), (37, .aload_n 0, 1), (38, .getfield 103, 3), (41, .iload_n 3, 1), (42, .iaload, 1), (43, .goto 18, 3), (46, .aload_n 0, 1), (47, .getfield 84, 3), (50, .iconst 5, 1), (51, .aload_n 0, 1), (52, .getfield 229, 3), (55, .iconst 1, 1), (56, .isub, 1), (57, .imul, 1), (58, .iload_n 3, 1), (59, .iadd, 1), (60, .iaload, 1), (61, .iastore, 1), (62, .iinc 3 1, 3), (65, .goto (-63), 3), (68, .aload_n 0, 1), (69, .iconst 4, 1), (70, .iload_n 2, 1), (71, .i2l, 1), (72, .invokevirtual 226, 3), (75, .return_, 1)]
def Y_Mod_pushItems : ax_Y := (⟨"MethodWardenModel", "pushItems", "(II)V"⟩, prog_14_method_31_code, 4, none, tb_Mod_pushItems)
theorem yok_Mod_pushItems : yOK Y_Mod_pushItems := ⟨by decide +kernel, by decide +kernel, inWG 1432 (by decide +kernel) (by decide +kernel), inWG 107 (by decide +kernel) (by decide +kernel), by decide +kernel⟩
theorem fl_Mod_72 : fldOK "MethodWardenModel" 72 11 28 false := ⟨_, _, _, cls_Mod, by decide, by decide, rfl, Or.inl (inWG 1115 (by decide +kernel) (by decide +kernel))⟩
theorem fl_Mod_84 : fldOK "MethodWardenModel" 84 11 33 false := ⟨_, _, _, cls_Mod, by decide, by decide, rfl, Or.inl (inWG 1120 (by decide +kernel) (by decide +kernel))⟩
theorem fl_Mod_229 : fldOK "MethodWardenModel" 229 11 37 false := ⟨_, _, _, cls_Mod, by decide, by decide, rfl, Or.inl (inWG 1124 (by decide +kernel) (by decide +kernel))⟩
theorem fl_Mod_103 : fldOK "MethodWardenModel" 103 11 46 false := ⟨_, _, _, cls_Mod, by decide, by decide, rfl, Or.inl (inWG 1133 (by decide +kernel) (by decide +kernel))⟩
theorem fl_Mod_97 : fldOK "MethodWardenModel" 97 11 42 false := ⟨_, _, _, cls_Mod, by decide, by decide, rfl, Or.inl (inWG 1129 (by decide +kernel) (by decide +kernel))⟩
def f_Mod_pushItems_2_b (K2 : Int32 → Int32 → Int32 → ax_M → Option (Unit × ax_M)) (l1 : Int32) (l2 : Int32) (l3 : Int32) (M : ax_M) : Option (Unit × ax_M) :=
  if l2 ≤ l3 then (bnd (f_Mod_push 4 (Int32.toInt64 l2) M) (fun q2 M3 => some ((), M3))) else (if l1 = 0 then (gi l3 5 (gi ((5 * (gI M 184 29)) + l3) 240 (kM (mI M 204 ((5 * (gI M 184 29)) + l3).toNatClampNeg (gI M 212 l3.toNatClampNeg)) (fun M16 => kM (l3 + 1) (fun x17 => K2 l1 l2 x17 M16))))) else (if l1 = 1 then (gi l3 5 (gi ((5 * (gI M 184 29)) + l3) 240 (kM (mI M 204 ((5 * (gI M 184 29)) + l3).toNatClampNeg (gI M 213 l3.toNatClampNeg)) (fun M12 => kM (l3 + 1) (fun x13 => K2 l1 l2 x13 M12))))) else (gi ((5 * ((gI M 184 37) - 1)) + l3) 80 (gi ((5 * (gI M 184 29)) + l3) 240 (kM (mI M 204 ((5 * (gI M 184 29)) + l3).toNatClampNeg (gI M 208 ((5 * ((gI M 184 37) - 1)) + l3).toNatClampNeg)) (fun M8 => kM (l3 + 1) (fun x9 => K2 l1 l2 x9 M8)))))))
def f_Mod_pushItems_2 : Nat → Int32 → Int32 → Int32 → ax_M → Option (Unit × ax_M)
  | 0, _, _, _, _ => none
  | n + 1, l1, l2, l3, M => f_Mod_pushItems_2_b  (f_Mod_pushItems_2 n) l1 l2 l3 M
set_option maxHeartbeats 4000000 in
set_option maxRecDepth 100000 in
theorem o_Mod_pushItems_2_b {l : Launch} {g : ax_G} (K2 : Int32 → Int32 → Int32 → ax_M → Option (Unit × ax_M)) (hK2 : ∀ (l1 : Int32) (l2 : Int32) (l3 : Int32) (M : ax_M) (r : Unit) (M' : ax_M), K2 l1 l2 l3 M = some (r, M') → AW l g true Y_Mod_pushItems 2 (none, M') 2 [(0, vA 184), (1, vI l1), (2, vI l2), (3, vI l3)] [] M) (l1 : Int32) (l2 : Int32) (l3 : Int32) (M : ax_M) (r : Unit) (M' : ax_M) (h : f_Mod_pushItems_2_b  K2 l1 l2 l3 M = some (r, M')) : AW l g true Y_Mod_pushItems 2 (none, M') 2 [(0, vA 184), (1, vI l1), (2, vI l2), (3, vI l3)] [] M := by
  unfold f_Mod_pushItems_2_b at h
  refine A_iload_n 3 rfl rfl rfl ?_
  refine A_iload_n 2 rfl rfl rfl ?_
  refine A_icmp_ge (tgt := 68) rfl (by decide) (fun hc1 => ?_) (fun hc1 => ?_)
  · rw [if_pos hc1] at h
    refine A_aload_n 0 rfl rfl rfl ?_
    refine A_iconst (v := 4) rfl (by decide) ?_
    refine A_iload_n 2 rfl rfl rfl ?_
    refine A_i2l rfl ?_
    obtain ⟨q2, M3, hcq2, h⟩ := bnd_out h
    refine A_callV (ci := 11) (as := [vI 4, vJ (Int32.toInt64 l2)]) (st' := []) (r1 := (none, M3)) rfl ml_Mod_226 rfl (by decide) (by decide) (Or.inl rfl) rfl rfl (Nat.le_of_ble_eq_true rfl) (by decide) (c_Mod_push hcq2) (Or.inl rfl) ?_
    refine A_pc (pc' := 75) rfl ?_
    refine A_stk (st' := []) rfl ?_
    refine A_pc (pc' := 75) rfl ?_
    obtain ⟨rfl, rfl⟩ := leaf h
    exact A_vret rfl rfl
  · rw [if_neg hc1] at h
    refine A_pc (pc' := 7) rfl ?_
    refine A_aload_n 0 rfl rfl rfl ?_
    refine A_getL (r := 204) rfl fl_Mod_72 rfl (by decide) rfl rfl ?_
    refine A_iconst (v := 5) rfl (by decide) ?_
    refine A_aload_n 0 rfl rfl rfl ?_
    refine A_getI rfl fl_Mod_223 rfl (by decide) (Or.inl rfl) ?_
    refine A_pc (pc' := 16) rfl ?_
    refine A_imul rfl ?_
    refine A_iload_n 3 rfl rfl rfl ?_
    refine A_iadd rfl ?_
    refine A_iload_n 1 rfl rfl rfl ?_
    refine A_if_ne (tgt := 32) rfl (by decide) (fun hc4 => ?_) (fun hc4 => ?_)
    · rw [if_neg hc4] at h
      refine A_iload_n 1 rfl rfl rfl ?_
      refine A_iconst (v := 1) rfl (by decide) ?_
      refine A_icmp_ne (tgt := 46) rfl (by decide) (fun hc5 => ?_) (fun hc5 => ?_)
      · rw [if_neg hc5] at h
        refine A_aload_n 0 rfl rfl rfl ?_
        refine A_getL (r := 208) rfl fl_Mod_84 rfl (by decide) rfl rfl ?_
        refine A_iconst (v := 5) rfl (by decide) ?_
        refine A_aload_n 0 rfl rfl rfl ?_
        refine A_getI rfl fl_Mod_229 rfl (by decide) (Or.inl rfl) ?_
        refine A_pc (pc' := 55) rfl ?_
        refine A_iconst (v := 1) rfl (by decide) ?_
        refine A_isub rfl ?_
        refine A_imul rfl ?_
        refine A_iload_n 3 rfl rfl rfl ?_
        refine A_iadd rfl ?_
        obtain ⟨hg6, h⟩ := gi_out h
        refine A_iald (n := 80) rfl (by decide) (by decide) (Or.inl rfl) hg6 ?_
        refine A_pc (pc' := 61) rfl ?_
        obtain ⟨hg7, h⟩ := gi_out h
        refine A_iast (n := 240) rfl (by decide) (by decide) (Or.inl rfl) hg7 ?_
        obtain ⟨M8, hM8, h⟩ := kM_out h
        refine A_mem hM8 ?_
        obtain ⟨x9, hx9, h⟩ := kM_out h
        refine A_iinc 3 (v := x9) (Ls' := [(3, vI x9), (0, vA 184), (1, vI l1), (2, vI l2)]) rfl rfl ((iiN (k := 1) (by decide) _).trans hx9) (by decide) rfl ?_
        refine A_goto (tgt := 2) rfl (by decide) ?_
        refine A_pc (pc' := 2) rfl ?_
        refine A_sub (Ls' := [(0, vA 184), (1, vI l1), (2, vI l2), (3, vI x9)]) [1, 2, 3, 0] rfl ?_
        exact hK2 _ _ _ _ _ _ h
      · rw [if_pos hc5] at h
        refine A_pc (pc' := 37) rfl ?_
        refine A_aload_n 0 rfl rfl rfl ?_
        refine A_getL (r := 213) rfl fl_Mod_103 rfl (by decide) rfl rfl ?_
        refine A_iload_n 3 rfl rfl rfl ?_
        obtain ⟨hg10, h⟩ := gi_out h
        refine A_iald (n := 5) rfl (by decide) (by decide) (Or.inl rfl) hg10 ?_
        refine A_goto (tgt := 61) rfl (by decide) ?_
        refine A_pc (pc' := 61) rfl ?_
        obtain ⟨hg11, h⟩ := gi_out h
        refine A_iast (n := 240) rfl (by decide) (by decide) (Or.inl rfl) hg11 ?_
        obtain ⟨M12, hM12, h⟩ := kM_out h
        refine A_mem hM12 ?_
        obtain ⟨x13, hx13, h⟩ := kM_out h
        refine A_iinc 3 (v := x13) (Ls' := [(3, vI x13), (0, vA 184), (1, vI l1), (2, vI l2)]) rfl rfl ((iiN (k := 1) (by decide) _).trans hx13) (by decide) rfl ?_
        refine A_goto (tgt := 2) rfl (by decide) ?_
        refine A_pc (pc' := 2) rfl ?_
        refine A_sub (Ls' := [(0, vA 184), (1, vI l1), (2, vI l2), (3, vI x13)]) [1, 2, 3, 0] rfl ?_
        exact hK2 _ _ _ _ _ _ h
    · rw [if_pos hc4] at h
      refine A_pc (pc' := 23) rfl ?_
      refine A_aload_n 0 rfl rfl rfl ?_
      refine A_getL (r := 212) rfl fl_Mod_97 rfl (by decide) rfl rfl ?_
      refine A_iload_n 3 rfl rfl rfl ?_
      obtain ⟨hg14, h⟩ := gi_out h
      refine A_iald (n := 5) rfl (by decide) (by decide) (Or.inl rfl) hg14 ?_
      refine A_goto (tgt := 61) rfl (by decide) ?_
      refine A_pc (pc' := 61) rfl ?_
      obtain ⟨hg15, h⟩ := gi_out h
      refine A_iast (n := 240) rfl (by decide) (by decide) (Or.inl rfl) hg15 ?_
      obtain ⟨M16, hM16, h⟩ := kM_out h
      refine A_mem hM16 ?_
      obtain ⟨x17, hx17, h⟩ := kM_out h
      refine A_iinc 3 (v := x17) (Ls' := [(3, vI x17), (0, vA 184), (1, vI l1), (2, vI l2)]) rfl rfl ((iiN (k := 1) (by decide) _).trans hx17) (by decide) rfl ?_
      refine A_goto (tgt := 2) rfl (by decide) ?_
      refine A_pc (pc' := 2) rfl ?_
      refine A_sub (Ls' := [(0, vA 184), (1, vI l1), (2, vI l2), (3, vI x17)]) [1, 2, 3, 0] rfl ?_
      exact hK2 _ _ _ _ _ _ h
theorem o_Mod_pushItems_2 {l : Launch} {g : ax_G} : ∀ (n : Nat) (l1 : Int32) (l2 : Int32) (l3 : Int32) (M : ax_M) (r : Unit) (M' : ax_M), f_Mod_pushItems_2  n l1 l2 l3 M = some (r, M') → AW l g true Y_Mod_pushItems 2 (none, M') 2 [(0, vA 184), (1, vI l1), (2, vI l2), (3, vI l3)] [] M := by
  intro n
  induction n with
  | zero =>
    intro l1 l2 l3 M r M' h
    cases h
  | succ n ih =>
    intro l1 l2 l3 M r M' h
    exact o_Mod_pushItems_2_b  _ ih _ _ _ _ _ _ h
def f_Mod_pushItems (a1 : Int32) (a2 : Int32) (M : ax_M) : Option (Unit × ax_M) :=
  f_Mod_pushItems_2 64 a1 a2 0 M
set_option maxHeartbeats 4000000 in
set_option maxRecDepth 100000 in
theorem c_Mod_pushItems {l : Launch} {g : ax_G} {a1 : Int32} {a2 : Int32} {M : ax_M} {r : Unit} {M' : ax_M} (h : f_Mod_pushItems a1 a2 M = some (r, M')) : Ctr l g true Y_Mod_pushItems 2 [vA 184, vI a1, vI a2] M (none, M') := by
  refine Ctr.ofAW yok_Mod_pushItems (Nat.le_of_ble_eq_true rfl) (Or.inl rfl) ?_
  show AW l g true Y_Mod_pushItems 2 (none, M') 0 [(0, vA 184), (1, vI a1), (2, vI a2)] [] M
  unfold f_Mod_pushItems at h
  refine A_iconst (v := 0) rfl (by decide) ?_
  refine A_istore_n (Ls' := [(3, vI 0), (0, vA 184), (1, vI a1), (2, vI a2)]) rfl rfl (by decide) rfl ?_
  refine A_pc (pc' := 2) rfl ?_
  refine A_sub (Ls' := [(0, vA 184), (1, vI a1), (2, vI a2), (3, vI 0)]) [1, 2, 3, 0] rfl ?_
  exact o_Mod_pushItems_2  _ _ _ _ _ _ _ h
def tb_Mod_isNumber : List (Nat × Instr × Nat) := [(0, .aload_n 0, 1), (1, .getfield 66, 3), (4, .iload_n 1, 1), (5, .iaload, 1), (6, .iconst 2, 1), (7, .if_icmp .eq 13, 3), (10, .aload_n 0, 1), (11, .getfield 66, 3), (14, .iload_n 1, 1), (15, .iaload, 1), (16, .iconst 3, 1), (17, .if_icmp .ne 7, 3), (20, .iconst 1, 1), (21, .goto 4, 3), (24, .iconst 0, 1), (25, .ireturn, 1)]
def Y_Mod_isNumber : ax_Y := (⟨"MethodWardenModel", "isNumber", "(I)Z"⟩, prog_14_method_32_code, 2, some .boolean, tb_Mod_isNumber)
theorem yok_Mod_isNumber : yOK Y_Mod_isNumber := ⟨by decide +kernel, by decide +kernel, inWG 1448 (by decide +kernel) (by decide +kernel), inWG 107 (by decide +kernel) (by decide +kernel), by decide +kernel⟩
def f_Mod_isNumber (a1 : Int32) (M : ax_M) : Option (Int32 × ax_M) :=
  gi a1 48 (if (gI M 202 a1.toNatClampNeg) = 2 then (some (1, M)) else (if (gI M 202 a1.toNatClampNeg) = 3 then (some (1, M)) else (some (0, M))))
set_option maxHeartbeats 4000000 in
set_option maxRecDepth 100000 in
theorem c_Mod_isNumber {l : Launch} {g : ax_G} {a1 : Int32} {M : ax_M} {r : Int32} {M' : ax_M} (h : f_Mod_isNumber a1 M = some (r, M')) : Ctr l g true Y_Mod_isNumber 1 [vA 184, vI a1] M (some (vI r), M') := by
  refine Ctr.ofAW yok_Mod_isNumber (Nat.le_of_ble_eq_true rfl) (Or.inl rfl) ?_
  show AW l g true Y_Mod_isNumber 1 (some (vI r), M') 0 [(0, vA 184), (1, vI a1)] [] M
  unfold f_Mod_isNumber at h
  refine A_aload_n 0 rfl rfl rfl ?_
  refine A_getL (r := 202) rfl fl_Mod_66 rfl (by decide) rfl rfl ?_
  refine A_iload_n 1 rfl rfl rfl ?_
  obtain ⟨hg1, h⟩ := gi_out h
  refine A_iald (n := 48) rfl (by decide) (by decide) (Or.inl rfl) hg1 ?_
  refine A_iconst (v := 2) rfl (by decide) ?_
  refine A_pc (pc' := 7) rfl ?_
  refine A_icmp_eq (tgt := 20) rfl (by decide) (fun hc2 => ?_) (fun hc2 => ?_)
  · rw [if_pos hc2] at h
    refine A_iconst (v := 1) rfl (by decide) ?_
    refine A_goto (tgt := 25) rfl (by decide) ?_
    obtain ⟨rfl, rfl⟩ := leaf h
    exact A_zret rfl rfl (Or.inr rfl)
  · rw [if_neg hc2] at h
    refine A_pc (pc' := 10) rfl ?_
    refine A_aload_n 0 rfl rfl rfl ?_
    refine A_getL (r := 202) rfl fl_Mod_66 rfl (by decide) rfl rfl ?_
    refine A_iload_n 1 rfl rfl rfl ?_
    refine A_iald (n := 48) rfl (by decide) (by decide) (Or.inl rfl) hg1 ?_
    refine A_iconst (v := 3) rfl (by decide) ?_
    refine A_pc (pc' := 17) rfl ?_
    refine A_icmp_ne (tgt := 24) rfl (by decide) (fun hc3 => ?_) (fun hc3 => ?_)
    · rw [if_neg hc3] at h
      refine A_iconst (v := 0) rfl (by decide) ?_
      obtain ⟨rfl, rfl⟩ := leaf h
      exact A_zret rfl rfl (Or.inl rfl)
    · rw [if_pos hc3] at h
      refine A_pc (pc' := 20) rfl ?_
      refine A_iconst (v := 1) rfl (by decide) ?_
      refine A_goto (tgt := 25) rfl (by decide) ?_
      obtain ⟨rfl, rfl⟩ := leaf h
      exact A_zret rfl rfl (Or.inr rfl)
def tb_Mod_leaf : List (Nat × Instr × Nat) := [(0, .iload_n 1, 1), (1, .iconst 1, 1), (2, .if_icmp .eq 8, 3), (5, .iload_n 1, 1), (6, .iconst 2, 1), (7, .if_icmp .ne 21, 3), (10, .aload_n 0, 1), (11, .iload_n 1, 1), (12, .iconst 1, 1), (13, .if_icmp .ne 7, 3), (16, .iconst 2, 1), (17, .goto 4, 3), (20, .iconst 3, 1), (21, .lload_n 2, 1), (22, .invokevirtual 226, 3), (25, .goto 203, 3), (28, .iload_n 1, 1), (29, .iconst 3, 1), (30, .if_icmp .eq 8, 3), (33, .iload_n 1, 1), (34, .iconst 4, 1), (35, .if_icmp .ne 20, 3), (38, .aload_n 0, 1), (39, .iload_n 1, 1), (40, .iconst 3, 1), (41, .if_icmp .ne 7, 3), (44, .iconst 1, 1), (45, .goto 4, 3), (48, .iconst 0, 1), (49, .invokevirtual 232, 3), (52, .goto 176, 3), (55, .iload_n 1, 1), (56, .iconst 5, 1), (57, .if_icmp .ne 12, 3), (60, .aload_n 0, 1), (61, .iconst 0, 1), (62, .lconst 0, 1), (63, .invokevirtual 226, 3), (66, .goto 162, 3), (69, .iload_n 1, 1), (70, .bipush 6, 2), (72, .if_icmp .ne 38, 3), (75, .aload_n 0, 1), (76, .aload_n 0, 1), (77, .getfield 32, 3), (80, .ifCond .ge 7, 3), (83, .iconst 0, 1), (84, .goto 4, 3), (87, .iconst 2, 1), (88, .aload_n 0, 1), (89, .getfield 32, 3), (92, .ifCond .ge 7, 3), (95, .lconst 0, 1), (96, .goto 8, 3), (99, .aload_n 0, 1), (100, .getfield 32, 3), (103, .i2l, 1), (104, .invokevirtual 226, 3), (107, .goto 121, 3), (110, .iload_n 1, 1), (111, .bipush 7, 2), (113, .if_icmp .ne 16, 3), (116, .aload_n 0, 1), (117, .iconst 2, 1), (118, .aload_n 0, 1), (119, .getfield 236, 3), (122, .i2l, 1), (123, .invokevirtual 226, 3), (126, .goto 102, 3), (129, .iload_n 1, 1), (130, .bipush 8, 2), (132, .if_icmp .ne 15, 3), (135, .aload_n 0, 1), (136, .iconst 3, 1), (137, .aload_n 0, 1), (138, .getfield 239, 3), (141, .invokevirtual 226, 3), (144, .goto 84, 3), (147, .iload_n 1, 1), (148, .bipush 9, 2), (150, .if_icmp .ne 27, 3), (153, .aload_n 0, 1), (154, .aload_n 0, 1), (155, .getfield 242, 3), (158, .ifCond .eq 7, 3), (161, .iconst 2, 1), (162, .goto 4, 3), (165, .iconst (-1), 1), (166, .aload_n 0, 1), (167, .getfield 246, 3), (170, .i2l, 1), (171, .invokevirtual 226, 3), (174, .goto 54, 3), (177, .iload_n 1, 1), (178, .bipush 11, 2), (180, .if_icmp .ne 15, 3), (183, .aload_n 0, 1), (184, .iconst 0, 1), (185, .aload_n 0, 1), (186, .getfield 249, 3), (189, .invokevirtual 252, 3), (192, .goto 36, 3), (195, .aload_n 0, 1), (196, .getfield 100, 3), (199, .iconst 4, 1), (200, .if_icmp .ne 15, 3), (203, .aload_n 0, 1), (204, .iconst 1, 1), (205, .aload_n 0, 1), (206, .getfield 256, 3), (209, .invokevirtual 252, 3), (212, .goto 16, 3), (215, .aload_n 0, 1), (216, .aload_n 0, 1), (217, .getfield 100, 3), (220, .aload_n 0, 1), (221, .getfield 256, 3), (224, .i2l, 1), (225, .invokevirtual 226, 3), (228, .return_, 1)]
def Y_Mod_leaf : ax_Y := (⟨"MethodWardenModel", "leaf", "(IJ)V"⟩, prog_14_method_33_code, 4, none, tb_Mod_leaf)
theorem yok_Mod_leaf : yOK Y_Mod_leaf := ⟨by decide +kernel, by decide +kernel, inWG 1436 (by decide +kernel) (by decide +kernel), inWG 107 (by decide +kernel) (by decide +kernel), by decide +kernel⟩
theorem fl_Mod_100 : fldOK "MethodWardenModel" 100 11 44 false := ⟨_, _, _, cls_Mod, by decide, by decide, rfl, Or.inl (inWG 1131 (by decide +kernel) (by decide +kernel))⟩
theorem fl_Mod_256 : fldOK "MethodWardenModel" 256 11 45 false := ⟨_, _, _, cls_Mod, by decide, by decide, rfl, Or.inl (inWG 1132 (by decide +kernel) (by decide +kernel))⟩
theorem fl_Mod_249 : fldOK "MethodWardenModel" 249 11 43 false := ⟨_, _, _, cls_Mod, by decide, by decide, rfl, Or.inl (inWG 1130 (by decide +kernel) (by decide +kernel))⟩
theorem fl_Mod_242 : fldOK "MethodWardenModel" 242 11 38 false := ⟨_, _, _, cls_Mod, by decide, by decide, rfl, Or.inl (inWG 1125 (by decide +kernel) (by decide +kernel))⟩
theorem fl_Mod_246 : fldOK "MethodWardenModel" 246 11 39 false := ⟨_, _, _, cls_Mod, by decide, by decide, rfl, Or.inl (inWG 1126 (by decide +kernel) (by decide +kernel))⟩
theorem fl_Mod_239 : fldOK "MethodWardenModel" 239 11 41 false := ⟨_, _, _, cls_Mod, by decide, by decide, rfl, Or.inl (inWG 1128 (by decide +kernel) (by decide +kernel))⟩
theorem fl_Mod_236 : fldOK "MethodWardenModel" 236 11 40 false := ⟨_, _, _, cls_Mod, by decide, by decide, rfl, Or.inl (inWG 1127 (by decide +kernel) (by decide +kernel))⟩
theorem ml_Mod_232 : mlV "MethodWardenModel" 232 Y_Mod_pushTruth 1 := ⟨⟨yok_Mod_pushTruth, by decide +kernel, by decide⟩, Or.inl (inWG 1437 (by decide +kernel) (by decide +kernel)), inWG 1439 (by decide +kernel) (by decide +kernel), inWG 81 (by decide +kernel) (by decide +kernel)⟩
theorem ml_Mod_252 : mlV "MethodWardenModel" 252 Y_Mod_pushItems 2 := ⟨⟨yok_Mod_pushItems, by decide +kernel, by decide⟩, Or.inl (inWG 1429 (by decide +kernel) (by decide +kernel)), inWG 1431 (by decide +kernel) (by decide +kernel), inWG 79 (by decide +kernel) (by decide +kernel)⟩
def f_Mod_leaf_10 (l1 : Int32) (l2 : Int64) (M : ax_M) : Option (Unit × ax_M) :=
  if l1 = 1 then (bnd (f_Mod_push 2 l2 M) (fun q5 M6 => some ((), M6))) else (bnd (f_Mod_push 3 l2 M) (fun q3 M4 => some ((), M4)))
set_option maxHeartbeats 4000000 in
set_option maxRecDepth 100000 in
theorem o_Mod_leaf_10 {l : Launch} {g : ax_G} (l1 : Int32) (l2 : Int64) (M : ax_M) (r : Unit) (M' : ax_M) (h : f_Mod_leaf_10  l1 l2 M = some (r, M')) : AW l g true Y_Mod_leaf 3 (none, M') 10 [(0, vA 184), (1, vI l1), (2, vJ l2)] [] M := by
  unfold f_Mod_leaf_10 at h
  refine A_aload_n 0 rfl rfl rfl ?_
  refine A_iload_n 1 rfl rfl rfl ?_
  refine A_iconst (v := 1) rfl (by decide) ?_
  refine A_icmp_ne (tgt := 20) rfl (by decide) (fun hc2 => ?_) (fun hc2 => ?_)
  · rw [if_neg hc2] at h
    refine A_iconst (v := 3) rfl (by decide) ?_
    refine A_lload_n 2 rfl rfl rfl ?_
    obtain ⟨q3, M4, hcq3, h⟩ := bnd_out h
    refine A_callV (ci := 11) (as := [vI 3, vJ l2]) (st' := []) (r1 := (none, M4)) rfl ml_Mod_226 rfl (by decide) (by decide) (Or.inl rfl) rfl rfl (Nat.le_of_ble_eq_true rfl) (by decide) (c_Mod_push hcq3) (Or.inl rfl) ?_
    refine A_pc (pc' := 25) rfl ?_
    refine A_stk (st' := []) rfl ?_
    refine A_goto (tgt := 228) rfl (by decide) ?_
    obtain ⟨rfl, rfl⟩ := leaf h
    exact A_vret rfl rfl
  · rw [if_pos hc2] at h
    refine A_pc (pc' := 16) rfl ?_
    refine A_iconst (v := 2) rfl (by decide) ?_
    refine A_goto (tgt := 21) rfl (by decide) ?_
    refine A_lload_n 2 rfl rfl rfl ?_
    obtain ⟨q5, M6, hcq5, h⟩ := bnd_out h
    refine A_callV (ci := 11) (as := [vI 2, vJ l2]) (st' := []) (r1 := (none, M6)) rfl ml_Mod_226 rfl (by decide) (by decide) (Or.inl rfl) rfl rfl (Nat.le_of_ble_eq_true rfl) (by decide) (c_Mod_push hcq5) (Or.inl rfl) ?_
    refine A_pc (pc' := 25) rfl ?_
    refine A_stk (st' := []) rfl ?_
    refine A_goto (tgt := 228) rfl (by decide) ?_
    refine A_pc (pc' := 228) rfl ?_
    obtain ⟨rfl, rfl⟩ := leaf h
    exact A_vret rfl rfl
def f_Mod_leaf (a1 : Int32) (a2 : Int64) (M : ax_M) : Option (Unit × ax_M) :=
  if a1 = 1 then (f_Mod_leaf_10 a1 a2 M) else (if a1 = 2 then (f_Mod_leaf_10 a1 a2 M) else (if a1 = 3 then (if a1 = 3 then (bnd (f_Mod_pushTruth 1 M) (fun q12 M13 => some ((), M13))) else (bnd (f_Mod_pushTruth 0 M) (fun q10 M11 => some ((), M11)))) else (if a1 = 4 then (if a1 = 3 then (bnd (f_Mod_pushTruth 1 M) (fun q53 M54 => some ((), M54))) else (bnd (f_Mod_pushTruth 0 M) (fun q51 M52 => some ((), M52)))) else (if a1 = 5 then (bnd (f_Mod_push 0 0 M) (fun q48 M49 => some ((), M49))) else (if a1 = 6 then (if 0 ≤ (gI M 184 13) then (if 0 ≤ (gI M 184 13) then (bnd (f_Mod_push 2 (Int32.toInt64 (gI M 184 13)) M) (fun q39 M40 => some ((), M40))) else (bnd (f_Mod_push 2 0 M) (fun q41 M42 => some ((), M42)))) else (if 0 ≤ (gI M 184 13) then (bnd (f_Mod_push 0 (Int32.toInt64 (gI M 184 13)) M) (fun q44 M45 => some ((), M45))) else (bnd (f_Mod_push 0 0 M) (fun q46 M47 => some ((), M47))))) else (if a1 = 7 then (bnd (f_Mod_push 2 (Int32.toInt64 (gI M 184 40)) M) (fun q35 M36 => some ((), M36))) else (if a1 = 8 then (bnd (f_Mod_push 3 (gJ M 184 41) M) (fun q33 M34 => some ((), M34))) else (if a1 = 9 then (if (gI M 184 38) = 0 then (bnd (f_Mod_push ((-1)) (Int32.toInt64 (gI M 184 39)) M) (fun q29 M30 => some ((), M30))) else (bnd (f_Mod_push 2 (Int32.toInt64 (gI M 184 39)) M) (fun q31 M32 => some ((), M32)))) else (if a1 = 11 then (bnd (f_Mod_pushItems 0 (gI M 184 43) M) (fun q26 M27 => some ((), M27))) else (if (gI M 184 44) = 4 then (bnd (f_Mod_pushItems 1 (gI M 184 45) M) (fun q24 M25 => some ((), M25))) else (bnd (f_Mod_push (gI M 184 44) (Int32.toInt64 (gI M 184 45)) M) (fun q22 M23 => some ((), M23)))))))))))))
set_option maxHeartbeats 4000000 in
set_option maxRecDepth 100000 in
theorem c_Mod_leaf {l : Launch} {g : ax_G} {a1 : Int32} {a2 : Int64} {M : ax_M} {r : Unit} {M' : ax_M} (h : f_Mod_leaf a1 a2 M = some (r, M')) : Ctr l g true Y_Mod_leaf 3 [vA 184, vI a1, vJ a2] M (none, M') := by
  refine Ctr.ofAW yok_Mod_leaf (Nat.le_of_ble_eq_true rfl) (Or.inl rfl) ?_
  show AW l g true Y_Mod_leaf 3 (none, M') 0 [(0, vA 184), (1, vI a1), (2, vJ a2)] [] M
  unfold f_Mod_leaf at h
  refine A_iload_n 1 rfl rfl rfl ?_
  refine A_iconst (v := 1) rfl (by decide) ?_
  refine A_icmp_eq (tgt := 10) rfl (by decide) (fun hc1 => ?_) (fun hc1 => ?_)
  · rw [if_pos hc1] at h
    refine A_pc (pc' := 10) rfl ?_
    refine A_sub (Ls' := [(0, vA 184), (1, vI a1), (2, vJ a2)]) [0, 1, 2] rfl ?_
    exact o_Mod_leaf_10  _ _ _ _ _ h
  · rw [if_neg hc1] at h
    refine A_pc (pc' := 5) rfl ?_
    refine A_iload_n 1 rfl rfl rfl ?_
    refine A_iconst (v := 2) rfl (by decide) ?_
    refine A_icmp_ne (tgt := 28) rfl (by decide) (fun hc7 => ?_) (fun hc7 => ?_)
    · rw [if_neg hc7] at h
      refine A_iload_n 1 rfl rfl rfl ?_
      refine A_iconst (v := 3) rfl (by decide) ?_
      refine A_icmp_eq (tgt := 38) rfl (by decide) (fun hc8 => ?_) (fun hc8 => ?_)
      · rw [if_pos hc8] at h
        refine A_aload_n 0 rfl rfl rfl ?_
        refine A_iload_n 1 rfl rfl rfl ?_
        refine A_iconst (v := 3) rfl (by decide) ?_
        refine A_icmp_ne (tgt := 48) rfl (by decide) (fun hc9 => ?_) (fun hc9 => ?_)
        · rw [if_neg hc9] at h
          refine A_iconst (v := 0) rfl (by decide) ?_
          obtain ⟨q10, M11, hcq10, h⟩ := bnd_out h
          refine A_callV (ci := 11) (as := [vI 0]) (st' := []) (r1 := (none, M11)) rfl ml_Mod_232 rfl (by decide) (by decide) (Or.inl rfl) rfl rfl (Nat.le_of_ble_eq_true rfl) (by decide) (c_Mod_pushTruth hcq10) (Or.inl rfl) ?_
          refine A_pc (pc' := 52) rfl ?_
          refine A_stk (st' := []) rfl ?_
          refine A_goto (tgt := 228) rfl (by decide) ?_
          obtain ⟨rfl, rfl⟩ := leaf h
          exact A_vret rfl rfl
        · rw [if_pos hc9] at h
          refine A_pc (pc' := 44) rfl ?_
          refine A_iconst (v := 1) rfl (by decide) ?_
          refine A_goto (tgt := 49) rfl (by decide) ?_
          obtain ⟨q12, M13, hcq12, h⟩ := bnd_out h
          refine A_callV (ci := 11) (as := [vI 1]) (st' := []) (r1 := (none, M13)) rfl ml_Mod_232 rfl (by decide) (by decide) (Or.inl rfl) rfl rfl (Nat.le_of_ble_eq_true rfl) (by decide) (c_Mod_pushTruth hcq12) (Or.inl rfl) ?_
          refine A_pc (pc' := 52) rfl ?_
          refine A_stk (st' := []) rfl ?_
          refine A_goto (tgt := 228) rfl (by decide) ?_
          obtain ⟨rfl, rfl⟩ := leaf h
          exact A_vret rfl rfl
      · rw [if_neg hc8] at h
        refine A_pc (pc' := 33) rfl ?_
        refine A_iload_n 1 rfl rfl rfl ?_
        refine A_iconst (v := 4) rfl (by decide) ?_
        refine A_icmp_ne (tgt := 55) rfl (by decide) (fun hc14 => ?_) (fun hc14 => ?_)
        · rw [if_neg hc14] at h
          refine A_iload_n 1 rfl rfl rfl ?_
          refine A_iconst (v := 5) rfl (by decide) ?_
          refine A_icmp_ne (tgt := 69) rfl (by decide) (fun hc15 => ?_) (fun hc15 => ?_)
          · rw [if_neg hc15] at h
            refine A_iload_n 1 rfl rfl rfl ?_
            refine A_bipush (v := 6) rfl (by decide) ?_
            refine A_icmp_ne (tgt := 110) rfl (by decide) (fun hc16 => ?_) (fun hc16 => ?_)
            · rw [if_neg hc16] at h
              refine A_iload_n 1 rfl rfl rfl ?_
              refine A_bipush (v := 7) rfl (by decide) ?_
              refine A_icmp_ne (tgt := 129) rfl (by decide) (fun hc17 => ?_) (fun hc17 => ?_)
              · rw [if_neg hc17] at h
                refine A_iload_n 1 rfl rfl rfl ?_
                refine A_bipush (v := 8) rfl (by decide) ?_
                refine A_icmp_ne (tgt := 147) rfl (by decide) (fun hc18 => ?_) (fun hc18 => ?_)
                · rw [if_neg hc18] at h
                  refine A_iload_n 1 rfl rfl rfl ?_
                  refine A_bipush (v := 9) rfl (by decide) ?_
                  refine A_icmp_ne (tgt := 177) rfl (by decide) (fun hc19 => ?_) (fun hc19 => ?_)
                  · rw [if_neg hc19] at h
                    refine A_iload_n 1 rfl rfl rfl ?_
                    refine A_bipush (v := 11) rfl (by decide) ?_
                    refine A_icmp_ne (tgt := 195) rfl (by decide) (fun hc20 => ?_) (fun hc20 => ?_)
                    · rw [if_neg hc20] at h
                      refine A_aload_n 0 rfl rfl rfl ?_
                      refine A_getI rfl fl_Mod_100 rfl (by decide) (Or.inl rfl) ?_
                      refine A_iconst (v := 4) rfl (by decide) ?_
                      refine A_icmp_ne (tgt := 215) rfl (by decide) (fun hc21 => ?_) (fun hc21 => ?_)
                      · rw [if_neg hc21] at h
                        refine A_aload_n 0 rfl rfl rfl ?_
                        refine A_aload_n 0 rfl rfl rfl ?_
                        refine A_getI rfl fl_Mod_100 rfl (by decide) (Or.inl rfl) ?_
                        refine A_aload_n 0 rfl rfl rfl ?_
                        refine A_getI rfl fl_Mod_256 rfl (by decide) (Or.inl rfl) ?_
                        refine A_pc (pc' := 224) rfl ?_
                        refine A_i2l rfl ?_
                        obtain ⟨q22, M23, hcq22, h⟩ := bnd_out h
                        refine A_callV (ci := 11) (as := [vI (gI M 184 44), vJ (Int32.toInt64 (gI M 184 45))]) (st' := []) (r1 := (none, M23)) rfl ml_Mod_226 rfl (by decide) (by decide) (Or.inl rfl) rfl rfl (Nat.le_of_ble_eq_true rfl) (by decide) (c_Mod_push hcq22) (Or.inl rfl) ?_
                        refine A_pc (pc' := 228) rfl ?_
                        refine A_stk (st' := []) rfl ?_
                        obtain ⟨rfl, rfl⟩ := leaf h
                        exact A_vret rfl rfl
                      · rw [if_pos hc21] at h
                        refine A_pc (pc' := 203) rfl ?_
                        refine A_aload_n 0 rfl rfl rfl ?_
                        refine A_iconst (v := 1) rfl (by decide) ?_
                        refine A_aload_n 0 rfl rfl rfl ?_
                        refine A_getI rfl fl_Mod_256 rfl (by decide) (Or.inl rfl) ?_
                        obtain ⟨q24, M25, hcq24, h⟩ := bnd_out h
                        refine A_callV (ci := 11) (as := [vI 1, vI (gI M 184 45)]) (st' := []) (r1 := (none, M25)) rfl ml_Mod_252 rfl (by decide) (by decide) (Or.inl rfl) rfl rfl (Nat.le_of_ble_eq_true rfl) (by decide) (c_Mod_pushItems hcq24) (Or.inl rfl) ?_
                        refine A_pc (pc' := 212) rfl ?_
                        refine A_stk (st' := []) rfl ?_
                        refine A_pc (pc' := 212) rfl ?_
                        refine A_goto (tgt := 228) rfl (by decide) ?_
                        obtain ⟨rfl, rfl⟩ := leaf h
                        exact A_vret rfl rfl
                    · rw [if_pos hc20] at h
                      refine A_pc (pc' := 183) rfl ?_
                      refine A_aload_n 0 rfl rfl rfl ?_
                      refine A_iconst (v := 0) rfl (by decide) ?_
                      refine A_aload_n 0 rfl rfl rfl ?_
                      refine A_getI rfl fl_Mod_249 rfl (by decide) (Or.inl rfl) ?_
                      obtain ⟨q26, M27, hcq26, h⟩ := bnd_out h
                      refine A_callV (ci := 11) (as := [vI 0, vI (gI M 184 43)]) (st' := []) (r1 := (none, M27)) rfl ml_Mod_252 rfl (by decide) (by decide) (Or.inl rfl) rfl rfl (Nat.le_of_ble_eq_true rfl) (by decide) (c_Mod_pushItems hcq26) (Or.inl rfl) ?_
                      refine A_pc (pc' := 192) rfl ?_
                      refine A_stk (st' := []) rfl ?_
                      refine A_pc (pc' := 192) rfl ?_
                      refine A_goto (tgt := 228) rfl (by decide) ?_
                      obtain ⟨rfl, rfl⟩ := leaf h
                      exact A_vret rfl rfl
                  · rw [if_pos hc19] at h
                    refine A_pc (pc' := 153) rfl ?_
                    refine A_aload_n 0 rfl rfl rfl ?_
                    refine A_aload_n 0 rfl rfl rfl ?_
                    refine A_getI rfl fl_Mod_242 rfl (by decide) (Or.inl rfl) ?_
                    refine A_if_eq (tgt := 165) rfl (by decide) (fun hc28 => ?_) (fun hc28 => ?_)
                    · rw [if_pos hc28] at h
                      refine A_iconst (v := (-1)) rfl (by decide) ?_
                      refine A_aload_n 0 rfl rfl rfl ?_
                      refine A_getI rfl fl_Mod_246 rfl (by decide) (Or.inl rfl) ?_
                      refine A_i2l rfl ?_
                      obtain ⟨q29, M30, hcq29, h⟩ := bnd_out h
                      refine A_callV (ci := 11) (as := [vI ((-1)), vJ (Int32.toInt64 (gI M 184 39))]) (st' := []) (r1 := (none, M30)) rfl ml_Mod_226 rfl (by decide) (by decide) (Or.inl rfl) rfl rfl (Nat.le_of_ble_eq_true rfl) (by decide) (c_Mod_push hcq29) (Or.inl rfl) ?_
                      refine A_pc (pc' := 174) rfl ?_
                      refine A_stk (st' := []) rfl ?_
                      refine A_pc (pc' := 174) rfl ?_
                      refine A_goto (tgt := 228) rfl (by decide) ?_
                      obtain ⟨rfl, rfl⟩ := leaf h
                      exact A_vret rfl rfl
                    · rw [if_neg hc28] at h
                      refine A_pc (pc' := 161) rfl ?_
                      refine A_iconst (v := 2) rfl (by decide) ?_
                      refine A_goto (tgt := 166) rfl (by decide) ?_
                      refine A_aload_n 0 rfl rfl rfl ?_
                      refine A_getI rfl fl_Mod_246 rfl (by decide) (Or.inl rfl) ?_
                      refine A_i2l rfl ?_
                      refine A_pc (pc' := 171) rfl ?_
                      obtain ⟨q31, M32, hcq31, h⟩ := bnd_out h
                      refine A_callV (ci := 11) (as := [vI 2, vJ (Int32.toInt64 (gI M 184 39))]) (st' := []) (r1 := (none, M32)) rfl ml_Mod_226 rfl (by decide) (by decide) (Or.inl rfl) rfl rfl (Nat.le_of_ble_eq_true rfl) (by decide) (c_Mod_push hcq31) (Or.inl rfl) ?_
                      refine A_pc (pc' := 174) rfl ?_
                      refine A_stk (st' := []) rfl ?_
                      refine A_goto (tgt := 228) rfl (by decide) ?_
                      obtain ⟨rfl, rfl⟩ := leaf h
                      exact A_vret rfl rfl
                · rw [if_pos hc18] at h
                  refine A_pc (pc' := 135) rfl ?_
                  refine A_aload_n 0 rfl rfl rfl ?_
                  refine A_iconst (v := 3) rfl (by decide) ?_
                  refine A_aload_n 0 rfl rfl rfl ?_
                  refine A_getJ rfl fl_Mod_239 rfl (by decide) (Or.inl rfl) ?_
                  obtain ⟨q33, M34, hcq33, h⟩ := bnd_out h
                  refine A_callV (ci := 11) (as := [vI 3, vJ (gJ M 184 41)]) (st' := []) (r1 := (none, M34)) rfl ml_Mod_226 rfl (by decide) (by decide) (Or.inl rfl) rfl rfl (Nat.le_of_ble_eq_true rfl) (by decide) (c_Mod_push hcq33) (Or.inl rfl) ?_
                  refine A_pc (pc' := 144) rfl ?_
                  refine A_stk (st' := []) rfl ?_
                  refine A_pc (pc' := 144) rfl ?_
                  refine A_goto (tgt := 228) rfl (by decide) ?_
                  obtain ⟨rfl, rfl⟩ := leaf h
                  exact A_vret rfl rfl
              · rw [if_pos hc17] at h
                refine A_pc (pc' := 116) rfl ?_
                refine A_aload_n 0 rfl rfl rfl ?_
                refine A_iconst (v := 2) rfl (by decide) ?_
                refine A_aload_n 0 rfl rfl rfl ?_
                refine A_getI rfl fl_Mod_236 rfl (by decide) (Or.inl rfl) ?_
                refine A_i2l rfl ?_
                refine A_pc (pc' := 123) rfl ?_
                obtain ⟨q35, M36, hcq35, h⟩ := bnd_out h
                refine A_callV (ci := 11) (as := [vI 2, vJ (Int32.toInt64 (gI M 184 40))]) (st' := []) (r1 := (none, M36)) rfl ml_Mod_226 rfl (by decide) (by decide) (Or.inl rfl) rfl rfl (Nat.le_of_ble_eq_true rfl) (by decide) (c_Mod_push hcq35) (Or.inl rfl) ?_
                refine A_pc (pc' := 126) rfl ?_
                refine A_stk (st' := []) rfl ?_
                refine A_goto (tgt := 228) rfl (by decide) ?_
                obtain ⟨rfl, rfl⟩ := leaf h
                exact A_vret rfl rfl
            · rw [if_pos hc16] at h
              refine A_pc (pc' := 75) rfl ?_
              refine A_aload_n 0 rfl rfl rfl ?_
              refine A_aload_n 0 rfl rfl rfl ?_
              refine A_getI rfl fl_Mod_32 rfl (by decide) (Or.inl rfl) ?_
              refine A_if_ge (tgt := 87) rfl (by decide) (fun hc37 => ?_) (fun hc37 => ?_)
              · rw [if_pos hc37] at h
                refine A_iconst (v := 2) rfl (by decide) ?_
                refine A_aload_n 0 rfl rfl rfl ?_
                refine A_getI rfl fl_Mod_32 rfl (by decide) (Or.inl rfl) ?_
                refine A_if_ge (tgt := 99) rfl (by decide) (fun hc38 => ?_) (fun hc38 => ?_)
                · rw [if_pos hc38] at h
                  refine A_aload_n 0 rfl rfl rfl ?_
                  refine A_getI rfl fl_Mod_32 rfl (by decide) (Or.inl rfl) ?_
                  refine A_i2l rfl ?_
                  obtain ⟨q39, M40, hcq39, h⟩ := bnd_out h
                  refine A_callV (ci := 11) (as := [vI 2, vJ (Int32.toInt64 (gI M 184 13))]) (st' := []) (r1 := (none, M40)) rfl ml_Mod_226 rfl (by decide) (by decide) (Or.inl rfl) rfl rfl (Nat.le_of_ble_eq_true rfl) (by decide) (c_Mod_push hcq39) (Or.inl rfl) ?_
                  refine A_pc (pc' := 107) rfl ?_
                  refine A_stk (st' := []) rfl ?_
                  refine A_goto (tgt := 228) rfl (by decide) ?_
                  refine A_pc (pc' := 228) rfl ?_
                  obtain ⟨rfl, rfl⟩ := leaf h
                  exact A_vret rfl rfl
                · rw [if_neg hc38] at h
                  refine A_pc (pc' := 95) rfl ?_
                  refine A_lconst (v := 0) rfl (by decide) ?_
                  refine A_goto (tgt := 104) rfl (by decide) ?_
                  obtain ⟨q41, M42, hcq41, h⟩ := bnd_out h
                  refine A_callV (ci := 11) (as := [vI 2, vJ 0]) (st' := []) (r1 := (none, M42)) rfl ml_Mod_226 rfl (by decide) (by decide) (Or.inl rfl) rfl rfl (Nat.le_of_ble_eq_true rfl) (by decide) (c_Mod_push hcq41) (Or.inl rfl) ?_
                  refine A_pc (pc' := 107) rfl ?_
                  refine A_stk (st' := []) rfl ?_
                  refine A_goto (tgt := 228) rfl (by decide) ?_
                  obtain ⟨rfl, rfl⟩ := leaf h
                  exact A_vret rfl rfl
              · rw [if_neg hc37] at h
                refine A_pc (pc' := 83) rfl ?_
                refine A_iconst (v := 0) rfl (by decide) ?_
                refine A_goto (tgt := 88) rfl (by decide) ?_
                refine A_aload_n 0 rfl rfl rfl ?_
                refine A_getI rfl fl_Mod_32 rfl (by decide) (Or.inl rfl) ?_
                refine A_if_ge (tgt := 99) rfl (by decide) (fun hc43 => ?_) (fun hc43 => ?_)
                · rw [if_pos hc43] at h
                  refine A_aload_n 0 rfl rfl rfl ?_
                  refine A_getI rfl fl_Mod_32 rfl (by decide) (Or.inl rfl) ?_
                  refine A_i2l rfl ?_
                  obtain ⟨q44, M45, hcq44, h⟩ := bnd_out h
                  refine A_callV (ci := 11) (as := [vI 0, vJ (Int32.toInt64 (gI M 184 13))]) (st' := []) (r1 := (none, M45)) rfl ml_Mod_226 rfl (by decide) (by decide) (Or.inl rfl) rfl rfl (Nat.le_of_ble_eq_true rfl) (by decide) (c_Mod_push hcq44) (Or.inl rfl) ?_
                  refine A_pc (pc' := 107) rfl ?_
                  refine A_stk (st' := []) rfl ?_
                  refine A_goto (tgt := 228) rfl (by decide) ?_
                  refine A_pc (pc' := 228) rfl ?_
                  obtain ⟨rfl, rfl⟩ := leaf h
                  exact A_vret rfl rfl
                · rw [if_neg hc43] at h
                  refine A_pc (pc' := 95) rfl ?_
                  refine A_lconst (v := 0) rfl (by decide) ?_
                  refine A_goto (tgt := 104) rfl (by decide) ?_
                  obtain ⟨q46, M47, hcq46, h⟩ := bnd_out h
                  refine A_callV (ci := 11) (as := [vI 0, vJ 0]) (st' := []) (r1 := (none, M47)) rfl ml_Mod_226 rfl (by decide) (by decide) (Or.inl rfl) rfl rfl (Nat.le_of_ble_eq_true rfl) (by decide) (c_Mod_push hcq46) (Or.inl rfl) ?_
                  refine A_pc (pc' := 107) rfl ?_
                  refine A_stk (st' := []) rfl ?_
                  refine A_goto (tgt := 228) rfl (by decide) ?_
                  obtain ⟨rfl, rfl⟩ := leaf h
                  exact A_vret rfl rfl
          · rw [if_pos hc15] at h
            refine A_pc (pc' := 60) rfl ?_
            refine A_aload_n 0 rfl rfl rfl ?_
            refine A_iconst (v := 0) rfl (by decide) ?_
            refine A_lconst (v := 0) rfl (by decide) ?_
            obtain ⟨q48, M49, hcq48, h⟩ := bnd_out h
            refine A_callV (ci := 11) (as := [vI 0, vJ 0]) (st' := []) (r1 := (none, M49)) rfl ml_Mod_226 rfl (by decide) (by decide) (Or.inl rfl) rfl rfl (Nat.le_of_ble_eq_true rfl) (by decide) (c_Mod_push hcq48) (Or.inl rfl) ?_
            refine A_pc (pc' := 66) rfl ?_
            refine A_stk (st' := []) rfl ?_
            refine A_goto (tgt := 228) rfl (by decide) ?_
            refine A_pc (pc' := 228) rfl ?_
            obtain ⟨rfl, rfl⟩ := leaf h
            exact A_vret rfl rfl
        · rw [if_pos hc14] at h
          refine A_pc (pc' := 38) rfl ?_
          refine A_aload_n 0 rfl rfl rfl ?_
          refine A_iload_n 1 rfl rfl rfl ?_
          refine A_iconst (v := 3) rfl (by decide) ?_
          refine A_icmp_ne (tgt := 48) rfl (by decide) (fun hc50 => ?_) (fun hc50 => ?_)
          · rw [if_neg hc50] at h
            refine A_iconst (v := 0) rfl (by decide) ?_
            obtain ⟨q51, M52, hcq51, h⟩ := bnd_out h
            refine A_callV (ci := 11) (as := [vI 0]) (st' := []) (r1 := (none, M52)) rfl ml_Mod_232 rfl (by decide) (by decide) (Or.inl rfl) rfl rfl (Nat.le_of_ble_eq_true rfl) (by decide) (c_Mod_pushTruth hcq51) (Or.inl rfl) ?_
            refine A_pc (pc' := 52) rfl ?_
            refine A_stk (st' := []) rfl ?_
            refine A_goto (tgt := 228) rfl (by decide) ?_
            obtain ⟨rfl, rfl⟩ := leaf h
            exact A_vret rfl rfl
          · rw [if_pos hc50] at h
            refine A_pc (pc' := 44) rfl ?_
            refine A_iconst (v := 1) rfl (by decide) ?_
            refine A_goto (tgt := 49) rfl (by decide) ?_
            obtain ⟨q53, M54, hcq53, h⟩ := bnd_out h
            refine A_callV (ci := 11) (as := [vI 1]) (st' := []) (r1 := (none, M54)) rfl ml_Mod_232 rfl (by decide) (by decide) (Or.inl rfl) rfl rfl (Nat.le_of_ble_eq_true rfl) (by decide) (c_Mod_pushTruth hcq53) (Or.inl rfl) ?_
            refine A_pc (pc' := 52) rfl ?_
            refine A_stk (st' := []) rfl ?_
            refine A_goto (tgt := 228) rfl (by decide) ?_
            obtain ⟨rfl, rfl⟩ := leaf h
            exact A_vret rfl rfl
    · rw [if_pos hc7] at h
      refine A_pc (pc' := 10) rfl ?_
      refine A_pc (pc' := 10) rfl ?_
      refine A_sub (Ls' := [(0, vA 184), (1, vI a1), (2, vJ a2)]) [0, 1, 2] rfl ?_
      exact o_Mod_leaf_10  _ _ _ _ _ h
def tb_Mod_single : List (Nat × Instr × Nat) := [(0, .aload_n 0, 1), (1, .getfield 223, 3), (4, .iconst 1, 1), (5, .isub, 1), (6, .istore_n 2, 1), (7, .aload_n 0, 1), (8, .getfield 66, 3), (11, .iload_n 2, 1), (12, .iaload, 1), (13, .istore_n 3, 1), (14, .aload_n 0, 1), (15, .getfield 69, 3), (18, .iload_n 2, 1), (19, .laload, 1), (20, .lstore 4, 2), (22, .aload_n 0, 1), (23, .dup, 1), (24, .getfield 223, 3), (27, .iconst 1, 1), (28, .isub, 1), (29, .putfield 223, 3), (32, .iload_n 3, 1), (33, .iconst (-1), 1), (34, .if_icmp .ne 12, 3), (37, .aload_n 0, 1), (38, .iconst (-1), 1), (39, .lconst 0, 1), (40, .invokevirtual 226, 3), (43, .goto 211, 3), (46, .iload_n 1, 1), (47, .bipush 12, 2), (49, .if_icmp .ne 89, 3), (52, .aload_n 0, 1), (53, .iload_n 2, 1), (54, .invokevirtual 259, 3), (57, .ifCond .eq 48, 3), (60, .aload_n 0, 1), (61, .getfield 32, 3), (64, .ifCond .lt 41, 3), (67, .lload 4, 2), (69, .lconst 0, 1), (70, .lcmp, 1), (71, .ifCond .lt 34, 3), (74, .lload 4, 2), (76, .ldc2_w 262, 3), (79, .lcmp, 1), (80, .ifCond .gt 25, 3), (83, .aload_n 0, 1), (84, .aload_n 0, 1), (85, .getfield 213, 3), (88, .invokevirtual 209, 3), (91, .lload 4, 2), (93, .l2i, 1), (94, .ishr, 1), (95, .iconst 1, 1), (96, .iand, 1), (97, .iconst 1, 1), (98, .if_icmp .ne 7, 3), (101, .iconst 1, 1), (102, .goto 4, 3), (105, .iconst 0, 1), (106, .istore 6, 2), (108, .aload_n 0, 1), (109, .aload_n 0, 1), (110, .iload_n 2, 1), (111, .invokevirtual 259, 3), (114, .ifCond .eq 7, 3), (117, .iconst 1, 1), (118, .goto 4, 3), (121, .iconst (-1), 1), (122, .iload 6, 2), (124, .ifCond .eq 7, 3), (127, .lconst 1, 1), (128, .goto 4, 3), (131, .lconst 0, 1), (132, .invokevirtual 226, 3), (135, .goto 119, 3), (138, .iload_n 1, 1), (139, .bipush 13, 2), (141, .if_icmp .eq 9, 3), (144, .iload_n 1, 1), (145, .bipush 14, 2), (147, .if_icmp .ne 45, 3), (150, .aload_n 0, 1), (151, .iload_n 3, 1), (152, .iconst 4, 1), (153, .if_icmp .ne 7, 3), (156, .iconst 2, 1), (157, .goto 18, 3), (160, .iload_n 1, 1), (161, .bipush 14, 2), (163, .if_icmp .ne 11, 3), (166, .iload_n 3, 1), (167, .ifCond .ne 7, 3), (170, .iconst 0, 1), (171, .goto 4, 3), (174, .iconst (-1), 1), (175, .iload_n 3, 1), (176, .iconst 4, 1), (177, .if_icmp .ne 8, 3), (180, .lload 4, 2), (182, .goto 4, 3), (185, .lconst 0, 1), (186, .invokevirtual 226, 3), (189, .goto 65, 3), (192, .iload_n 1, 1), (193, .bipush 20, 2), (195, .if_icmp .ne 41, 3), (198, .aload_n 0, 1), (199, .aload_n 0, 1), (200, .iload_n 2, 1), (201, .invokevirtual 259, 3), (204, .ifCond .eq 7, 3), (207, .iload_n 3, 1), (208, .goto 4, 3), (211, .iconst (-1), 1), (212, .iload_n 3, 1), (213, .iconst 2, 1), (214, .if_icmp .ne 12, 3), (217, .lconst 0, 1), (218, .lload 4, 2), (220, .lsub, 1), (221, .l2i, 1), (222, .i2l, 1), (223, .goto 7, 3), (226, .lconst 0, 1), (227, .lload 4, 2), (229, .lsub, 1), (230, .invokevirtual 226, 3), (233, .goto 21, 3), (236, .aload_n 0, 1), (237, .iload_n 3, 1), (238, .iconst 1, 1), (239, .if_icmp .ne 7, 3), (242, .iconst 1, 1), (243, .goto 4, 3), (246, .iconst (-1), 1), (247, .lconst 1, 1), (248, .lload 4, 2), (250, .lsub, 1), (251, .invokevirtual 226, 3), (254, .return_, 1)]
def Y_Mod_single : ax_Y := (⟨"MethodWardenModel", "single", "(I)V"⟩, prog_14_method_34_code, 7, none, tb_Mod_single)
theorem yok_Mod_single : yOK Y_Mod_single := ⟨by decide +kernel, by decide +kernel, inWG 1444 (by decide +kernel) (by decide +kernel), inWG 107 (by decide +kernel) (by decide +kernel), by decide +kernel⟩
theorem ml_Mod_259 : mlV "MethodWardenModel" 259 Y_Mod_isNumber 1 := ⟨⟨yok_Mod_isNumber, by decide +kernel, by decide⟩, Or.inl (inWG 1445 (by decide +kernel) (by decide +kernel)), inWG 1447 (by decide +kernel) (by decide +kernel), inWG 83 (by decide +kernel) (by decide +kernel)⟩
def f_Mod_single_175 (l3 : Int32) (l4 : Int64) (s0 : Int32) (M : ax_M) : Option (Unit × ax_M) :=
  if l3 = 4 then (bnd (f_Mod_push s0 l4 M) (fun q14 M15 => some ((), M15))) else (bnd (f_Mod_push s0 0 M) (fun q12 M13 => some ((), M13)))
set_option maxHeartbeats 4000000 in
set_option maxRecDepth 100000 in
theorem o_Mod_single_175 {l : Launch} {g : ax_G} (l3 : Int32) (l4 : Int64) (s0 : Int32) (M : ax_M) (r : Unit) (M' : ax_M) (h : f_Mod_single_175  l3 l4 s0 M = some (r, M')) : AW l g true Y_Mod_single 2 (none, M') 175 [(3, vI l3), (4, vJ l4)] [vI s0, vA 184] M := by
  unfold f_Mod_single_175 at h
  refine A_iload_n 0 rfl rfl rfl ?_
  refine A_iconst (v := 4) rfl (by decide) ?_
  refine A_icmp_ne (tgt := 185) rfl (by decide) (fun hc11 => ?_) (fun hc11 => ?_)
  · rw [if_neg hc11] at h
    refine A_lconst (v := 0) rfl (by decide) ?_
    obtain ⟨q12, M13, hcq12, h⟩ := bnd_out h
    refine A_callV (ci := 11) (as := [vI s0, vJ 0]) (st' := []) (r1 := (none, M13)) rfl ml_Mod_226 rfl (by decide) (by decide) (Or.inl rfl) rfl rfl (Nat.le_of_ble_eq_true rfl) (by decide) (c_Mod_push hcq12) (Or.inl rfl) ?_
    refine A_pc (pc' := 189) rfl ?_
    refine A_stk (st' := []) rfl ?_
    refine A_goto (tgt := 254) rfl (by decide) ?_
    obtain ⟨rfl, rfl⟩ := leaf h
    exact A_vret rfl rfl
  · rw [if_pos hc11] at h
    refine A_pc (pc' := 180) rfl ?_
    refine A_lload 1 rfl rfl ?_
    refine A_goto (tgt := 186) rfl (by decide) ?_
    obtain ⟨q14, M15, hcq14, h⟩ := bnd_out h
    refine A_callV (ci := 11) (as := [vI s0, vJ l4]) (st' := []) (r1 := (none, M15)) rfl ml_Mod_226 rfl (by decide) (by decide) (Or.inl rfl) rfl rfl (Nat.le_of_ble_eq_true rfl) (by decide) (c_Mod_push hcq14) (Or.inl rfl) ?_
    refine A_pc (pc' := 189) rfl ?_
    refine A_stk (st' := []) rfl ?_
    refine A_goto (tgt := 254) rfl (by decide) ?_
    obtain ⟨rfl, rfl⟩ := leaf h
    exact A_vret rfl rfl
def f_Mod_single_150 (l1 : Int32) (l3 : Int32) (l4 : Int64) (M : ax_M) : Option (Unit × ax_M) :=
  if l3 = 4 then (f_Mod_single_175 l3 l4 2 M) else (if l1 = 14 then (if l3 = 0 then (f_Mod_single_175 l3 l4 0 M) else (f_Mod_single_175 l3 l4 ((-1)) M)) else (f_Mod_single_175 l3 l4 ((-1)) M))
set_option maxHeartbeats 4000000 in
set_option maxRecDepth 100000 in
theorem o_Mod_single_150 {l : Launch} {g : ax_G} (l1 : Int32) (l3 : Int32) (l4 : Int64) (M : ax_M) (r : Unit) (M' : ax_M) (h : f_Mod_single_150  l1 l3 l4 M = some (r, M')) : AW l g true Y_Mod_single 2 (none, M') 150 [(0, vA 184), (1, vI l1), (3, vI l3), (4, vJ l4)] [] M := by
  unfold f_Mod_single_150 at h
  refine A_aload_n 0 rfl rfl rfl ?_
  refine A_iload_n 2 rfl rfl rfl ?_
  refine A_iconst (v := 4) rfl (by decide) ?_
  refine A_icmp_ne (tgt := 160) rfl (by decide) (fun hc9 => ?_) (fun hc9 => ?_)
  · rw [if_neg hc9] at h
    refine A_iload_n 1 rfl rfl rfl ?_
    refine A_bipush (v := 14) rfl (by decide) ?_
    refine A_icmp_ne (tgt := 174) rfl (by decide) (fun hc10 => ?_) (fun hc10 => ?_)
    · rw [if_neg hc10] at h
      refine A_iconst (v := (-1)) rfl (by decide) ?_
      refine A_pc (pc' := 175) rfl ?_
      refine A_sub (Ls' := [(3, vI l3), (4, vJ l4)]) [2, 3] rfl ?_
      exact o_Mod_single_175  _ _ _ _ _ _ h
    · rw [if_pos hc10] at h
      refine A_pc (pc' := 166) rfl ?_
      refine A_iload_n 2 rfl rfl rfl ?_
      refine A_if_ne (tgt := 174) rfl (by decide) (fun hc16 => ?_) (fun hc16 => ?_)
      · rw [if_neg hc16] at h
        refine A_iconst (v := (-1)) rfl (by decide) ?_
        refine A_pc (pc' := 175) rfl ?_
        refine A_sub (Ls' := [(3, vI l3), (4, vJ l4)]) [2, 3] rfl ?_
        exact o_Mod_single_175  _ _ _ _ _ _ h
      · rw [if_pos hc16] at h
        refine A_pc (pc' := 170) rfl ?_
        refine A_iconst (v := 0) rfl (by decide) ?_
        refine A_goto (tgt := 175) rfl (by decide) ?_
        refine A_pc (pc' := 175) rfl ?_
        refine A_sub (Ls' := [(3, vI l3), (4, vJ l4)]) [2, 3] rfl ?_
        exact o_Mod_single_175  _ _ _ _ _ _ h
  · rw [if_pos hc9] at h
    refine A_pc (pc' := 156) rfl ?_
    refine A_iconst (v := 2) rfl (by decide) ?_
    refine A_goto (tgt := 175) rfl (by decide) ?_
    refine A_pc (pc' := 175) rfl ?_
    refine A_sub (Ls' := [(3, vI l3), (4, vJ l4)]) [2, 3] rfl ?_
    exact o_Mod_single_175  _ _ _ _ _ _ h
def f_Mod_single_212 (l3 : Int32) (l4 : Int64) (s0 : Int32) (M : ax_M) : Option (Unit × ax_M) :=
  if l3 = 2 then (bnd (f_Mod_push s0 (Int32.toInt64 (Int64.toInt32 (0 - l4))) M) (fun q30 M31 => some ((), M31))) else (bnd (f_Mod_push s0 (0 - l4) M) (fun q28 M29 => some ((), M29)))
set_option maxHeartbeats 4000000 in
set_option maxRecDepth 100000 in
theorem o_Mod_single_212 {l : Launch} {g : ax_G} (l3 : Int32) (l4 : Int64) (s0 : Int32) (M : ax_M) (r : Unit) (M' : ax_M) (h : f_Mod_single_212  l3 l4 s0 M = some (r, M')) : AW l g true Y_Mod_single 2 (none, M') 212 [(3, vI l3), (4, vJ l4)] [vI s0, vA 184] M := by
  unfold f_Mod_single_212 at h
  refine A_iload_n 0 rfl rfl rfl ?_
  refine A_iconst (v := 2) rfl (by decide) ?_
  refine A_icmp_ne (tgt := 226) rfl (by decide) (fun hc27 => ?_) (fun hc27 => ?_)
  · rw [if_neg hc27] at h
    refine A_lconst (v := 0) rfl (by decide) ?_
    refine A_lload 1 rfl rfl ?_
    refine A_lsub rfl ?_
    obtain ⟨q28, M29, hcq28, h⟩ := bnd_out h
    refine A_callV (ci := 11) (as := [vI s0, vJ (0 - l4)]) (st' := []) (r1 := (none, M29)) rfl ml_Mod_226 rfl (by decide) (by decide) (Or.inl rfl) rfl rfl (Nat.le_of_ble_eq_true rfl) (by decide) (c_Mod_push hcq28) (Or.inl rfl) ?_
    refine A_pc (pc' := 233) rfl ?_
    refine A_stk (st' := []) rfl ?_
    refine A_goto (tgt := 254) rfl (by decide) ?_
    refine A_pc (pc' := 254) rfl ?_
    obtain ⟨rfl, rfl⟩ := leaf h
    exact A_vret rfl rfl
  · rw [if_pos hc27] at h
    refine A_pc (pc' := 217) rfl ?_
    refine A_lconst (v := 0) rfl (by decide) ?_
    refine A_lload 1 rfl rfl ?_
    refine A_lsub rfl ?_
    refine A_l2i rfl ?_
    refine A_i2l rfl ?_
    refine A_pc (pc' := 223) rfl ?_
    refine A_goto (tgt := 230) rfl (by decide) ?_
    obtain ⟨q30, M31, hcq30, h⟩ := bnd_out h
    refine A_callV (ci := 11) (as := [vI s0, vJ (Int32.toInt64 (Int64.toInt32 (0 - l4)))]) (st' := []) (r1 := (none, M31)) rfl ml_Mod_226 rfl (by decide) (by decide) (Or.inl rfl) rfl rfl (Nat.le_of_ble_eq_true rfl) (by decide) (c_Mod_push hcq30) (Or.inl rfl) ?_
    refine A_pc (pc' := 233) rfl ?_
    refine A_stk (st' := []) rfl ?_
    refine A_goto (tgt := 254) rfl (by decide) ?_
    obtain ⟨rfl, rfl⟩ := leaf h
    exact A_vret rfl rfl
def f_Mod_single_106 (l2 : Int32) (s0 : Int32) (M : ax_M) : Option (Unit × ax_M) :=
  bnd (f_Mod_isNumber l2 M) (fun q35 M36 => if q35 = 0 then (if s0 = 0 then (bnd (f_Mod_push ((-1)) 0 M36) (fun q39 M40 => some ((), M40))) else (bnd (f_Mod_push ((-1)) 1 M36) (fun q41 M42 => some ((), M42)))) else (if s0 = 0 then (bnd (f_Mod_push 1 0 M36) (fun q44 M45 => some ((), M45))) else (bnd (f_Mod_push 1 1 M36) (fun q46 M47 => some ((), M47)))))
set_option maxHeartbeats 4000000 in
set_option maxRecDepth 100000 in
theorem o_Mod_single_106 {l : Launch} {g : ax_G} (l2 : Int32) (s0 : Int32) (M : ax_M) (r : Unit) (M' : ax_M) (h : f_Mod_single_106  l2 s0 M = some (r, M')) : AW l g true Y_Mod_single 2 (none, M') 106 [(0, vA 184), (2, vI l2)] [vI s0] M := by
  unfold f_Mod_single_106 at h
  refine A_istore (Ls' := [(6, vI s0), (0, vA 184), (2, vI l2)]) rfl (by decide) rfl ?_
  refine A_aload_n 1 rfl rfl rfl ?_
  refine A_aload_n 1 rfl rfl rfl ?_
  refine A_iload_n 2 rfl rfl rfl ?_
  obtain ⟨q35, M36, hcq35, h⟩ := bnd_out h
  refine A_callV (ci := 11) (as := [vI l2]) (st' := [vA 184]) (r1 := (some (vI q35), M36)) rfl ml_Mod_259 rfl (by decide) (by decide) (Or.inl rfl) rfl rfl (Nat.le_of_ble_eq_true rfl) (by decide) (c_Mod_isNumber hcq35) (Or.inl rfl) ?_
  refine A_pc (pc' := 114) rfl ?_
  refine A_stk (st' := [vI q35, vA 184]) rfl ?_
  refine A_pc (pc' := 114) rfl ?_
  refine A_if_eq (tgt := 121) rfl (by decide) (fun hc37 => ?_) (fun hc37 => ?_)
  · rw [if_pos hc37] at h
    refine A_iconst (v := (-1)) rfl (by decide) ?_
    refine A_iload 0 rfl rfl ?_
    refine A_if_eq (tgt := 131) rfl (by decide) (fun hc38 => ?_) (fun hc38 => ?_)
    · rw [if_pos hc38] at h
      refine A_lconst (v := 0) rfl (by decide) ?_
      obtain ⟨q39, M40, hcq39, h⟩ := bnd_out h
      refine A_callV (ci := 11) (as := [vI ((-1)), vJ 0]) (st' := []) (r1 := (none, M40)) rfl ml_Mod_226 rfl (by decide) (by decide) (Or.inl rfl) rfl rfl (Nat.le_of_ble_eq_true rfl) (by decide) (c_Mod_push hcq39) (Or.inl rfl) ?_
      refine A_pc (pc' := 135) rfl ?_
      refine A_stk (st' := []) rfl ?_
      refine A_goto (tgt := 254) rfl (by decide) ?_
      obtain ⟨rfl, rfl⟩ := leaf h
      exact A_vret rfl rfl
    · rw [if_neg hc38] at h
      refine A_pc (pc' := 127) rfl ?_
      refine A_lconst (v := 1) rfl (by decide) ?_
      refine A_goto (tgt := 132) rfl (by decide) ?_
      obtain ⟨q41, M42, hcq41, h⟩ := bnd_out h
      refine A_callV (ci := 11) (as := [vI ((-1)), vJ 1]) (st' := []) (r1 := (none, M42)) rfl ml_Mod_226 rfl (by decide) (by decide) (Or.inl rfl) rfl rfl (Nat.le_of_ble_eq_true rfl) (by decide) (c_Mod_push hcq41) (Or.inl rfl) ?_
      refine A_pc (pc' := 135) rfl ?_
      refine A_stk (st' := []) rfl ?_
      refine A_goto (tgt := 254) rfl (by decide) ?_
      obtain ⟨rfl, rfl⟩ := leaf h
      exact A_vret rfl rfl
  · rw [if_neg hc37] at h
    refine A_pc (pc' := 117) rfl ?_
    refine A_iconst (v := 1) rfl (by decide) ?_
    refine A_goto (tgt := 122) rfl (by decide) ?_
    refine A_iload 0 rfl rfl ?_
    refine A_if_eq (tgt := 131) rfl (by decide) (fun hc43 => ?_) (fun hc43 => ?_)
    · rw [if_pos hc43] at h
      refine A_lconst (v := 0) rfl (by decide) ?_
      obtain ⟨q44, M45, hcq44, h⟩ := bnd_out h
      refine A_callV (ci := 11) (as := [vI 1, vJ 0]) (st' := []) (r1 := (none, M45)) rfl ml_Mod_226 rfl (by decide) (by decide) (Or.inl rfl) rfl rfl (Nat.le_of_ble_eq_true rfl) (by decide) (c_Mod_push hcq44) (Or.inl rfl) ?_
      refine A_pc (pc' := 135) rfl ?_
      refine A_stk (st' := []) rfl ?_
      refine A_goto (tgt := 254) rfl (by decide) ?_
      obtain ⟨rfl, rfl⟩ := leaf h
      exact A_vret rfl rfl
    · rw [if_neg hc43] at h
      refine A_pc (pc' := 127) rfl ?_
      refine A_lconst (v := 1) rfl (by decide) ?_
      refine A_goto (tgt := 132) rfl (by decide) ?_
      obtain ⟨q46, M47, hcq46, h⟩ := bnd_out h
      refine A_callV (ci := 11) (as := [vI 1, vJ 1]) (st' := []) (r1 := (none, M47)) rfl ml_Mod_226 rfl (by decide) (by decide) (Or.inl rfl) rfl rfl (Nat.le_of_ble_eq_true rfl) (by decide) (c_Mod_push hcq46) (Or.inl rfl) ?_
      refine A_pc (pc' := 135) rfl ?_
      refine A_stk (st' := []) rfl ?_
      refine A_goto (tgt := 254) rfl (by decide) ?_
      obtain ⟨rfl, rfl⟩ := leaf h
      exact A_vret rfl rfl
def f_Mod_single (a1 : Int32) (M : ax_M) : Option (Unit × ax_M) :=
  kM ((gI M 184 29) - 1) (fun x1 => gi x1 48 (kM (gI M 202 x1.toNatClampNeg) (fun x3 => kM (gJ M 203 x1.toNatClampNeg) (fun j4 => kM (mI M 184 29 ((gI M 184 29) - 1)) (fun M5 => if x3 = ((-1)) then (bnd (f_Mod_push ((-1)) 0 M5) (fun q54 M55 => some ((), M55))) else (if a1 = 12 then (bnd (f_Mod_isNumber x1 M5) (fun q32 M33 => if q32 = 0 then (f_Mod_single_106 x1 0 M33) else (if (gI M33 184 13) < 0 then (f_Mod_single_106 x1 0 M33) else (if (lg_cmp j4 0) < 0 then (f_Mod_single_106 x1 0 M33) else (if 0 < (lg_cmp j4 15) then (f_Mod_single_106 x1 0 M33) else (bnd (f_Mod_closure (gI M33 184 14) M33) (fun q51 M52 => if ((q51 >>> ((Int64.toInt32 j4) &&& 31)) &&& 1) = 1 then (f_Mod_single_106 x1 1 M52) else (f_Mod_single_106 x1 0 M52)))))))) else (if a1 = 13 then (f_Mod_single_150 a1 x3 j4 M5) else (if a1 = 14 then (f_Mod_single_150 a1 x3 j4 M5) else (if a1 = 20 then (bnd (f_Mod_isNumber x1 M5) (fun q24 M25 => if q24 = 0 then (f_Mod_single_212 x3 j4 ((-1)) M25) else (f_Mod_single_212 x3 j4 x3 M25))) else (if x3 = 1 then (bnd (f_Mod_push 1 (1 - j4) M5) (fun q22 M23 => some ((), M23))) else (bnd (f_Mod_push ((-1)) (1 - j4) M5) (fun q20 M21 => some ((), M21)))))))))))))
set_option maxHeartbeats 4000000 in
set_option maxRecDepth 100000 in
theorem c_Mod_single {l : Launch} {g : ax_G} {a1 : Int32} {M : ax_M} {r : Unit} {M' : ax_M} (h : f_Mod_single a1 M = some (r, M')) : Ctr l g true Y_Mod_single 2 [vA 184, vI a1] M (none, M') := by
  refine Ctr.ofAW yok_Mod_single (Nat.le_of_ble_eq_true rfl) (Or.inl rfl) ?_
  show AW l g true Y_Mod_single 2 (none, M') 0 [(0, vA 184), (1, vI a1)] [] M
  unfold f_Mod_single at h
  refine A_aload_n 0 rfl rfl rfl ?_
  refine A_getI rfl fl_Mod_223 rfl (by decide) (Or.inl rfl) ?_
  refine A_iconst (v := 1) rfl (by decide) ?_
  refine A_isub rfl ?_
  obtain ⟨x1, hx1, h⟩ := kM_out h
  refine A_nI hx1 ?_
  refine A_istore_n (Ls' := [(2, vI x1), (0, vA 184), (1, vI a1)]) rfl rfl (by decide) rfl ?_
  refine A_pc (pc' := 7) rfl ?_
  refine A_aload_n 1 rfl rfl rfl ?_
  refine A_getL (r := 202) rfl fl_Mod_66 rfl (by decide) rfl rfl ?_
  refine A_iload_n 0 rfl rfl rfl ?_
  obtain ⟨hg2, h⟩ := gi_out h
  refine A_iald (n := 48) rfl (by decide) (by decide) (Or.inl rfl) hg2 ?_
  obtain ⟨x3, hx3, h⟩ := kM_out h
  refine A_nI hx3 ?_
  refine A_istore_n (Ls' := [(3, vI x3), (2, vI x1), (0, vA 184), (1, vI a1)]) rfl rfl (by decide) rfl ?_
  refine A_aload_n 2 rfl rfl rfl ?_
  refine A_pc (pc' := 15) rfl ?_
  refine A_getL (r := 203) rfl fl_Mod_69 rfl (by decide) rfl rfl ?_
  refine A_iload_n 1 rfl rfl rfl ?_
  refine A_lald (n := 48) rfl (by decide) (by decide) (Or.inl rfl) hg2 ?_
  obtain ⟨j4, hj4, h⟩ := kM_out h
  refine A_nJ hj4 ?_
  refine A_lstore (Ls' := [(4, vJ j4), (3, vI x3), (2, vI x1), (0, vA 184), (1, vI a1)]) rfl (by decide) rfl ?_
  refine A_aload_n 3 rfl rfl rfl ?_
  refine A_dup rfl rfl ?_
  refine A_pc (pc' := 24) rfl ?_
  refine A_getI rfl fl_Mod_223 rfl (by decide) (Or.inl rfl) ?_
  refine A_iconst (v := 1) rfl (by decide) ?_
  refine A_isub rfl ?_
  refine A_putI rfl (Or.inl fl_Mod_223) rfl (by decide) (Or.inl rfl) rfl ?_
  obtain ⟨M5, hM5, h⟩ := kM_out h
  refine A_mem hM5 ?_
  refine A_iload_n 1 rfl rfl rfl ?_
  refine A_iconst (v := (-1)) rfl (by decide) ?_
  refine A_pc (pc' := 34) rfl ?_
  refine A_icmp_ne (tgt := 46) rfl (by decide) (fun hc6 => ?_) (fun hc6 => ?_)
  · rw [if_neg hc6] at h
    refine A_iload_n 4 rfl rfl rfl ?_
    refine A_bipush (v := 12) rfl (by decide) ?_
    refine A_icmp_ne (tgt := 138) rfl (by decide) (fun hc7 => ?_) (fun hc7 => ?_)
    · rw [if_neg hc7] at h
      refine A_iload_n 4 rfl rfl rfl ?_
      refine A_bipush (v := 13) rfl (by decide) ?_
      refine A_icmp_eq (tgt := 150) rfl (by decide) (fun hc8 => ?_) (fun hc8 => ?_)
      · rw [if_pos hc8] at h
        refine A_pc (pc' := 150) rfl ?_
        refine A_sub (Ls' := [(0, vA 184), (1, vI a1), (3, vI x3), (4, vJ j4)]) [3, 4, 1, 0] rfl ?_
        exact o_Mod_single_150  _ _ _ _ _ _ h
      · rw [if_neg hc8] at h
        refine A_pc (pc' := 144) rfl ?_
        refine A_iload_n 4 rfl rfl rfl ?_
        refine A_bipush (v := 14) rfl (by decide) ?_
        refine A_icmp_ne (tgt := 192) rfl (by decide) (fun hc17 => ?_) (fun hc17 => ?_)
        · rw [if_neg hc17] at h
          refine A_iload_n 4 rfl rfl rfl ?_
          refine A_bipush (v := 20) rfl (by decide) ?_
          refine A_icmp_ne (tgt := 236) rfl (by decide) (fun hc18 => ?_) (fun hc18 => ?_)
          · rw [if_neg hc18] at h
            refine A_aload_n 3 rfl rfl rfl ?_
            refine A_iload_n 1 rfl rfl rfl ?_
            refine A_iconst (v := 1) rfl (by decide) ?_
            refine A_icmp_ne (tgt := 246) rfl (by decide) (fun hc19 => ?_) (fun hc19 => ?_)
            · rw [if_neg hc19] at h
              refine A_iconst (v := (-1)) rfl (by decide) ?_
              refine A_lconst (v := 1) rfl (by decide) ?_
              refine A_lload 0 rfl rfl ?_
              refine A_lsub rfl ?_
              obtain ⟨q20, M21, hcq20, h⟩ := bnd_out h
              refine A_callV (ci := 11) (as := [vI ((-1)), vJ (1 - j4)]) (st' := []) (r1 := (none, M21)) rfl ml_Mod_226 rfl (by decide) (by decide) (Or.inl rfl) rfl rfl (Nat.le_of_ble_eq_true rfl) (by decide) (c_Mod_push hcq20) (Or.inl rfl) ?_
              refine A_pc (pc' := 254) rfl ?_
              refine A_stk (st' := []) rfl ?_
              refine A_pc (pc' := 254) rfl ?_
              obtain ⟨rfl, rfl⟩ := leaf h
              exact A_vret rfl rfl
            · rw [if_pos hc19] at h
              refine A_pc (pc' := 242) rfl ?_
              refine A_iconst (v := 1) rfl (by decide) ?_
              refine A_goto (tgt := 247) rfl (by decide) ?_
              refine A_lconst (v := 1) rfl (by decide) ?_
              refine A_lload 0 rfl rfl ?_
              refine A_lsub rfl ?_
              refine A_pc (pc' := 251) rfl ?_
              obtain ⟨q22, M23, hcq22, h⟩ := bnd_out h
              refine A_callV (ci := 11) (as := [vI 1, vJ (1 - j4)]) (st' := []) (r1 := (none, M23)) rfl ml_Mod_226 rfl (by decide) (by decide) (Or.inl rfl) rfl rfl (Nat.le_of_ble_eq_true rfl) (by decide) (c_Mod_push hcq22) (Or.inl rfl) ?_
              refine A_pc (pc' := 254) rfl ?_
              refine A_stk (st' := []) rfl ?_
              obtain ⟨rfl, rfl⟩ := leaf h
              exact A_vret rfl rfl
          · rw [if_pos hc18] at h
            refine A_pc (pc' := 198) rfl ?_
            refine A_aload_n 3 rfl rfl rfl ?_
            refine A_aload_n 3 rfl rfl rfl ?_
            refine A_iload_n 2 rfl rfl rfl ?_
            obtain ⟨q24, M25, hcq24, h⟩ := bnd_out h
            refine A_callV (ci := 11) (as := [vI x1]) (st' := [vA 184]) (r1 := (some (vI q24), M25)) rfl ml_Mod_259 rfl (by decide) (by decide) (Or.inl rfl) rfl rfl (Nat.le_of_ble_eq_true rfl) (by decide) (c_Mod_isNumber hcq24) (Or.inl rfl) ?_
            refine A_pc (pc' := 204) rfl ?_
            refine A_stk (st' := [vI q24, vA 184]) rfl ?_
            refine A_if_eq (tgt := 211) rfl (by decide) (fun hc26 => ?_) (fun hc26 => ?_)
            · rw [if_pos hc26] at h
              refine A_iconst (v := (-1)) rfl (by decide) ?_
              refine A_pc (pc' := 212) rfl ?_
              refine A_sub (Ls' := [(3, vI x3), (4, vJ j4)]) [1, 0] rfl ?_
              exact o_Mod_single_212  _ _ _ _ _ _ h
            · rw [if_neg hc26] at h
              refine A_pc (pc' := 207) rfl ?_
              refine A_iload_n 1 rfl rfl rfl ?_
              refine A_goto (tgt := 212) rfl (by decide) ?_
              refine A_pc (pc' := 212) rfl ?_
              refine A_sub (Ls' := [(3, vI x3), (4, vJ j4)]) [1, 0] rfl ?_
              exact o_Mod_single_212  _ _ _ _ _ _ h
        · rw [if_pos hc17] at h
          refine A_pc (pc' := 150) rfl ?_
          refine A_pc (pc' := 150) rfl ?_
          refine A_sub (Ls' := [(0, vA 184), (1, vI a1), (3, vI x3), (4, vJ j4)]) [3, 4, 1, 0] rfl ?_
          exact o_Mod_single_150  _ _ _ _ _ _ h
    · rw [if_pos hc7] at h
      refine A_pc (pc' := 52) rfl ?_
      refine A_aload_n 3 rfl rfl rfl ?_
      refine A_iload_n 2 rfl rfl rfl ?_
      obtain ⟨q32, M33, hcq32, h⟩ := bnd_out h
      refine A_callV (ci := 11) (as := [vI x1]) (st' := []) (r1 := (some (vI q32), M33)) rfl ml_Mod_259 rfl (by decide) (by decide) (Or.inl rfl) rfl rfl (Nat.le_of_ble_eq_true rfl) (by decide) (c_Mod_isNumber hcq32) (Or.inl rfl) ?_
      refine A_pc (pc' := 57) rfl ?_
      refine A_stk (st' := [vI q32]) rfl ?_
      refine A_if_eq (tgt := 105) rfl (by decide) (fun hc34 => ?_) (fun hc34 => ?_)
      · rw [if_pos hc34] at h
        refine A_iconst (v := 0) rfl (by decide) ?_
        refine A_pc (pc' := 106) rfl ?_
        refine A_sub (Ls' := [(0, vA 184), (2, vI x1)]) [3, 2] rfl ?_
        exact o_Mod_single_106  _ _ _ _ _ h
      · rw [if_neg hc34] at h
        refine A_pc (pc' := 60) rfl ?_
        refine A_aload_n 3 rfl rfl rfl ?_
        refine A_getI rfl fl_Mod_32 rfl (by decide) (Or.inl rfl) ?_
        refine A_if_lt (tgt := 105) rfl (by decide) (fun hc48 => ?_) (fun hc48 => ?_)
        · rw [if_pos hc48] at h
          refine A_iconst (v := 0) rfl (by decide) ?_
          refine A_pc (pc' := 106) rfl ?_
          refine A_sub (Ls' := [(0, vA 184), (2, vI x1)]) [3, 2] rfl ?_
          exact o_Mod_single_106  _ _ _ _ _ h
        · rw [if_neg hc48] at h
          refine A_pc (pc' := 67) rfl ?_
          refine A_lload 0 rfl rfl ?_
          refine A_lconst (v := 0) rfl (by decide) ?_
          refine A_lcmp rfl ?_
          refine A_if_lt (tgt := 105) rfl (by decide) (fun hc49 => ?_) (fun hc49 => ?_)
          · rw [if_pos hc49] at h
            refine A_iconst (v := 0) rfl (by decide) ?_
            refine A_pc (pc' := 106) rfl ?_
            refine A_sub (Ls' := [(0, vA 184), (2, vI x1)]) [3, 2] rfl ?_
            exact o_Mod_single_106  _ _ _ _ _ h
          · rw [if_neg hc49] at h
            refine A_pc (pc' := 74) rfl ?_
            refine A_lload 0 rfl rfl ?_
            refine A_ldc2 (v := 15) rfl (inWG 1449 (by decide +kernel) (by decide +kernel)) ?_
            refine A_lcmp rfl ?_
            refine A_if_gt (tgt := 105) rfl (by decide) (fun hc50 => ?_) (fun hc50 => ?_)
            · rw [if_pos hc50] at h
              refine A_iconst (v := 0) rfl (by decide) ?_
              refine A_pc (pc' := 106) rfl ?_
              refine A_sub (Ls' := [(0, vA 184), (2, vI x1)]) [3, 2] rfl ?_
              exact o_Mod_single_106  _ _ _ _ _ h
            · rw [if_neg hc50] at h
              refine A_pc (pc' := 83) rfl ?_
              refine A_aload_n 3 rfl rfl rfl ?_
              refine A_aload_n 3 rfl rfl rfl ?_
              refine A_getI rfl fl_Mod_213 rfl (by decide) (Or.inl rfl) ?_
              obtain ⟨q51, M52, hcq51, h⟩ := bnd_out h
              refine A_callV (ci := 11) (as := [vI (gI M33 184 14)]) (st' := []) (r1 := (some (vI q51), M52)) rfl ml_Mod_209 rfl (by decide) (by decide) (Or.inl rfl) rfl rfl (Nat.le_of_ble_eq_true rfl) (by decide) (c_Mod_closure hcq51) (Or.inl rfl) ?_
              refine A_pc (pc' := 91) rfl ?_
              refine A_stk (st' := [vI q51]) rfl ?_
              refine A_lload 0 rfl rfl ?_
              refine A_pc (pc' := 93) rfl ?_
              refine A_l2i rfl ?_
              refine A_ishr rfl ?_
              refine A_iconst (v := 1) rfl (by decide) ?_
              refine A_iand rfl ?_
              refine A_iconst (v := 1) rfl (by decide) ?_
              refine A_icmp_ne (tgt := 105) rfl (by decide) (fun hc53 => ?_) (fun hc53 => ?_)
              · rw [if_neg hc53] at h
                refine A_iconst (v := 0) rfl (by decide) ?_
                refine A_pc (pc' := 106) rfl ?_
                refine A_sub (Ls' := [(0, vA 184), (2, vI x1)]) [3, 2] rfl ?_
                exact o_Mod_single_106  _ _ _ _ _ h
              · rw [if_pos hc53] at h
                refine A_pc (pc' := 101) rfl ?_
                refine A_iconst (v := 1) rfl (by decide) ?_
                refine A_goto (tgt := 106) rfl (by decide) ?_
                refine A_pc (pc' := 106) rfl ?_
                refine A_sub (Ls' := [(0, vA 184), (2, vI x1)]) [3, 2] rfl ?_
                exact o_Mod_single_106  _ _ _ _ _ h
  · rw [if_pos hc6] at h
    refine A_pc (pc' := 37) rfl ?_
    refine A_aload_n 3 rfl rfl rfl ?_
    refine A_iconst (v := (-1)) rfl (by decide) ?_
    refine A_lconst (v := 0) rfl (by decide) ?_
    obtain ⟨q54, M55, hcq54, h⟩ := bnd_out h
    refine A_callV (ci := 11) (as := [vI ((-1)), vJ 0]) (st' := []) (r1 := (none, M55)) rfl ml_Mod_226 rfl (by decide) (by decide) (Or.inl rfl) rfl rfl (Nat.le_of_ble_eq_true rfl) (by decide) (c_Mod_push hcq54) (Or.inl rfl) ?_
    refine A_pc (pc' := 43) rfl ?_
    refine A_stk (st' := []) rfl ?_
    refine A_goto (tgt := 254) rfl (by decide) ?_
    refine A_pc (pc' := 254) rfl ?_
    obtain ⟨rfl, rfl⟩ := leaf h
    exact A_vret rfl rfl
def tb_Mod_alike : List (Nat × Instr × Nat) := [(0, .iload_n 1, 1), (1, .iconst 1, 1), (2, .iadd, 1), (3, .istore_n 2, 1), (4, .aload_n 0, 1), (5, .iload_n 1, 1), (6, .invokevirtual 259, 3), (9, .ifCond .eq 33, 3), (12, .aload_n 0, 1), (13, .iload_n 2, 1), (14, .invokevirtual 259, 3), (17, .ifCond .eq 25, 3), (20, .aload_n 0, 1), (21, .getfield 69, 3), (24, .iload_n 1, 1), (25, .laload, 1), (26, .aload_n 0, 1), (27, .getfield 69, 3), (30, .iload_n 2, 1), (31, .laload, 1), (32, .lcmp, 1), (33, .ifCond .ne 7, 3), (36, .iconst 1, 1), (37, .goto 4, 3), (40, .iconst 0, 1), (41, .ireturn, 1), (42, .aload_n 0, 1), (43, .getfield 66, 3), (46, .iload_n 1, 1), (47, .iaload, 1), (48, .aload_n 0, 1), (49, .getfield 66, 3), (52, .iload_n 2, 1), (53, .iaload, 1), (54, .if_icmp .ne 32, 3), (57, .aload_n 0, 1), (58, .getfield 66, 3), (61, .iload_n 1, 1), (62, .iaload, 1), (63, .ifCond .eq 19, 3), (66, .aload_n 0, 1), (67, .getfield 69, 3), (70, .iload_n 1, 1), (71, .laload, 1), (72, .aload_n 0, 1), (73, .getfield 69, 3), (76, .iload_n 2, 1), (77, .laload, 1), (78, .lcmp, 1), (79, .ifCond .ne 7, 3), (82, .iconst 1, 1), (83, .goto 4, 3), (86, .iconst 0, 1), (87, .istore_n 3, 1), (88, .iconst 0, 1), (89, .istore 4, 2), (91, .iload_n 3, 1), (92, .ifCond .eq 63, 3), (95, .aload_n 0, 1), (96, .getfield 66, 3), (99, .iload_n 1, 1), (100, .iaload, 1), (101, .iconst 4, 1), (102, .if_icmp .ne 53, 3), (105, .iload 4, 2), (107, .i2l, 1), (108, .aload_n 0, 1), (109, .getfield 69, 3), (112, .iload_n 1, 1), (113, .laload, 1), (114, .lcmp, 1), (115, .ifCond .ge 40, 3), (118, .aload_n 0, 1), (119, .getfield 72, 3), (122, .iconst 5, 1), (123, .iload_n 1, 1), (124, .imul, 1), (125, .iload 4, 2), (127, .iadd, 1), (128, .iaload, 1), (129, .aload_n 0, 1), (130, .getfield 72, 3), (133, .iconst 5, 1), (134, .iload_n 2, 1), (135, .imul, 1), (136, .iload 4, 2), (138, .iadd, 1), (139, .iaload, 1), (140, .if_icmp .ne 7, 3), (143, .iconst 1, 1), (144, .goto 4, 3), (147, .iconst 0, 1), (148, .istore_n 3, 1), (149, .iinc 4 1, 3), (152, .goto (-61), 3), (155, .iload_n 3, 1), (156, .ireturn, 1)]
def Y_Mod_alike : ax_Y := (⟨"MethodWardenModel", "alike", "(I)Z"⟩, prog_14_method_35_code, 5, some .boolean, tb_Mod_alike)
theorem yok_Mod_alike : yOK Y_Mod_alike := ⟨by decide +kernel, by decide +kernel, inWG 1465 (by decide +kernel) (by decide +kernel), inWG 107 (by decide +kernel) (by decide +kernel), by decide +kernel⟩
def f_Mod_alike_91_b (K91 : Int32 → Int32 → Int32 → Int32 → ax_M → Option (Int32 × ax_M)) (l1 : Int32) (l2 : Int32) (l3 : Int32) (l4 : Int32) (M : ax_M) : Option (Int32 × ax_M) :=
  if l3 = 0 then (g2 l3 (some (l3, M))) else (gi l1 48 (if (gI M 202 l1.toNatClampNeg) = 4 then (if 0 ≤ (lg_cmp (Int32.toInt64 l4) (gJ M 203 l1.toNatClampNeg)) then (g2 l3 (some (l3, M))) else (gi ((5 * l1) + l4) 240 (gi ((5 * l2) + l4) 240 (if (gI M 204 ((5 * l1) + l4).toNatClampNeg) = (gI M 204 ((5 * l2) + l4).toNatClampNeg) then (kM (l4 + 1) (fun x19 => K91 l1 l2 1 x19 M)) else (kM (l4 + 1) (fun x18 => K91 l1 l2 0 x18 M)))))) else (g2 l3 (some (l3, M)))))
def f_Mod_alike_91 : Nat → Int32 → Int32 → Int32 → Int32 → ax_M → Option (Int32 × ax_M)
  | 0, _, _, _, _, _ => none
  | n + 1, l1, l2, l3, l4, M => f_Mod_alike_91_b  (f_Mod_alike_91 n) l1 l2 l3 l4 M
set_option maxHeartbeats 4000000 in
set_option maxRecDepth 100000 in
theorem o_Mod_alike_91_b {l : Launch} {g : ax_G} (K91 : Int32 → Int32 → Int32 → Int32 → ax_M → Option (Int32 × ax_M)) (hK91 : ∀ (l1 : Int32) (l2 : Int32) (l3 : Int32) (l4 : Int32) (M : ax_M) (r : Int32) (M' : ax_M), K91 l1 l2 l3 l4 M = some (r, M') → AW l g true Y_Mod_alike 2 (some (vI r), M') 91 [(0, vA 184), (1, vI l1), (2, vI l2), (3, vI l3), (4, vI l4)] [] M) (l1 : Int32) (l2 : Int32) (l3 : Int32) (l4 : Int32) (M : ax_M) (r : Int32) (M' : ax_M) (h : f_Mod_alike_91_b  K91 l1 l2 l3 l4 M = some (r, M')) : AW l g true Y_Mod_alike 2 (some (vI r), M') 91 [(0, vA 184), (1, vI l1), (2, vI l2), (3, vI l3), (4, vI l4)] [] M := by
  unfold f_Mod_alike_91_b at h
  refine A_iload_n 3 rfl rfl rfl ?_
  refine A_if_eq (tgt := 155) rfl (by decide) (fun hc8 => ?_) (fun hc8 => ?_)
  · rw [if_pos hc8] at h
    refine A_iload_n 3 rfl rfl rfl ?_
    obtain ⟨hg9, h⟩ := g2_out h
    obtain ⟨rfl, rfl⟩ := leaf h
    exact A_zret rfl rfl hg9
  · rw [if_neg hc8] at h
    refine A_pc (pc' := 95) rfl ?_
    refine A_aload_n 0 rfl rfl rfl ?_
    refine A_getL (r := 202) rfl fl_Mod_66 rfl (by decide) rfl rfl ?_
    refine A_iload_n 1 rfl rfl rfl ?_
    obtain ⟨hg10, h⟩ := gi_out h
    refine A_iald (n := 48) rfl (by decide) (by decide) (Or.inl rfl) hg10 ?_
    refine A_iconst (v := 4) rfl (by decide) ?_
    refine A_pc (pc' := 102) rfl ?_
    refine A_icmp_ne (tgt := 155) rfl (by decide) (fun hc11 => ?_) (fun hc11 => ?_)
    · rw [if_neg hc11] at h
      refine A_iload_n 3 rfl rfl rfl ?_
      obtain ⟨hg12, h⟩ := g2_out h
      obtain ⟨rfl, rfl⟩ := leaf h
      exact A_zret rfl rfl hg12
    · rw [if_pos hc11] at h
      refine A_pc (pc' := 105) rfl ?_
      refine A_iload 4 rfl rfl ?_
      refine A_i2l rfl ?_
      refine A_aload_n 0 rfl rfl rfl ?_
      refine A_getL (r := 203) rfl fl_Mod_69 rfl (by decide) rfl rfl ?_
      refine A_iload_n 1 rfl rfl rfl ?_
      refine A_pc (pc' := 113) rfl ?_
      refine A_lald (n := 48) rfl (by decide) (by decide) (Or.inl rfl) hg10 ?_
      refine A_lcmp rfl ?_
      refine A_if_ge (tgt := 155) rfl (by decide) (fun hc13 => ?_) (fun hc13 => ?_)
      · rw [if_pos hc13] at h
        refine A_iload_n 3 rfl rfl rfl ?_
        obtain ⟨hg14, h⟩ := g2_out h
        obtain ⟨rfl, rfl⟩ := leaf h
        exact A_zret rfl rfl hg14
      · rw [if_neg hc13] at h
        refine A_pc (pc' := 118) rfl ?_
        refine A_aload_n 0 rfl rfl rfl ?_
        refine A_getL (r := 204) rfl fl_Mod_72 rfl (by decide) rfl rfl ?_
        refine A_iconst (v := 5) rfl (by decide) ?_
        refine A_iload_n 1 rfl rfl rfl ?_
        refine A_imul rfl ?_
        refine A_pc (pc' := 125) rfl ?_
        refine A_iload 4 rfl rfl ?_
        refine A_iadd rfl ?_
        obtain ⟨hg15, h⟩ := gi_out h
        refine A_iald (n := 240) rfl (by decide) (by decide) (Or.inl rfl) hg15 ?_
        refine A_aload_n 0 rfl rfl rfl ?_
        refine A_getL (r := 204) rfl fl_Mod_72 rfl (by decide) rfl rfl ?_
        refine A_iconst (v := 5) rfl (by decide) ?_
        refine A_pc (pc' := 134) rfl ?_
        refine A_iload_n 2 rfl rfl rfl ?_
        refine A_imul rfl ?_
        refine A_iload 4 rfl rfl ?_
        refine A_iadd rfl ?_
        obtain ⟨hg16, h⟩ := gi_out h
        refine A_iald (n := 240) rfl (by decide) (by decide) (Or.inl rfl) hg16 ?_
        refine A_icmp_ne (tgt := 147) rfl (by decide) (fun hc17 => ?_) (fun hc17 => ?_)
        · rw [if_neg hc17] at h
          refine A_iconst (v := 0) rfl (by decide) ?_
          refine A_istore_n (Ls' := [(3, vI 0), (0, vA 184), (1, vI l1), (2, vI l2), (4, vI l4)]) rfl rfl (by decide) rfl ?_
          obtain ⟨x18, hx18, h⟩ := kM_out h
          refine A_iinc 4 (v := x18) (Ls' := [(4, vI x18), (3, vI 0), (0, vA 184), (1, vI l1), (2, vI l2)]) rfl rfl ((iiN (k := 1) (by decide) _).trans hx18) (by decide) rfl ?_
          refine A_goto (tgt := 91) rfl (by decide) ?_
          refine A_pc (pc' := 91) rfl ?_
          refine A_sub (Ls' := [(0, vA 184), (1, vI l1), (2, vI l2), (3, vI 0), (4, vI x18)]) [2, 3, 4, 1, 0] rfl ?_
          exact hK91 _ _ _ _ _ _ _ h
        · rw [if_pos hc17] at h
          refine A_pc (pc' := 143) rfl ?_
          refine A_iconst (v := 1) rfl (by decide) ?_
          refine A_goto (tgt := 148) rfl (by decide) ?_
          refine A_istore_n (Ls' := [(3, vI 1), (0, vA 184), (1, vI l1), (2, vI l2), (4, vI l4)]) rfl rfl (by decide) rfl ?_
          obtain ⟨x19, hx19, h⟩ := kM_out h
          refine A_iinc 4 (v := x19) (Ls' := [(4, vI x19), (3, vI 1), (0, vA 184), (1, vI l1), (2, vI l2)]) rfl rfl ((iiN (k := 1) (by decide) _).trans hx19) (by decide) rfl ?_
          refine A_goto (tgt := 91) rfl (by decide) ?_
          refine A_pc (pc' := 91) rfl ?_
          refine A_sub (Ls' := [(0, vA 184), (1, vI l1), (2, vI l2), (3, vI 1), (4, vI x19)]) [2, 3, 4, 1, 0] rfl ?_
          exact hK91 _ _ _ _ _ _ _ h
theorem o_Mod_alike_91 {l : Launch} {g : ax_G} : ∀ (n : Nat) (l1 : Int32) (l2 : Int32) (l3 : Int32) (l4 : Int32) (M : ax_M) (r : Int32) (M' : ax_M), f_Mod_alike_91  n l1 l2 l3 l4 M = some (r, M') → AW l g true Y_Mod_alike 2 (some (vI r), M') 91 [(0, vA 184), (1, vI l1), (2, vI l2), (3, vI l3), (4, vI l4)] [] M := by
  intro n
  induction n with
  | zero =>
    intro l1 l2 l3 l4 M r M' h
    cases h
  | succ n ih =>
    intro l1 l2 l3 l4 M r M' h
    exact o_Mod_alike_91_b  _ ih _ _ _ _ _ _ _ h
def f_Mod_alike_42 (l1 : Int32) (l2 : Int32) (M : ax_M) : Option (Int32 × ax_M) :=
  gi l1 48 (gi l2 48 (if (gI M 202 l1.toNatClampNeg) = (gI M 202 l2.toNatClampNeg) then (if (gI M 202 l1.toNatClampNeg) = 0 then (f_Mod_alike_91 64 l1 l2 1 0 M) else (if (lg_cmp (gJ M 203 l1.toNatClampNeg) (gJ M 203 l2.toNatClampNeg)) = 0 then (f_Mod_alike_91 64 l1 l2 1 0 M) else (f_Mod_alike_91 64 l1 l2 0 0 M))) else (f_Mod_alike_91 64 l1 l2 0 0 M)))
set_option maxHeartbeats 4000000 in
set_option maxRecDepth 100000 in
theorem o_Mod_alike_42 {l : Launch} {g : ax_G} (l1 : Int32) (l2 : Int32) (M : ax_M) (r : Int32) (M' : ax_M) (h : f_Mod_alike_42  l1 l2 M = some (r, M')) : AW l g true Y_Mod_alike 2 (some (vI r), M') 42 [(0, vA 184), (1, vI l1), (2, vI l2)] [] M := by
  unfold f_Mod_alike_42 at h
  refine A_aload_n 0 rfl rfl rfl ?_
  refine A_getL (r := 202) rfl fl_Mod_66 rfl (by decide) rfl rfl ?_
  refine A_iload_n 1 rfl rfl rfl ?_
  obtain ⟨hg5, h⟩ := gi_out h
  refine A_iald (n := 48) rfl (by decide) (by decide) (Or.inl rfl) hg5 ?_
  refine A_aload_n 0 rfl rfl rfl ?_
  refine A_pc (pc' := 49) rfl ?_
  refine A_getL (r := 202) rfl fl_Mod_66 rfl (by decide) rfl rfl ?_
  refine A_iload_n 2 rfl rfl rfl ?_
  obtain ⟨hg6, h⟩ := gi_out h
  refine A_iald (n := 48) rfl (by decide) (by decide) (Or.inl rfl) hg6 ?_
  refine A_icmp_ne (tgt := 86) rfl (by decide) (fun hc7 => ?_) (fun hc7 => ?_)
  · rw [if_neg hc7] at h
    refine A_iconst (v := 0) rfl (by decide) ?_
    refine A_istore_n (Ls' := [(3, vI 0), (0, vA 184), (1, vI l1), (2, vI l2)]) rfl rfl (by decide) rfl ?_
    refine A_iconst (v := 0) rfl (by decide) ?_
    refine A_istore (Ls' := [(4, vI 0), (3, vI 0), (0, vA 184), (1, vI l1), (2, vI l2)]) rfl (by decide) rfl ?_
    refine A_pc (pc' := 91) rfl ?_
    refine A_sub (Ls' := [(0, vA 184), (1, vI l1), (2, vI l2), (3, vI 0), (4, vI 0)]) [2, 3, 4, 1, 0] rfl ?_
    exact o_Mod_alike_91  _ _ _ _ _ _ _ _ h
  · rw [if_pos hc7] at h
    refine A_pc (pc' := 57) rfl ?_
    refine A_aload_n 0 rfl rfl rfl ?_
    refine A_getL (r := 202) rfl fl_Mod_66 rfl (by decide) rfl rfl ?_
    refine A_iload_n 1 rfl rfl rfl ?_
    refine A_iald (n := 48) rfl (by decide) (by decide) (Or.inl rfl) hg5 ?_
    refine A_if_eq (tgt := 82) rfl (by decide) (fun hc20 => ?_) (fun hc20 => ?_)
    · rw [if_pos hc20] at h
      refine A_iconst (v := 1) rfl (by decide) ?_
      refine A_goto (tgt := 87) rfl (by decide) ?_
      refine A_istore_n (Ls' := [(3, vI 1), (0, vA 184), (1, vI l1), (2, vI l2)]) rfl rfl (by decide) rfl ?_
      refine A_iconst (v := 0) rfl (by decide) ?_
      refine A_istore (Ls' := [(4, vI 0), (3, vI 1), (0, vA 184), (1, vI l1), (2, vI l2)]) rfl (by decide) rfl ?_
      refine A_pc (pc' := 91) rfl ?_
      refine A_sub (Ls' := [(0, vA 184), (1, vI l1), (2, vI l2), (3, vI 1), (4, vI 0)]) [2, 3, 4, 1, 0] rfl ?_
      exact o_Mod_alike_91  _ _ _ _ _ _ _ _ h
    · rw [if_neg hc20] at h
      refine A_pc (pc' := 66) rfl ?_
      refine A_aload_n 0 rfl rfl rfl ?_
      refine A_getL (r := 203) rfl fl_Mod_69 rfl (by decide) rfl rfl ?_
      refine A_iload_n 1 rfl rfl rfl ?_
      refine A_lald (n := 48) rfl (by decide) (by decide) (Or.inl rfl) hg5 ?_
      refine A_aload_n 0 rfl rfl rfl ?_
      refine A_pc (pc' := 73) rfl ?_
      refine A_getL (r := 203) rfl fl_Mod_69 rfl (by decide) rfl rfl ?_
      refine A_iload_n 2 rfl rfl rfl ?_
      refine A_lald (n := 48) rfl (by decide) (by decide) (Or.inl rfl) hg6 ?_
      refine A_lcmp rfl ?_
      refine A_if_ne (tgt := 86) rfl (by decide) (fun hc21 => ?_) (fun hc21 => ?_)
      · rw [if_neg hc21] at h
        refine A_iconst (v := 0) rfl (by decide) ?_
        refine A_istore_n (Ls' := [(3, vI 0), (0, vA 184), (1, vI l1), (2, vI l2)]) rfl rfl (by decide) rfl ?_
        refine A_iconst (v := 0) rfl (by decide) ?_
        refine A_istore (Ls' := [(4, vI 0), (3, vI 0), (0, vA 184), (1, vI l1), (2, vI l2)]) rfl (by decide) rfl ?_
        refine A_pc (pc' := 91) rfl ?_
        refine A_sub (Ls' := [(0, vA 184), (1, vI l1), (2, vI l2), (3, vI 0), (4, vI 0)]) [2, 3, 4, 1, 0] rfl ?_
        exact o_Mod_alike_91  _ _ _ _ _ _ _ _ h
      · rw [if_pos hc21] at h
        refine A_pc (pc' := 82) rfl ?_
        refine A_iconst (v := 1) rfl (by decide) ?_
        refine A_goto (tgt := 87) rfl (by decide) ?_
        refine A_istore_n (Ls' := [(3, vI 1), (0, vA 184), (1, vI l1), (2, vI l2)]) rfl rfl (by decide) rfl ?_
        refine A_iconst (v := 0) rfl (by decide) ?_
        refine A_istore (Ls' := [(4, vI 0), (3, vI 1), (0, vA 184), (1, vI l1), (2, vI l2)]) rfl (by decide) rfl ?_
        refine A_pc (pc' := 91) rfl ?_
        refine A_sub (Ls' := [(0, vA 184), (1, vI l1), (2, vI l2), (3, vI 1), (4, vI 0)]) [2, 3, 4, 1, 0] rfl ?_
        exact o_Mod_alike_91  _ _ _ _ _ _ _ _ h
def f_Mod_alike (a1 : Int32) (M : ax_M) : Option (Int32 × ax_M) :=
  kM (a1 + 1) (fun x1 => bnd (f_Mod_isNumber a1 M) (fun q2 M3 => if q2 = 0 then (f_Mod_alike_42 a1 x1 M3) else (bnd (f_Mod_isNumber x1 M3) (fun q22 M23 => if q22 = 0 then (f_Mod_alike_42 a1 x1 M23) else (gi a1 48 (gi x1 48 (if (lg_cmp (gJ M23 203 a1.toNatClampNeg) (gJ M23 203 x1.toNatClampNeg)) = 0 then (some (1, M23)) else (some (0, M23)))))))))
set_option maxHeartbeats 4000000 in
set_option maxRecDepth 100000 in
theorem c_Mod_alike {l : Launch} {g : ax_G} {a1 : Int32} {M : ax_M} {r : Int32} {M' : ax_M} (h : f_Mod_alike a1 M = some (r, M')) : Ctr l g true Y_Mod_alike 2 [vA 184, vI a1] M (some (vI r), M') := by
  refine Ctr.ofAW yok_Mod_alike (Nat.le_of_ble_eq_true rfl) (Or.inl rfl) ?_
  show AW l g true Y_Mod_alike 2 (some (vI r), M') 0 [(0, vA 184), (1, vI a1)] [] M
  unfold f_Mod_alike at h
  refine A_iload_n 1 rfl rfl rfl ?_
  refine A_iconst (v := 1) rfl (by decide) ?_
  refine A_iadd rfl ?_
  obtain ⟨x1, hx1, h⟩ := kM_out h
  refine A_nI hx1 ?_
  refine A_istore_n (Ls' := [(2, vI x1), (0, vA 184), (1, vI a1)]) rfl rfl (by decide) rfl ?_
  refine A_aload_n 1 rfl rfl rfl ?_
  refine A_pc (pc' := 5) rfl ?_
  refine A_iload_n 2 rfl rfl rfl ?_
  obtain ⟨q2, M3, hcq2, h⟩ := bnd_out h
  refine A_callV (ci := 11) (as := [vI a1]) (st' := []) (r1 := (some (vI q2), M3)) rfl ml_Mod_259 rfl (by decide) (by decide) (Or.inl rfl) rfl rfl (Nat.le_of_ble_eq_true rfl) (by decide) (c_Mod_isNumber hcq2) (Or.inl rfl) ?_
  refine A_pc (pc' := 9) rfl ?_
  refine A_stk (st' := [vI q2]) rfl ?_
  refine A_if_eq (tgt := 42) rfl (by decide) (fun hc4 => ?_) (fun hc4 => ?_)
  · rw [if_pos hc4] at h
    refine A_pc (pc' := 42) rfl ?_
    refine A_sub (Ls' := [(0, vA 184), (1, vI a1), (2, vI x1)]) [1, 2, 0] rfl ?_
    exact o_Mod_alike_42  _ _ _ _ _ h
  · rw [if_neg hc4] at h
    refine A_pc (pc' := 12) rfl ?_
    refine A_aload_n 1 rfl rfl rfl ?_
    refine A_iload_n 0 rfl rfl rfl ?_
    obtain ⟨q22, M23, hcq22, h⟩ := bnd_out h
    refine A_callV (ci := 11) (as := [vI x1]) (st' := []) (r1 := (some (vI q22), M23)) rfl ml_Mod_259 rfl (by decide) (by decide) (Or.inl rfl) rfl rfl (Nat.le_of_ble_eq_true rfl) (by decide) (c_Mod_isNumber hcq22) (Or.inl rfl) ?_
    refine A_pc (pc' := 17) rfl ?_
    refine A_stk (st' := [vI q22]) rfl ?_
    refine A_if_eq (tgt := 42) rfl (by decide) (fun hc24 => ?_) (fun hc24 => ?_)
    · rw [if_pos hc24] at h
      refine A_pc (pc' := 42) rfl ?_
      refine A_sub (Ls' := [(0, vA 184), (1, vI a1), (2, vI x1)]) [1, 2, 0] rfl ?_
      exact o_Mod_alike_42  _ _ _ _ _ h
    · rw [if_neg hc24] at h
      refine A_pc (pc' := 20) rfl ?_
      refine A_aload_n 1 rfl rfl rfl ?_
      refine A_getL (r := 203) rfl fl_Mod_69 rfl (by decide) rfl rfl ?_
      refine A_iload_n 2 rfl rfl rfl ?_
      obtain ⟨hg25, h⟩ := gi_out h
      refine A_lald (n := 48) rfl (by decide) (by decide) (Or.inl rfl) hg25 ?_
      refine A_aload_n 1 rfl rfl rfl ?_
      refine A_pc (pc' := 27) rfl ?_
      refine A_getL (r := 203) rfl fl_Mod_69 rfl (by decide) rfl rfl ?_
      refine A_iload_n 0 rfl rfl rfl ?_
      obtain ⟨hg26, h⟩ := gi_out h
      refine A_lald (n := 48) rfl (by decide) (by decide) (Or.inl rfl) hg26 ?_
      refine A_lcmp rfl ?_
      refine A_if_ne (tgt := 40) rfl (by decide) (fun hc27 => ?_) (fun hc27 => ?_)
      · rw [if_neg hc27] at h
        refine A_iconst (v := 0) rfl (by decide) ?_
        obtain ⟨rfl, rfl⟩ := leaf h
        exact A_zret rfl rfl (Or.inl rfl)
      · rw [if_pos hc27] at h
        refine A_pc (pc' := 36) rfl ?_
        refine A_iconst (v := 1) rfl (by decide) ?_
        refine A_goto (tgt := 41) rfl (by decide) ?_
        obtain ⟨rfl, rfl⟩ := leaf h
        exact A_zret rfl rfl (Or.inr rfl)
def tb_Mod_calculated : List (Nat × Instr × Nat) := [(0, .iload_n 1, 1), (1, .bipush 30, 2), (3, .if_icmp .ne 10, 3), (6, .lload_n 2, 1), (7, .lload 4, 2), (9, .ladd, 1), (10, .goto 46, 3), (13, .iload_n 1, 1), (14, .bipush 31, 2), (16, .if_icmp .ne 10, 3), (19, .lload_n 2, 1), (20, .lload 4, 2), (22, .lsub, 1), (23, .goto 33, 3), (26, .iload_n 1, 1), (27, .bipush 32, 2), (29, .if_icmp .ne 10, 3), (32, .lload_n 2, 1), (33, .lload 4, 2), (35, .lmul, 1), (36, .goto 20, 3), (39, .iload_n 1, 1), (40, .bipush 33, 2), (42, .if_icmp .ne 10, 3), (45, .lload_n 2, 1), (46, .lload 4, 2), (48, .ldiv, 1), (49, .goto 7, 3), (52, .lload_n 2, 1), (53, .lload 4, 2), (55, .lrem, 1), (56, .lreturn, 1)]
def Y_Mod_calculated : ax_Y := (⟨"MethodWardenModel", "calculated", "(IJJ)J"⟩, prog_14_method_36_code, 6, some .long, tb_Mod_calculated)
theorem yok_Mod_calculated : yOK Y_Mod_calculated := ⟨by decide +kernel, by decide +kernel, inWG 1473 (by decide +kernel) (by decide +kernel), inWG 107 (by decide +kernel) (by decide +kernel), by decide +kernel⟩
def f_Mod_calculated (a1 : Int32) (a2 : Int64) (a3 : Int64) (M : ax_M) : Option (Int64 × ax_M) :=
  if a1 = 30 then (some (a2 + a3, M)) else (if a1 = 31 then (some (a2 - a3, M)) else (if a1 = 32 then (some (a2 * a3, M)) else (if a1 = 33 then (gz a3 (some (a2 / a3, M))) else (gz a3 (some (a2 - a2 / a3 * a3, M))))))
set_option maxHeartbeats 4000000 in
set_option maxRecDepth 100000 in
theorem c_Mod_calculated {l : Launch} {g : ax_G} {a1 : Int32} {a2 : Int64} {a3 : Int64} {M : ax_M} {r : Int64} {M' : ax_M} (h : f_Mod_calculated a1 a2 a3 M = some (r, M')) : Ctr l g true Y_Mod_calculated 1 [vA 184, vI a1, vJ a2, vJ a3] M (some (vJ r), M') := by
  refine Ctr.ofAW yok_Mod_calculated (Nat.le_of_ble_eq_true rfl) (Or.inl rfl) ?_
  show AW l g true Y_Mod_calculated 1 (some (vJ r), M') 0 [(0, vA 184), (1, vI a1), (2, vJ a2), (4, vJ a3)] [] M
  unfold f_Mod_calculated at h
  refine A_iload_n 1 rfl rfl rfl ?_
  refine A_bipush (v := 30) rfl (by decide) ?_
  refine A_icmp_ne (tgt := 13) rfl (by decide) (fun hc1 => ?_) (fun hc1 => ?_)
  · rw [if_neg hc1] at h
    refine A_iload_n 1 rfl rfl rfl ?_
    refine A_bipush (v := 31) rfl (by decide) ?_
    refine A_icmp_ne (tgt := 26) rfl (by decide) (fun hc2 => ?_) (fun hc2 => ?_)
    · rw [if_neg hc2] at h
      refine A_iload_n 1 rfl rfl rfl ?_
      refine A_bipush (v := 32) rfl (by decide) ?_
      refine A_icmp_ne (tgt := 39) rfl (by decide) (fun hc3 => ?_) (fun hc3 => ?_)
      · rw [if_neg hc3] at h
        refine A_iload_n 1 rfl rfl rfl ?_
        refine A_bipush (v := 33) rfl (by decide) ?_
        refine A_icmp_ne (tgt := 52) rfl (by decide) (fun hc4 => ?_) (fun hc4 => ?_)
        · rw [if_neg hc4] at h
          refine A_lload_n 2 rfl rfl rfl ?_
          refine A_lload 3 rfl rfl ?_
          obtain ⟨hg5, h⟩ := gz_out h
          refine A_lrem rfl hg5 ?_
          obtain ⟨rfl, rfl⟩ := leaf h
          exact A_lret rfl rfl
        · rw [if_pos hc4] at h
          refine A_pc (pc' := 45) rfl ?_
          refine A_lload_n 2 rfl rfl rfl ?_
          refine A_lload 3 rfl rfl ?_
          obtain ⟨hg6, h⟩ := gz_out h
          refine A_ldiv rfl hg6 ?_
          refine A_goto (tgt := 56) rfl (by decide) ?_
          obtain ⟨rfl, rfl⟩ := leaf h
          exact A_lret rfl rfl
      · rw [if_pos hc3] at h
        refine A_pc (pc' := 32) rfl ?_
        refine A_lload_n 2 rfl rfl rfl ?_
        refine A_lload 3 rfl rfl ?_
        refine A_lmul rfl ?_
        refine A_goto (tgt := 56) rfl (by decide) ?_
        obtain ⟨rfl, rfl⟩ := leaf h
        exact A_lret rfl rfl
    · rw [if_pos hc2] at h
      refine A_pc (pc' := 19) rfl ?_
      refine A_lload_n 2 rfl rfl rfl ?_
      refine A_lload 3 rfl rfl ?_
      refine A_lsub rfl ?_
      refine A_goto (tgt := 56) rfl (by decide) ?_
      obtain ⟨rfl, rfl⟩ := leaf h
      exact A_lret rfl rfl
  · rw [if_pos hc1] at h
    refine A_pc (pc' := 6) rfl ?_
    refine A_lload_n 2 rfl rfl rfl ?_
    refine A_lload 3 rfl rfl ?_
    refine A_ladd rfl ?_
    refine A_goto (tgt := 56) rfl (by decide) ?_
    obtain ⟨rfl, rfl⟩ := leaf h
    exact A_lret rfl rfl
def tb_Mod_ordered : List (Nat × Instr × Nat) := [(0, .iload_n 1, 1), (1, .bipush 26, 2), (3, .if_icmp .ne 18, 3), (6, .lload_n 2, 1), (7, .lload 4, 2), (9, .lcmp, 1), (10, .ifCond .ge 7, 3), (13, .iconst 1, 1), (14, .goto 61, 3), (17, .iconst 0, 1), (18, .goto 57, 3), (21, .iload_n 1, 1), (22, .bipush 27, 2), (24, .if_icmp .ne 18, 3), (27, .lload_n 2, 1), (28, .lload 4, 2), (30, .lcmp, 1), (31, .ifCond .gt 7, 3), (34, .iconst 1, 1), (35, .goto 40, 3), (38, .iconst 0, 1), (39, .goto 36, 3), (42, .iload_n 1, 1), (43, .bipush 28, 2), (45, .if_icmp .ne 18, 3), (48, .lload_n 2, 1), (49, .lload 4, 2), (51, .lcmp, 1), (52, .ifCond .le 7, 3), (55, .iconst 1, 1), (56, .goto 19, 3), (59, .iconst 0, 1), (60, .goto 15, 3), (63, .lload_n 2, 1), (64, .lload 4, 2), (66, .lcmp, 1), (67, .ifCond .lt 7, 3), (70, .iconst 1, 1), (71, .goto 4, 3), (74, .iconst 0, 1), (75, .ireturn, 1)]
def Y_Mod_ordered : ax_Y := (⟨"MethodWardenModel", "ordered", "(IJJ)Z"⟩, prog_14_method_37_code, 6, some .boolean, tb_Mod_ordered)
theorem yok_Mod_ordered : yOK Y_Mod_ordered := ⟨by decide +kernel, by decide +kernel, inWG 1469 (by decide +kernel) (by decide +kernel), inWG 107 (by decide +kernel) (by decide +kernel), by decide +kernel⟩
def f_Mod_ordered (a1 : Int32) (a2 : Int64) (a3 : Int64) (M : ax_M) : Option (Int32 × ax_M) :=
  if a1 = 26 then (if 0 ≤ (lg_cmp a2 a3) then (some (0, M)) else (some (1, M))) else (if a1 = 27 then (if 0 < (lg_cmp a2 a3) then (some (0, M)) else (some (1, M))) else (if a1 = 28 then (if (lg_cmp a2 a3) ≤ 0 then (some (0, M)) else (some (1, M))) else (if (lg_cmp a2 a3) < 0 then (some (0, M)) else (some (1, M)))))
set_option maxHeartbeats 4000000 in
set_option maxRecDepth 100000 in
theorem c_Mod_ordered {l : Launch} {g : ax_G} {a1 : Int32} {a2 : Int64} {a3 : Int64} {M : ax_M} {r : Int32} {M' : ax_M} (h : f_Mod_ordered a1 a2 a3 M = some (r, M')) : Ctr l g true Y_Mod_ordered 1 [vA 184, vI a1, vJ a2, vJ a3] M (some (vI r), M') := by
  refine Ctr.ofAW yok_Mod_ordered (Nat.le_of_ble_eq_true rfl) (Or.inl rfl) ?_
  show AW l g true Y_Mod_ordered 1 (some (vI r), M') 0 [(0, vA 184), (1, vI a1), (2, vJ a2), (4, vJ a3)] [] M
  unfold f_Mod_ordered at h
  refine A_iload_n 1 rfl rfl rfl ?_
  refine A_bipush (v := 26) rfl (by decide) ?_
  refine A_icmp_ne (tgt := 21) rfl (by decide) (fun hc1 => ?_) (fun hc1 => ?_)
  · rw [if_neg hc1] at h
    refine A_iload_n 1 rfl rfl rfl ?_
    refine A_bipush (v := 27) rfl (by decide) ?_
    refine A_icmp_ne (tgt := 42) rfl (by decide) (fun hc2 => ?_) (fun hc2 => ?_)
    · rw [if_neg hc2] at h
      refine A_iload_n 1 rfl rfl rfl ?_
      refine A_bipush (v := 28) rfl (by decide) ?_
      refine A_icmp_ne (tgt := 63) rfl (by decide) (fun hc3 => ?_) (fun hc3 => ?_)
      · rw [if_neg hc3] at h
        refine A_lload_n 2 rfl rfl rfl ?_
        refine A_lload 3 rfl rfl ?_
        refine A_lcmp rfl ?_
        refine A_if_lt (tgt := 74) rfl (by decide) (fun hc4 => ?_) (fun hc4 => ?_)
        · rw [if_pos hc4] at h
          refine A_iconst (v := 0) rfl (by decide) ?_
          obtain ⟨rfl, rfl⟩ := leaf h
          exact A_zret rfl rfl (Or.inl rfl)
        · rw [if_neg hc4] at h
          refine A_pc (pc' := 70) rfl ?_
          refine A_iconst (v := 1) rfl (by decide) ?_
          refine A_goto (tgt := 75) rfl (by decide) ?_
          obtain ⟨rfl, rfl⟩ := leaf h
          exact A_zret rfl rfl (Or.inr rfl)
      · rw [if_pos hc3] at h
        refine A_pc (pc' := 48) rfl ?_
        refine A_lload_n 2 rfl rfl rfl ?_
        refine A_lload 3 rfl rfl ?_
        refine A_lcmp rfl ?_
        refine A_if_le (tgt := 59) rfl (by decide) (fun hc5 => ?_) (fun hc5 => ?_)
        · rw [if_pos hc5] at h
          refine A_iconst (v := 0) rfl (by decide) ?_
          refine A_goto (tgt := 75) rfl (by decide) ?_
          obtain ⟨rfl, rfl⟩ := leaf h
          exact A_zret rfl rfl (Or.inl rfl)
        · rw [if_neg hc5] at h
          refine A_pc (pc' := 55) rfl ?_
          refine A_iconst (v := 1) rfl (by decide) ?_
          refine A_goto (tgt := 75) rfl (by decide) ?_
          obtain ⟨rfl, rfl⟩ := leaf h
          exact A_zret rfl rfl (Or.inr rfl)
    · rw [if_pos hc2] at h
      refine A_pc (pc' := 27) rfl ?_
      refine A_lload_n 2 rfl rfl rfl ?_
      refine A_lload 3 rfl rfl ?_
      refine A_lcmp rfl ?_
      refine A_if_gt (tgt := 38) rfl (by decide) (fun hc6 => ?_) (fun hc6 => ?_)
      · rw [if_pos hc6] at h
        refine A_iconst (v := 0) rfl (by decide) ?_
        refine A_goto (tgt := 75) rfl (by decide) ?_
        obtain ⟨rfl, rfl⟩ := leaf h
        exact A_zret rfl rfl (Or.inl rfl)
      · rw [if_neg hc6] at h
        refine A_pc (pc' := 34) rfl ?_
        refine A_iconst (v := 1) rfl (by decide) ?_
        refine A_goto (tgt := 75) rfl (by decide) ?_
        obtain ⟨rfl, rfl⟩ := leaf h
        exact A_zret rfl rfl (Or.inr rfl)
  · rw [if_pos hc1] at h
    refine A_pc (pc' := 6) rfl ?_
    refine A_lload_n 2 rfl rfl rfl ?_
    refine A_lload 3 rfl rfl ?_
    refine A_lcmp rfl ?_
    refine A_if_ge (tgt := 17) rfl (by decide) (fun hc7 => ?_) (fun hc7 => ?_)
    · rw [if_pos hc7] at h
      refine A_iconst (v := 0) rfl (by decide) ?_
      refine A_goto (tgt := 75) rfl (by decide) ?_
      obtain ⟨rfl, rfl⟩ := leaf h
      exact A_zret rfl rfl (Or.inl rfl)
    · rw [if_neg hc7] at h
      refine A_pc (pc' := 13) rfl ?_
      refine A_iconst (v := 1) rfl (by decide) ?_
      refine A_goto (tgt := 75) rfl (by decide) ?_
      obtain ⟨rfl, rfl⟩ := leaf h
      exact A_zret rfl rfl (Or.inr rfl)
def tb_Mod_pair : List (Nat × Instr × Nat) := [(0, .aload_n 0, 1), (1, .getfield 223, 3), (4, .iconst 2, 1), (5, .isub, 1), (6, .istore_n 2, 1), (7, .aload_n 0, 1), (8, .getfield 223, 3), (11, .iconst 1, 1), (12, .isub, 1), (13, .istore_n 3, 1), (14, .aload_n 0, 1), (15, .dup, 1), (16, .getfield 223, 3), (19, .iconst 2, 1), (20, .isub, 1), (21, .putfield 223, 3), (24, .aload_n 0, 1), (25, .getfield 69, 3), (28, .iload_n 2, 1), (29, .laload, 1), (30, .lstore 4, 2), (32, .aload_n 0, 1), (33, .getfield 69, 3), (36, .iload_n 3, 1), (37, .laload, 1), (38, .lstore 6, 2), (40, .aload_n 0, 1), (41, .iload_n 2, 1), (42, .invokevirtual 259, 3), (45, .ifCond .eq 15, 3), (48, .aload_n 0, 1), (49, .iload_n 3, 1), (50, .invokevirtual 259, 3), (53, .ifCond .eq 7, 3), (56, .iconst 1, 1), (57, .goto 4, 3), (60, .iconst 0, 1), (61, .istore 8, 2), (63, .aload_n 0, 1), (64, .getfield 66, 3), (67, .iload_n 2, 1), (68, .iaload, 1), (69, .iconst (-1), 1), (70, .if_icmp .eq 13, 3), (73, .aload_n 0, 1), (74, .getfield 66, 3), (77, .iload_n 3, 1), (78, .iaload, 1), (79, .iconst (-1), 1), (80, .if_icmp .ne 12, 3), (83, .aload_n 0, 1), (84, .iconst (-1), 1), (85, .lconst 0, 1), (86, .invokevirtual 226, 3), (89, .goto 252, 3), (92, .iload_n 1, 1), (93, .bipush 24, 2), (95, .if_icmp .eq 9, 3), (98, .iload_n 1, 1), (99, .bipush 25, 2), (101, .if_icmp .ne 34, 3), (104, .aload_n 0, 1), (105, .aload_n 0, 1), (106, .iload_n 2, 1), (107, .invokevirtual 264, 3), (110, .iload_n 1, 1), (111, .bipush 24, 2), (113, .if_icmp .ne 7, 3), (116, .iconst 1, 1), (117, .goto 4, 3), (120, .iconst 0, 1), (121, .if_icmp .ne 7, 3), (124, .iconst 1, 1), (125, .goto 4, 3), (128, .iconst 0, 1), (129, .invokevirtual 232, 3), (132, .goto 209, 3), (135, .iload_n 1, 1), (136, .bipush 15, 2), (138, .if_icmp .ne 82, 3), (141, .aload_n 0, 1), (142, .getfield 66, 3), (145, .iload_n 2, 1), (146, .iaload, 1), (147, .iconst 4, 1), (148, .if_icmp .ne 30, 3), (151, .aload_n 0, 1), (152, .iload_n 3, 1), (153, .invokevirtual 259, 3), (156, .ifCond .eq 22, 3), (159, .lload 6, 2), (161, .lconst 0, 1), (162, .lcmp, 1), (163, .ifCond .lt 15, 3), (166, .lload 6, 2), (168, .lload 4, 2), (170, .lcmp, 1), (171, .ifCond .ge 7, 3), (174, .iconst 1, 1), (175, .goto 4, 3), (178, .iconst 0, 1), (179, .istore 9, 2), (181, .aload_n 0, 1), (182, .iload 9, 2), (184, .ifCond .eq 7, 3), (187, .iconst 2, 1), (188, .goto 4, 3), (191, .iconst (-1), 1), (192, .iload 9, 2), (194, .ifCond .eq 19, 3), (197, .aload_n 0, 1), (198, .getfield 72, 3), (201, .iconst 5, 1), (202, .iload_n 2, 1), (203, .imul, 1), (204, .lload 6, 2), (206, .l2i, 1), (207, .iadd, 1), (208, .iaload, 1), (209, .i2l, 1), (210, .goto 4, 3), (213, .lconst 0, 1), (214, .invokevirtual 226, 3), (217, .goto 124, 3), (220, .iload 8, 2), (222, .ifCond .eq 16, 3), (225, .iload_n 1, 1), (226, .bipush 33, 2), (228, .if_icmp .lt 19, 3), (231, .lload 6, 2), (233, .lconst 0, 1), (234, .lcmp, 1), (235, .ifCond .ne 12, 3), (238, .aload_n 0, 1), (239, .iconst (-1), 1), (240, .lconst 0, 1), (241, .invokevirtual 226, 3), (244, .goto 97, 3), (247, .iload_n 1, 1), (248, .bipush 26, 2), (250, .if_icmp .lt 25, 3), (253, .iload_n 1, 1), (254, .bipush 29, 2), (256, .if_icmp .gt 19, 3), (259, .aload_n 0, 1), (260, .aload_n 0, 1), (261, .iload_n 1, 1), (262, .lload 4, 2), (264, .lload 6, 2), (266, .invokevirtual 267, 3), (269, .invokevirtual 232, 3), (272, .goto 69, 3), (275, .aload_n 0, 1), (276, .iload_n 1, 1), (277, .lload 4, 2), (279, .lload 6, 2), (281, .invokevirtual 271, 3), (284, .lstore 9, 2), (286, .aload_n 0, 1), (287, .getfield 66, 3), (290, .iload_n 2, 1), (291, .iaload, 1), (292, .iconst 2, 1), (293, .if_icmp .ne 17, 3), (296, .aload_n 0, 1), (297, .getfield 66, 3), (300, .iload_n 3, 1), (301, .iaload, 1), (302, .iconst 2, 1), (303, .if_icmp .ne 7, 3), (306, .iconst 1, 1), (307, .goto 4, 3), (310, .iconst 0, 1), (311, .istore 11, 2), (313, .aload_n 0, 1), (314, .iload 11, 2), (316, .ifCond .eq 7, 3), (319, .iconst 2, 1), (320, .goto 4, 3), (323, .iconst 3, 1), (324, .iload 11, 2), (326, .ifCond .eq 10, 3), (329, .lload 9, 2), (331, .l2i, 1), (332, .i2l, 1), (333, .goto 5, 3), (336, .lload 9, 2), (338, .invokevirtual 226, 3), (341, .return_, 1)]
def Y_Mod_pair : ax_Y := (⟨"MethodWardenModel", "pair", "(I)V"⟩, prog_14_method_38_code, 12, none, tb_Mod_pair)
theorem yok_Mod_pair : yOK Y_Mod_pair := ⟨by decide +kernel, by decide +kernel, inWG 1461 (by decide +kernel) (by decide +kernel), inWG 107 (by decide +kernel) (by decide +kernel), by decide +kernel⟩
theorem ml_Mod_264 : mlV "MethodWardenModel" 264 Y_Mod_alike 1 := ⟨⟨yok_Mod_alike, by decide +kernel, by decide⟩, Or.inl (inWG 1462 (by decide +kernel) (by decide +kernel)), inWG 1464 (by decide +kernel) (by decide +kernel), inWG 87 (by decide +kernel) (by decide +kernel)⟩
theorem ml_Mod_271 : mlV "MethodWardenModel" 271 Y_Mod_calculated 3 := ⟨⟨yok_Mod_calculated, by decide +kernel, by decide⟩, Or.inl (inWG 1470 (by decide +kernel) (by decide +kernel)), inWG 1472 (by decide +kernel) (by decide +kernel), inWG 89 (by decide +kernel) (by decide +kernel)⟩
theorem ml_Mod_267 : mlV "MethodWardenModel" 267 Y_Mod_ordered 3 := ⟨⟨yok_Mod_ordered, by decide +kernel, by decide⟩, Or.inl (inWG 1466 (by decide +kernel) (by decide +kernel)), inWG 1468 (by decide +kernel) (by decide +kernel), inWG 88 (by decide +kernel) (by decide +kernel)⟩
def f_Mod_pair_104 (l1 : Int32) (l2 : Int32) (M : ax_M) : Option (Unit × ax_M) :=
  bnd (f_Mod_alike l2 M) (fun q18 M19 => if l1 = 24 then (if q18 = 1 then (bnd (f_Mod_pushTruth 1 M19) (fun q29 M30 => some ((), M30))) else (bnd (f_Mod_pushTruth 0 M19) (fun q27 M28 => some ((), M28)))) else (if q18 = 0 then (bnd (f_Mod_pushTruth 1 M19) (fun q24 M25 => some ((), M25))) else (bnd (f_Mod_pushTruth 0 M19) (fun q22 M23 => some ((), M23)))))
set_option maxHeartbeats 4000000 in
set_option maxRecDepth 100000 in
theorem o_Mod_pair_104 {l : Launch} {g : ax_G} (l1 : Int32) (l2 : Int32) (M : ax_M) (r : Unit) (M' : ax_M) (h : f_Mod_pair_104  l1 l2 M = some (r, M')) : AW l g true Y_Mod_pair 3 (none, M') 104 [(0, vA 184), (1, vI l1), (2, vI l2)] [] M := by
  unfold f_Mod_pair_104 at h
  refine A_aload_n 0 rfl rfl rfl ?_
  refine A_aload_n 0 rfl rfl rfl ?_
  refine A_iload_n 2 rfl rfl rfl ?_
  obtain ⟨q18, M19, hcq18, h⟩ := bnd_out h
  refine A_callV (ci := 11) (as := [vI l2]) (st' := [vA 184]) (r1 := (some (vI q18), M19)) rfl ml_Mod_264 rfl (by decide) (by decide) (Or.inl rfl) rfl rfl (Nat.le_of_ble_eq_true rfl) (by decide) (c_Mod_alike hcq18) (Or.inl rfl) ?_
  refine A_pc (pc' := 110) rfl ?_
  refine A_stk (st' := [vI q18, vA 184]) rfl ?_
  refine A_iload_n 1 rfl rfl rfl ?_
  refine A_pc (pc' := 111) rfl ?_
  refine A_bipush (v := 24) rfl (by decide) ?_
  refine A_icmp_ne (tgt := 120) rfl (by decide) (fun hc20 => ?_) (fun hc20 => ?_)
  · rw [if_neg hc20] at h
    refine A_iconst (v := 0) rfl (by decide) ?_
    refine A_icmp_ne (tgt := 128) rfl (by decide) (fun hc21 => ?_) (fun hc21 => ?_)
    · rw [if_neg hc21] at h
      refine A_iconst (v := 0) rfl (by decide) ?_
      obtain ⟨q22, M23, hcq22, h⟩ := bnd_out h
      refine A_callV (ci := 11) (as := [vI 0]) (st' := []) (r1 := (none, M23)) rfl ml_Mod_232 rfl (by decide) (by decide) (Or.inl rfl) rfl rfl (Nat.le_of_ble_eq_true rfl) (by decide) (c_Mod_pushTruth hcq22) (Or.inl rfl) ?_
      refine A_pc (pc' := 132) rfl ?_
      refine A_stk (st' := []) rfl ?_
      refine A_goto (tgt := 341) rfl (by decide) ?_
      obtain ⟨rfl, rfl⟩ := leaf h
      exact A_vret rfl rfl
    · rw [if_pos hc21] at h
      refine A_pc (pc' := 124) rfl ?_
      refine A_iconst (v := 1) rfl (by decide) ?_
      refine A_goto (tgt := 129) rfl (by decide) ?_
      obtain ⟨q24, M25, hcq24, h⟩ := bnd_out h
      refine A_callV (ci := 11) (as := [vI 1]) (st' := []) (r1 := (none, M25)) rfl ml_Mod_232 rfl (by decide) (by decide) (Or.inl rfl) rfl rfl (Nat.le_of_ble_eq_true rfl) (by decide) (c_Mod_pushTruth hcq24) (Or.inl rfl) ?_
      refine A_pc (pc' := 132) rfl ?_
      refine A_stk (st' := []) rfl ?_
      refine A_goto (tgt := 341) rfl (by decide) ?_
      obtain ⟨rfl, rfl⟩ := leaf h
      exact A_vret rfl rfl
  · rw [if_pos hc20] at h
    refine A_pc (pc' := 116) rfl ?_
    refine A_iconst (v := 1) rfl (by decide) ?_
    refine A_goto (tgt := 121) rfl (by decide) ?_
    refine A_icmp_ne (tgt := 128) rfl (by decide) (fun hc26 => ?_) (fun hc26 => ?_)
    · rw [if_neg hc26] at h
      refine A_iconst (v := 0) rfl (by decide) ?_
      obtain ⟨q27, M28, hcq27, h⟩ := bnd_out h
      refine A_callV (ci := 11) (as := [vI 0]) (st' := []) (r1 := (none, M28)) rfl ml_Mod_232 rfl (by decide) (by decide) (Or.inl rfl) rfl rfl (Nat.le_of_ble_eq_true rfl) (by decide) (c_Mod_pushTruth hcq27) (Or.inl rfl) ?_
      refine A_pc (pc' := 132) rfl ?_
      refine A_stk (st' := []) rfl ?_
      refine A_goto (tgt := 341) rfl (by decide) ?_
      obtain ⟨rfl, rfl⟩ := leaf h
      exact A_vret rfl rfl
    · rw [if_pos hc26] at h
      refine A_pc (pc' := 124) rfl ?_
      refine A_iconst (v := 1) rfl (by decide) ?_
      refine A_goto (tgt := 129) rfl (by decide) ?_
      obtain ⟨q29, M30, hcq29, h⟩ := bnd_out h
      refine A_callV (ci := 11) (as := [vI 1]) (st' := []) (r1 := (none, M30)) rfl ml_Mod_232 rfl (by decide) (by decide) (Or.inl rfl) rfl rfl (Nat.le_of_ble_eq_true rfl) (by decide) (c_Mod_pushTruth hcq29) (Or.inl rfl) ?_
      refine A_pc (pc' := 132) rfl ?_
      refine A_stk (st' := []) rfl ?_
      refine A_goto (tgt := 341) rfl (by decide) ?_
      obtain ⟨rfl, rfl⟩ := leaf h
      exact A_vret rfl rfl
def f_Mod_pair_311 (l9 : Int64) (s0 : Int32) (M : ax_M) : Option (Unit × ax_M) :=
  if s0 = 0 then (if s0 = 0 then (bnd (f_Mod_push 3 l9 M) (fun q44 M45 => some ((), M45))) else (bnd (f_Mod_push 3 (Int32.toInt64 (Int64.toInt32 l9)) M) (fun q46 M47 => some ((), M47)))) else (if s0 = 0 then (bnd (f_Mod_push 2 l9 M) (fun q49 M50 => some ((), M50))) else (bnd (f_Mod_push 2 (Int32.toInt64 (Int64.toInt32 l9)) M) (fun q51 M52 => some ((), M52))))
set_option maxHeartbeats 4000000 in
set_option maxRecDepth 100000 in
theorem o_Mod_pair_311 {l : Launch} {g : ax_G} (l9 : Int64) (s0 : Int32) (M : ax_M) (r : Unit) (M' : ax_M) (h : f_Mod_pair_311  l9 s0 M = some (r, M')) : AW l g true Y_Mod_pair 3 (none, M') 311 [(0, vA 184), (9, vJ l9)] [vI s0] M := by
  unfold f_Mod_pair_311 at h
  refine A_istore (Ls' := [(11, vI s0), (0, vA 184), (9, vJ l9)]) rfl (by decide) rfl ?_
  refine A_aload_n 1 rfl rfl rfl ?_
  refine A_iload 0 rfl rfl ?_
  refine A_if_eq (tgt := 323) rfl (by decide) (fun hc42 => ?_) (fun hc42 => ?_)
  · rw [if_pos hc42] at h
    refine A_iconst (v := 3) rfl (by decide) ?_
    refine A_iload 0 rfl rfl ?_
    refine A_if_eq (tgt := 336) rfl (by decide) (fun hc43 => ?_) (fun hc43 => ?_)
    · rw [if_pos hc43] at h
      refine A_lload 2 rfl rfl ?_
      obtain ⟨q44, M45, hcq44, h⟩ := bnd_out h
      refine A_callV (ci := 11) (as := [vI 3, vJ l9]) (st' := []) (r1 := (none, M45)) rfl ml_Mod_226 rfl (by decide) (by decide) (Or.inl rfl) rfl rfl (Nat.le_of_ble_eq_true rfl) (by decide) (c_Mod_push hcq44) (Or.inl rfl) ?_
      refine A_pc (pc' := 341) rfl ?_
      refine A_stk (st' := []) rfl ?_
      obtain ⟨rfl, rfl⟩ := leaf h
      exact A_vret rfl rfl
    · rw [if_neg hc43] at h
      refine A_pc (pc' := 329) rfl ?_
      refine A_lload 2 rfl rfl ?_
      refine A_l2i rfl ?_
      refine A_i2l rfl ?_
      refine A_goto (tgt := 338) rfl (by decide) ?_
      obtain ⟨q46, M47, hcq46, h⟩ := bnd_out h
      refine A_callV (ci := 11) (as := [vI 3, vJ (Int32.toInt64 (Int64.toInt32 l9))]) (st' := []) (r1 := (none, M47)) rfl ml_Mod_226 rfl (by decide) (by decide) (Or.inl rfl) rfl rfl (Nat.le_of_ble_eq_true rfl) (by decide) (c_Mod_push hcq46) (Or.inl rfl) ?_
      refine A_pc (pc' := 341) rfl ?_
      refine A_stk (st' := []) rfl ?_
      refine A_pc (pc' := 341) rfl ?_
      obtain ⟨rfl, rfl⟩ := leaf h
      exact A_vret rfl rfl
  · rw [if_neg hc42] at h
    refine A_pc (pc' := 319) rfl ?_
    refine A_iconst (v := 2) rfl (by decide) ?_
    refine A_goto (tgt := 324) rfl (by decide) ?_
    refine A_iload 0 rfl rfl ?_
    refine A_if_eq (tgt := 336) rfl (by decide) (fun hc48 => ?_) (fun hc48 => ?_)
    · rw [if_pos hc48] at h
      refine A_lload 2 rfl rfl ?_
      obtain ⟨q49, M50, hcq49, h⟩ := bnd_out h
      refine A_callV (ci := 11) (as := [vI 2, vJ l9]) (st' := []) (r1 := (none, M50)) rfl ml_Mod_226 rfl (by decide) (by decide) (Or.inl rfl) rfl rfl (Nat.le_of_ble_eq_true rfl) (by decide) (c_Mod_push hcq49) (Or.inl rfl) ?_
      refine A_pc (pc' := 341) rfl ?_
      refine A_stk (st' := []) rfl ?_
      obtain ⟨rfl, rfl⟩ := leaf h
      exact A_vret rfl rfl
    · rw [if_neg hc48] at h
      refine A_pc (pc' := 329) rfl ?_
      refine A_lload 2 rfl rfl ?_
      refine A_l2i rfl ?_
      refine A_i2l rfl ?_
      refine A_goto (tgt := 338) rfl (by decide) ?_
      obtain ⟨q51, M52, hcq51, h⟩ := bnd_out h
      refine A_callV (ci := 11) (as := [vI 2, vJ (Int32.toInt64 (Int64.toInt32 l9))]) (st' := []) (r1 := (none, M52)) rfl ml_Mod_226 rfl (by decide) (by decide) (Or.inl rfl) rfl rfl (Nat.le_of_ble_eq_true rfl) (by decide) (c_Mod_push hcq51) (Or.inl rfl) ?_
      refine A_pc (pc' := 341) rfl ?_
      refine A_stk (st' := []) rfl ?_
      refine A_pc (pc' := 341) rfl ?_
      obtain ⟨rfl, rfl⟩ := leaf h
      exact A_vret rfl rfl
def f_Mod_pair_275 (l1 : Int32) (l2 : Int32) (l3 : Int32) (l4 : Int64) (l6 : Int64) (M : ax_M) : Option (Unit × ax_M) :=
  bnd (f_Mod_calculated l1 l4 l6 M) (fun q38 M39 => gi l2 48 (if (gI M39 202 l2.toNatClampNeg) = 2 then (gi l3 48 (if (gI M39 202 l3.toNatClampNeg) = 2 then (f_Mod_pair_311 q38 1 M39) else (f_Mod_pair_311 q38 0 M39))) else (f_Mod_pair_311 q38 0 M39)))
set_option maxHeartbeats 4000000 in
set_option maxRecDepth 100000 in
theorem o_Mod_pair_275 {l : Launch} {g : ax_G} (l1 : Int32) (l2 : Int32) (l3 : Int32) (l4 : Int64) (l6 : Int64) (M : ax_M) (r : Unit) (M' : ax_M) (h : f_Mod_pair_275  l1 l2 l3 l4 l6 M = some (r, M')) : AW l g true Y_Mod_pair 3 (none, M') 275 [(0, vA 184), (1, vI l1), (2, vI l2), (3, vI l3), (4, vJ l4), (6, vJ l6)] [] M := by
  unfold f_Mod_pair_275 at h
  refine A_aload_n 0 rfl rfl rfl ?_
  refine A_iload_n 1 rfl rfl rfl ?_
  refine A_lload 4 rfl rfl ?_
  refine A_lload 5 rfl rfl ?_
  obtain ⟨q38, M39, hcq38, h⟩ := bnd_out h
  refine A_callV (ci := 11) (as := [vI l1, vJ l4, vJ l6]) (st' := []) (r1 := (some (vJ q38), M39)) rfl ml_Mod_271 rfl (by decide) (by decide) (Or.inl rfl) rfl rfl (Nat.le_of_ble_eq_true rfl) (by decide) (c_Mod_calculated hcq38) (Or.inl rfl) ?_
  refine A_pc (pc' := 284) rfl ?_
  refine A_stk (st' := [vJ q38]) rfl ?_
  refine A_pc (pc' := 284) rfl ?_
  refine A_lstore (Ls' := [(9, vJ q38), (0, vA 184), (1, vI l1), (2, vI l2), (3, vI l3), (4, vJ l4), (6, vJ l6)]) rfl (by decide) rfl ?_
  refine A_aload_n 1 rfl rfl rfl ?_
  refine A_getL (r := 202) rfl fl_Mod_66 rfl (by decide) rfl rfl ?_
  refine A_iload_n 3 rfl rfl rfl ?_
  obtain ⟨hg40, h⟩ := gi_out h
  refine A_iald (n := 48) rfl (by decide) (by decide) (Or.inl rfl) hg40 ?_
  refine A_iconst (v := 2) rfl (by decide) ?_
  refine A_pc (pc' := 293) rfl ?_
  refine A_icmp_ne (tgt := 310) rfl (by decide) (fun hc41 => ?_) (fun hc41 => ?_)
  · rw [if_neg hc41] at h
    refine A_iconst (v := 0) rfl (by decide) ?_
    refine A_pc (pc' := 311) rfl ?_
    refine A_sub (Ls' := [(0, vA 184), (9, vJ q38)]) [1, 0] rfl ?_
    exact o_Mod_pair_311  _ _ _ _ _ h
  · rw [if_pos hc41] at h
    refine A_pc (pc' := 296) rfl ?_
    refine A_aload_n 1 rfl rfl rfl ?_
    refine A_getL (r := 202) rfl fl_Mod_66 rfl (by decide) rfl rfl ?_
    refine A_iload_n 4 rfl rfl rfl ?_
    obtain ⟨hg53, h⟩ := gi_out h
    refine A_iald (n := 48) rfl (by decide) (by decide) (Or.inl rfl) hg53 ?_
    refine A_iconst (v := 2) rfl (by decide) ?_
    refine A_pc (pc' := 303) rfl ?_
    refine A_icmp_ne (tgt := 310) rfl (by decide) (fun hc54 => ?_) (fun hc54 => ?_)
    · rw [if_neg hc54] at h
      refine A_iconst (v := 0) rfl (by decide) ?_
      refine A_pc (pc' := 311) rfl ?_
      refine A_sub (Ls' := [(0, vA 184), (9, vJ q38)]) [1, 0] rfl ?_
      exact o_Mod_pair_311  _ _ _ _ _ h
    · rw [if_pos hc54] at h
      refine A_pc (pc' := 306) rfl ?_
      refine A_iconst (v := 1) rfl (by decide) ?_
      refine A_goto (tgt := 311) rfl (by decide) ?_
      refine A_pc (pc' := 311) rfl ?_
      refine A_sub (Ls' := [(0, vA 184), (9, vJ q38)]) [1, 0] rfl ?_
      exact o_Mod_pair_311  _ _ _ _ _ h
def f_Mod_pair_247 (l1 : Int32) (l2 : Int32) (l3 : Int32) (l4 : Int64) (l6 : Int64) (M : ax_M) : Option (Unit × ax_M) :=
  if l1 < 26 then (f_Mod_pair_275 l1 l2 l3 l4 l6 M) else (if 29 < l1 then (f_Mod_pair_275 l1 l2 l3 l4 l6 M) else (bnd (f_Mod_ordered l1 l4 l6 M) (fun q56 M57 => bnd (f_Mod_pushTruth q56 M57) (fun q58 M59 => some ((), M59)))))
set_option maxHeartbeats 4000000 in
set_option maxRecDepth 100000 in
theorem o_Mod_pair_247 {l : Launch} {g : ax_G} (l1 : Int32) (l2 : Int32) (l3 : Int32) (l4 : Int64) (l6 : Int64) (M : ax_M) (r : Unit) (M' : ax_M) (h : f_Mod_pair_247  l1 l2 l3 l4 l6 M = some (r, M')) : AW l g true Y_Mod_pair 3 (none, M') 247 [(0, vA 184), (1, vI l1), (2, vI l2), (3, vI l3), (4, vJ l4), (6, vJ l6)] [] M := by
  unfold f_Mod_pair_247 at h
  refine A_iload_n 1 rfl rfl rfl ?_
  refine A_bipush (v := 26) rfl (by decide) ?_
  refine A_icmp_lt (tgt := 275) rfl (by decide) (fun hc37 => ?_) (fun hc37 => ?_)
  · rw [if_pos hc37] at h
    refine A_pc (pc' := 275) rfl ?_
    refine A_sub (Ls' := [(0, vA 184), (1, vI l1), (2, vI l2), (3, vI l3), (4, vJ l4), (6, vJ l6)]) [0, 1, 2, 3, 4, 5] rfl ?_
    exact o_Mod_pair_275  _ _ _ _ _ _ _ _ h
  · rw [if_neg hc37] at h
    refine A_pc (pc' := 253) rfl ?_
    refine A_iload_n 1 rfl rfl rfl ?_
    refine A_bipush (v := 29) rfl (by decide) ?_
    refine A_icmp_gt (tgt := 275) rfl (by decide) (fun hc55 => ?_) (fun hc55 => ?_)
    · rw [if_pos hc55] at h
      refine A_pc (pc' := 275) rfl ?_
      refine A_sub (Ls' := [(0, vA 184), (1, vI l1), (2, vI l2), (3, vI l3), (4, vJ l4), (6, vJ l6)]) [0, 1, 2, 3, 4, 5] rfl ?_
      exact o_Mod_pair_275  _ _ _ _ _ _ _ _ h
    · rw [if_neg hc55] at h
      refine A_pc (pc' := 259) rfl ?_
      refine A_aload_n 0 rfl rfl rfl ?_
      refine A_aload_n 0 rfl rfl rfl ?_
      refine A_iload_n 1 rfl rfl rfl ?_
      refine A_lload 4 rfl rfl ?_
      refine A_lload 5 rfl rfl ?_
      refine A_pc (pc' := 266) rfl ?_
      obtain ⟨q56, M57, hcq56, h⟩ := bnd_out h
      refine A_callV (ci := 11) (as := [vI l1, vJ l4, vJ l6]) (st' := [vA 184]) (r1 := (some (vI q56), M57)) rfl ml_Mod_267 rfl (by decide) (by decide) (Or.inl rfl) rfl rfl (Nat.le_of_ble_eq_true rfl) (by decide) (c_Mod_ordered hcq56) (Or.inl rfl) ?_
      refine A_pc (pc' := 269) rfl ?_
      refine A_stk (st' := [vI q56, vA 184]) rfl ?_
      obtain ⟨q58, M59, hcq58, h⟩ := bnd_out h
      refine A_callV (ci := 11) (as := [vI q56]) (st' := []) (r1 := (none, M59)) rfl ml_Mod_232 rfl (by decide) (by decide) (Or.inl rfl) rfl rfl (Nat.le_of_ble_eq_true rfl) (by decide) (c_Mod_pushTruth hcq58) (Or.inl rfl) ?_
      refine A_pc (pc' := 272) rfl ?_
      refine A_stk (st' := []) rfl ?_
      refine A_goto (tgt := 341) rfl (by decide) ?_
      obtain ⟨rfl, rfl⟩ := leaf h
      exact A_vret rfl rfl
def f_Mod_pair_192 (l2 : Int32) (l6 : Int64) (l9 : Int32) (s0 : Int32) (M : ax_M) : Option (Unit × ax_M) :=
  if l9 = 0 then (bnd (f_Mod_push s0 0 M) (fun q66 M67 => some ((), M67))) else (gi ((5 * l2) + (Int64.toInt32 l6)) 240 (bnd (f_Mod_push s0 (Int32.toInt64 (gI M 204 ((5 * l2) + (Int64.toInt32 l6)).toNatClampNeg)) M) (fun q69 M70 => some ((), M70))))
set_option maxHeartbeats 4000000 in
set_option maxRecDepth 100000 in
theorem o_Mod_pair_192 {l : Launch} {g : ax_G} (l2 : Int32) (l6 : Int64) (l9 : Int32) (s0 : Int32) (M : ax_M) (r : Unit) (M' : ax_M) (h : f_Mod_pair_192  l2 l6 l9 s0 M = some (r, M')) : AW l g true Y_Mod_pair 3 (none, M') 192 [(0, vA 184), (2, vI l2), (6, vJ l6), (9, vI l9)] [vI s0, vA 184] M := by
  unfold f_Mod_pair_192 at h
  refine A_iload 3 rfl rfl ?_
  refine A_if_eq (tgt := 213) rfl (by decide) (fun hc65 => ?_) (fun hc65 => ?_)
  · rw [if_pos hc65] at h
    refine A_lconst (v := 0) rfl (by decide) ?_
    obtain ⟨q66, M67, hcq66, h⟩ := bnd_out h
    refine A_callV (ci := 11) (as := [vI s0, vJ 0]) (st' := []) (r1 := (none, M67)) rfl ml_Mod_226 rfl (by decide) (by decide) (Or.inl rfl) rfl rfl (Nat.le_of_ble_eq_true rfl) (by decide) (c_Mod_push hcq66) (Or.inl rfl) ?_
    refine A_pc (pc' := 217) rfl ?_
    refine A_stk (st' := []) rfl ?_
    refine A_goto (tgt := 341) rfl (by decide) ?_
    obtain ⟨rfl, rfl⟩ := leaf h
    exact A_vret rfl rfl
  · rw [if_neg hc65] at h
    refine A_pc (pc' := 197) rfl ?_
    refine A_aload_n 0 rfl rfl rfl ?_
    refine A_getL (r := 204) rfl fl_Mod_72 rfl (by decide) rfl rfl ?_
    refine A_iconst (v := 5) rfl (by decide) ?_
    refine A_iload_n 1 rfl rfl rfl ?_
    refine A_imul rfl ?_
    refine A_pc (pc' := 204) rfl ?_
    refine A_lload 2 rfl rfl ?_
    refine A_l2i rfl ?_
    refine A_iadd rfl ?_
    obtain ⟨hg68, h⟩ := gi_out h
    refine A_iald (n := 240) rfl (by decide) (by decide) (Or.inl rfl) hg68 ?_
    refine A_i2l rfl ?_
    refine A_goto (tgt := 214) rfl (by decide) ?_
    refine A_pc (pc' := 214) rfl ?_
    obtain ⟨q69, M70, hcq69, h⟩ := bnd_out h
    refine A_callV (ci := 11) (as := [vI s0, vJ (Int32.toInt64 (gI M 204 ((5 * l2) + (Int64.toInt32 l6)).toNatClampNeg))]) (st' := []) (r1 := (none, M70)) rfl ml_Mod_226 rfl (by decide) (by decide) (Or.inl rfl) rfl rfl (Nat.le_of_ble_eq_true rfl) (by decide) (c_Mod_push hcq69) (Or.inl rfl) ?_
    refine A_pc (pc' := 217) rfl ?_
    refine A_stk (st' := []) rfl ?_
    refine A_goto (tgt := 341) rfl (by decide) ?_
    obtain ⟨rfl, rfl⟩ := leaf h
    exact A_vret rfl rfl
def f_Mod_pair_178 (l2 : Int32) (l6 : Int64) (M : ax_M) : Option (Unit × ax_M) :=
  if ((0 : Int32) = 0) then (f_Mod_pair_192 l2 l6 0 ((-1)) M) else (f_Mod_pair_192 l2 l6 0 2 M)
set_option maxHeartbeats 4000000 in
set_option maxRecDepth 100000 in
theorem o_Mod_pair_178 {l : Launch} {g : ax_G} (l2 : Int32) (l6 : Int64) (M : ax_M) (r : Unit) (M' : ax_M) (h : f_Mod_pair_178  l2 l6 M = some (r, M')) : AW l g true Y_Mod_pair 3 (none, M') 178 [(0, vA 184), (2, vI l2), (6, vJ l6)] [] M := by
  unfold f_Mod_pair_178 at h
  refine A_iconst (v := 0) rfl (by decide) ?_
  refine A_istore (Ls' := [(9, vI 0), (0, vA 184), (2, vI l2), (6, vJ l6)]) rfl (by decide) rfl ?_
  refine A_aload_n 1 rfl rfl rfl ?_
  refine A_iload 0 rfl rfl ?_
  refine A_if_eq (tgt := 191) rfl (by decide) (fun hc64 => ?_) (fun hc64 => ?_)
  · rw [if_pos hc64] at h
    refine A_iconst (v := (-1)) rfl (by decide) ?_
    refine A_pc (pc' := 192) rfl ?_
    refine A_sub (Ls' := [(0, vA 184), (2, vI l2), (6, vJ l6), (9, vI 0)]) [1, 2, 3, 0] rfl ?_
    exact o_Mod_pair_192  _ _ _ _ _ _ _ h
  · rw [if_neg hc64] at h
    refine A_pc (pc' := 187) rfl ?_
    refine A_iconst (v := 2) rfl (by decide) ?_
    refine A_goto (tgt := 192) rfl (by decide) ?_
    refine A_pc (pc' := 192) rfl ?_
    refine A_sub (Ls' := [(0, vA 184), (2, vI l2), (6, vJ l6), (9, vI 0)]) [1, 2, 3, 0] rfl ?_
    exact o_Mod_pair_192  _ _ _ _ _ _ _ h
def f_Mod_pair_61 (l1 : Int32) (l2 : Int32) (l3 : Int32) (l4 : Int64) (l6 : Int64) (s0 : Int32) (M : ax_M) : Option (Unit × ax_M) :=
  gi l2 48 (if (gI M 202 l2.toNatClampNeg) = ((-1)) then (bnd (f_Mod_push ((-1)) 0 M) (fun q13 M14 => some ((), M14))) else (gi l3 48 (if (gI M 202 l3.toNatClampNeg) = ((-1)) then (bnd (f_Mod_push ((-1)) 0 M) (fun q77 M78 => some ((), M78))) else (if l1 = 24 then (f_Mod_pair_104 l1 l2 M) else (if l1 = 25 then (f_Mod_pair_104 l1 l2 M) else (if l1 = 15 then (if (gI M 202 l2.toNatClampNeg) = 4 then (bnd (f_Mod_isNumber l3 M) (fun q71 M72 => if q71 = 0 then (f_Mod_pair_178 l2 l6 M72) else (if (lg_cmp l6 0) < 0 then (f_Mod_pair_178 l2 l6 M72) else (if 0 ≤ (lg_cmp l6 l4) then (f_Mod_pair_178 l2 l6 M72) else (if ((1 : Int32) = 0) then (f_Mod_pair_192 l2 l6 1 ((-1)) M72) else (f_Mod_pair_192 l2 l6 1 2 M72)))))) else (f_Mod_pair_178 l2 l6 M)) else (if s0 = 0 then (bnd (f_Mod_push ((-1)) 0 M) (fun q34 M35 => some ((), M35))) else (if l1 < 33 then (f_Mod_pair_247 l1 l2 l3 l4 l6 M) else (if (lg_cmp l6 0) = 0 then (bnd (f_Mod_push ((-1)) 0 M) (fun q61 M62 => some ((), M62))) else (f_Mod_pair_247 l1 l2 l3 l4 l6 M))))))))))
set_option maxHeartbeats 4000000 in
set_option maxRecDepth 100000 in
theorem o_Mod_pair_61 {l : Launch} {g : ax_G} (l1 : Int32) (l2 : Int32) (l3 : Int32) (l4 : Int64) (l6 : Int64) (s0 : Int32) (M : ax_M) (r : Unit) (M' : ax_M) (h : f_Mod_pair_61  l1 l2 l3 l4 l6 s0 M = some (r, M')) : AW l g true Y_Mod_pair 3 (none, M') 61 [(0, vA 184), (1, vI l1), (2, vI l2), (3, vI l3), (4, vJ l4), (6, vJ l6)] [vI s0] M := by
  unfold f_Mod_pair_61 at h
  refine A_istore (Ls' := [(8, vI s0), (0, vA 184), (1, vI l1), (2, vI l2), (3, vI l3), (4, vJ l4), (6, vJ l6)]) rfl (by decide) rfl ?_
  refine A_aload_n 1 rfl rfl rfl ?_
  refine A_getL (r := 202) rfl fl_Mod_66 rfl (by decide) rfl rfl ?_
  refine A_iload_n 3 rfl rfl rfl ?_
  obtain ⟨hg11, h⟩ := gi_out h
  refine A_iald (n := 48) rfl (by decide) (by decide) (Or.inl rfl) hg11 ?_
  refine A_pc (pc' := 69) rfl ?_
  refine A_iconst (v := (-1)) rfl (by decide) ?_
  refine A_icmp_eq (tgt := 83) rfl (by decide) (fun hc12 => ?_) (fun hc12 => ?_)
  · rw [if_pos hc12] at h
    refine A_aload_n 1 rfl rfl rfl ?_
    refine A_iconst (v := (-1)) rfl (by decide) ?_
    refine A_lconst (v := 0) rfl (by decide) ?_
    obtain ⟨q13, M14, hcq13, h⟩ := bnd_out h
    refine A_callV (ci := 11) (as := [vI ((-1)), vJ 0]) (st' := []) (r1 := (none, M14)) rfl ml_Mod_226 rfl (by decide) (by decide) (Or.inl rfl) rfl rfl (Nat.le_of_ble_eq_true rfl) (by decide) (c_Mod_push hcq13) (Or.inl rfl) ?_
    refine A_pc (pc' := 89) rfl ?_
    refine A_stk (st' := []) rfl ?_
    refine A_goto (tgt := 341) rfl (by decide) ?_
    refine A_pc (pc' := 341) rfl ?_
    obtain ⟨rfl, rfl⟩ := leaf h
    exact A_vret rfl rfl
  · rw [if_neg hc12] at h
    refine A_pc (pc' := 73) rfl ?_
    refine A_aload_n 1 rfl rfl rfl ?_
    refine A_getL (r := 202) rfl fl_Mod_66 rfl (by decide) rfl rfl ?_
    refine A_iload_n 4 rfl rfl rfl ?_
    obtain ⟨hg15, h⟩ := gi_out h
    refine A_iald (n := 48) rfl (by decide) (by decide) (Or.inl rfl) hg15 ?_
    refine A_iconst (v := (-1)) rfl (by decide) ?_
    refine A_pc (pc' := 80) rfl ?_
    refine A_icmp_ne (tgt := 92) rfl (by decide) (fun hc16 => ?_) (fun hc16 => ?_)
    · rw [if_neg hc16] at h
      refine A_iload_n 2 rfl rfl rfl ?_
      refine A_bipush (v := 24) rfl (by decide) ?_
      refine A_icmp_eq (tgt := 104) rfl (by decide) (fun hc17 => ?_) (fun hc17 => ?_)
      · rw [if_pos hc17] at h
        refine A_pc (pc' := 104) rfl ?_
        refine A_sub (Ls' := [(0, vA 184), (1, vI l1), (2, vI l2)]) [1, 2, 3] rfl ?_
        exact o_Mod_pair_104  _ _ _ _ _ h
      · rw [if_neg hc17] at h
        refine A_pc (pc' := 98) rfl ?_
        refine A_iload_n 2 rfl rfl rfl ?_
        refine A_bipush (v := 25) rfl (by decide) ?_
        refine A_icmp_ne (tgt := 135) rfl (by decide) (fun hc31 => ?_) (fun hc31 => ?_)
        · rw [if_neg hc31] at h
          refine A_iload_n 2 rfl rfl rfl ?_
          refine A_bipush (v := 15) rfl (by decide) ?_
          refine A_icmp_ne (tgt := 220) rfl (by decide) (fun hc32 => ?_) (fun hc32 => ?_)
          · rw [if_neg hc32] at h
            refine A_iload 0 rfl rfl ?_
            refine A_if_eq (tgt := 238) rfl (by decide) (fun hc33 => ?_) (fun hc33 => ?_)
            · rw [if_pos hc33] at h
              refine A_aload_n 1 rfl rfl rfl ?_
              refine A_iconst (v := (-1)) rfl (by decide) ?_
              refine A_lconst (v := 0) rfl (by decide) ?_
              obtain ⟨q34, M35, hcq34, h⟩ := bnd_out h
              refine A_callV (ci := 11) (as := [vI ((-1)), vJ 0]) (st' := []) (r1 := (none, M35)) rfl ml_Mod_226 rfl (by decide) (by decide) (Or.inl rfl) rfl rfl (Nat.le_of_ble_eq_true rfl) (by decide) (c_Mod_push hcq34) (Or.inl rfl) ?_
              refine A_pc (pc' := 244) rfl ?_
              refine A_stk (st' := []) rfl ?_
              refine A_goto (tgt := 341) rfl (by decide) ?_
              refine A_pc (pc' := 341) rfl ?_
              obtain ⟨rfl, rfl⟩ := leaf h
              exact A_vret rfl rfl
            · rw [if_neg hc33] at h
              refine A_pc (pc' := 225) rfl ?_
              refine A_iload_n 2 rfl rfl rfl ?_
              refine A_bipush (v := 33) rfl (by decide) ?_
              refine A_icmp_lt (tgt := 247) rfl (by decide) (fun hc36 => ?_) (fun hc36 => ?_)
              · rw [if_pos hc36] at h
                refine A_pc (pc' := 247) rfl ?_
                refine A_sub (Ls' := [(0, vA 184), (1, vI l1), (2, vI l2), (3, vI l3), (4, vJ l4), (6, vJ l6)]) [1, 2, 3, 4, 5, 6] rfl ?_
                exact o_Mod_pair_247  _ _ _ _ _ _ _ _ h
              · rw [if_neg hc36] at h
                refine A_pc (pc' := 231) rfl ?_
                refine A_lload 6 rfl rfl ?_
                refine A_lconst (v := 0) rfl (by decide) ?_
                refine A_lcmp rfl ?_
                refine A_if_ne (tgt := 247) rfl (by decide) (fun hc60 => ?_) (fun hc60 => ?_)
                · rw [if_neg hc60] at h
                  refine A_pc (pc' := 247) rfl ?_
                  refine A_sub (Ls' := [(0, vA 184), (1, vI l1), (2, vI l2), (3, vI l3), (4, vJ l4), (6, vJ l6)]) [1, 2, 3, 4, 5, 6] rfl ?_
                  exact o_Mod_pair_247  _ _ _ _ _ _ _ _ h
                · rw [if_pos hc60] at h
                  refine A_pc (pc' := 238) rfl ?_
                  refine A_aload_n 1 rfl rfl rfl ?_
                  refine A_iconst (v := (-1)) rfl (by decide) ?_
                  refine A_lconst (v := 0) rfl (by decide) ?_
                  obtain ⟨q61, M62, hcq61, h⟩ := bnd_out h
                  refine A_callV (ci := 11) (as := [vI ((-1)), vJ 0]) (st' := []) (r1 := (none, M62)) rfl ml_Mod_226 rfl (by decide) (by decide) (Or.inl rfl) rfl rfl (Nat.le_of_ble_eq_true rfl) (by decide) (c_Mod_push hcq61) (Or.inl rfl) ?_
                  refine A_pc (pc' := 244) rfl ?_
                  refine A_stk (st' := []) rfl ?_
                  refine A_goto (tgt := 341) rfl (by decide) ?_
                  refine A_pc (pc' := 341) rfl ?_
                  obtain ⟨rfl, rfl⟩ := leaf h
                  exact A_vret rfl rfl
          · rw [if_pos hc32] at h
            refine A_pc (pc' := 141) rfl ?_
            refine A_aload_n 1 rfl rfl rfl ?_
            refine A_getL (r := 202) rfl fl_Mod_66 rfl (by decide) rfl rfl ?_
            refine A_iload_n 3 rfl rfl rfl ?_
            refine A_iald (n := 48) rfl (by decide) (by decide) (Or.inl rfl) hg11 ?_
            refine A_iconst (v := 4) rfl (by decide) ?_
            refine A_pc (pc' := 148) rfl ?_
            refine A_icmp_ne (tgt := 178) rfl (by decide) (fun hc63 => ?_) (fun hc63 => ?_)
            · rw [if_neg hc63] at h
              refine A_pc (pc' := 178) rfl ?_
              refine A_sub (Ls' := [(0, vA 184), (2, vI l2), (6, vJ l6)]) [1, 3, 6] rfl ?_
              exact o_Mod_pair_178  _ _ _ _ _ h
            · rw [if_pos hc63] at h
              refine A_pc (pc' := 151) rfl ?_
              refine A_aload_n 1 rfl rfl rfl ?_
              refine A_iload_n 4 rfl rfl rfl ?_
              obtain ⟨q71, M72, hcq71, h⟩ := bnd_out h
              refine A_callV (ci := 11) (as := [vI l3]) (st' := []) (r1 := (some (vI q71), M72)) rfl ml_Mod_259 rfl (by decide) (by decide) (Or.inl rfl) rfl rfl (Nat.le_of_ble_eq_true rfl) (by decide) (c_Mod_isNumber hcq71) (Or.inl rfl) ?_
              refine A_pc (pc' := 156) rfl ?_
              refine A_stk (st' := [vI q71]) rfl ?_
              refine A_if_eq (tgt := 178) rfl (by decide) (fun hc73 => ?_) (fun hc73 => ?_)
              · rw [if_pos hc73] at h
                refine A_pc (pc' := 178) rfl ?_
                refine A_sub (Ls' := [(0, vA 184), (2, vI l2), (6, vJ l6)]) [1, 3, 6] rfl ?_
                exact o_Mod_pair_178  _ _ _ _ _ h
              · rw [if_neg hc73] at h
                refine A_pc (pc' := 159) rfl ?_
                refine A_lload 6 rfl rfl ?_
                refine A_lconst (v := 0) rfl (by decide) ?_
                refine A_lcmp rfl ?_
                refine A_if_lt (tgt := 178) rfl (by decide) (fun hc74 => ?_) (fun hc74 => ?_)
                · rw [if_pos hc74] at h
                  refine A_pc (pc' := 178) rfl ?_
                  refine A_sub (Ls' := [(0, vA 184), (2, vI l2), (6, vJ l6)]) [1, 3, 6] rfl ?_
                  exact o_Mod_pair_178  _ _ _ _ _ h
                · rw [if_neg hc74] at h
                  refine A_pc (pc' := 166) rfl ?_
                  refine A_lload 6 rfl rfl ?_
                  refine A_lload 5 rfl rfl ?_
                  refine A_lcmp rfl ?_
                  refine A_if_ge (tgt := 178) rfl (by decide) (fun hc75 => ?_) (fun hc75 => ?_)
                  · rw [if_pos hc75] at h
                    refine A_pc (pc' := 178) rfl ?_
                    refine A_sub (Ls' := [(0, vA 184), (2, vI l2), (6, vJ l6)]) [1, 3, 6] rfl ?_
                    exact o_Mod_pair_178  _ _ _ _ _ h
                  · rw [if_neg hc75] at h
                    refine A_pc (pc' := 174) rfl ?_
                    refine A_iconst (v := 1) rfl (by decide) ?_
                    refine A_goto (tgt := 179) rfl (by decide) ?_
                    refine A_istore (Ls' := [(9, vI 1), (8, vI s0), (0, vA 184), (1, vI l1), (2, vI l2), (3, vI l3), (4, vJ l4), (6, vJ l6)]) rfl (by decide) rfl ?_
                    refine A_aload_n 2 rfl rfl rfl ?_
                    refine A_iload 0 rfl rfl ?_
                    refine A_pc (pc' := 184) rfl ?_
                    refine A_if_eq (tgt := 191) rfl (by decide) (fun hc76 => ?_) (fun hc76 => ?_)
                    · rw [if_pos hc76] at h
                      refine A_iconst (v := (-1)) rfl (by decide) ?_
                      refine A_pc (pc' := 192) rfl ?_
                      refine A_sub (Ls' := [(0, vA 184), (2, vI l2), (6, vJ l6), (9, vI 1)]) [2, 4, 7, 0] rfl ?_
                      exact o_Mod_pair_192  _ _ _ _ _ _ _ h
                    · rw [if_neg hc76] at h
                      refine A_pc (pc' := 187) rfl ?_
                      refine A_iconst (v := 2) rfl (by decide) ?_
                      refine A_goto (tgt := 192) rfl (by decide) ?_
                      refine A_pc (pc' := 192) rfl ?_
                      refine A_sub (Ls' := [(0, vA 184), (2, vI l2), (6, vJ l6), (9, vI 1)]) [2, 4, 7, 0] rfl ?_
                      exact o_Mod_pair_192  _ _ _ _ _ _ _ h
        · rw [if_pos hc31] at h
          refine A_pc (pc' := 104) rfl ?_
          refine A_pc (pc' := 104) rfl ?_
          refine A_sub (Ls' := [(0, vA 184), (1, vI l1), (2, vI l2)]) [1, 2, 3] rfl ?_
          exact o_Mod_pair_104  _ _ _ _ _ h
    · rw [if_pos hc16] at h
      refine A_pc (pc' := 83) rfl ?_
      refine A_aload_n 1 rfl rfl rfl ?_
      refine A_iconst (v := (-1)) rfl (by decide) ?_
      refine A_lconst (v := 0) rfl (by decide) ?_
      obtain ⟨q77, M78, hcq77, h⟩ := bnd_out h
      refine A_callV (ci := 11) (as := [vI ((-1)), vJ 0]) (st' := []) (r1 := (none, M78)) rfl ml_Mod_226 rfl (by decide) (by decide) (Or.inl rfl) rfl rfl (Nat.le_of_ble_eq_true rfl) (by decide) (c_Mod_push hcq77) (Or.inl rfl) ?_
      refine A_pc (pc' := 89) rfl ?_
      refine A_stk (st' := []) rfl ?_
      refine A_goto (tgt := 341) rfl (by decide) ?_
      refine A_pc (pc' := 341) rfl ?_
      obtain ⟨rfl, rfl⟩ := leaf h
      exact A_vret rfl rfl
def f_Mod_pair (a1 : Int32) (M : ax_M) : Option (Unit × ax_M) :=
  kM ((gI M 184 29) - 2) (fun x1 => kM ((gI M 184 29) - 1) (fun x2 => kM (mI M 184 29 ((gI M 184 29) - 2)) (fun M3 => gi x1 48 (kM (gJ M3 203 x1.toNatClampNeg) (fun j5 => gi x2 48 (kM (gJ M3 203 x2.toNatClampNeg) (fun j7 => bnd (f_Mod_isNumber x1 M3) (fun q8 M9 => if q8 = 0 then (f_Mod_pair_61 a1 x1 x2 j5 j7 0 M9) else (bnd (f_Mod_isNumber x2 M9) (fun q79 M80 => if q79 = 0 then (f_Mod_pair_61 a1 x1 x2 j5 j7 0 M80) else (f_Mod_pair_61 a1 x1 x2 j5 j7 1 M80)))))))))))
set_option maxHeartbeats 4000000 in
set_option maxRecDepth 100000 in
theorem c_Mod_pair {l : Launch} {g : ax_G} {a1 : Int32} {M : ax_M} {r : Unit} {M' : ax_M} (h : f_Mod_pair a1 M = some (r, M')) : Ctr l g true Y_Mod_pair 3 [vA 184, vI a1] M (none, M') := by
  refine Ctr.ofAW yok_Mod_pair (Nat.le_of_ble_eq_true rfl) (Or.inl rfl) ?_
  show AW l g true Y_Mod_pair 3 (none, M') 0 [(0, vA 184), (1, vI a1)] [] M
  unfold f_Mod_pair at h
  refine A_aload_n 0 rfl rfl rfl ?_
  refine A_getI rfl fl_Mod_223 rfl (by decide) (Or.inl rfl) ?_
  refine A_iconst (v := 2) rfl (by decide) ?_
  refine A_isub rfl ?_
  obtain ⟨x1, hx1, h⟩ := kM_out h
  refine A_nI hx1 ?_
  refine A_istore_n (Ls' := [(2, vI x1), (0, vA 184), (1, vI a1)]) rfl rfl (by decide) rfl ?_
  refine A_pc (pc' := 7) rfl ?_
  refine A_aload_n 1 rfl rfl rfl ?_
  refine A_getI rfl fl_Mod_223 rfl (by decide) (Or.inl rfl) ?_
  refine A_iconst (v := 1) rfl (by decide) ?_
  refine A_isub rfl ?_
  obtain ⟨x2, hx2, h⟩ := kM_out h
  refine A_nI hx2 ?_
  refine A_istore_n (Ls' := [(3, vI x2), (2, vI x1), (0, vA 184), (1, vI a1)]) rfl rfl (by decide) rfl ?_
  refine A_aload_n 2 rfl rfl rfl ?_
  refine A_pc (pc' := 15) rfl ?_
  refine A_dup rfl rfl ?_
  refine A_getI rfl fl_Mod_223 rfl (by decide) (Or.inl rfl) ?_
  refine A_iconst (v := 2) rfl (by decide) ?_
  refine A_isub rfl ?_
  refine A_putI rfl (Or.inl fl_Mod_223) rfl (by decide) (Or.inl rfl) rfl ?_
  obtain ⟨M3, hM3, h⟩ := kM_out h
  refine A_mem hM3 ?_
  refine A_aload_n 2 rfl rfl rfl ?_
  refine A_pc (pc' := 25) rfl ?_
  refine A_getL (r := 203) rfl fl_Mod_69 rfl (by decide) rfl rfl ?_
  refine A_iload_n 1 rfl rfl rfl ?_
  obtain ⟨hg4, h⟩ := gi_out h
  refine A_lald (n := 48) rfl (by decide) (by decide) (Or.inl rfl) hg4 ?_
  obtain ⟨j5, hj5, h⟩ := kM_out h
  refine A_nJ hj5 ?_
  refine A_lstore (Ls' := [(4, vJ j5), (3, vI x2), (2, vI x1), (0, vA 184), (1, vI a1)]) rfl (by decide) rfl ?_
  refine A_aload_n 3 rfl rfl rfl ?_
  refine A_getL (r := 203) rfl fl_Mod_69 rfl (by decide) rfl rfl ?_
  refine A_pc (pc' := 36) rfl ?_
  refine A_iload_n 1 rfl rfl rfl ?_
  obtain ⟨hg6, h⟩ := gi_out h
  refine A_lald (n := 48) rfl (by decide) (by decide) (Or.inl rfl) hg6 ?_
  obtain ⟨j7, hj7, h⟩ := kM_out h
  refine A_nJ hj7 ?_
  refine A_lstore (Ls' := [(6, vJ j7), (4, vJ j5), (3, vI x2), (2, vI x1), (0, vA 184), (1, vI a1)]) rfl (by decide) rfl ?_
  refine A_aload_n 4 rfl rfl rfl ?_
  refine A_iload_n 3 rfl rfl rfl ?_
  obtain ⟨q8, M9, hcq8, h⟩ := bnd_out h
  refine A_callV (ci := 11) (as := [vI x1]) (st' := []) (r1 := (some (vI q8), M9)) rfl ml_Mod_259 rfl (by decide) (by decide) (Or.inl rfl) rfl rfl (Nat.le_of_ble_eq_true rfl) (by decide) (c_Mod_isNumber hcq8) (Or.inl rfl) ?_
  refine A_pc (pc' := 45) rfl ?_
  refine A_stk (st' := [vI q8]) rfl ?_
  refine A_pc (pc' := 45) rfl ?_
  refine A_if_eq (tgt := 60) rfl (by decide) (fun hc10 => ?_) (fun hc10 => ?_)
  · rw [if_pos hc10] at h
    refine A_iconst (v := 0) rfl (by decide) ?_
    refine A_pc (pc' := 61) rfl ?_
    refine A_sub (Ls' := [(0, vA 184), (1, vI a1), (2, vI x1), (3, vI x2), (4, vJ j5), (6, vJ j7)]) [4, 5, 3, 2, 1, 0] rfl ?_
    exact o_Mod_pair_61  _ _ _ _ _ _ _ _ _ h
  · rw [if_neg hc10] at h
    refine A_pc (pc' := 48) rfl ?_
    refine A_aload_n 4 rfl rfl rfl ?_
    refine A_iload_n 2 rfl rfl rfl ?_
    obtain ⟨q79, M80, hcq79, h⟩ := bnd_out h
    refine A_callV (ci := 11) (as := [vI x2]) (st' := []) (r1 := (some (vI q79), M80)) rfl ml_Mod_259 rfl (by decide) (by decide) (Or.inl rfl) rfl rfl (Nat.le_of_ble_eq_true rfl) (by decide) (c_Mod_isNumber hcq79) (Or.inl rfl) ?_
    refine A_pc (pc' := 53) rfl ?_
    refine A_stk (st' := [vI q79]) rfl ?_
    refine A_if_eq (tgt := 60) rfl (by decide) (fun hc81 => ?_) (fun hc81 => ?_)
    · rw [if_pos hc81] at h
      refine A_iconst (v := 0) rfl (by decide) ?_
      refine A_pc (pc' := 61) rfl ?_
      refine A_sub (Ls' := [(0, vA 184), (1, vI a1), (2, vI x1), (3, vI x2), (4, vJ j5), (6, vJ j7)]) [4, 5, 3, 2, 1, 0] rfl ?_
      exact o_Mod_pair_61  _ _ _ _ _ _ _ _ _ h
    · rw [if_neg hc81] at h
      refine A_pc (pc' := 56) rfl ?_
      refine A_iconst (v := 1) rfl (by decide) ?_
      refine A_goto (tgt := 61) rfl (by decide) ?_
      refine A_pc (pc' := 61) rfl ?_
      refine A_sub (Ls' := [(0, vA 184), (1, vI a1), (2, vI x1), (3, vI x2), (4, vJ j5), (6, vJ j7)]) [4, 5, 3, 2, 1, 0] rfl ?_
      exact o_Mod_pair_61  _ _ _ _ _ _ _ _ _ h
def tb_Mod_keep : List (Nat × Instr × Nat) := [(0, .aload_n 0, 1), (1, .getfield 66, 3), (4, .iload_n 1, 1), (5, .iaload, 1), (6, .iconst 4, 1), (7, .if_icmp .ne 13, 3), (10, .aload_n 0, 1), (11, .getfield 69, 3), (14, .iload_n 1, 1), (15, .laload, 1), (16, .l2i, 1), (17, .goto 4, 3), (20, .iconst 0, 1), (21, .istore_n 2, 1), (22, .iconst 0, 1), (23, .istore_n 3, 1), (24, .iload_n 3, 1), (25, .iload_n 2, 1), (26, .if_icmp .ge 32, 3), (29, .aload_n 0, 1), (30, .getfield 72, 3), (33, .iconst 5, 1), (34, .aload_n 0, 1), (35, .getfield 223, 3), (38, .imul, 1), (39, .iload_n 3, 1), (40, .iadd, 1), (41, .aload_n 0, 1), (42, .getfield 72, 3), (45, .iconst 5, 1), (46, .iload_n 1, 1), (47, .imul, 1), (48, .iload_n 3, 1), (49, .iadd, 1), (50, .iaload, 1), (51, .iastore, 1), (52, .iinc 3 1, 3), (55, .goto (-31), 3), (58, .aload_n 0, 1), (59, .aload_n 0, 1), (60, .getfield 66, 3), (63, .iload_n 1, 1), (64, .iaload, 1), (65, .aload_n 0, 1), (66, .getfield 69, 3), (69, .iload_n 1, 1), (70, .laload, 1), (71, .invokevirtual 226, 3), (74, .return_, 1)]
def Y_Mod_keep : ax_Y := (⟨"MethodWardenModel", "keep", "(I)V"⟩, prog_14_method_39_code, 4, none, tb_Mod_keep)
theorem yok_Mod_keep : yOK Y_Mod_keep := ⟨by decide +kernel, by decide +kernel, inWG 1457 (by decide +kernel) (by decide +kernel), inWG 107 (by decide +kernel) (by decide +kernel), by decide +kernel⟩
def f_Mod_keep_24_b (K24 : Int32 → Int32 → Int32 → ax_M → Option (Unit × ax_M)) (l1 : Int32) (l2 : Int32) (l3 : Int32) (M : ax_M) : Option (Unit × ax_M) :=
  if l2 ≤ l3 then (gi l1 48 (bnd (f_Mod_push (gI M 202 l1.toNatClampNeg) (gJ M 203 l1.toNatClampNeg) M) (fun q5 M6 => some ((), M6)))) else (gi ((5 * l1) + l3) 240 (gi ((5 * (gI M 184 29)) + l3) 240 (kM (mI M 204 ((5 * (gI M 184 29)) + l3).toNatClampNeg (gI M 204 ((5 * l1) + l3).toNatClampNeg)) (fun M9 => kM (l3 + 1) (fun x10 => K24 l1 l2 x10 M9)))))
def f_Mod_keep_24 : Nat → Int32 → Int32 → Int32 → ax_M → Option (Unit × ax_M)
  | 0, _, _, _, _ => none
  | n + 1, l1, l2, l3, M => f_Mod_keep_24_b  (f_Mod_keep_24 n) l1 l2 l3 M
set_option maxHeartbeats 4000000 in
set_option maxRecDepth 100000 in
theorem o_Mod_keep_24_b {l : Launch} {g : ax_G} (K24 : Int32 → Int32 → Int32 → ax_M → Option (Unit × ax_M)) (hK24 : ∀ (l1 : Int32) (l2 : Int32) (l3 : Int32) (M : ax_M) (r : Unit) (M' : ax_M), K24 l1 l2 l3 M = some (r, M') → AW l g true Y_Mod_keep 2 (none, M') 24 [(0, vA 184), (1, vI l1), (2, vI l2), (3, vI l3)] [] M) (l1 : Int32) (l2 : Int32) (l3 : Int32) (M : ax_M) (r : Unit) (M' : ax_M) (h : f_Mod_keep_24_b  K24 l1 l2 l3 M = some (r, M')) : AW l g true Y_Mod_keep 2 (none, M') 24 [(0, vA 184), (1, vI l1), (2, vI l2), (3, vI l3)] [] M := by
  unfold f_Mod_keep_24_b at h
  refine A_iload_n 3 rfl rfl rfl ?_
  refine A_iload_n 2 rfl rfl rfl ?_
  refine A_icmp_ge (tgt := 58) rfl (by decide) (fun hc3 => ?_) (fun hc3 => ?_)
  · rw [if_pos hc3] at h
    refine A_aload_n 0 rfl rfl rfl ?_
    refine A_aload_n 0 rfl rfl rfl ?_
    refine A_getL (r := 202) rfl fl_Mod_66 rfl (by decide) rfl rfl ?_
    refine A_iload_n 1 rfl rfl rfl ?_
    obtain ⟨hg4, h⟩ := gi_out h
    refine A_iald (n := 48) rfl (by decide) (by decide) (Or.inl rfl) hg4 ?_
    refine A_pc (pc' := 65) rfl ?_
    refine A_aload_n 0 rfl rfl rfl ?_
    refine A_getL (r := 203) rfl fl_Mod_69 rfl (by decide) rfl rfl ?_
    refine A_iload_n 1 rfl rfl rfl ?_
    refine A_lald (n := 48) rfl (by decide) (by decide) (Or.inl rfl) hg4 ?_
    obtain ⟨q5, M6, hcq5, h⟩ := bnd_out h
    refine A_callV (ci := 11) (as := [vI (gI M 202 l1.toNatClampNeg), vJ (gJ M 203 l1.toNatClampNeg)]) (st' := []) (r1 := (none, M6)) rfl ml_Mod_226 rfl (by decide) (by decide) (Or.inl rfl) rfl rfl (Nat.le_of_ble_eq_true rfl) (by decide) (c_Mod_push hcq5) (Or.inl rfl) ?_
    refine A_pc (pc' := 74) rfl ?_
    refine A_stk (st' := []) rfl ?_
    obtain ⟨rfl, rfl⟩ := leaf h
    exact A_vret rfl rfl
  · rw [if_neg hc3] at h
    refine A_pc (pc' := 29) rfl ?_
    refine A_aload_n 0 rfl rfl rfl ?_
    refine A_getL (r := 204) rfl fl_Mod_72 rfl (by decide) rfl rfl ?_
    refine A_iconst (v := 5) rfl (by decide) ?_
    refine A_aload_n 0 rfl rfl rfl ?_
    refine A_getI rfl fl_Mod_223 rfl (by decide) (Or.inl rfl) ?_
    refine A_pc (pc' := 38) rfl ?_
    refine A_imul rfl ?_
    refine A_iload_n 3 rfl rfl rfl ?_
    refine A_iadd rfl ?_
    refine A_aload_n 0 rfl rfl rfl ?_
    refine A_getL (r := 204) rfl fl_Mod_72 rfl (by decide) rfl rfl ?_
    refine A_iconst (v := 5) rfl (by decide) ?_
    refine A_pc (pc' := 46) rfl ?_
    refine A_iload_n 1 rfl rfl rfl ?_
    refine A_imul rfl ?_
    refine A_iload_n 3 rfl rfl rfl ?_
    refine A_iadd rfl ?_
    obtain ⟨hg7, h⟩ := gi_out h
    refine A_iald (n := 240) rfl (by decide) (by decide) (Or.inl rfl) hg7 ?_
    obtain ⟨hg8, h⟩ := gi_out h
    refine A_iast (n := 240) rfl (by decide) (by decide) (Or.inl rfl) hg8 ?_
    obtain ⟨M9, hM9, h⟩ := kM_out h
    refine A_mem hM9 ?_
    refine A_pc (pc' := 52) rfl ?_
    obtain ⟨x10, hx10, h⟩ := kM_out h
    refine A_iinc 3 (v := x10) (Ls' := [(3, vI x10), (0, vA 184), (1, vI l1), (2, vI l2)]) rfl rfl ((iiN (k := 1) (by decide) _).trans hx10) (by decide) rfl ?_
    refine A_goto (tgt := 24) rfl (by decide) ?_
    refine A_pc (pc' := 24) rfl ?_
    refine A_sub (Ls' := [(0, vA 184), (1, vI l1), (2, vI l2), (3, vI x10)]) [1, 2, 3, 0] rfl ?_
    exact hK24 _ _ _ _ _ _ h
theorem o_Mod_keep_24 {l : Launch} {g : ax_G} : ∀ (n : Nat) (l1 : Int32) (l2 : Int32) (l3 : Int32) (M : ax_M) (r : Unit) (M' : ax_M), f_Mod_keep_24  n l1 l2 l3 M = some (r, M') → AW l g true Y_Mod_keep 2 (none, M') 24 [(0, vA 184), (1, vI l1), (2, vI l2), (3, vI l3)] [] M := by
  intro n
  induction n with
  | zero =>
    intro l1 l2 l3 M r M' h
    cases h
  | succ n ih =>
    intro l1 l2 l3 M r M' h
    exact o_Mod_keep_24_b  _ ih _ _ _ _ _ _ h
def f_Mod_keep (a1 : Int32) (M : ax_M) : Option (Unit × ax_M) :=
  gi a1 48 (if (gI M 202 a1.toNatClampNeg) = 4 then (kM (Int64.toInt32 (gJ M 203 a1.toNatClampNeg)) (fun x11 => f_Mod_keep_24 64 a1 x11 0 M)) else (f_Mod_keep_24 64 a1 0 0 M))
set_option maxHeartbeats 4000000 in
set_option maxRecDepth 100000 in
theorem c_Mod_keep {l : Launch} {g : ax_G} {a1 : Int32} {M : ax_M} {r : Unit} {M' : ax_M} (h : f_Mod_keep a1 M = some (r, M')) : Ctr l g true Y_Mod_keep 2 [vA 184, vI a1] M (none, M') := by
  refine Ctr.ofAW yok_Mod_keep (Nat.le_of_ble_eq_true rfl) (Or.inl rfl) ?_
  show AW l g true Y_Mod_keep 2 (none, M') 0 [(0, vA 184), (1, vI a1)] [] M
  unfold f_Mod_keep at h
  refine A_aload_n 0 rfl rfl rfl ?_
  refine A_getL (r := 202) rfl fl_Mod_66 rfl (by decide) rfl rfl ?_
  refine A_iload_n 1 rfl rfl rfl ?_
  obtain ⟨hg1, h⟩ := gi_out h
  refine A_iald (n := 48) rfl (by decide) (by decide) (Or.inl rfl) hg1 ?_
  refine A_iconst (v := 4) rfl (by decide) ?_
  refine A_pc (pc' := 7) rfl ?_
  refine A_icmp_ne (tgt := 20) rfl (by decide) (fun hc2 => ?_) (fun hc2 => ?_)
  · rw [if_neg hc2] at h
    refine A_iconst (v := 0) rfl (by decide) ?_
    refine A_istore_n (Ls' := [(2, vI 0), (0, vA 184), (1, vI a1)]) rfl rfl (by decide) rfl ?_
    refine A_iconst (v := 0) rfl (by decide) ?_
    refine A_istore_n (Ls' := [(3, vI 0), (2, vI 0), (0, vA 184), (1, vI a1)]) rfl rfl (by decide) rfl ?_
    refine A_pc (pc' := 24) rfl ?_
    refine A_sub (Ls' := [(0, vA 184), (1, vI a1), (2, vI 0), (3, vI 0)]) [2, 3, 1, 0] rfl ?_
    exact o_Mod_keep_24  _ _ _ _ _ _ _ h
  · rw [if_pos hc2] at h
    refine A_pc (pc' := 10) rfl ?_
    refine A_aload_n 0 rfl rfl rfl ?_
    refine A_getL (r := 203) rfl fl_Mod_69 rfl (by decide) rfl rfl ?_
    refine A_iload_n 1 rfl rfl rfl ?_
    refine A_lald (n := 48) rfl (by decide) (by decide) (Or.inl rfl) hg1 ?_
    refine A_l2i rfl ?_
    refine A_pc (pc' := 17) rfl ?_
    refine A_goto (tgt := 21) rfl (by decide) ?_
    obtain ⟨x11, hx11, h⟩ := kM_out h
    refine A_nI hx11 ?_
    refine A_istore_n (Ls' := [(2, vI x11), (0, vA 184), (1, vI a1)]) rfl rfl (by decide) rfl ?_
    refine A_iconst (v := 0) rfl (by decide) ?_
    refine A_istore_n (Ls' := [(3, vI 0), (2, vI x11), (0, vA 184), (1, vI a1)]) rfl rfl (by decide) rfl ?_
    refine A_pc (pc' := 24) rfl ?_
    refine A_sub (Ls' := [(0, vA 184), (1, vI a1), (2, vI x11), (3, vI 0)]) [2, 3, 1, 0] rfl ?_
    exact o_Mod_keep_24  _ _ _ _ _ _ _ h
def tb_Mod_choose : List (Nat × Instr × Nat) := [(0, .aload_n 0, 1), (1, .getfield 223, 3), (4, .iload_n 1, 1), (5, .bipush 35, 2), (7, .if_icmp .ne 7, 3), (10, .iconst 3, 1), (11, .goto 4, 3), (14, .iconst 2, 1), (15, .isub, 1), (16, .istore_n 2, 1), (17, .aload_n 0, 1), (18, .iload_n 2, 1), (19, .putfield 223, 3), (22, .aload_n 0, 1), (23, .getfield 66, 3), (26, .iload_n 2, 1), (27, .iaload, 1), (28, .istore_n 3, 1), (29, .iload_n 1, 1), (30, .bipush 36, 2), (32, .if_icmp .ne 21, 3), (35, .aload_n 0, 1), (36, .iload_n 3, 1), (37, .ifCond .ne 9, 3), (40, .iload_n 2, 1), (41, .iconst 1, 1), (42, .iadd, 1), (43, .goto 4, 3), (46, .iload_n 2, 1), (47, .invokevirtual 275, 3), (50, .goto 107, 3), (53, .iload_n 3, 1), (54, .iconst 1, 1), (55, .if_icmp .eq 12, 3), (58, .aload_n 0, 1), (59, .iconst (-1), 1), (60, .lconst 0, 1), (61, .invokevirtual 226, 3), (64, .goto 93, 3), (67, .iload_n 1, 1), (68, .bipush 35, 2), (70, .if_icmp .ne 30, 3), (73, .aload_n 0, 1), (74, .aload_n 0, 1), (75, .getfield 69, 3), (78, .iload_n 2, 1), (79, .laload, 1), (80, .lconst 1, 1), (81, .lcmp, 1), (82, .ifCond .ne 9, 3), (85, .iload_n 2, 1), (86, .iconst 1, 1), (87, .iadd, 1), (88, .goto 6, 3), (91, .iload_n 2, 1), (92, .iconst 2, 1), (93, .iadd, 1), (94, .invokevirtual 275, 3), (97, .goto 60, 3), (100, .aload_n 0, 1), (101, .getfield 69, 3), (104, .iload_n 2, 1), (105, .laload, 1), (106, .iload_n 1, 1), (107, .bipush 22, 2), (109, .if_icmp .ne 7, 3), (112, .lconst 1, 1), (113, .goto 4, 3), (116, .lconst 0, 1), (117, .lcmp, 1), (118, .ifCond .ne 11, 3), (121, .aload_n 0, 1), (122, .iload_n 2, 1), (123, .invokevirtual 275, 3), (126, .goto 31, 3), (129, .aload_n 0, 1), (130, .getfield 66, 3), (133, .iload_n 2, 1), (134, .iconst 1, 1), (135, .iadd, 1), (136, .iaload, 1), (137, .iconst 1, 1), (138, .if_icmp .eq 12, 3), (141, .aload_n 0, 1), (142, .iconst (-1), 1), (143, .lconst 0, 1), (144, .invokevirtual 226, 3), (147, .goto 10, 3), (150, .aload_n 0, 1), (151, .iload_n 2, 1), (152, .iconst 1, 1), (153, .iadd, 1), (154, .invokevirtual 275, 3), (157, .return_, 1)]
def Y_Mod_choose : ax_Y := (⟨"MethodWardenModel", "choose", "(I)V"⟩, prog_14_method_40_code, 4, none, tb_Mod_choose)
theorem yok_Mod_choose : yOK Y_Mod_choose := ⟨by decide +kernel, by decide +kernel, inWG 1453 (by decide +kernel) (by decide +kernel), inWG 107 (by decide +kernel) (by decide +kernel), by decide +kernel⟩
theorem ml_Mod_275 : mlV "MethodWardenModel" 275 Y_Mod_keep 1 := ⟨⟨yok_Mod_keep, by decide +kernel, by decide⟩, Or.inl (inWG 1454 (by decide +kernel) (by decide +kernel)), inWG 1456 (by decide +kernel) (by decide +kernel), inWG 85 (by decide +kernel) (by decide +kernel)⟩
def f_Mod_choose_117 (l2 : Int32) (s0 : Int64) (s1 : Int64) (M : ax_M) : Option (Unit × ax_M) :=
  if (lg_cmp s1 s0) = 0 then (bnd (f_Mod_keep l2 M) (fun q17 M18 => some ((), M18))) else (gi (l2 + 1) 48 (if (gI M 202 (l2 + 1).toNatClampNeg) = 1 then (bnd (f_Mod_keep (l2 + 1) M) (fun q13 M14 => some ((), M14))) else (bnd (f_Mod_push ((-1)) 0 M) (fun q15 M16 => some ((), M16)))))
set_option maxHeartbeats 4000000 in
set_option maxRecDepth 100000 in
theorem o_Mod_choose_117 {l : Launch} {g : ax_G} (l2 : Int32) (s0 : Int64) (s1 : Int64) (M : ax_M) (r : Unit) (M' : ax_M) (h : f_Mod_choose_117  l2 s0 s1 M = some (r, M')) : AW l g true Y_Mod_choose 3 (none, M') 117 [(0, vA 184), (2, vI l2)] [vJ s0, vJ s1] M := by
  unfold f_Mod_choose_117 at h
  refine A_lcmp rfl ?_
  refine A_if_ne (tgt := 129) rfl (by decide) (fun hc10 => ?_) (fun hc10 => ?_)
  · rw [if_neg hc10] at h
    refine A_aload_n 0 rfl rfl rfl ?_
    refine A_getL (r := 202) rfl fl_Mod_66 rfl (by decide) rfl rfl ?_
    refine A_iload_n 1 rfl rfl rfl ?_
    refine A_iconst (v := 1) rfl (by decide) ?_
    refine A_iadd rfl ?_
    refine A_pc (pc' := 136) rfl ?_
    obtain ⟨hg11, h⟩ := gi_out h
    refine A_iald (n := 48) rfl (by decide) (by decide) (Or.inl rfl) hg11 ?_
    refine A_iconst (v := 1) rfl (by decide) ?_
    refine A_icmp_eq (tgt := 150) rfl (by decide) (fun hc12 => ?_) (fun hc12 => ?_)
    · rw [if_pos hc12] at h
      refine A_aload_n 0 rfl rfl rfl ?_
      refine A_iload_n 1 rfl rfl rfl ?_
      refine A_iconst (v := 1) rfl (by decide) ?_
      refine A_iadd rfl ?_
      obtain ⟨q13, M14, hcq13, h⟩ := bnd_out h
      refine A_callV (ci := 11) (as := [vI (l2 + 1)]) (st' := []) (r1 := (none, M14)) rfl ml_Mod_275 rfl (by decide) (by decide) (Or.inl rfl) rfl rfl (Nat.le_of_ble_eq_true rfl) (by decide) (c_Mod_keep hcq13) (Or.inl rfl) ?_
      refine A_pc (pc' := 157) rfl ?_
      refine A_stk (st' := []) rfl ?_
      refine A_pc (pc' := 157) rfl ?_
      obtain ⟨rfl, rfl⟩ := leaf h
      exact A_vret rfl rfl
    · rw [if_neg hc12] at h
      refine A_pc (pc' := 141) rfl ?_
      refine A_aload_n 0 rfl rfl rfl ?_
      refine A_iconst (v := (-1)) rfl (by decide) ?_
      refine A_lconst (v := 0) rfl (by decide) ?_
      obtain ⟨q15, M16, hcq15, h⟩ := bnd_out h
      refine A_callV (ci := 11) (as := [vI ((-1)), vJ 0]) (st' := []) (r1 := (none, M16)) rfl ml_Mod_226 rfl (by decide) (by decide) (Or.inl rfl) rfl rfl (Nat.le_of_ble_eq_true rfl) (by decide) (c_Mod_push hcq15) (Or.inl rfl) ?_
      refine A_pc (pc' := 147) rfl ?_
      refine A_stk (st' := []) rfl ?_
      refine A_goto (tgt := 157) rfl (by decide) ?_
      refine A_pc (pc' := 157) rfl ?_
      obtain ⟨rfl, rfl⟩ := leaf h
      exact A_vret rfl rfl
  · rw [if_pos hc10] at h
    refine A_pc (pc' := 121) rfl ?_
    refine A_aload_n 0 rfl rfl rfl ?_
    refine A_iload_n 1 rfl rfl rfl ?_
    obtain ⟨q17, M18, hcq17, h⟩ := bnd_out h
    refine A_callV (ci := 11) (as := [vI l2]) (st' := []) (r1 := (none, M18)) rfl ml_Mod_275 rfl (by decide) (by decide) (Or.inl rfl) rfl rfl (Nat.le_of_ble_eq_true rfl) (by decide) (c_Mod_keep hcq17) (Or.inl rfl) ?_
    refine A_pc (pc' := 126) rfl ?_
    refine A_stk (st' := []) rfl ?_
    refine A_goto (tgt := 157) rfl (by decide) ?_
    obtain ⟨rfl, rfl⟩ := leaf h
    exact A_vret rfl rfl
def f_Mod_choose_15 (l1 : Int32) (s0 : Int32) (s1 : Int32) (M : ax_M) : Option (Unit × ax_M) :=
  kM (s1 - s0) (fun x2 => kM (mI M 184 29 x2) (fun M3 => gi x2 48 (kM (gI M3 202 x2.toNatClampNeg) (fun x5 => if l1 = 36 then (if x5 = 0 then (bnd (f_Mod_keep (x2 + 1) M3) (fun q29 M30 => some ((), M30))) else (bnd (f_Mod_keep x2 M3) (fun q27 M28 => some ((), M28)))) else (if x5 = 1 then (if l1 = 35 then (if (lg_cmp (gJ M3 203 x2.toNatClampNeg) 1) = 0 then (bnd (f_Mod_keep (x2 + 1) M3) (fun q22 M23 => some ((), M23))) else (bnd (f_Mod_keep (x2 + 2) M3) (fun q20 M21 => some ((), M21)))) else (if l1 = 22 then (f_Mod_choose_117 x2 1 (gJ M3 203 x2.toNatClampNeg) M3) else (f_Mod_choose_117 x2 0 (gJ M3 203 x2.toNatClampNeg) M3))) else (bnd (f_Mod_push ((-1)) 0 M3) (fun q24 M25 => some ((), M25))))))))
set_option maxHeartbeats 4000000 in
set_option maxRecDepth 100000 in
theorem o_Mod_choose_15 {l : Launch} {g : ax_G} (l1 : Int32) (s0 : Int32) (s1 : Int32) (M : ax_M) (r : Unit) (M' : ax_M) (h : f_Mod_choose_15  l1 s0 s1 M = some (r, M')) : AW l g true Y_Mod_choose 3 (none, M') 15 [(0, vA 184), (1, vI l1)] [vI s0, vI s1] M := by
  unfold f_Mod_choose_15 at h
  refine A_isub rfl ?_
  obtain ⟨x2, hx2, h⟩ := kM_out h
  refine A_nI hx2 ?_
  refine A_istore_n (Ls' := [(2, vI x2), (0, vA 184), (1, vI l1)]) rfl rfl (by decide) rfl ?_
  refine A_aload_n 1 rfl rfl rfl ?_
  refine A_iload_n 0 rfl rfl rfl ?_
  refine A_putI rfl (Or.inl fl_Mod_223) rfl (by decide) (Or.inl rfl) rfl ?_
  obtain ⟨M3, hM3, h⟩ := kM_out h
  refine A_mem hM3 ?_
  refine A_pc (pc' := 22) rfl ?_
  refine A_aload_n 1 rfl rfl rfl ?_
  refine A_getL (r := 202) rfl fl_Mod_66 rfl (by decide) rfl rfl ?_
  refine A_iload_n 0 rfl rfl rfl ?_
  obtain ⟨hg4, h⟩ := gi_out h
  refine A_iald (n := 48) rfl (by decide) (by decide) (Or.inl rfl) hg4 ?_
  obtain ⟨x5, hx5, h⟩ := kM_out h
  refine A_nI hx5 ?_
  refine A_istore_n (Ls' := [(3, vI x5), (2, vI x2), (0, vA 184), (1, vI l1)]) rfl rfl (by decide) rfl ?_
  refine A_iload_n 3 rfl rfl rfl ?_
  refine A_pc (pc' := 30) rfl ?_
  refine A_bipush (v := 36) rfl (by decide) ?_
  refine A_icmp_ne (tgt := 53) rfl (by decide) (fun hc6 => ?_) (fun hc6 => ?_)
  · rw [if_neg hc6] at h
    refine A_iload_n 0 rfl rfl rfl ?_
    refine A_iconst (v := 1) rfl (by decide) ?_
    refine A_icmp_eq (tgt := 67) rfl (by decide) (fun hc7 => ?_) (fun hc7 => ?_)
    · rw [if_pos hc7] at h
      refine A_iload_n 3 rfl rfl rfl ?_
      refine A_bipush (v := 35) rfl (by decide) ?_
      refine A_icmp_ne (tgt := 100) rfl (by decide) (fun hc8 => ?_) (fun hc8 => ?_)
      · rw [if_neg hc8] at h
        refine A_aload_n 2 rfl rfl rfl ?_
        refine A_getL (r := 203) rfl fl_Mod_69 rfl (by decide) rfl rfl ?_
        refine A_iload_n 1 rfl rfl rfl ?_
        refine A_lald (n := 48) rfl (by decide) (by decide) (Or.inl rfl) hg4 ?_
        refine A_iload_n 3 rfl rfl rfl ?_
        refine A_pc (pc' := 107) rfl ?_
        refine A_bipush (v := 22) rfl (by decide) ?_
        refine A_icmp_ne (tgt := 116) rfl (by decide) (fun hc9 => ?_) (fun hc9 => ?_)
        · rw [if_neg hc9] at h
          refine A_lconst (v := 0) rfl (by decide) ?_
          refine A_pc (pc' := 117) rfl ?_
          refine A_sub (Ls' := [(0, vA 184), (2, vI x2)]) [2, 1] rfl ?_
          exact o_Mod_choose_117  _ _ _ _ _ _ h
        · rw [if_pos hc9] at h
          refine A_pc (pc' := 112) rfl ?_
          refine A_lconst (v := 1) rfl (by decide) ?_
          refine A_goto (tgt := 117) rfl (by decide) ?_
          refine A_pc (pc' := 117) rfl ?_
          refine A_sub (Ls' := [(0, vA 184), (2, vI x2)]) [2, 1] rfl ?_
          exact o_Mod_choose_117  _ _ _ _ _ _ h
      · rw [if_pos hc8] at h
        refine A_pc (pc' := 73) rfl ?_
        refine A_aload_n 2 rfl rfl rfl ?_
        refine A_aload_n 2 rfl rfl rfl ?_
        refine A_getL (r := 203) rfl fl_Mod_69 rfl (by decide) rfl rfl ?_
        refine A_iload_n 1 rfl rfl rfl ?_
        refine A_lald (n := 48) rfl (by decide) (by decide) (Or.inl rfl) hg4 ?_
        refine A_pc (pc' := 80) rfl ?_
        refine A_lconst (v := 1) rfl (by decide) ?_
        refine A_lcmp rfl ?_
        refine A_if_ne (tgt := 91) rfl (by decide) (fun hc19 => ?_) (fun hc19 => ?_)
        · rw [if_neg hc19] at h
          refine A_iload_n 1 rfl rfl rfl ?_
          refine A_iconst (v := 2) rfl (by decide) ?_
          refine A_iadd rfl ?_
          obtain ⟨q20, M21, hcq20, h⟩ := bnd_out h
          refine A_callV (ci := 11) (as := [vI (x2 + 2)]) (st' := []) (r1 := (none, M21)) rfl ml_Mod_275 rfl (by decide) (by decide) (Or.inl rfl) rfl rfl (Nat.le_of_ble_eq_true rfl) (by decide) (c_Mod_keep hcq20) (Or.inl rfl) ?_
          refine A_pc (pc' := 97) rfl ?_
          refine A_stk (st' := []) rfl ?_
          refine A_goto (tgt := 157) rfl (by decide) ?_
          refine A_pc (pc' := 157) rfl ?_
          obtain ⟨rfl, rfl⟩ := leaf h
          exact A_vret rfl rfl
        · rw [if_pos hc19] at h
          refine A_pc (pc' := 85) rfl ?_
          refine A_iload_n 1 rfl rfl rfl ?_
          refine A_iconst (v := 1) rfl (by decide) ?_
          refine A_iadd rfl ?_
          refine A_goto (tgt := 94) rfl (by decide) ?_
          obtain ⟨q22, M23, hcq22, h⟩ := bnd_out h
          refine A_callV (ci := 11) (as := [vI (x2 + 1)]) (st' := []) (r1 := (none, M23)) rfl ml_Mod_275 rfl (by decide) (by decide) (Or.inl rfl) rfl rfl (Nat.le_of_ble_eq_true rfl) (by decide) (c_Mod_keep hcq22) (Or.inl rfl) ?_
          refine A_pc (pc' := 97) rfl ?_
          refine A_stk (st' := []) rfl ?_
          refine A_pc (pc' := 97) rfl ?_
          refine A_goto (tgt := 157) rfl (by decide) ?_
          obtain ⟨rfl, rfl⟩ := leaf h
          exact A_vret rfl rfl
    · rw [if_neg hc7] at h
      refine A_pc (pc' := 58) rfl ?_
      refine A_aload_n 2 rfl rfl rfl ?_
      refine A_iconst (v := (-1)) rfl (by decide) ?_
      refine A_lconst (v := 0) rfl (by decide) ?_
      obtain ⟨q24, M25, hcq24, h⟩ := bnd_out h
      refine A_callV (ci := 11) (as := [vI ((-1)), vJ 0]) (st' := []) (r1 := (none, M25)) rfl ml_Mod_226 rfl (by decide) (by decide) (Or.inl rfl) rfl rfl (Nat.le_of_ble_eq_true rfl) (by decide) (c_Mod_push hcq24) (Or.inl rfl) ?_
      refine A_pc (pc' := 64) rfl ?_
      refine A_stk (st' := []) rfl ?_
      refine A_goto (tgt := 157) rfl (by decide) ?_
      refine A_pc (pc' := 157) rfl ?_
      obtain ⟨rfl, rfl⟩ := leaf h
      exact A_vret rfl rfl
  · rw [if_pos hc6] at h
    refine A_pc (pc' := 35) rfl ?_
    refine A_aload_n 2 rfl rfl rfl ?_
    refine A_iload_n 0 rfl rfl rfl ?_
    refine A_if_ne (tgt := 46) rfl (by decide) (fun hc26 => ?_) (fun hc26 => ?_)
    · rw [if_neg hc26] at h
      refine A_iload_n 1 rfl rfl rfl ?_
      obtain ⟨q27, M28, hcq27, h⟩ := bnd_out h
      refine A_callV (ci := 11) (as := [vI x2]) (st' := []) (r1 := (none, M28)) rfl ml_Mod_275 rfl (by decide) (by decide) (Or.inl rfl) rfl rfl (Nat.le_of_ble_eq_true rfl) (by decide) (c_Mod_keep hcq27) (Or.inl rfl) ?_
      refine A_pc (pc' := 50) rfl ?_
      refine A_stk (st' := []) rfl ?_
      refine A_goto (tgt := 157) rfl (by decide) ?_
      obtain ⟨rfl, rfl⟩ := leaf h
      exact A_vret rfl rfl
    · rw [if_pos hc26] at h
      refine A_pc (pc' := 40) rfl ?_
      refine A_iload_n 1 rfl rfl rfl ?_
      refine A_iconst (v := 1) rfl (by decide) ?_
      refine A_iadd rfl ?_
      refine A_goto (tgt := 47) rfl (by decide) ?_
      obtain ⟨q29, M30, hcq29, h⟩ := bnd_out h
      refine A_callV (ci := 11) (as := [vI (x2 + 1)]) (st' := []) (r1 := (none, M30)) rfl ml_Mod_275 rfl (by decide) (by decide) (Or.inl rfl) rfl rfl (Nat.le_of_ble_eq_true rfl) (by decide) (c_Mod_keep hcq29) (Or.inl rfl) ?_
      refine A_pc (pc' := 50) rfl ?_
      refine A_stk (st' := []) rfl ?_
      refine A_pc (pc' := 50) rfl ?_
      refine A_goto (tgt := 157) rfl (by decide) ?_
      obtain ⟨rfl, rfl⟩ := leaf h
      exact A_vret rfl rfl
def f_Mod_choose (a1 : Int32) (M : ax_M) : Option (Unit × ax_M) :=
  if a1 = 35 then (f_Mod_choose_15 a1 3 (gI M 184 29) M) else (f_Mod_choose_15 a1 2 (gI M 184 29) M)
set_option maxHeartbeats 4000000 in
set_option maxRecDepth 100000 in
theorem c_Mod_choose {l : Launch} {g : ax_G} {a1 : Int32} {M : ax_M} {r : Unit} {M' : ax_M} (h : f_Mod_choose a1 M = some (r, M')) : Ctr l g true Y_Mod_choose 3 [vA 184, vI a1] M (none, M') := by
  refine Ctr.ofAW yok_Mod_choose (Nat.le_of_ble_eq_true rfl) (Or.inl rfl) ?_
  show AW l g true Y_Mod_choose 3 (none, M') 0 [(0, vA 184), (1, vI a1)] [] M
  unfold f_Mod_choose at h
  refine A_aload_n 0 rfl rfl rfl ?_
  refine A_getI rfl fl_Mod_223 rfl (by decide) (Or.inl rfl) ?_
  refine A_iload_n 1 rfl rfl rfl ?_
  refine A_bipush (v := 35) rfl (by decide) ?_
  refine A_icmp_ne (tgt := 14) rfl (by decide) (fun hc1 => ?_) (fun hc1 => ?_)
  · rw [if_neg hc1] at h
    refine A_iconst (v := 2) rfl (by decide) ?_
    refine A_pc (pc' := 15) rfl ?_
    refine A_sub (Ls' := [(0, vA 184), (1, vI a1)]) [0, 1] rfl ?_
    exact o_Mod_choose_15  _ _ _ _ _ _ h
  · rw [if_pos hc1] at h
    refine A_pc (pc' := 10) rfl ?_
    refine A_iconst (v := 3) rfl (by decide) ?_
    refine A_goto (tgt := 15) rfl (by decide) ?_
    refine A_pc (pc' := 15) rfl ?_
    refine A_sub (Ls' := [(0, vA 184), (1, vI a1)]) [0, 1] rfl ?_
    exact o_Mod_choose_15  _ _ _ _ _ _ h
