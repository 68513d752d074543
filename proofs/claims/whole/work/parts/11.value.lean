/-! Value. Printed by gen_methods.py. -/
def tb_Val_beNothing : List (Nat × Instr × Nat) := [(0, .aload_n 0, 1), (1, .iconst 0, 1), (2, .putfield 9, 3), (5, .aload_n 0, 1), (6, .lconst 0, 1), (7, .putfield 20, 3), (10, .aload_n 0, 1), (11, .areturn, 1)]
def Y_Val_beNothing : ax_Y := (⟨"MethodWarden$Value", "beNothing", "()LMethodWarden$Value;"⟩, prog_11_method_2_code, 1, some (.object "MethodWarden$Value"), tb_Val_beNothing)
theorem yok_Val_beNothing : yOK Y_Val_beNothing := ⟨by decide +kernel, by decide +kernel, inWG 906 (by decide +kernel) (by decide +kernel), inWG 103 (by decide +kernel) (by decide +kernel), by decide +kernel⟩
theorem fl_Val_9 : fldOK "MethodWarden$Value" 9 7 0 false := ⟨_, _, _, cls_Val, by decide, by decide, rfl, Or.inl (inWG 269 (by decide +kernel) (by decide +kernel))⟩
theorem fl_Val_20 : fldOK "MethodWarden$Value" 20 7 1 false := ⟨_, _, _, cls_Val, by decide, by decide, rfl, Or.inl (inWG 272 (by decide +kernel) (by decide +kernel))⟩
def f_Val_beNothing (t0 : Nat) (M : ax_M) : Option (Nat × ax_M) :=
  gk t0 7 (kM (mI M t0 0 0) (fun M2 => kM (mJ M2 t0 1 0) (fun M3 => some (t0, M3))))
set_option maxHeartbeats 4000000 in
set_option maxRecDepth 100000 in
theorem c_Val_beNothing {l : Launch} {g : ax_G} {t0 : Nat} {M : ax_M} {r : Nat} {M' : ax_M} (h : f_Val_beNothing t0 M = some (r, M')) : Ctr l g true Y_Val_beNothing 1 [vA t0] M (some (vA r), M') := by
  refine Ctr.ofAW yok_Val_beNothing (Nat.le_of_ble_eq_true rfl) (Or.inl rfl) ?_
  show AW l g true Y_Val_beNothing 1 (some (vA r), M') 0 [(0, vA t0)] [] M
  unfold f_Val_beNothing at h
  refine A_aload_n 0 rfl rfl rfl ?_
  refine A_iconst (v := 0) rfl (by decide) ?_
  obtain ⟨hg1, h⟩ := gk_out h
  refine A_putI rfl (Or.inl fl_Val_9) rfl hg1 (Or.inl rfl) rfl ?_
  obtain ⟨M2, hM2, h⟩ := kM_out h
  refine A_mem hM2 ?_
  refine A_aload_n 0 rfl rfl rfl ?_
  refine A_lconst (v := 0) rfl (by decide) ?_
  refine A_pc (pc' := 7) rfl ?_
  refine A_putJ rfl (Or.inl fl_Val_20) rfl hg1 (Or.inl rfl) rfl ?_
  obtain ⟨M3, hM3, h⟩ := kM_out h
  refine A_mem hM3 ?_
  refine A_aload_n 0 rfl rfl rfl ?_
  obtain ⟨rfl, rfl⟩ := leaf h
  exact A_aret rfl rfl
def tb_Val_beTruth : List (Nat × Instr × Nat) := [(0, .aload_n 0, 1), (1, .iconst 1, 1), (2, .putfield 9, 3), (5, .aload_n 0, 1), (6, .iload_n 1, 1), (7, .ifCond .eq 7, 3), (10, .lconst 1, 1), (11, .goto 4, 3), (14, .lconst 0, 1), (15, .putfield 20, 3), (18, .aload_n 0, 1), (19, .areturn, 1)]
def Y_Val_beTruth : ax_Y := (⟨"MethodWarden$Value", "beTruth", "(Z)LMethodWarden$Value;"⟩, prog_11_method_3_code, 2, some (.object "MethodWarden$Value"), tb_Val_beTruth)
theorem yok_Val_beTruth : yOK Y_Val_beTruth := ⟨by decide +kernel, by decide +kernel, inWG 919 (by decide +kernel) (by decide +kernel), inWG 103 (by decide +kernel) (by decide +kernel), by decide +kernel⟩
def f_Val_beTruth (t0 : Nat) (a1 : Int32) (M : ax_M) : Option (Nat × ax_M) :=
  gk t0 7 (kM (mI M t0 0 1) (fun M2 => if a1 = 0 then (kM (mJ M2 t0 1 0) (fun M4 => some (t0, M4))) else (kM (mJ M2 t0 1 1) (fun M5 => some (t0, M5)))))
set_option maxHeartbeats 4000000 in
set_option maxRecDepth 100000 in
theorem c_Val_beTruth {l : Launch} {g : ax_G} {t0 : Nat} {a1 : Int32} {M : ax_M} {r : Nat} {M' : ax_M} (h : f_Val_beTruth t0 a1 M = some (r, M')) : Ctr l g true Y_Val_beTruth 1 [vA t0, vI a1] M (some (vA r), M') := by
  refine Ctr.ofAW yok_Val_beTruth (Nat.le_of_ble_eq_true rfl) (Or.inl rfl) ?_
  show AW l g true Y_Val_beTruth 1 (some (vA r), M') 0 [(0, vA t0), (1, vI a1)] [] M
  unfold f_Val_beTruth at h
  refine A_aload_n 0 rfl rfl rfl ?_
  refine A_iconst (v := 1) rfl (by decide) ?_
  obtain ⟨hg1, h⟩ := gk_out h
  refine A_putI rfl (Or.inl fl_Val_9) rfl hg1 (Or.inl rfl) rfl ?_
  obtain ⟨M2, hM2, h⟩ := kM_out h
  refine A_mem hM2 ?_
  refine A_aload_n 0 rfl rfl rfl ?_
  refine A_iload_n 1 rfl rfl rfl ?_
  refine A_pc (pc' := 7) rfl ?_
  refine A_if_eq (tgt := 14) rfl (by decide) (fun hc3 => ?_) (fun hc3 => ?_)
  · rw [if_pos hc3] at h
    refine A_lconst (v := 0) rfl (by decide) ?_
    refine A_putJ rfl (Or.inl fl_Val_20) rfl hg1 (Or.inl rfl) rfl ?_
    obtain ⟨M4, hM4, h⟩ := kM_out h
    refine A_mem hM4 ?_
    refine A_aload_n 0 rfl rfl rfl ?_
    obtain ⟨rfl, rfl⟩ := leaf h
    exact A_aret rfl rfl
  · rw [if_neg hc3] at h
    refine A_pc (pc' := 10) rfl ?_
    refine A_lconst (v := 1) rfl (by decide) ?_
    refine A_goto (tgt := 15) rfl (by decide) ?_
    refine A_putJ rfl (Or.inl fl_Val_20) rfl hg1 (Or.inl rfl) rfl ?_
    obtain ⟨M5, hM5, h⟩ := kM_out h
    refine A_mem hM5 ?_
    refine A_aload_n 0 rfl rfl rfl ?_
    obtain ⟨rfl, rfl⟩ := leaf h
    exact A_aret rfl rfl
def tb_Val_beInt : List (Nat × Instr × Nat) := [(0, .aload_n 0, 1), (1, .iconst 2, 1), (2, .putfield 9, 3), (5, .aload_n 0, 1), (6, .iload_n 1, 1), (7, .i2l, 1), (8, .putfield 20, 3), (11, .aload_n 0, 1), (12, .areturn, 1)]
def Y_Val_beInt : ax_Y := (⟨"MethodWarden$Value", "beInt", "(I)LMethodWarden$Value;"⟩, prog_11_method_4_code, 2, some (.object "MethodWarden$Value"), tb_Val_beInt)
theorem yok_Val_beInt : yOK Y_Val_beInt := ⟨by decide +kernel, by decide +kernel, inWG 902 (by decide +kernel) (by decide +kernel), inWG 103 (by decide +kernel) (by decide +kernel), by decide +kernel⟩
def f_Val_beInt (t0 : Nat) (a1 : Int32) (M : ax_M) : Option (Nat × ax_M) :=
  gk t0 7 (kM (mI M t0 0 2) (fun M2 => kM (mJ M2 t0 1 (Int32.toInt64 a1)) (fun M3 => some (t0, M3))))
set_option maxHeartbeats 4000000 in
set_option maxRecDepth 100000 in
theorem c_Val_beInt {l : Launch} {g : ax_G} {t0 : Nat} {a1 : Int32} {M : ax_M} {r : Nat} {M' : ax_M} (h : f_Val_beInt t0 a1 M = some (r, M')) : Ctr l g true Y_Val_beInt 1 [vA t0, vI a1] M (some (vA r), M') := by
  refine Ctr.ofAW yok_Val_beInt (Nat.le_of_ble_eq_true rfl) (Or.inl rfl) ?_
  show AW l g true Y_Val_beInt 1 (some (vA r), M') 0 [(0, vA t0), (1, vI a1)] [] M
  unfold f_Val_beInt at h
  refine A_aload_n 0 rfl rfl rfl ?_
  refine A_iconst (v := 2) rfl (by decide) ?_
  obtain ⟨hg1, h⟩ := gk_out h
  refine A_putI rfl (Or.inl fl_Val_9) rfl hg1 (Or.inl rfl) rfl ?_
  obtain ⟨M2, hM2, h⟩ := kM_out h
  refine A_mem hM2 ?_
  refine A_aload_n 0 rfl rfl rfl ?_
  refine A_iload_n 1 rfl rfl rfl ?_
  refine A_pc (pc' := 7) rfl ?_
  refine A_i2l rfl ?_
  refine A_putJ rfl (Or.inl fl_Val_20) rfl hg1 (Or.inl rfl) rfl ?_
  obtain ⟨M3, hM3, h⟩ := kM_out h
  refine A_mem hM3 ?_
  refine A_aload_n 0 rfl rfl rfl ?_
  obtain ⟨rfl, rfl⟩ := leaf h
  exact A_aret rfl rfl
def tb_Val_beLong : List (Nat × Instr × Nat) := [(0, .aload_n 0, 1), (1, .iconst 3, 1), (2, .putfield 9, 3), (5, .aload_n 0, 1), (6, .lload_n 1, 1), (7, .putfield 20, 3), (10, .aload_n 0, 1), (11, .areturn, 1)]
def Y_Val_beLong : ax_Y := (⟨"MethodWarden$Value", "beLong", "(J)LMethodWarden$Value;"⟩, prog_11_method_5_code, 3, some (.object "MethodWarden$Value"), tb_Val_beLong)
theorem yok_Val_beLong : yOK Y_Val_beLong := ⟨by decide +kernel, by decide +kernel, inWG 915 (by decide +kernel) (by decide +kernel), inWG 103 (by decide +kernel) (by decide +kernel), by decide +kernel⟩
def f_Val_beLong (t0 : Nat) (a1 : Int64) (M : ax_M) : Option (Nat × ax_M) :=
  gk t0 7 (kM (mI M t0 0 3) (fun M2 => kM (mJ M2 t0 1 a1) (fun M3 => some (t0, M3))))
set_option maxHeartbeats 4000000 in
set_option maxRecDepth 100000 in
theorem c_Val_beLong {l : Launch} {g : ax_G} {t0 : Nat} {a1 : Int64} {M : ax_M} {r : Nat} {M' : ax_M} (h : f_Val_beLong t0 a1 M = some (r, M')) : Ctr l g true Y_Val_beLong 1 [vA t0, vJ a1] M (some (vA r), M') := by
  refine Ctr.ofAW yok_Val_beLong (Nat.le_of_ble_eq_true rfl) (Or.inl rfl) ?_
  show AW l g true Y_Val_beLong 1 (some (vA r), M') 0 [(0, vA t0), (1, vJ a1)] [] M
  unfold f_Val_beLong at h
  refine A_aload_n 0 rfl rfl rfl ?_
  refine A_iconst (v := 3) rfl (by decide) ?_
  obtain ⟨hg1, h⟩ := gk_out h
  refine A_putI rfl (Or.inl fl_Val_9) rfl hg1 (Or.inl rfl) rfl ?_
  obtain ⟨M2, hM2, h⟩ := kM_out h
  refine A_mem hM2 ?_
  refine A_aload_n 0 rfl rfl rfl ?_
  refine A_lload_n 1 rfl rfl rfl ?_
  refine A_pc (pc' := 7) rfl ?_
  refine A_putJ rfl (Or.inl fl_Val_20) rfl hg1 (Or.inl rfl) rfl ?_
  obtain ⟨M3, hM3, h⟩ := kM_out h
  refine A_mem hM3 ?_
  refine A_aload_n 0 rfl rfl rfl ?_
  obtain ⟨rfl, rfl⟩ := leaf h
  exact A_aret rfl rfl
def tb_Val_beList : List (Nat × Instr × Nat) := [(0, .aload_n 0, 1), (1, .iconst 4, 1), (2, .putfield 9, 3), (5, .aload_n 0, 1), (6, .lconst 0, 1), (7, .putfield 20, 3), (10, .aload_n 0, 1), (11, .getfield 16, 3), (14, .aload_n 1, 1), (15, .invokevirtual 24, 3), (18, .aload_n 0, 1), (19, .areturn, 1)]
def Y_Val_beList : ax_Y := (⟨"MethodWarden$Value", "beList", "(LMethodWarden$Items;)LMethodWarden$Value;"⟩, prog_11_method_6_code, 2, some (.object "MethodWarden$Value"), tb_Val_beList)
theorem yok_Val_beList : yOK Y_Val_beList := ⟨by decide +kernel, by decide +kernel, inWG 924 (by decide +kernel) (by decide +kernel), inWG 103 (by decide +kernel) (by decide +kernel), by decide +kernel⟩
theorem fl_Val_16 : fldOK "MethodWarden$Value" 16 7 2 true := ⟨_, _, _, cls_Val, by decide, by decide, rfl, Or.inl (inWG 274 (by decide +kernel) (by decide +kernel))⟩
theorem ml_Val_24 : mlV "MethodWarden$Value" 24 Y_Items_copyFrom 1 := ⟨⟨yok_Items_copyFrom, by decide +kernel, by decide⟩, Or.inl (inWG 925 (by decide +kernel) (by decide +kernel)), inWG 808 (by decide +kernel) (by decide +kernel), inWG 809 (by decide +kernel) (by decide +kernel)⟩
def f_Val_beList (t0 : Nat) (a1 : Nat) (M : ax_M) : Option (Nat × ax_M) :=
  gk t0 7 (kM (mI M t0 0 4) (fun M2 => kM (mJ M2 t0 1 0) (fun M3 => bnd (f_Items_copyFrom (t0 + 1) a1 M3) (fun q4 M5 => some (t0, M5)))))
set_option maxHeartbeats 4000000 in
set_option maxRecDepth 100000 in
theorem c_Val_beList {l : Launch} {g : ax_G} {t0 : Nat} {a1 : Nat} {M : ax_M} {r : Nat} {M' : ax_M} (h : f_Val_beList t0 a1 M = some (r, M')) : Ctr l g true Y_Val_beList 2 [vA t0, vA a1] M (some (vA r), M') := by
  refine Ctr.ofAW yok_Val_beList (Nat.le_of_ble_eq_true rfl) (Or.inl rfl) ?_
  show AW l g true Y_Val_beList 2 (some (vA r), M') 0 [(0, vA t0), (1, vA a1)] [] M
  unfold f_Val_beList at h
  refine A_aload_n 0 rfl rfl rfl ?_
  refine A_iconst (v := 4) rfl (by decide) ?_
  obtain ⟨hg1, h⟩ := gk_out h
  refine A_putI rfl (Or.inl fl_Val_9) rfl hg1 (Or.inl rfl) rfl ?_
  obtain ⟨M2, hM2, h⟩ := kM_out h
  refine A_mem hM2 ?_
  refine A_aload_n 0 rfl rfl rfl ?_
  refine A_lconst (v := 0) rfl (by decide) ?_
  refine A_pc (pc' := 7) rfl ?_
  refine A_putJ rfl (Or.inl fl_Val_20) rfl hg1 (Or.inl rfl) rfl ?_
  obtain ⟨M3, hM3, h⟩ := kM_out h
  refine A_mem hM3 ?_
  refine A_aload_n 0 rfl rfl rfl ?_
  refine A_getL (r := t0 + 1) rfl fl_Val_16 rfl hg1 rfl rfl ?_
  refine A_aload_n 1 rfl rfl rfl ?_
  obtain ⟨q4, M5, hcq4, h⟩ := bnd_out h
  refine A_callV (ci := 5) (as := [vA a1]) (st' := []) (r1 := (none, M5)) rfl ml_Val_24 rfl (by decide) (lf_Val_1 hg1).1 (Or.inl rfl) rfl rfl (Nat.le_of_ble_eq_true rfl) (by decide) (c_Items_copyFrom hcq4) (Or.inl rfl) ?_
  refine A_pc (pc' := 18) rfl ?_
  refine A_stk (st' := []) rfl ?_
  refine A_aload_n 0 rfl rfl rfl ?_
  refine A_pc (pc' := 19) rfl ?_
  obtain ⟨rfl, rfl⟩ := leaf h
  exact A_aret rfl rfl
def tb_Val_beEmptyList : List (Nat × Instr × Nat) := [(0, .aload_n 0, 1), (1, .iconst 4, 1), (2, .putfield 9, 3), (5, .aload_n 0, 1), (6, .lconst 0, 1), (7, .putfield 20, 3), (10, .aload_n 0, 1), (11, .getfield 16, 3), (14, .invokevirtual 28, 3), (17, .aload_n 0, 1), (18, .areturn, 1)]
def Y_Val_beEmptyList : ax_Y := (⟨"MethodWarden$Value", "beEmptyList", "()LMethodWarden$Value;"⟩, prog_11_method_7_code, 1, some (.object "MethodWarden$Value"), tb_Val_beEmptyList)
theorem yok_Val_beEmptyList : yOK Y_Val_beEmptyList := ⟨by decide +kernel, by decide +kernel, inWG 893 (by decide +kernel) (by decide +kernel), inWG 103 (by decide +kernel) (by decide +kernel), by decide +kernel⟩
theorem ml_Val_28 : mlV "MethodWarden$Value" 28 Y_Items_clear 0 := ⟨⟨yok_Items_clear, by decide +kernel, by decide⟩, Or.inl (inWG 894 (by decide +kernel) (by decide +kernel)), inWG 742 (by decide +kernel) (by decide +kernel), inWG 743 (by decide +kernel) (by decide +kernel)⟩
def f_Val_beEmptyList (t0 : Nat) (M : ax_M) : Option (Nat × ax_M) :=
  gk t0 7 (kM (mI M t0 0 4) (fun M2 => kM (mJ M2 t0 1 0) (fun M3 => bnd (f_Items_clear (t0 + 1) M3) (fun q4 M5 => some (t0, M5)))))
set_option maxHeartbeats 4000000 in
set_option maxRecDepth 100000 in
theorem c_Val_beEmptyList {l : Launch} {g : ax_G} {t0 : Nat} {M : ax_M} {r : Nat} {M' : ax_M} (h : f_Val_beEmptyList t0 M = some (r, M')) : Ctr l g true Y_Val_beEmptyList 2 [vA t0] M (some (vA r), M') := by
  refine Ctr.ofAW yok_Val_beEmptyList (Nat.le_of_ble_eq_true rfl) (Or.inl rfl) ?_
  show AW l g true Y_Val_beEmptyList 2 (some (vA r), M') 0 [(0, vA t0)] [] M
  unfold f_Val_beEmptyList at h
  refine A_aload_n 0 rfl rfl rfl ?_
  refine A_iconst (v := 4) rfl (by decide) ?_
  obtain ⟨hg1, h⟩ := gk_out h
  refine A_putI rfl (Or.inl fl_Val_9) rfl hg1 (Or.inl rfl) rfl ?_
  obtain ⟨M2, hM2, h⟩ := kM_out h
  refine A_mem hM2 ?_
  refine A_aload_n 0 rfl rfl rfl ?_
  refine A_lconst (v := 0) rfl (by decide) ?_
  refine A_pc (pc' := 7) rfl ?_
  refine A_putJ rfl (Or.inl fl_Val_20) rfl hg1 (Or.inl rfl) rfl ?_
  obtain ⟨M3, hM3, h⟩ := kM_out h
  refine A_mem hM3 ?_
  refine A_aload_n 0 rfl rfl rfl ?_
  refine A_getL (r := t0 + 1) rfl fl_Val_16 rfl hg1 rfl rfl ?_
  obtain ⟨q4, M5, hcq4, h⟩ := bnd_out h
  refine A_callV (ci := 5) (as := []) (st' := []) (r1 := (none, M5)) rfl ml_Val_28 rfl (by decide) (lf_Val_1 hg1).1 (Or.inl rfl) rfl rfl (Nat.le_of_ble_eq_true rfl) (by decide) (c_Items_clear hcq4) (Or.inl rfl) ?_
  refine A_pc (pc' := 17) rfl ?_
  refine A_stk (st' := []) rfl ?_
  refine A_aload_n 0 rfl rfl rfl ?_
  obtain ⟨rfl, rfl⟩ := leaf h
  exact A_aret rfl rfl
def tb_Val_isError : List (Nat × Instr × Nat) := [(0, .aload_n 0, 1), (1, .getfield 9, 3), (4, .iconst (-1), 1), (5, .if_icmp .ne 7, 3), (8, .iconst 1, 1), (9, .goto 4, 3), (12, .iconst 0, 1), (13, .ireturn, 1)]
def Y_Val_isError : ax_Y := (⟨"MethodWarden$Value", "isError", "()Z"⟩, prog_11_method_8_code, 1, some .boolean, tb_Val_isError)
theorem yok_Val_isError : yOK Y_Val_isError := ⟨by decide +kernel, by decide +kernel, inWG 929 (by decide +kernel) (by decide +kernel), inWG 103 (by decide +kernel) (by decide +kernel), by decide +kernel⟩
def f_Val_isError (t0 : Nat) (M : ax_M) : Option (Int32 × ax_M) :=
  gk t0 7 (if (gI M t0 0) = ((-1)) then (some (1, M)) else (some (0, M)))
set_option maxHeartbeats 4000000 in
set_option maxRecDepth 100000 in
theorem c_Val_isError {l : Launch} {g : ax_G} {t0 : Nat} {M : ax_M} {r : Int32} {M' : ax_M} (h : f_Val_isError t0 M = some (r, M')) : Ctr l g true Y_Val_isError 1 [vA t0] M (some (vI r), M') := by
  refine Ctr.ofAW yok_Val_isError (Nat.le_of_ble_eq_true rfl) (Or.inl rfl) ?_
  show AW l g true Y_Val_isError 1 (some (vI r), M') 0 [(0, vA t0)] [] M
  unfold f_Val_isError at h
  refine A_aload_n 0 rfl rfl rfl ?_
  obtain ⟨hg1, h⟩ := gk_out h
  refine A_getI rfl fl_Val_9 rfl hg1 (Or.inl rfl) ?_
  refine A_iconst (v := (-1)) rfl (by decide) ?_
  refine A_icmp_ne (tgt := 12) rfl (by decide) (fun hc2 => ?_) (fun hc2 => ?_)
  · rw [if_neg hc2] at h
    refine A_iconst (v := 0) rfl (by decide) ?_
    obtain ⟨rfl, rfl⟩ := leaf h
    exact A_zret rfl rfl (Or.inl rfl)
  · rw [if_pos hc2] at h
    refine A_pc (pc' := 8) rfl ?_
    refine A_iconst (v := 1) rfl (by decide) ?_
    refine A_goto (tgt := 13) rfl (by decide) ?_
    obtain ⟨rfl, rfl⟩ := leaf h
    exact A_zret rfl rfl (Or.inr rfl)
def tb_Val_isNothing : List (Nat × Instr × Nat) := [(0, .aload_n 0, 1), (1, .getfield 9, 3), (4, .ifCond .ne 7, 3), (7, .iconst 1, 1), (8, .goto 4, 3), (11, .iconst 0, 1), (12, .ireturn, 1)]
def Y_Val_isNothing : ax_Y := (⟨"MethodWarden$Value", "isNothing", "()Z"⟩, prog_11_method_9_code, 1, some .boolean, tb_Val_isNothing)
theorem yok_Val_isNothing : yOK Y_Val_isNothing := ⟨by decide +kernel, by decide +kernel, inWG 881 (by decide +kernel) (by decide +kernel), inWG 103 (by decide +kernel) (by decide +kernel), by decide +kernel⟩
def f_Val_isNothing (t0 : Nat) (M : ax_M) : Option (Int32 × ax_M) :=
  gk t0 7 (if (gI M t0 0) = 0 then (some (1, M)) else (some (0, M)))
set_option maxHeartbeats 4000000 in
set_option maxRecDepth 100000 in
theorem c_Val_isNothing {l : Launch} {g : ax_G} {t0 : Nat} {M : ax_M} {r : Int32} {M' : ax_M} (h : f_Val_isNothing t0 M = some (r, M')) : Ctr l g true Y_Val_isNothing 1 [vA t0] M (some (vI r), M') := by
  refine Ctr.ofAW yok_Val_isNothing (Nat.le_of_ble_eq_true rfl) (Or.inl rfl) ?_
  show AW l g true Y_Val_isNothing 1 (some (vI r), M') 0 [(0, vA t0)] [] M
  unfold f_Val_isNothing at h
  refine A_aload_n 0 rfl rfl rfl ?_
  obtain ⟨hg1, h⟩ := gk_out h
  refine A_getI rfl fl_Val_9 rfl hg1 (Or.inl rfl) ?_
  refine A_if_ne (tgt := 11) rfl (by decide) (fun hc2 => ?_) (fun hc2 => ?_)
  · rw [if_neg hc2] at h
    refine A_iconst (v := 0) rfl (by decide) ?_
    obtain ⟨rfl, rfl⟩ := leaf h
    exact A_zret rfl rfl (Or.inl rfl)
  · rw [if_pos hc2] at h
    refine A_pc (pc' := 7) rfl ?_
    refine A_iconst (v := 1) rfl (by decide) ?_
    refine A_goto (tgt := 12) rfl (by decide) ?_
    obtain ⟨rfl, rfl⟩ := leaf h
    exact A_zret rfl rfl (Or.inr rfl)
def tb_Val_isTruth : List (Nat × Instr × Nat) := [(0, .aload_n 0, 1), (1, .getfield 9, 3), (4, .iconst 1, 1), (5, .if_icmp .ne 7, 3), (8, .iconst 1, 1), (9, .goto 4, 3), (12, .iconst 0, 1), (13, .ireturn, 1)]
def Y_Val_isTruth : ax_Y := (⟨"MethodWarden$Value", "isTruth", "()Z"⟩, prog_11_method_10_code, 1, some .boolean, tb_Val_isTruth)
theorem yok_Val_isTruth : yOK Y_Val_isTruth := ⟨by decide +kernel, by decide +kernel, inWG 865 (by decide +kernel) (by decide +kernel), inWG 103 (by decide +kernel) (by decide +kernel), by decide +kernel⟩
def f_Val_isTruth (t0 : Nat) (M : ax_M) : Option (Int32 × ax_M) :=
  gk t0 7 (if (gI M t0 0) = 1 then (some (1, M)) else (some (0, M)))
set_option maxHeartbeats 4000000 in
set_option maxRecDepth 100000 in
theorem c_Val_isTruth {l : Launch} {g : ax_G} {t0 : Nat} {M : ax_M} {r : Int32} {M' : ax_M} (h : f_Val_isTruth t0 M = some (r, M')) : Ctr l g true Y_Val_isTruth 1 [vA t0] M (some (vI r), M') := by
  refine Ctr.ofAW yok_Val_isTruth (Nat.le_of_ble_eq_true rfl) (Or.inl rfl) ?_
  show AW l g true Y_Val_isTruth 1 (some (vI r), M') 0 [(0, vA t0)] [] M
  unfold f_Val_isTruth at h
  refine A_aload_n 0 rfl rfl rfl ?_
  obtain ⟨hg1, h⟩ := gk_out h
  refine A_getI rfl fl_Val_9 rfl hg1 (Or.inl rfl) ?_
  refine A_iconst (v := 1) rfl (by decide) ?_
  refine A_icmp_ne (tgt := 12) rfl (by decide) (fun hc2 => ?_) (fun hc2 => ?_)
  · rw [if_neg hc2] at h
    refine A_iconst (v := 0) rfl (by decide) ?_
    obtain ⟨rfl, rfl⟩ := leaf h
    exact A_zret rfl rfl (Or.inl rfl)
  · rw [if_pos hc2] at h
    refine A_pc (pc' := 8) rfl ?_
    refine A_iconst (v := 1) rfl (by decide) ?_
    refine A_goto (tgt := 13) rfl (by decide) ?_
    obtain ⟨rfl, rfl⟩ := leaf h
    exact A_zret rfl rfl (Or.inr rfl)
def tb_Val_isTrue : List (Nat × Instr × Nat) := [(0, .aload_n 0, 1), (1, .getfield 9, 3), (4, .iconst 1, 1), (5, .if_icmp .ne 16, 3), (8, .aload_n 0, 1), (9, .getfield 20, 3), (12, .lconst 1, 1), (13, .lcmp, 1), (14, .ifCond .ne 7, 3), (17, .iconst 1, 1), (18, .goto 4, 3), (21, .iconst 0, 1), (22, .ireturn, 1)]
def Y_Val_isTrue : ax_Y := (⟨"MethodWarden$Value", "isTrue", "()Z"⟩, prog_11_method_11_code, 1, some .boolean, tb_Val_isTrue)
theorem yok_Val_isTrue : yOK Y_Val_isTrue := ⟨by decide +kernel, by decide +kernel, inWG 869 (by decide +kernel) (by decide +kernel), inWG 103 (by decide +kernel) (by decide +kernel), by decide +kernel⟩
def f_Val_isTrue (t0 : Nat) (M : ax_M) : Option (Int32 × ax_M) :=
  gk t0 7 (if (gI M t0 0) = 1 then (if (lg_cmp (gJ M t0 1) 1) = 0 then (some (1, M)) else (some (0, M))) else (some (0, M)))
set_option maxHeartbeats 4000000 in
set_option maxRecDepth 100000 in
theorem c_Val_isTrue {l : Launch} {g : ax_G} {t0 : Nat} {M : ax_M} {r : Int32} {M' : ax_M} (h : f_Val_isTrue t0 M = some (r, M')) : Ctr l g true Y_Val_isTrue 1 [vA t0] M (some (vI r), M') := by
  refine Ctr.ofAW yok_Val_isTrue (Nat.le_of_ble_eq_true rfl) (Or.inl rfl) ?_
  show AW l g true Y_Val_isTrue 1 (some (vI r), M') 0 [(0, vA t0)] [] M
  unfold f_Val_isTrue at h
  refine A_aload_n 0 rfl rfl rfl ?_
  obtain ⟨hg1, h⟩ := gk_out h
  refine A_getI rfl fl_Val_9 rfl hg1 (Or.inl rfl) ?_
  refine A_iconst (v := 1) rfl (by decide) ?_
  refine A_icmp_ne (tgt := 21) rfl (by decide) (fun hc2 => ?_) (fun hc2 => ?_)
  · rw [if_neg hc2] at h
    refine A_iconst (v := 0) rfl (by decide) ?_
    obtain ⟨rfl, rfl⟩ := leaf h
    exact A_zret rfl rfl (Or.inl rfl)
  · rw [if_pos hc2] at h
    refine A_pc (pc' := 8) rfl ?_
    refine A_aload_n 0 rfl rfl rfl ?_
    refine A_getJ rfl fl_Val_20 rfl hg1 (Or.inl rfl) ?_
    refine A_lconst (v := 1) rfl (by decide) ?_
    refine A_lcmp rfl ?_
    refine A_if_ne (tgt := 21) rfl (by decide) (fun hc3 => ?_) (fun hc3 => ?_)
    · rw [if_neg hc3] at h
      refine A_iconst (v := 0) rfl (by decide) ?_
      obtain ⟨rfl, rfl⟩ := leaf h
      exact A_zret rfl rfl (Or.inl rfl)
    · rw [if_pos hc3] at h
      refine A_pc (pc' := 17) rfl ?_
      refine A_iconst (v := 1) rfl (by decide) ?_
      refine A_goto (tgt := 22) rfl (by decide) ?_
      obtain ⟨rfl, rfl⟩ := leaf h
      exact A_zret rfl rfl (Or.inr rfl)
def tb_Val_isNumber : List (Nat × Instr × Nat) := [(0, .aload_n 0, 1), (1, .getfield 9, 3), (4, .iconst 2, 1), (5, .if_icmp .eq 11, 3), (8, .aload_n 0, 1), (9, .getfield 9, 3), (12, .iconst 3, 1), (13, .if_icmp .ne 7, 3), (16, .iconst 1, 1), (17, .goto 4, 3), (20, .iconst 0, 1), (21, .ireturn, 1)]
def Y_Val_isNumber : ax_Y := (⟨"MethodWarden$Value", "isNumber", "()Z"⟩, prog_11_method_12_code, 1, some .boolean, tb_Val_isNumber)
theorem yok_Val_isNumber : yOK Y_Val_isNumber := ⟨by decide +kernel, by decide +kernel, inWG 942 (by decide +kernel) (by decide +kernel), inWG 103 (by decide +kernel) (by decide +kernel), by decide +kernel⟩
def f_Val_isNumber (t0 : Nat) (M : ax_M) : Option (Int32 × ax_M) :=
  gk t0 7 (if (gI M t0 0) = 2 then (some (1, M)) else (if (gI M t0 0) = 3 then (some (1, M)) else (some (0, M))))
set_option maxHeartbeats 4000000 in
set_option maxRecDepth 100000 in
theorem c_Val_isNumber {l : Launch} {g : ax_G} {t0 : Nat} {M : ax_M} {r : Int32} {M' : ax_M} (h : f_Val_isNumber t0 M = some (r, M')) : Ctr l g true Y_Val_isNumber 1 [vA t0] M (some (vI r), M') := by
  refine Ctr.ofAW yok_Val_isNumber (Nat.le_of_ble_eq_true rfl) (Or.inl rfl) ?_
  show AW l g true Y_Val_isNumber 1 (some (vI r), M') 0 [(0, vA t0)] [] M
  unfold f_Val_isNumber at h
  refine A_aload_n 0 rfl rfl rfl ?_
  obtain ⟨hg1, h⟩ := gk_out h
  refine A_getI rfl fl_Val_9 rfl hg1 (Or.inl rfl) ?_
  refine A_iconst (v := 2) rfl (by decide) ?_
  refine A_icmp_eq (tgt := 16) rfl (by decide) (fun hc2 => ?_) (fun hc2 => ?_)
  · rw [if_pos hc2] at h
    refine A_iconst (v := 1) rfl (by decide) ?_
    refine A_goto (tgt := 21) rfl (by decide) ?_
    obtain ⟨rfl, rfl⟩ := leaf h
    exact A_zret rfl rfl (Or.inr rfl)
  · rw [if_neg hc2] at h
    refine A_pc (pc' := 8) rfl ?_
    refine A_aload_n 0 rfl rfl rfl ?_
    refine A_getI rfl fl_Val_9 rfl hg1 (Or.inl rfl) ?_
    refine A_iconst (v := 3) rfl (by decide) ?_
    refine A_icmp_ne (tgt := 20) rfl (by decide) (fun hc3 => ?_) (fun hc3 => ?_)
    · rw [if_neg hc3] at h
      refine A_iconst (v := 0) rfl (by decide) ?_
      obtain ⟨rfl, rfl⟩ := leaf h
      exact A_zret rfl rfl (Or.inl rfl)
    · rw [if_pos hc3] at h
      refine A_pc (pc' := 16) rfl ?_
      refine A_iconst (v := 1) rfl (by decide) ?_
      refine A_goto (tgt := 21) rfl (by decide) ?_
      obtain ⟨rfl, rfl⟩ := leaf h
      exact A_zret rfl rfl (Or.inr rfl)
def tb_Val_isList : List (Nat × Instr × Nat) := [(0, .aload_n 0, 1), (1, .getfield 9, 3), (4, .iconst 4, 1), (5, .if_icmp .ne 7, 3), (8, .iconst 1, 1), (9, .goto 4, 3), (12, .iconst 0, 1), (13, .ireturn, 1)]
def Y_Val_isList : ax_Y := (⟨"MethodWarden$Value", "isList", "()Z"⟩, prog_11_method_13_code, 1, some .boolean, tb_Val_isList)
theorem yok_Val_isList : yOK Y_Val_isList := ⟨by decide +kernel, by decide +kernel, inWG 889 (by decide +kernel) (by decide +kernel), inWG 103 (by decide +kernel) (by decide +kernel), by decide +kernel⟩
def f_Val_isList (t0 : Nat) (M : ax_M) : Option (Int32 × ax_M) :=
  gk t0 7 (if (gI M t0 0) = 4 then (some (1, M)) else (some (0, M)))
set_option maxHeartbeats 4000000 in
set_option maxRecDepth 100000 in
theorem c_Val_isList {l : Launch} {g : ax_G} {t0 : Nat} {M : ax_M} {r : Int32} {M' : ax_M} (h : f_Val_isList t0 M = some (r, M')) : Ctr l g true Y_Val_isList 1 [vA t0] M (some (vI r), M') := by
  refine Ctr.ofAW yok_Val_isList (Nat.le_of_ble_eq_true rfl) (Or.inl rfl) ?_
  show AW l g true Y_Val_isList 1 (some (vI r), M') 0 [(0, vA t0)] [] M
  unfold f_Val_isList at h
  refine A_aload_n 0 rfl rfl rfl ?_
  obtain ⟨hg1, h⟩ := gk_out h
  refine A_getI rfl fl_Val_9 rfl hg1 (Or.inl rfl) ?_
  refine A_iconst (v := 4) rfl (by decide) ?_
  refine A_icmp_ne (tgt := 12) rfl (by decide) (fun hc2 => ?_) (fun hc2 => ?_)
  · rw [if_neg hc2] at h
    refine A_iconst (v := 0) rfl (by decide) ?_
    obtain ⟨rfl, rfl⟩ := leaf h
    exact A_zret rfl rfl (Or.inl rfl)
  · rw [if_pos hc2] at h
    refine A_pc (pc' := 8) rfl ?_
    refine A_iconst (v := 1) rfl (by decide) ?_
    refine A_goto (tgt := 13) rfl (by decide) ?_
    obtain ⟨rfl, rfl⟩ := leaf h
    exact A_zret rfl rfl (Or.inr rfl)
def tb_Val_asLong : List (Nat × Instr × Nat) := [(0, .aload_n 0, 1), (1, .getfield 9, 3), (4, .iconst 4, 1), (5, .if_icmp .ne 14, 3), (8, .aload_n 0, 1), (9, .getfield 16, 3), (12, .getfield 31, 3), (15, .i2l, 1), (16, .goto 7, 3), (19, .aload_n 0, 1), (20, .getfield 20, 3), (23, .lreturn, 1)]
def Y_Val_asLong : ax_Y := (⟨"MethodWarden$Value", "asLong", "()J"⟩, prog_11_method_14_code, 1, some .long, tb_Val_asLong)
theorem yok_Val_asLong : yOK Y_Val_asLong := ⟨by decide +kernel, by decide +kernel, inWG 1051 (by decide +kernel) (by decide +kernel), inWG 103 (by decide +kernel) (by decide +kernel), by decide +kernel⟩
theorem fl_Val_31 : fldOK "MethodWarden$Value" 31 5 1 false := ⟨_, _, _, cls_Items, by decide, by decide, rfl, Or.inr ⟨"MethodWarden", inNW 248 (by decide +kernel) (by decide +kernel)⟩⟩
def f_Val_asLong (t0 : Nat) (M : ax_M) : Option (Int64 × ax_M) :=
  gk t0 7 (if (gI M t0 0) = 4 then (some (Int32.toInt64 (gI M (t0 + 1) 1), M)) else (some (gJ M t0 1, M)))
set_option maxHeartbeats 4000000 in
set_option maxRecDepth 100000 in
theorem c_Val_asLong {l : Launch} {g : ax_G} {t0 : Nat} {M : ax_M} {r : Int64} {M' : ax_M} (h : f_Val_asLong t0 M = some (r, M')) : Ctr l g true Y_Val_asLong 1 [vA t0] M (some (vJ r), M') := by
  refine Ctr.ofAW yok_Val_asLong (Nat.le_of_ble_eq_true rfl) (Or.inl rfl) ?_
  show AW l g true Y_Val_asLong 1 (some (vJ r), M') 0 [(0, vA t0)] [] M
  unfold f_Val_asLong at h
  refine A_aload_n 0 rfl rfl rfl ?_
  obtain ⟨hg1, h⟩ := gk_out h
  refine A_getI rfl fl_Val_9 rfl hg1 (Or.inl rfl) ?_
  refine A_iconst (v := 4) rfl (by decide) ?_
  refine A_icmp_ne (tgt := 19) rfl (by decide) (fun hc2 => ?_) (fun hc2 => ?_)
  · rw [if_neg hc2] at h
    refine A_aload_n 0 rfl rfl rfl ?_
    refine A_getJ rfl fl_Val_20 rfl hg1 (Or.inl rfl) ?_
    obtain ⟨rfl, rfl⟩ := leaf h
    exact A_lret rfl rfl
  · rw [if_pos hc2] at h
    refine A_pc (pc' := 8) rfl ?_
    refine A_aload_n 0 rfl rfl rfl ?_
    refine A_getL (r := t0 + 1) rfl fl_Val_16 rfl hg1 rfl rfl ?_
    refine A_getI rfl fl_Val_31 rfl (lf_Val_1 hg1).1 (Or.inl rfl) ?_
    refine A_i2l rfl ?_
    refine A_goto (tgt := 23) rfl (by decide) ?_
    refine A_pc (pc' := 23) rfl ?_
    obtain ⟨rfl, rfl⟩ := leaf h
    exact A_lret rfl rfl
def tb_Val_sameAs : List (Nat × Instr × Nat) := [(0, .aload_n 0, 1), (1, .invokevirtual 34, 3), (4, .ifCond .eq 28, 3), (7, .aload_n 1, 1), (8, .invokevirtual 34, 3), (11, .ifCond .eq 21, 3), (14, .aload_n 0, 1), (15, .getfield 20, 3), (18, .aload_n 1, 1), (19, .getfield 20, 3), (22, .lcmp, 1), (23, .ifCond .ne 7, 3), (26, .iconst 1, 1), (27, .goto 4, 3), (30, .iconst 0, 1), (31, .ireturn, 1), (32, .aload_n 0, 1), (33, .getfield 9, 3), (36, .aload_n 1, 1), (37, .getfield 9, 3), (40, .if_icmp .eq 5, 3), (43, .iconst 0, 1), (44, .ireturn, 1), (45, .aload_n 0, 1), (46, .invokevirtual 38, 3), (49, .ifCond .eq 17, 3), (52, .aload_n 0, 1), (53, .getfield 16, 3), (56, .aload_n 1, 1), (57, .getfield 16, 3), (60, .invokevirtual 41, 3), (63, .goto 20, 3), (66, .aload_n 0, 1), (67, .getfield 20, 3), (70, .aload_n 1, 1), (71, .getfield 20, 3), (74, .lcmp, 1), (75, .ifCond .ne 7, 3), (78, .iconst 1, 1), (79, .goto 4, 3), (82, .iconst 0, 1), (83, .ireturn, 1)]
def Y_Val_sameAs : ax_Y := (⟨"MethodWarden$Value", "sameAs", "(LMethodWarden$Value;)Z"⟩, prog_11_method_15_code, 2, some .boolean, tb_Val_sameAs)
theorem yok_Val_sameAs : yOK Y_Val_sameAs := ⟨by decide +kernel, by decide +kernel, inWG 960 (by decide +kernel) (by decide +kernel), inWG 103 (by decide +kernel) (by decide +kernel), by decide +kernel⟩
theorem ml_Val_34 : mlV "MethodWarden$Value" 34 Y_Val_isNumber 0 := ⟨⟨yok_Val_isNumber, by decide +kernel, by decide⟩, Or.inl (inWG 961 (by decide +kernel) (by decide +kernel)), inWG 940 (by decide +kernel) (by decide +kernel), inWG 941 (by decide +kernel) (by decide +kernel)⟩
theorem ml_Val_38 : mlV "MethodWarden$Value" 38 Y_Val_isList 0 := ⟨⟨yok_Val_isList, by decide +kernel, by decide⟩, Or.inl (inWG 962 (by decide +kernel) (by decide +kernel)), inWG 887 (by decide +kernel) (by decide +kernel), inWG 888 (by decide +kernel) (by decide +kernel)⟩
theorem ml_Val_41 : mlV "MethodWarden$Value" 41 Y_Items_sameAs 1 := ⟨⟨yok_Items_sameAs, by decide +kernel, by decide⟩, Or.inl (inWG 963 (by decide +kernel) (by decide +kernel)), inWG 964 (by decide +kernel) (by decide +kernel), inWG 965 (by decide +kernel) (by decide +kernel)⟩
def f_Val_sameAs_32 (l0 : Nat) (l1 : Nat) (M : ax_M) : Option (Int32 × ax_M) :=
  gk l0 7 (gk l1 7 (if (gI M l0 0) = (gI M l1 0) then (bnd (f_Val_isList l0 M) (fun q8 M9 => if q8 = 0 then (if (lg_cmp (gJ M9 l0 1) (gJ M9 l1 1)) = 0 then (some (1, M9)) else (some (0, M9))) else (bnd (f_Items_sameAs (l0 + 1) (l1 + 1) M9) (fun q12 M13 => g2 q12 (some (q12, M13)))))) else (some (0, M))))
set_option maxHeartbeats 4000000 in
set_option maxRecDepth 100000 in
theorem o_Val_sameAs_32 {l : Launch} {g : ax_G} (l0 : Nat) (l1 : Nat) (M : ax_M) (r : Int32) (M' : ax_M) (h : f_Val_sameAs_32  l0 l1 M = some (r, M')) : AW l g true Y_Val_sameAs 2 (some (vI r), M') 32 [(0, vA l0), (1, vA l1)] [] M := by
  unfold f_Val_sameAs_32 at h
  refine A_aload_n 0 rfl rfl rfl ?_
  obtain ⟨hg5, h⟩ := gk_out h
  refine A_getI rfl fl_Val_9 rfl hg5 (Or.inl rfl) ?_
  refine A_aload_n 1 rfl rfl rfl ?_
  obtain ⟨hg6, h⟩ := gk_out h
  refine A_getI rfl fl_Val_9 rfl hg6 (Or.inl rfl) ?_
  refine A_icmp_eq (tgt := 45) rfl (by decide) (fun hc7 => ?_) (fun hc7 => ?_)
  · rw [if_pos hc7] at h
    refine A_aload_n 0 rfl rfl rfl ?_
    obtain ⟨q8, M9, hcq8, h⟩ := bnd_out h
    refine A_callV (ci := 7) (as := []) (st' := []) (r1 := (some (vI q8), M9)) rfl ml_Val_38 rfl (by decide) hg5 (Or.inl rfl) rfl rfl (Nat.le_of_ble_eq_true rfl) (by decide) (c_Val_isList hcq8) (Or.inl rfl) ?_
    refine A_pc (pc' := 49) rfl ?_
    refine A_stk (st' := [vI q8]) rfl ?_
    refine A_if_eq (tgt := 66) rfl (by decide) (fun hc10 => ?_) (fun hc10 => ?_)
    · rw [if_pos hc10] at h
      refine A_aload_n 0 rfl rfl rfl ?_
      refine A_getJ rfl fl_Val_20 rfl hg5 (Or.inl rfl) ?_
      refine A_aload_n 1 rfl rfl rfl ?_
      refine A_getJ rfl fl_Val_20 rfl hg6 (Or.inl rfl) ?_
      refine A_lcmp rfl ?_
      refine A_pc (pc' := 75) rfl ?_
      refine A_if_ne (tgt := 82) rfl (by decide) (fun hc11 => ?_) (fun hc11 => ?_)
      · rw [if_neg hc11] at h
        refine A_iconst (v := 0) rfl (by decide) ?_
        obtain ⟨rfl, rfl⟩ := leaf h
        exact A_zret rfl rfl (Or.inl rfl)
      · rw [if_pos hc11] at h
        refine A_pc (pc' := 78) rfl ?_
        refine A_iconst (v := 1) rfl (by decide) ?_
        refine A_goto (tgt := 83) rfl (by decide) ?_
        obtain ⟨rfl, rfl⟩ := leaf h
        exact A_zret rfl rfl (Or.inr rfl)
    · rw [if_neg hc10] at h
      refine A_pc (pc' := 52) rfl ?_
      refine A_aload_n 0 rfl rfl rfl ?_
      refine A_getL (r := l0 + 1) rfl fl_Val_16 rfl hg5 rfl rfl ?_
      refine A_aload_n 1 rfl rfl rfl ?_
      refine A_getL (r := l1 + 1) rfl fl_Val_16 rfl hg6 rfl rfl ?_
      obtain ⟨q12, M13, hcq12, h⟩ := bnd_out h
      refine A_callV (ci := 5) (as := [vA (l1 + 1)]) (st' := []) (r1 := (some (vI q12), M13)) rfl ml_Val_41 rfl (by decide) (lf_Val_1 hg5).1 (Or.inl rfl) rfl rfl (Nat.le_of_ble_eq_true rfl) (by decide) (c_Items_sameAs hcq12) (Or.inl rfl) ?_
      refine A_pc (pc' := 63) rfl ?_
      refine A_stk (st' := [vI q12]) rfl ?_
      refine A_pc (pc' := 63) rfl ?_
      refine A_goto (tgt := 83) rfl (by decide) ?_
      obtain ⟨hg14, h⟩ := g2_out h
      obtain ⟨rfl, rfl⟩ := leaf h
      exact A_zret rfl rfl hg14
  · rw [if_neg hc7] at h
    refine A_pc (pc' := 43) rfl ?_
    refine A_iconst (v := 0) rfl (by decide) ?_
    obtain ⟨rfl, rfl⟩ := leaf h
    exact A_zret rfl rfl (Or.inl rfl)
def f_Val_sameAs (t0 : Nat) (a1 : Nat) (M : ax_M) : Option (Int32 × ax_M) :=
  gk t0 7 (bnd (f_Val_isNumber t0 M) (fun q2 M3 => if q2 = 0 then (f_Val_sameAs_32 t0 a1 M3) else (gk a1 7 (bnd (f_Val_isNumber a1 M3) (fun q16 M17 => if q16 = 0 then (f_Val_sameAs_32 t0 a1 M17) else (if (lg_cmp (gJ M17 t0 1) (gJ M17 a1 1)) = 0 then (some (1, M17)) else (some (0, M17))))))))
set_option maxHeartbeats 4000000 in
set_option maxRecDepth 100000 in
theorem c_Val_sameAs {l : Launch} {g : ax_G} {t0 : Nat} {a1 : Nat} {M : ax_M} {r : Int32} {M' : ax_M} (h : f_Val_sameAs t0 a1 M = some (r, M')) : Ctr l g true Y_Val_sameAs 2 [vA t0, vA a1] M (some (vI r), M') := by
  refine Ctr.ofAW yok_Val_sameAs (Nat.le_of_ble_eq_true rfl) (Or.inl rfl) ?_
  show AW l g true Y_Val_sameAs 2 (some (vI r), M') 0 [(0, vA t0), (1, vA a1)] [] M
  unfold f_Val_sameAs at h
  refine A_aload_n 0 rfl rfl rfl ?_
  obtain ⟨hg1, h⟩ := gk_out h
  obtain ⟨q2, M3, hcq2, h⟩ := bnd_out h
  refine A_callV (ci := 7) (as := []) (st' := []) (r1 := (some (vI q2), M3)) rfl ml_Val_34 rfl (by decide) hg1 (Or.inl rfl) rfl rfl (Nat.le_of_ble_eq_true rfl) (by decide) (c_Val_isNumber hcq2) (Or.inl rfl) ?_
  refine A_pc (pc' := 4) rfl ?_
  refine A_stk (st' := [vI q2]) rfl ?_
  refine A_if_eq (tgt := 32) rfl (by decide) (fun hc4 => ?_) (fun hc4 => ?_)
  · rw [if_pos hc4] at h
    refine A_pc (pc' := 32) rfl ?_
    refine A_sub (Ls' := [(0, vA t0), (1, vA a1)]) [0, 1] rfl ?_
    exact o_Val_sameAs_32  _ _ _ _ _ h
  · rw [if_neg hc4] at h
    refine A_pc (pc' := 7) rfl ?_
    refine A_aload_n 1 rfl rfl rfl ?_
    obtain ⟨hg15, h⟩ := gk_out h
    obtain ⟨q16, M17, hcq16, h⟩ := bnd_out h
    refine A_callV (ci := 7) (as := []) (st' := []) (r1 := (some (vI q16), M17)) rfl ml_Val_34 rfl (by decide) hg15 (Or.inl rfl) rfl rfl (Nat.le_of_ble_eq_true rfl) (by decide) (c_Val_isNumber hcq16) (Or.inl rfl) ?_
    refine A_pc (pc' := 11) rfl ?_
    refine A_stk (st' := [vI q16]) rfl ?_
    refine A_if_eq (tgt := 32) rfl (by decide) (fun hc18 => ?_) (fun hc18 => ?_)
    · rw [if_pos hc18] at h
      refine A_pc (pc' := 32) rfl ?_
      refine A_sub (Ls' := [(0, vA t0), (1, vA a1)]) [0, 1] rfl ?_
      exact o_Val_sameAs_32  _ _ _ _ _ h
    · rw [if_neg hc18] at h
      refine A_pc (pc' := 14) rfl ?_
      refine A_aload_n 0 rfl rfl rfl ?_
      refine A_getJ rfl fl_Val_20 rfl hg1 (Or.inl rfl) ?_
      refine A_aload_n 1 rfl rfl rfl ?_
      refine A_getJ rfl fl_Val_20 rfl hg15 (Or.inl rfl) ?_
      refine A_lcmp rfl ?_
      refine A_pc (pc' := 23) rfl ?_
      refine A_if_ne (tgt := 30) rfl (by decide) (fun hc19 => ?_) (fun hc19 => ?_)
      · rw [if_neg hc19] at h
        refine A_iconst (v := 0) rfl (by decide) ?_
        obtain ⟨rfl, rfl⟩ := leaf h
        exact A_zret rfl rfl (Or.inl rfl)
      · rw [if_pos hc19] at h
        refine A_pc (pc' := 26) rfl ?_
        refine A_iconst (v := 1) rfl (by decide) ?_
        refine A_goto (tgt := 31) rfl (by decide) ?_
        obtain ⟨rfl, rfl⟩ := leaf h
        exact A_zret rfl rfl (Or.inr rfl)
