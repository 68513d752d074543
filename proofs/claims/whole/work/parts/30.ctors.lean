/-! Constructors. Printed by gen_methods.py. -/
def tb_Items_init : List (Nat × Instr × Nat) := [(0, .aload_n 0, 1), (1, .invokespecial 3, 3), (4, .aload_n 0, 1), (5, .iconst 5, 1), (6, .newarray .int, 2), (8, .putfield 9, 3), (11, .return_, 1)]
def Y_Items_init : ax_Y := (⟨"MethodWarden$Items", "<init>", "()V"⟩, prog_6_method_1_code, 1, none, tb_Items_init)
theorem yok_Items_init : yOK Y_Items_init := ⟨by decide +kernel, by decide +kernel, inWG 243 (by decide +kernel) (by decide +kernel), inWG 101 (by decide +kernel) (by decide +kernel), by decide +kernel⟩
theorem ff_Items_9 : fldFin "MethodWarden$Items" 9 5 0 := ⟨_, _, cls_Items, by decide, by decide, rfl, inWG 245 (by decide +kernel) (by decide +kernel)⟩
set_option maxRecDepth 100000 in
def fi_Items_init (nf : Nat) (t0 : Nat) (M : ax_M) : Option (Unit × ax_M) :=
  gk t0 5 (gk (gn M + 2) 100 (ge (ln (gn M + 2)) 5 (gle (gn M + 1) nf (kM (gn M + 2) (fun r5 => kM (mS M) (fun M6 => gl M6 t0 (kM (mA M6 t0 0 r5) (fun M8 => some ((), M8)))))))))
def f_Items_init (nf : Nat) (t0 : Nat) (M : ax_M) : Option (Unit × ax_M) := nfw nf M (fi_Items_init nf t0 M)
theorem cnt_Items_init {nf : Nat} {t0 : Nat} {M : ax_M} {r : Unit} {M' : ax_M} (h : f_Items_init nf t0 M = some (r, M')) : gn M' = nf := (nfw_out h).1
set_option maxHeartbeats 4000000 in
set_option maxRecDepth 100000 in
theorem c_Items_init {l : Launch} {g : ax_G} {nf : Nat} {t0 : Nat} {M : ax_M} {r : Unit} {M' : ax_M} (h : f_Items_init nf t0 M = some (r, M')) : Ctr l g false Y_Items_init 1 [vA t0] M (none, M') := by
  obtain ⟨hnf, hle, h⟩ := nfw_out h
  refine Ctr.ofAW yok_Items_init (Nat.le_of_ble_eq_true rfl) (Or.inr (by rw [hnf]; exact hle)) ?_
  show AW l g false Y_Items_init 1 (none, M') 0 [(0, vA t0)] [] M
  unfold fi_Items_init at h
  refine A_aload_n 0 rfl rfl rfl ?_
  obtain ⟨hg1, h⟩ := gk_out h
  refine A_objInit rfl (inWG 244 (by decide +kernel) (by decide +kernel)) (inWG 119 (by decide +kernel) (by decide +kernel)) (inWG 120 (by decide +kernel) (by decide +kernel)) (fun z => absurd hg1 (by rw [z]; decide)) (by decide) (Nat.le_of_ble_eq_true rfl) ?_
  refine A_aload_n 0 rfl rfl rfl ?_
  refine A_iconst (v := 5) rfl (by decide) ?_
  obtain ⟨hg2, h⟩ := gk_out h
  obtain ⟨hg3, h⟩ := ge_out h
  obtain ⟨hg4, h⟩ := gle_out h
  obtain ⟨r5, hr5, h⟩ := kM_out h
  refine A_newa (t := 0) (n := 5) rfl rfl (inWG 182 (by decide +kernel) (by decide +kernel)) (by decide) hg2 hg3 ⟨by decide, by decide, by decide⟩ rfl (fun _ _ h => h) (by rw [hnf]; exact hg4) ?_
  refine A_nA hr5 ?_
  obtain ⟨M6, hM6, h⟩ := kM_out h
  refine A_mem hM6 ?_
  refine A_pc (pc' := 8) rfl ?_
  obtain ⟨hg7, h⟩ := gl_out h
  refine A_putA rfl (Or.inr ⟨ff_Items_9, rfl⟩) rfl hg1 (Or.inr hg7) rfl (Or.inl rfl) ?_
  obtain ⟨M8, hM8, h⟩ := kM_out h
  refine A_mem hM8 ?_
  obtain ⟨rfl, rfl⟩ := leaf h
  exact A_vret rfl rfl
def tb_Val_init : List (Nat × Instr × Nat) := [(0, .aload_n 0, 1), (1, .invokespecial 1, 3), (4, .aload_n 0, 1), (5, .iconst (-1), 1), (6, .putfield 9, 3), (9, .aload_n 0, 1), (10, .new 13, 3), (13, .dup, 1), (14, .invokespecial 15, 3), (17, .putfield 16, 3), (20, .return_, 1)]
def Y_Val_init : ax_Y := (⟨"MethodWarden$Value", "<init>", "()V"⟩, prog_11_method_1_code, 1, none, tb_Val_init)
theorem yok_Val_init : yOK Y_Val_init := ⟨by decide +kernel, by decide +kernel, inWG 265 (by decide +kernel) (by decide +kernel), inWG 103 (by decide +kernel) (by decide +kernel), by decide +kernel⟩
theorem ff_Val_16 : fldFin "MethodWarden$Value" 16 7 2 := ⟨_, _, cls_Val, by decide, by decide, rfl, inWG 274 (by decide +kernel) (by decide +kernel)⟩
theorem ml_Val_15 : mlI "MethodWarden$Value" 15 Y_Items_init 0 := ⟨⟨yok_Items_init, by decide +kernel, by decide⟩, Or.inr ⟨"MethodWarden", inNW 268 (by decide +kernel) (by decide +kernel)⟩, inWG 242 (by decide +kernel) (by decide +kernel), rfl⟩
set_option maxRecDepth 100000 in
def fi_Val_init (nf : Nat) (t0 : Nat) (M : ax_M) : Option (Unit × ax_M) :=
  gk t0 7 (gl M t0 (kM (mI M t0 0 ((-1))) (fun M3 => gk (gn M3 + 2) 5 (gle (gn M3 + 1) nf (kM (gn M3 + 2) (fun r6 => kM (mS M3) (fun M7 => gle (gn M7 + 1) nf (bnd (f_Items_init (gn M7 + 1) r6 M7) (fun q8 M9 => gl M9 t0 (kM (mA M9 t0 2 r6) (fun M12 => some ((), M12))))))))))))
def f_Val_init (nf : Nat) (t0 : Nat) (M : ax_M) : Option (Unit × ax_M) := nfw nf M (fi_Val_init nf t0 M)
theorem cnt_Val_init {nf : Nat} {t0 : Nat} {M : ax_M} {r : Unit} {M' : ax_M} (h : f_Val_init nf t0 M = some (r, M')) : gn M' = nf := (nfw_out h).1
set_option maxHeartbeats 4000000 in
set_option maxRecDepth 100000 in
theorem c_Val_init {l : Launch} {g : ax_G} {nf : Nat} {t0 : Nat} {M : ax_M} {r : Unit} {M' : ax_M} (h : f_Val_init nf t0 M = some (r, M')) : Ctr l g false Y_Val_init 2 [vA t0] M (none, M') := by
  obtain ⟨hnf, hle, h⟩ := nfw_out h
  refine Ctr.ofAW yok_Val_init (Nat.le_of_ble_eq_true rfl) (Or.inr (by rw [hnf]; exact hle)) ?_
  show AW l g false Y_Val_init 2 (none, M') 0 [(0, vA t0)] [] M
  unfold fi_Val_init at h
  refine A_aload_n 0 rfl rfl rfl ?_
  obtain ⟨hg1, h⟩ := gk_out h
  refine A_objInit rfl (inWG 266 (by decide +kernel) (by decide +kernel)) (inWG 119 (by decide +kernel) (by decide +kernel)) (inWG 120 (by decide +kernel) (by decide +kernel)) (fun z => absurd hg1 (by rw [z]; decide)) (by decide) (Nat.le_of_ble_eq_true rfl) ?_
  refine A_aload_n 0 rfl rfl rfl ?_
  refine A_iconst (v := (-1)) rfl (by decide) ?_
  obtain ⟨hg2, h⟩ := gl_out h
  refine A_putI rfl (Or.inl fl_Val_9) rfl hg1 (Or.inr hg2) rfl ?_
  obtain ⟨M3, hM3, h⟩ := kM_out h
  refine A_mem hM3 ?_
  refine A_pc (pc' := 9) rfl ?_
  refine A_aload_n 0 rfl rfl rfl ?_
  obtain ⟨hg4, h⟩ := gk_out h
  obtain ⟨hg5, h⟩ := gle_out h
  obtain ⟨r6, hr6, h⟩ := kM_out h
  refine A_new rfl cls_Items (inWG 267 (by decide +kernel) (by decide +kernel)) (inWG 240 (by decide +kernel) (by decide +kernel)) (inWG 101 (by decide +kernel) (by decide +kernel)) (by decide) hg4 (by rw [hnf]; exact hg5) ?_
  refine A_nA hr6 ?_
  obtain ⟨M7, hM7, h⟩ := kM_out h
  refine A_mem hM7 ?_
  refine A_dup rfl rfl ?_
  obtain ⟨hg10, h⟩ := gle_out h
  obtain ⟨q8, M9, hcq8, h⟩ := bnd_out h
  refine A_callI (as := []) (st' := [vA r6, vA t0]) (r1 := (none, M9)) rfl ml_Val_15 (fun z => absurd (hr6 ▸ hg4) (by rw [z]; decide)) rfl rfl rfl (Nat.le_of_ble_eq_true rfl) (by decide) (c_Items_init hcq8) (Or.inr (by rw [hnf, cnt_Items_init hcq8]; exact hg10)) ?_
  refine A_pc (pc' := 17) rfl ?_
  refine A_stk (st' := [vA r6, vA t0]) rfl ?_
  obtain ⟨hg11, h⟩ := gl_out h
  refine A_putA rfl (Or.inr ⟨ff_Val_16, rfl⟩) rfl hg1 (Or.inr hg11) rfl (Or.inl rfl) ?_
  obtain ⟨M12, hM12, h⟩ := kM_out h
  refine A_mem hM12 ?_
  obtain ⟨rfl, rfl⟩ := leaf h
  exact A_vret rfl rfl
def tb_Expr_init : List (Nat × Instr × Nat) := [(0, .aload_n 0, 1), (1, .invokespecial 3, 3), (4, .aload_n 0, 1), (5, .bipush 20, 2), (7, .newarray .int, 2), (9, .putfield 9, 3), (12, .aload_n 0, 1), (13, .bipush 20, 2), (15, .newarray .int, 2), (17, .putfield 15, 3), (20, .aload_n 0, 1), (21, .bipush 20, 2), (23, .newarray .int, 2), (25, .putfield 18, 3), (28, .aload_n 0, 1), (29, .bipush 20, 2), (31, .newarray .int, 2), (33, .putfield 21, 3), (36, .aload_n 0, 1), (37, .bipush 20, 2), (39, .newarray .long, 2), (41, .putfield 24, 3), (44, .return_, 1)]
def Y_Expr_init : ax_Y := (⟨"MethodWarden$Expression", "<init>", "()V"⟩, prog_3_method_1_code, 1, none, tb_Expr_init)
theorem yok_Expr_init : yOK Y_Expr_init := ⟨by decide +kernel, by decide +kernel, inWG 188 (by decide +kernel) (by decide +kernel), inWG 99 (by decide +kernel) (by decide +kernel), by decide +kernel⟩
theorem ff_Expr_9 : fldFin "MethodWarden$Expression" 9 3 0 := ⟨_, _, cls_Expr, by decide, by decide, rfl, inWG 190 (by decide +kernel) (by decide +kernel)⟩
theorem ff_Expr_15 : fldFin "MethodWarden$Expression" 15 3 1 := ⟨_, _, cls_Expr, by decide, by decide, rfl, inWG 192 (by decide +kernel) (by decide +kernel)⟩
theorem ff_Expr_18 : fldFin "MethodWarden$Expression" 18 3 2 := ⟨_, _, cls_Expr, by decide, by decide, rfl, inWG 194 (by decide +kernel) (by decide +kernel)⟩
theorem ff_Expr_21 : fldFin "MethodWarden$Expression" 21 3 3 := ⟨_, _, cls_Expr, by decide, by decide, rfl, inWG 196 (by decide +kernel) (by decide +kernel)⟩
theorem ff_Expr_24 : fldFin "MethodWarden$Expression" 24 3 4 := ⟨_, _, cls_Expr, by decide, by decide, rfl, inWG 198 (by decide +kernel) (by decide +kernel)⟩
set_option maxRecDepth 100000 in
def fi_Expr_init (nf : Nat) (t0 : Nat) (M : ax_M) : Option (Unit × ax_M) :=
  gk t0 3 (gk (gn M + 2) 100 (ge (ln (gn M + 2)) 20 (gle (gn M + 1) nf (kM (gn M + 2) (fun r5 => kM (mS M) (fun M6 => gl M6 t0 (kM (mA M6 t0 0 r5) (fun M8 => gk (gn M8 + 2) 100 (ge (ln (gn M8 + 2)) 20 (gle (gn M8 + 1) nf (kM (gn M8 + 2) (fun r12 => kM (mS M8) (fun M13 => gl M13 t0 (kM (mA M13 t0 1 r12) (fun M15 => gk (gn M15 + 2) 100 (ge (ln (gn M15 + 2)) 20 (gle (gn M15 + 1) nf (kM (gn M15 + 2) (fun r19 => kM (mS M15) (fun M20 => gl M20 t0 (kM (mA M20 t0 2 r19) (fun M22 => gk (gn M22 + 2) 100 (ge (ln (gn M22 + 2)) 20 (gle (gn M22 + 1) nf (kM (gn M22 + 2) (fun r26 => kM (mS M22) (fun M27 => gl M27 t0 (kM (mA M27 t0 3 r26) (fun M29 => gk (gn M29 + 2) 101 (ge (ln (gn M29 + 2)) 20 (gle (gn M29 + 1) nf (kM (gn M29 + 2) (fun r33 => kM (mS M29) (fun M34 => gl M34 t0 (kM (mA M34 t0 4 r33) (fun M36 => some ((), M36)))))))))))))))))))))))))))))))))))))
def f_Expr_init (nf : Nat) (t0 : Nat) (M : ax_M) : Option (Unit × ax_M) := nfw nf M (fi_Expr_init nf t0 M)
theorem cnt_Expr_init {nf : Nat} {t0 : Nat} {M : ax_M} {r : Unit} {M' : ax_M} (h : f_Expr_init nf t0 M = some (r, M')) : gn M' = nf := (nfw_out h).1
set_option maxHeartbeats 4000000 in
set_option maxRecDepth 100000 in
theorem c_Expr_init {l : Launch} {g : ax_G} {nf : Nat} {t0 : Nat} {M : ax_M} {r : Unit} {M' : ax_M} (h : f_Expr_init nf t0 M = some (r, M')) : Ctr l g false Y_Expr_init 1 [vA t0] M (none, M') := by
  obtain ⟨hnf, hle, h⟩ := nfw_out h
  refine Ctr.ofAW yok_Expr_init (Nat.le_of_ble_eq_true rfl) (Or.inr (by rw [hnf]; exact hle)) ?_
  show AW l g false Y_Expr_init 1 (none, M') 0 [(0, vA t0)] [] M
  unfold fi_Expr_init at h
  refine A_aload_n 0 rfl rfl rfl ?_
  obtain ⟨hg1, h⟩ := gk_out h
  refine A_objInit rfl (inWG 189 (by decide +kernel) (by decide +kernel)) (inWG 119 (by decide +kernel) (by decide +kernel)) (inWG 120 (by decide +kernel) (by decide +kernel)) (fun z => absurd hg1 (by rw [z]; decide)) (by decide) (Nat.le_of_ble_eq_true rfl) ?_
  refine A_aload_n 0 rfl rfl rfl ?_
  refine A_bipush (v := 20) rfl (by decide) ?_
  obtain ⟨hg2, h⟩ := gk_out h
  obtain ⟨hg3, h⟩ := ge_out h
  obtain ⟨hg4, h⟩ := gle_out h
  obtain ⟨r5, hr5, h⟩ := kM_out h
  refine A_newa (t := 0) (n := 20) rfl rfl (inWG 182 (by decide +kernel) (by decide +kernel)) (by decide) hg2 hg3 ⟨by decide, by decide, by decide⟩ rfl (fun _ _ h => h) (by rw [hnf]; exact hg4) ?_
  refine A_nA hr5 ?_
  obtain ⟨M6, hM6, h⟩ := kM_out h
  refine A_mem hM6 ?_
  refine A_pc (pc' := 9) rfl ?_
  obtain ⟨hg7, h⟩ := gl_out h
  refine A_putA rfl (Or.inr ⟨ff_Expr_9, rfl⟩) rfl hg1 (Or.inr hg7) rfl (Or.inl rfl) ?_
  obtain ⟨M8, hM8, h⟩ := kM_out h
  refine A_mem hM8 ?_
  refine A_aload_n 0 rfl rfl rfl ?_
  refine A_bipush (v := 20) rfl (by decide) ?_
  obtain ⟨hg9, h⟩ := gk_out h
  obtain ⟨hg10, h⟩ := ge_out h
  obtain ⟨hg11, h⟩ := gle_out h
  obtain ⟨r12, hr12, h⟩ := kM_out h
  refine A_newa (t := 0) (n := 20) rfl rfl (inWG 182 (by decide +kernel) (by decide +kernel)) (by decide) hg9 hg10 ⟨by decide, by decide, by decide⟩ rfl (fun _ _ h => h) (by rw [hnf]; exact hg11) ?_
  refine A_nA hr12 ?_
  obtain ⟨M13, hM13, h⟩ := kM_out h
  refine A_mem hM13 ?_
  obtain ⟨hg14, h⟩ := gl_out h
  refine A_putA rfl (Or.inr ⟨ff_Expr_15, rfl⟩) rfl hg1 (Or.inr hg14) rfl (Or.inl rfl) ?_
  obtain ⟨M15, hM15, h⟩ := kM_out h
  refine A_mem hM15 ?_
  refine A_aload_n 0 rfl rfl rfl ?_
  refine A_pc (pc' := 21) rfl ?_
  refine A_bipush (v := 20) rfl (by decide) ?_
  obtain ⟨hg16, h⟩ := gk_out h
  obtain ⟨hg17, h⟩ := ge_out h
  obtain ⟨hg18, h⟩ := gle_out h
  obtain ⟨r19, hr19, h⟩ := kM_out h
  refine A_newa (t := 0) (n := 20) rfl rfl (inWG 182 (by decide +kernel) (by decide +kernel)) (by decide) hg16 hg17 ⟨by decide, by decide, by decide⟩ rfl (fun _ _ h => h) (by rw [hnf]; exact hg18) ?_
  refine A_nA hr19 ?_
  obtain ⟨M20, hM20, h⟩ := kM_out h
  refine A_mem hM20 ?_
  obtain ⟨hg21, h⟩ := gl_out h
  refine A_putA rfl (Or.inr ⟨ff_Expr_18, rfl⟩) rfl hg1 (Or.inr hg21) rfl (Or.inl rfl) ?_
  obtain ⟨M22, hM22, h⟩ := kM_out h
  refine A_mem hM22 ?_
  refine A_aload_n 0 rfl rfl rfl ?_
  refine A_bipush (v := 20) rfl (by decide) ?_
  obtain ⟨hg23, h⟩ := gk_out h
  obtain ⟨hg24, h⟩ := ge_out h
  obtain ⟨hg25, h⟩ := gle_out h
  obtain ⟨r26, hr26, h⟩ := kM_out h
  refine A_newa (t := 0) (n := 20) rfl rfl (inWG 182 (by decide +kernel) (by decide +kernel)) (by decide) hg23 hg24 ⟨by decide, by decide, by decide⟩ rfl (fun _ _ h => h) (by rw [hnf]; exact hg25) ?_
  refine A_nA hr26 ?_
  obtain ⟨M27, hM27, h⟩ := kM_out h
  refine A_mem hM27 ?_
  refine A_pc (pc' := 33) rfl ?_
  obtain ⟨hg28, h⟩ := gl_out h
  refine A_putA rfl (Or.inr ⟨ff_Expr_21, rfl⟩) rfl hg1 (Or.inr hg28) rfl (Or.inl rfl) ?_
  obtain ⟨M29, hM29, h⟩ := kM_out h
  refine A_mem hM29 ?_
  refine A_aload_n 0 rfl rfl rfl ?_
  refine A_bipush (v := 20) rfl (by decide) ?_
  obtain ⟨hg30, h⟩ := gk_out h
  obtain ⟨hg31, h⟩ := ge_out h
  obtain ⟨hg32, h⟩ := gle_out h
  obtain ⟨r33, hr33, h⟩ := kM_out h
  refine A_newa (t := 1) (n := 20) rfl rfl (inWG 215 (by decide +kernel) (by decide +kernel)) (by decide) hg30 hg31 ⟨by decide, by decide, by decide⟩ rfl (fun _ _ h => h) (by rw [hnf]; exact hg32) ?_
  refine A_nA hr33 ?_
  obtain ⟨M34, hM34, h⟩ := kM_out h
  refine A_mem hM34 ?_
  obtain ⟨hg35, h⟩ := gl_out h
  refine A_putA rfl (Or.inr ⟨ff_Expr_24, rfl⟩) rfl hg1 (Or.inr hg35) rfl (Or.inl rfl) ?_
  obtain ⟨M36, hM36, h⟩ := kM_out h
  refine A_mem hM36 ?_
  obtain ⟨rfl, rfl⟩ := leaf h
  exact A_vret rfl rfl
def tb_Text_init : List (Nat × Instr × Nat) := [(0, .aload_n 0, 1), (1, .invokespecial 3, 3), (4, .aload_n 0, 1), (5, .bipush 48, 2), (7, .newarray .char, 2), (9, .putfield 9, 3), (12, .return_, 1)]
def Y_Text_init : ax_Y := (⟨"MethodWarden$Text", "<init>", "()V"⟩, prog_9_method_1_code, 1, none, tb_Text_init)
theorem yok_Text_init : yOK Y_Text_init := ⟨by decide +kernel, by decide +kernel, inWG 125 (by decide +kernel) (by decide +kernel), inWG 97 (by decide +kernel) (by decide +kernel), by decide +kernel⟩
theorem ff_Text_9 : fldFin "MethodWarden$Text" 9 1 0 := ⟨_, _, cls_Text, by decide, by decide, rfl, inWG 127 (by decide +kernel) (by decide +kernel)⟩
set_option maxRecDepth 100000 in
def fi_Text_init (nf : Nat) (t0 : Nat) (M : ax_M) : Option (Unit × ax_M) :=
  gk t0 1 (gk (gn M + 2) 102 (ge (ln (gn M + 2)) 48 (gle (gn M + 1) nf (kM (gn M + 2) (fun r5 => kM (mS M) (fun M6 => gl M6 t0 (kM (mA M6 t0 0 r5) (fun M8 => some ((), M8)))))))))
def f_Text_init (nf : Nat) (t0 : Nat) (M : ax_M) : Option (Unit × ax_M) := nfw nf M (fi_Text_init nf t0 M)
theorem cnt_Text_init {nf : Nat} {t0 : Nat} {M : ax_M} {r : Unit} {M' : ax_M} (h : f_Text_init nf t0 M = some (r, M')) : gn M' = nf := (nfw_out h).1
set_option maxHeartbeats 4000000 in
set_option maxRecDepth 100000 in
theorem c_Text_init {l : Launch} {g : ax_G} {nf : Nat} {t0 : Nat} {M : ax_M} {r : Unit} {M' : ax_M} (h : f_Text_init nf t0 M = some (r, M')) : Ctr l g false Y_Text_init 1 [vA t0] M (none, M') := by
  obtain ⟨hnf, hle, h⟩ := nfw_out h
  refine Ctr.ofAW yok_Text_init (Nat.le_of_ble_eq_true rfl) (Or.inr (by rw [hnf]; exact hle)) ?_
  show AW l g false Y_Text_init 1 (none, M') 0 [(0, vA t0)] [] M
  unfold fi_Text_init at h
  refine A_aload_n 0 rfl rfl rfl ?_
  obtain ⟨hg1, h⟩ := gk_out h
  refine A_objInit rfl (inWG 126 (by decide +kernel) (by decide +kernel)) (inWG 119 (by decide +kernel) (by decide +kernel)) (inWG 120 (by decide +kernel) (by decide +kernel)) (fun z => absurd hg1 (by rw [z]; decide)) (by decide) (Nat.le_of_ble_eq_true rfl) ?_
  refine A_aload_n 0 rfl rfl rfl ?_
  refine A_bipush (v := 48) rfl (by decide) ?_
  obtain ⟨hg2, h⟩ := gk_out h
  obtain ⟨hg3, h⟩ := ge_out h
  obtain ⟨hg4, h⟩ := gle_out h
  obtain ⟨r5, hr5, h⟩ := kM_out h
  refine A_newa (t := 2) (n := 48) rfl rfl (inWG 150 (by decide +kernel) (by decide +kernel)) (by decide) hg2 hg3 ⟨by decide, by decide, by decide⟩ rfl (fun _ _ h => h) (by rw [hnf]; exact hg4) ?_
  refine A_nA hr5 ?_
  obtain ⟨M6, hM6, h⟩ := kM_out h
  refine A_mem hM6 ?_
  refine A_pc (pc' := 9) rfl ?_
  obtain ⟨hg7, h⟩ := gl_out h
  refine A_putA rfl (Or.inr ⟨ff_Text_9, rfl⟩) rfl hg1 (Or.inr hg7) rfl (Or.inl rfl) ?_
  obtain ⟨M8, hM8, h⟩ := kM_out h
  refine A_mem hM8 ?_
  obtain ⟨rfl, rfl⟩ := leaf h
  exact A_vret rfl rfl
def tb_Reader_init : List (Nat × Instr × Nat) := [(0, .aload_n 0, 1), (1, .invokespecial 3, 3), (4, .aload_n 0, 1), (5, .bipush 48, 2), (7, .newarray .int, 2), (9, .putfield 9, 3), (12, .aload_n 0, 1), (13, .bipush 20, 2), (15, .newarray .int, 2), (17, .putfield 15, 3), (20, .return_, 1)]
def Y_Reader_init : ax_Y := (⟨"MethodWarden$Reader", "<init>", "()V"⟩, prog_8_method_1_code, 1, none, tb_Reader_init)
theorem yok_Reader_init : yOK Y_Reader_init := ⟨by decide +kernel, by decide +kernel, inWG 155 (by decide +kernel) (by decide +kernel), inWG 98 (by decide +kernel) (by decide +kernel), by decide +kernel⟩
theorem ff_Reader_9 : fldFin "MethodWarden$Reader" 9 2 0 := ⟨_, _, cls_Reader, by decide, by decide, rfl, inWG 157 (by decide +kernel) (by decide +kernel)⟩
theorem ff_Reader_15 : fldFin "MethodWarden$Reader" 15 2 2 := ⟨_, _, cls_Reader, by decide, by decide, rfl, inWG 159 (by decide +kernel) (by decide +kernel)⟩
set_option maxRecDepth 100000 in
def fi_Reader_init (nf : Nat) (t0 : Nat) (M : ax_M) : Option (Unit × ax_M) :=
  gk t0 2 (gk (gn M + 2) 100 (ge (ln (gn M + 2)) 48 (gle (gn M + 1) nf (kM (gn M + 2) (fun r5 => kM (mS M) (fun M6 => gl M6 t0 (kM (mA M6 t0 0 r5) (fun M8 => gk (gn M8 + 2) 100 (ge (ln (gn M8 + 2)) 20 (gle (gn M8 + 1) nf (kM (gn M8 + 2) (fun r12 => kM (mS M8) (fun M13 => gl M13 t0 (kM (mA M13 t0 2 r12) (fun M15 => some ((), M15))))))))))))))))
def f_Reader_init (nf : Nat) (t0 : Nat) (M : ax_M) : Option (Unit × ax_M) := nfw nf M (fi_Reader_init nf t0 M)
theorem cnt_Reader_init {nf : Nat} {t0 : Nat} {M : ax_M} {r : Unit} {M' : ax_M} (h : f_Reader_init nf t0 M = some (r, M')) : gn M' = nf := (nfw_out h).1
set_option maxHeartbeats 4000000 in
set_option maxRecDepth 100000 in
theorem c_Reader_init {l : Launch} {g : ax_G} {nf : Nat} {t0 : Nat} {M : ax_M} {r : Unit} {M' : ax_M} (h : f_Reader_init nf t0 M = some (r, M')) : Ctr l g false Y_Reader_init 1 [vA t0] M (none, M') := by
  obtain ⟨hnf, hle, h⟩ := nfw_out h
  refine Ctr.ofAW yok_Reader_init (Nat.le_of_ble_eq_true rfl) (Or.inr (by rw [hnf]; exact hle)) ?_
  show AW l g false Y_Reader_init 1 (none, M') 0 [(0, vA t0)] [] M
  unfold fi_Reader_init at h
  refine A_aload_n 0 rfl rfl rfl ?_
  obtain ⟨hg1, h⟩ := gk_out h
  refine A_objInit rfl (inWG 156 (by decide +kernel) (by decide +kernel)) (inWG 119 (by decide +kernel) (by decide +kernel)) (inWG 120 (by decide +kernel) (by decide +kernel)) (fun z => absurd hg1 (by rw [z]; decide)) (by decide) (Nat.le_of_ble_eq_true rfl) ?_
  refine A_aload_n 0 rfl rfl rfl ?_
  refine A_bipush (v := 48) rfl (by decide) ?_
  obtain ⟨hg2, h⟩ := gk_out h
  obtain ⟨hg3, h⟩ := ge_out h
  obtain ⟨hg4, h⟩ := gle_out h
  obtain ⟨r5, hr5, h⟩ := kM_out h
  refine A_newa (t := 0) (n := 48) rfl rfl (inWG 182 (by decide +kernel) (by decide +kernel)) (by decide) hg2 hg3 ⟨by decide, by decide, by decide⟩ rfl (fun _ _ h => h) (by rw [hnf]; exact hg4) ?_
  refine A_nA hr5 ?_
  obtain ⟨M6, hM6, h⟩ := kM_out h
  refine A_mem hM6 ?_
  refine A_pc (pc' := 9) rfl ?_
  obtain ⟨hg7, h⟩ := gl_out h
  refine A_putA rfl (Or.inr ⟨ff_Reader_9, rfl⟩) rfl hg1 (Or.inr hg7) rfl (Or.inl rfl) ?_
  obtain ⟨M8, hM8, h⟩ := kM_out h
  refine A_mem hM8 ?_
  refine A_aload_n 0 rfl rfl rfl ?_
  refine A_bipush (v := 20) rfl (by decide) ?_
  obtain ⟨hg9, h⟩ := gk_out h
  obtain ⟨hg10, h⟩ := ge_out h
  obtain ⟨hg11, h⟩ := gle_out h
  obtain ⟨r12, hr12, h⟩ := kM_out h
  refine A_newa (t := 0) (n := 20) rfl rfl (inWG 182 (by decide +kernel) (by decide +kernel)) (by decide) hg9 hg10 ⟨by decide, by decide, by decide⟩ rfl (fun _ _ h => h) (by rw [hnf]; exact hg11) ?_
  refine A_nA hr12 ?_
  obtain ⟨M13, hM13, h⟩ := kM_out h
  refine A_mem hM13 ?_
  obtain ⟨hg14, h⟩ := gl_out h
  refine A_putA rfl (Or.inr ⟨ff_Reader_15, rfl⟩) rfl hg1 (Or.inr hg14) rfl (Or.inl rfl) ?_
  obtain ⟨M15, hM15, h⟩ := kM_out h
  refine A_mem hM15 ?_
  obtain ⟨rfl, rfl⟩ := leaf h
  exact A_vret rfl rfl
def tb_Ctx_init : List (Nat × Instr × Nat) := [(0, .aload_n 0, 1), (1, .invokespecial 3, 3), (4, .aload_n 0, 1), (5, .bipush 16, 2), (7, .newarray .int, 2), (9, .putfield 9, 3), (12, .aload_n 0, 1), (13, .bipush 16, 2), (15, .newarray .int, 2), (17, .putfield 15, 3), (20, .aload_n 0, 1), (21, .iconst (-1), 1), (22, .putfield 18, 3), (25, .iconst 0, 1), (26, .istore_n 1, 1), (27, .iload_n 1, 1), (28, .bipush 16, 2), (30, .if_icmp .ge 18, 3), (33, .aload_n 0, 1), (34, .getfield 15, 3), (37, .iload_n 1, 1), (38, .iconst 1, 1), (39, .iload_n 1, 1), (40, .ishl, 1), (41, .iastore, 1), (42, .iinc 1 1, 3), (45, .goto (-18), 3), (48, .return_, 1)]
def Y_Ctx_init : ax_Y := (⟨"MethodWarden$Context", "<init>", "()V"⟩, prog_2_method_1_code, 2, none, tb_Ctx_init)
theorem yok_Ctx_init : yOK Y_Ctx_init := ⟨by decide +kernel, by decide +kernel, inWG 220 (by decide +kernel) (by decide +kernel), inWG 100 (by decide +kernel) (by decide +kernel), by decide +kernel⟩
theorem ff_Ctx_9 : fldFin "MethodWarden$Context" 9 4 0 := ⟨_, _, cls_Ctx, by decide, by decide, rfl, inWG 222 (by decide +kernel) (by decide +kernel)⟩
theorem ff_Ctx_15 : fldFin "MethodWarden$Context" 15 4 1 := ⟨_, _, cls_Ctx, by decide, by decide, rfl, inWG 223 (by decide +kernel) (by decide +kernel)⟩
def f_Ctx_init_27_b (nf : Nat) (K27 : Nat → Int32 → ax_M → Option (Unit × ax_M)) (l0 : Nat) (l1 : Int32) (M : ax_M) : Option (Unit × ax_M) :=
  if 16 ≤ l1 then (some ((), M)) else (gk l0 4 (gl M l0 (kM (gA M l0 1) (fun r21 => gk r21 100 (ge (ln r21) 16 (gi l1 16 (gl M r21 (kM (mI M r21 l1.toNatClampNeg (1 <<< (l1 &&& 31))) (fun M26 => kM (l1 + 1) (fun x27 => K27 l0 x27 M26))))))))))
def f_Ctx_init_27 (nf : Nat) : Nat → Nat → Int32 → ax_M → Option (Unit × ax_M)
  | 0, _, _, _ => none
  | n + 1, l0, l1, M => f_Ctx_init_27_b nf  (f_Ctx_init_27 nf n) l0 l1 M
set_option maxHeartbeats 4000000 in
set_option maxRecDepth 100000 in
theorem o_Ctx_init_27_b {l : Launch} {g : ax_G} (nf : Nat) (K27 : Nat → Int32 → ax_M → Option (Unit × ax_M)) (hK27 : ∀ (l0 : Nat) (l1 : Int32) (M : ax_M) (r : Unit) (M' : ax_M), gn M' = nf → K27 l0 l1 M = some (r, M') → AW l g false Y_Ctx_init 1 (none, M') 27 [(0, vA l0), (1, vI l1)] [] M) (l0 : Nat) (l1 : Int32) (M : ax_M) (r : Unit) (M' : ax_M) (hnf : gn M' = nf) (h : f_Ctx_init_27_b nf  K27 l0 l1 M = some (r, M')) : AW l g false Y_Ctx_init 1 (none, M') 27 [(0, vA l0), (1, vI l1)] [] M := by
  unfold f_Ctx_init_27_b at h
  refine A_iload_n 1 rfl rfl rfl ?_
  refine A_bipush (v := 16) rfl (by decide) ?_
  refine A_icmp_ge (tgt := 48) rfl (by decide) (fun hc18 => ?_) (fun hc18 => ?_)
  · rw [if_pos hc18] at h
    obtain ⟨rfl, rfl⟩ := leaf h
    exact A_vret rfl rfl
  · rw [if_neg hc18] at h
    refine A_pc (pc' := 33) rfl ?_
    refine A_aload_n 0 rfl rfl rfl ?_
    obtain ⟨hg19, h⟩ := gk_out h
    obtain ⟨hg20, h⟩ := gl_out h
    refine A_getA rfl fl_Ctx_15 rfl hg19 (Or.inr hg20) ?_
    obtain ⟨r21, hr21, h⟩ := kM_out h
    refine A_nA hr21 ?_
    refine A_iload_n 1 rfl rfl rfl ?_
    refine A_iconst (v := 1) rfl (by decide) ?_
    refine A_iload_n 1 rfl rfl rfl ?_
    refine A_pc (pc' := 40) rfl ?_
    refine A_ishl rfl ?_
    obtain ⟨hg22, h⟩ := gk_out h
    obtain ⟨hg23, h⟩ := ge_out h
    obtain ⟨hg24, h⟩ := gi_out h
    obtain ⟨hg25, h⟩ := gl_out h
    refine A_iast (n := 16) rfl hg22 hg23 (Or.inr hg25) hg24 ?_
    obtain ⟨M26, hM26, h⟩ := kM_out h
    refine A_mem hM26 ?_
    obtain ⟨x27, hx27, h⟩ := kM_out h
    refine A_iinc 1 (v := x27) (Ls' := [(1, vI x27), (0, vA l0)]) rfl rfl ((iiN (k := 1) (by decide) _).trans hx27) (by decide) rfl ?_
    refine A_goto (tgt := 27) rfl (by decide) ?_
    refine A_pc (pc' := 27) rfl ?_
    refine A_sub (Ls' := [(0, vA l0), (1, vI x27)]) [1, 0] rfl ?_
    exact hK27 _ _ _ _ _ hnf h
theorem o_Ctx_init_27 {l : Launch} {g : ax_G} (nf : Nat) : ∀ (n : Nat) (l0 : Nat) (l1 : Int32) (M : ax_M) (r : Unit) (M' : ax_M), gn M' = nf → f_Ctx_init_27 nf  n l0 l1 M = some (r, M') → AW l g false Y_Ctx_init 1 (none, M') 27 [(0, vA l0), (1, vI l1)] [] M := by
  intro n
  induction n with
  | zero =>
    intro l0 l1 M r M' hnf h
    cases h
  | succ n ih =>
    intro l0 l1 M r M' hnf h
    exact o_Ctx_init_27_b nf  _ ih _ _ _ _ _ hnf h
set_option maxRecDepth 100000 in
def fi_Ctx_init (nf : Nat) (t0 : Nat) (M : ax_M) : Option (Unit × ax_M) :=
  gk t0 4 (gk (gn M + 2) 100 (ge (ln (gn M + 2)) 16 (gle (gn M + 1) nf (kM (gn M + 2) (fun r5 => kM (mS M) (fun M6 => gl M6 t0 (kM (mA M6 t0 0 r5) (fun M8 => gk (gn M8 + 2) 100 (ge (ln (gn M8 + 2)) 16 (gle (gn M8 + 1) nf (kM (gn M8 + 2) (fun r12 => kM (mS M8) (fun M13 => gl M13 t0 (kM (mA M13 t0 1 r12) (fun M15 => gl M15 t0 (kM (mI M15 t0 2 ((-1))) (fun M17 => f_Ctx_init_27 nf 64 t0 0 M17)))))))))))))))))
def f_Ctx_init (nf : Nat) (t0 : Nat) (M : ax_M) : Option (Unit × ax_M) := nfw nf M (fi_Ctx_init nf t0 M)
theorem cnt_Ctx_init {nf : Nat} {t0 : Nat} {M : ax_M} {r : Unit} {M' : ax_M} (h : f_Ctx_init nf t0 M = some (r, M')) : gn M' = nf := (nfw_out h).1
set_option maxHeartbeats 4000000 in
set_option maxRecDepth 100000 in
theorem c_Ctx_init {l : Launch} {g : ax_G} {nf : Nat} {t0 : Nat} {M : ax_M} {r : Unit} {M' : ax_M} (h : f_Ctx_init nf t0 M = some (r, M')) : Ctr l g false Y_Ctx_init 1 [vA t0] M (none, M') := by
  obtain ⟨hnf, hle, h⟩ := nfw_out h
  refine Ctr.ofAW yok_Ctx_init (Nat.le_of_ble_eq_true rfl) (Or.inr (by rw [hnf]; exact hle)) ?_
  show AW l g false Y_Ctx_init 1 (none, M') 0 [(0, vA t0)] [] M
  unfold fi_Ctx_init at h
  refine A_aload_n 0 rfl rfl rfl ?_
  obtain ⟨hg1, h⟩ := gk_out h
  refine A_objInit rfl (inWG 221 (by decide +kernel) (by decide +kernel)) (inWG 119 (by decide +kernel) (by decide +kernel)) (inWG 120 (by decide +kernel) (by decide +kernel)) (fun z => absurd hg1 (by rw [z]; decide)) (by decide) (Nat.le_of_ble_eq_true rfl) ?_
  refine A_aload_n 0 rfl rfl rfl ?_
  refine A_bipush (v := 16) rfl (by decide) ?_
  obtain ⟨hg2, h⟩ := gk_out h
  obtain ⟨hg3, h⟩ := ge_out h
  obtain ⟨hg4, h⟩ := gle_out h
  obtain ⟨r5, hr5, h⟩ := kM_out h
  refine A_newa (t := 0) (n := 16) rfl rfl (inWG 182 (by decide +kernel) (by decide +kernel)) (by decide) hg2 hg3 ⟨by decide, by decide, by decide⟩ rfl (fun _ _ h => h) (by rw [hnf]; exact hg4) ?_
  refine A_nA hr5 ?_
  obtain ⟨M6, hM6, h⟩ := kM_out h
  refine A_mem hM6 ?_
  refine A_pc (pc' := 9) rfl ?_
  obtain ⟨hg7, h⟩ := gl_out h
  refine A_putA rfl (Or.inr ⟨ff_Ctx_9, rfl⟩) rfl hg1 (Or.inr hg7) rfl (Or.inl rfl) ?_
  obtain ⟨M8, hM8, h⟩ := kM_out h
  refine A_mem hM8 ?_
  refine A_aload_n 0 rfl rfl rfl ?_
  refine A_bipush (v := 16) rfl (by decide) ?_
  obtain ⟨hg9, h⟩ := gk_out h
  obtain ⟨hg10, h⟩ := ge_out h
  obtain ⟨hg11, h⟩ := gle_out h
  obtain ⟨r12, hr12, h⟩ := kM_out h
  refine A_newa (t := 0) (n := 16) rfl rfl (inWG 182 (by decide +kernel) (by decide +kernel)) (by decide) hg9 hg10 ⟨by decide, by decide, by decide⟩ rfl (fun _ _ h => h) (by rw [hnf]; exact hg11) ?_
  refine A_nA hr12 ?_
  obtain ⟨M13, hM13, h⟩ := kM_out h
  refine A_mem hM13 ?_
  obtain ⟨hg14, h⟩ := gl_out h
  refine A_putA rfl (Or.inr ⟨ff_Ctx_15, rfl⟩) rfl hg1 (Or.inr hg14) rfl (Or.inl rfl) ?_
  obtain ⟨M15, hM15, h⟩ := kM_out h
  refine A_mem hM15 ?_
  refine A_aload_n 0 rfl rfl rfl ?_
  refine A_pc (pc' := 21) rfl ?_
  refine A_iconst (v := (-1)) rfl (by decide) ?_
  obtain ⟨hg16, h⟩ := gl_out h
  refine A_putI rfl (Or.inl fl_Ctx_18) rfl hg1 (Or.inr hg16) rfl ?_
  obtain ⟨M17, hM17, h⟩ := kM_out h
  refine A_mem hM17 ?_
  refine A_iconst (v := 0) rfl (by decide) ?_
  refine A_istore_n (Ls' := [(1, vI 0), (0, vA t0)]) rfl rfl (by decide) rfl ?_
  refine A_pc (pc' := 27) rfl ?_
  refine A_sub (Ls' := [(0, vA t0), (1, vI 0)]) [1, 0] rfl ?_
  exact o_Ctx_init_27 nf  _ _ _ _ _ _ hnf h
def tb_Meth_init : List (Nat × Instr × Nat) := [(0, .aload_n 0, 1), (1, .invokespecial 3, 3), (4, .aload_n 0, 1), (5, .iconst (-1), 1), (6, .putfield 9, 3), (9, .aload_n 0, 1), (10, .iconst (-1), 1), (11, .putfield 15, 3), (14, .aload_n 0, 1), (15, .iconst (-1), 1), (16, .putfield 18, 3), (19, .aload_n 0, 1), (20, .iconst 0, 1), (21, .putfield 21, 3), (24, .aload_n 0, 1), (25, .bipush 6, 2), (27, .newarray .int, 2), (29, .putfield 24, 3), (32, .return_, 1)]
def Y_Meth_init : ax_Y := (⟨"MethodWarden$Method", "<init>", "()V"⟩, prog_7_method_1_code, 1, none, tb_Meth_init)
theorem yok_Meth_init : yOK Y_Meth_init := ⟨by decide +kernel, by decide +kernel, inWG 337 (by decide +kernel) (by decide +kernel), inWG 105 (by decide +kernel) (by decide +kernel), by decide +kernel⟩
theorem ff_Meth_24 : fldFin "MethodWarden$Method" 24 9 6 := ⟨_, _, cls_Meth, by decide, by decide, rfl, inWG 351 (by decide +kernel) (by decide +kernel)⟩
set_option maxRecDepth 100000 in
def fi_Meth_init (nf : Nat) (t0 : Nat) (M : ax_M) : Option (Unit × ax_M) :=
  gk t0 9 (gl M t0 (kM (mI M t0 0 ((-1))) (fun M3 => gl M3 t0 (kM (mI M3 t0 1 ((-1))) (fun M5 => gl M5 t0 (kM (mI M5 t0 2 ((-1))) (fun M7 => gl M7 t0 (kM (mI M7 t0 3 0) (fun M9 => gk (gn M9 + 2) 100 (ge (ln (gn M9 + 2)) 6 (gle (gn M9 + 1) nf (kM (gn M9 + 2) (fun r13 => kM (mS M9) (fun M14 => gl M14 t0 (kM (mA M14 t0 6 r13) (fun M16 => some ((), M16)))))))))))))))))
def f_Meth_init (nf : Nat) (t0 : Nat) (M : ax_M) : Option (Unit × ax_M) := nfw nf M (fi_Meth_init nf t0 M)
theorem cnt_Meth_init {nf : Nat} {t0 : Nat} {M : ax_M} {r : Unit} {M' : ax_M} (h : f_Meth_init nf t0 M = some (r, M')) : gn M' = nf := (nfw_out h).1
set_option maxHeartbeats 4000000 in
set_option maxRecDepth 100000 in
theorem c_Meth_init {l : Launch} {g : ax_G} {nf : Nat} {t0 : Nat} {M : ax_M} {r : Unit} {M' : ax_M} (h : f_Meth_init nf t0 M = some (r, M')) : Ctr l g false Y_Meth_init 1 [vA t0] M (none, M') := by
  obtain ⟨hnf, hle, h⟩ := nfw_out h
  refine Ctr.ofAW yok_Meth_init (Nat.le_of_ble_eq_true rfl) (Or.inr (by rw [hnf]; exact hle)) ?_
  show AW l g false Y_Meth_init 1 (none, M') 0 [(0, vA t0)] [] M
  unfold fi_Meth_init at h
  refine A_aload_n 0 rfl rfl rfl ?_
  obtain ⟨hg1, h⟩ := gk_out h
  refine A_objInit rfl (inWG 338 (by decide +kernel) (by decide +kernel)) (inWG 119 (by decide +kernel) (by decide +kernel)) (inWG 120 (by decide +kernel) (by decide +kernel)) (fun z => absurd hg1 (by rw [z]; decide)) (by decide) (Nat.le_of_ble_eq_true rfl) ?_
  refine A_aload_n 0 rfl rfl rfl ?_
  refine A_iconst (v := (-1)) rfl (by decide) ?_
  obtain ⟨hg2, h⟩ := gl_out h
  refine A_putI rfl (Or.inl fl_Meth_9) rfl hg1 (Or.inr hg2) rfl ?_
  obtain ⟨M3, hM3, h⟩ := kM_out h
  refine A_mem hM3 ?_
  refine A_pc (pc' := 9) rfl ?_
  refine A_aload_n 0 rfl rfl rfl ?_
  refine A_iconst (v := (-1)) rfl (by decide) ?_
  obtain ⟨hg4, h⟩ := gl_out h
  refine A_putI rfl (Or.inl fl_Meth_15) rfl hg1 (Or.inr hg4) rfl ?_
  obtain ⟨M5, hM5, h⟩ := kM_out h
  refine A_mem hM5 ?_
  refine A_aload_n 0 rfl rfl rfl ?_
  refine A_iconst (v := (-1)) rfl (by decide) ?_
  obtain ⟨hg6, h⟩ := gl_out h
  refine A_putI rfl (Or.inl fl_Meth_18) rfl hg1 (Or.inr hg6) rfl ?_
  obtain ⟨M7, hM7, h⟩ := kM_out h
  refine A_mem hM7 ?_
  refine A_pc (pc' := 19) rfl ?_
  refine A_aload_n 0 rfl rfl rfl ?_
  refine A_iconst (v := 0) rfl (by decide) ?_
  obtain ⟨hg8, h⟩ := gl_out h
  refine A_putI rfl (Or.inl fl_Meth_21) rfl hg1 (Or.inr hg8) rfl ?_
  obtain ⟨M9, hM9, h⟩ := kM_out h
  refine A_mem hM9 ?_
  refine A_aload_n 0 rfl rfl rfl ?_
  refine A_bipush (v := 6) rfl (by decide) ?_
  obtain ⟨hg10, h⟩ := gk_out h
  obtain ⟨hg11, h⟩ := ge_out h
  obtain ⟨hg12, h⟩ := gle_out h
  obtain ⟨r13, hr13, h⟩ := kM_out h
  refine A_newa (t := 0) (n := 6) rfl rfl (inWG 182 (by decide +kernel) (by decide +kernel)) (by decide) hg10 hg11 ⟨by decide, by decide, by decide⟩ rfl (fun _ _ h => h) (by rw [hnf]; exact hg12) ?_
  refine A_nA hr13 ?_
  obtain ⟨M14, hM14, h⟩ := kM_out h
  refine A_mem hM14 ?_
  refine A_pc (pc' := 29) rfl ?_
  obtain ⟨hg15, h⟩ := gl_out h
  refine A_putA rfl (Or.inr ⟨ff_Meth_24, rfl⟩) rfl hg1 (Or.inr hg15) rfl (Or.inl rfl) ?_
  obtain ⟨M16, hM16, h⟩ := kM_out h
  refine A_mem hM16 ?_
  obtain ⟨rfl, rfl⟩ := leaf h
  exact A_vret rfl rfl
def tb_Guard_init : List (Nat × Instr × Nat) := [(0, .aload_n 0, 1), (1, .invokespecial 1, 3), (4, .aload_n 0, 1), (5, .iconst 0, 1), (6, .putfield 9, 3), (9, .return_, 1)]
def Y_Guard_init : ax_Y := (⟨"MethodWarden$Guard", "<init>", "()V"⟩, prog_5_method_1_code, 1, none, tb_Guard_init)
theorem yok_Guard_init : yOK Y_Guard_init := ⟨by decide +kernel, by decide +kernel, inWG 370 (by decide +kernel) (by decide +kernel), inWG 106 (by decide +kernel) (by decide +kernel), by decide +kernel⟩
set_option maxRecDepth 100000 in
def fi_Guard_init (nf : Nat) (t0 : Nat) (M : ax_M) : Option (Unit × ax_M) :=
  gk t0 10 (gl M t0 (kM (mI M t0 0 0) (fun M3 => some ((), M3))))
def f_Guard_init (nf : Nat) (t0 : Nat) (M : ax_M) : Option (Unit × ax_M) := nfw nf M (fi_Guard_init nf t0 M)
theorem cnt_Guard_init {nf : Nat} {t0 : Nat} {M : ax_M} {r : Unit} {M' : ax_M} (h : f_Guard_init nf t0 M = some (r, M')) : gn M' = nf := (nfw_out h).1
set_option maxHeartbeats 4000000 in
set_option maxRecDepth 100000 in
theorem c_Guard_init {l : Launch} {g : ax_G} {nf : Nat} {t0 : Nat} {M : ax_M} {r : Unit} {M' : ax_M} (h : f_Guard_init nf t0 M = some (r, M')) : Ctr l g false Y_Guard_init 1 [vA t0] M (none, M') := by
  obtain ⟨hnf, hle, h⟩ := nfw_out h
  refine Ctr.ofAW yok_Guard_init (Nat.le_of_ble_eq_true rfl) (Or.inr (by rw [hnf]; exact hle)) ?_
  show AW l g false Y_Guard_init 1 (none, M') 0 [(0, vA t0)] [] M
  unfold fi_Guard_init at h
  refine A_aload_n 0 rfl rfl rfl ?_
  obtain ⟨hg1, h⟩ := gk_out h
  refine A_objInit rfl (inWG 371 (by decide +kernel) (by decide +kernel)) (inWG 119 (by decide +kernel) (by decide +kernel)) (inWG 120 (by decide +kernel) (by decide +kernel)) (fun z => absurd hg1 (by rw [z]; decide)) (by decide) (Nat.le_of_ble_eq_true rfl) ?_
  refine A_aload_n 0 rfl rfl rfl ?_
  refine A_iconst (v := 0) rfl (by decide) ?_
  obtain ⟨hg2, h⟩ := gl_out h
  refine A_putI rfl (Or.inl fl_Guard_9) rfl hg1 (Or.inr hg2) rfl ?_
  obtain ⟨M3, hM3, h⟩ := kM_out h
  refine A_mem hM3 ?_
  refine A_pc (pc' := 9) rfl ?_
  obtain ⟨rfl, rfl⟩ := leaf h
  exact A_vret rfl rfl
def tb_Worker_init : List (Nat × Instr × Nat) := [(0, .aload_n 0, 1), (1, .invokespecial 3, 3), (4, .aload_n 0, 1), (5, .bipush 20, 2), (7, .anewarray 9, 3), (10, .putfield 11, 3), (13, .aload_n 0, 1), (14, .new 9, 3), (17, .dup, 1), (18, .invokespecial 17, 3), (21, .putfield 18, 3), (24, .aload_n 0, 1), (25, .new 22, 3), (28, .dup, 1), (29, .invokespecial 24, 3), (32, .putfield 25, 3), (35, .aload_n 0, 1), (36, .aload_n 1, 1), (37, .putfield 29, 3), (40, .aload_n 0, 1), (41, .aload_n 2, 1), (42, .putfield 33, 3), (45, .aload_n 0, 1), (46, .aload_n 3, 1), (47, .putfield 36, 3), (50, .iconst 0, 1), (51, .istore 4, 2), (53, .iload 4, 2), (55, .bipush 20, 2), (57, .if_icmp .ge 23, 3), (60, .aload_n 0, 1), (61, .getfield 11, 3), (64, .iload 4, 2), (66, .new 9, 3), (69, .dup, 1), (70, .invokespecial 17, 3), (73, .aastore, 1), (74, .iinc 4 1, 3), (77, .goto (-24), 3), (80, .return_, 1)]
def Y_Worker_init : ax_Y := (⟨"MethodWarden$Worker", "<init>", "(LMethodWarden$Context;LMethodWarden$Items;LMethodWarden$Expression;)V"⟩, prog_12_method_1_code, 5, none, tb_Worker_init)
theorem yok_Worker_init : yOK Y_Worker_init := ⟨by decide +kernel, by decide +kernel, inWG 258 (by decide +kernel) (by decide +kernel), inWG 102 (by decide +kernel) (by decide +kernel), by decide +kernel⟩
theorem ff_Worker_11 : fldFin "MethodWarden$Worker" 11 6 1 := ⟨_, _, cls_Worker, by decide, by decide, rfl, inWG 287 (by decide +kernel) (by decide +kernel)⟩
theorem ff_Worker_18 : fldFin "MethodWarden$Worker" 18 6 2 := ⟨_, _, cls_Worker, by decide, by decide, rfl, inWG 288 (by decide +kernel) (by decide +kernel)⟩
theorem ff_Worker_25 : fldFin "MethodWarden$Worker" 25 6 10 := ⟨_, _, cls_Worker, by decide, by decide, rfl, inWG 296 (by decide +kernel) (by decide +kernel)⟩
theorem ff_Worker_29 : fldFin "MethodWarden$Worker" 29 6 0 := ⟨_, _, cls_Worker, by decide, by decide, rfl, inWG 286 (by decide +kernel) (by decide +kernel)⟩
theorem ml_Worker_17 : mlI "MethodWarden$Worker" 17 Y_Val_init 0 := ⟨⟨yok_Val_init, by decide +kernel, by decide⟩, Or.inr ⟨"MethodWarden", inNW 263 (by decide +kernel) (by decide +kernel)⟩, inWG 264 (by decide +kernel) (by decide +kernel), rfl⟩
theorem ml_Worker_24 : mlI "MethodWarden$Worker" 24 Y_Items_init 0 := ⟨⟨yok_Items_init, by decide +kernel, by decide⟩, Or.inr ⟨"MethodWarden", inNW 285 (by decide +kernel) (by decide +kernel)⟩, inWG 242 (by decide +kernel) (by decide +kernel), rfl⟩
def f_Worker_init_53_b (nf : Nat) (K53 : Nat → Int32 → ax_M → Option (Unit × ax_M)) (l0 : Nat) (l4 : Int32) (M : ax_M) : Option (Unit × ax_M) :=
  if 20 ≤ l4 then (some ((), M)) else (gk l0 6 (gl M l0 (kM (gA M l0 1) (fun r36 => gk (gn M + 2) 7 (gle (gn M + 1) nf (kM (gn M + 2) (fun r39 => kM (mS M) (fun M40 => gle (gn M40 + 2) nf (bnd (f_Val_init (gn M40 + 2) r39 M40) (fun q41 M42 => gk r36 105 (ge (ln r36) 20 (gi l4 20 (gl M42 r36 (gl M42 r39 (kM (mA M42 r36 l4.toNatClampNeg r39) (fun M49 => kM (l4 + 1) (fun x50 => K53 l0 x50 M49)))))))))))))))))
def f_Worker_init_53 (nf : Nat) : Nat → Nat → Int32 → ax_M → Option (Unit × ax_M)
  | 0, _, _, _ => none
  | n + 1, l0, l4, M => f_Worker_init_53_b nf  (f_Worker_init_53 nf n) l0 l4 M
set_option maxHeartbeats 4000000 in
set_option maxRecDepth 100000 in
theorem o_Worker_init_53_b {l : Launch} {g : ax_G} (nf : Nat) (K53 : Nat → Int32 → ax_M → Option (Unit × ax_M)) (hK53 : ∀ (l0 : Nat) (l4 : Int32) (M : ax_M) (r : Unit) (M' : ax_M), gn M' = nf → K53 l0 l4 M = some (r, M') → AW l g false Y_Worker_init 3 (none, M') 53 [(0, vA l0), (4, vI l4)] [] M) (l0 : Nat) (l4 : Int32) (M : ax_M) (r : Unit) (M' : ax_M) (hnf : gn M' = nf) (h : f_Worker_init_53_b nf  K53 l0 l4 M = some (r, M')) : AW l g false Y_Worker_init 3 (none, M') 53 [(0, vA l0), (4, vI l4)] [] M := by
  unfold f_Worker_init_53_b at h
  refine A_iload 1 rfl rfl ?_
  refine A_bipush (v := 20) rfl (by decide) ?_
  refine A_icmp_ge (tgt := 80) rfl (by decide) (fun hc33 => ?_) (fun hc33 => ?_)
  · rw [if_pos hc33] at h
    obtain ⟨rfl, rfl⟩ := leaf h
    exact A_vret rfl rfl
  · rw [if_neg hc33] at h
    refine A_pc (pc' := 60) rfl ?_
    refine A_aload_n 0 rfl rfl rfl ?_
    obtain ⟨hg34, h⟩ := gk_out h
    obtain ⟨hg35, h⟩ := gl_out h
    refine A_getA rfl fl_Worker_11 rfl hg34 (Or.inr hg35) ?_
    obtain ⟨r36, hr36, h⟩ := kM_out h
    refine A_nA hr36 ?_
    refine A_iload 1 rfl rfl ?_
    obtain ⟨hg37, h⟩ := gk_out h
    obtain ⟨hg38, h⟩ := gle_out h
    obtain ⟨r39, hr39, h⟩ := kM_out h
    refine A_new rfl cls_Val (inWG 260 (by decide +kernel) (by decide +kernel)) (inWG 262 (by decide +kernel) (by decide +kernel)) (inWG 103 (by decide +kernel) (by decide +kernel)) (by decide) hg37 (by rw [hnf]; exact hg38) ?_
    refine A_nA hr39 ?_
    obtain ⟨M40, hM40, h⟩ := kM_out h
    refine A_mem hM40 ?_
    refine A_dup rfl rfl ?_
    refine A_pc (pc' := 70) rfl ?_
    obtain ⟨hg43, h⟩ := gle_out h
    obtain ⟨q41, M42, hcq41, h⟩ := bnd_out h
    refine A_callI (as := []) (st' := [vA r39, vI l4, vA r36]) (r1 := (none, M42)) rfl ml_Worker_17 (fun z => absurd (hr39 ▸ hg37) (by rw [z]; decide)) rfl rfl rfl (Nat.le_of_ble_eq_true rfl) (by decide) (c_Val_init hcq41) (Or.inr (by rw [hnf, cnt_Val_init hcq41]; exact hg43)) ?_
    refine A_pc (pc' := 73) rfl ?_
    refine A_stk (st' := [vA r39, vI l4, vA r36]) rfl ?_
    obtain ⟨hg44, h⟩ := gk_out h
    obtain ⟨hg45, h⟩ := ge_out h
    obtain ⟨hg46, h⟩ := gi_out h
    obtain ⟨hg47, h⟩ := gl_out h
    obtain ⟨hg48, h⟩ := gl_out h
    refine A_aast (t := 5) (n := 20) rfl hg44 ⟨by decide, by decide, rfl⟩ hg45 (Or.inr hg47) hg46 cls_Val (hr39 ▸ hg37) (Or.inr hg48) (Or.inl rfl) ?_
    obtain ⟨M49, hM49, h⟩ := kM_out h
    refine A_mem hM49 ?_
    obtain ⟨x50, hx50, h⟩ := kM_out h
    refine A_iinc 1 (v := x50) (Ls' := [(4, vI x50), (0, vA l0)]) rfl rfl ((iiN (k := 1) (by decide) _).trans hx50) (by decide) rfl ?_
    refine A_goto (tgt := 53) rfl (by decide) ?_
    refine A_pc (pc' := 53) rfl ?_
    refine A_sub (Ls' := [(0, vA l0), (4, vI x50)]) [1, 0] rfl ?_
    exact hK53 _ _ _ _ _ hnf h
theorem o_Worker_init_53 {l : Launch} {g : ax_G} (nf : Nat) : ∀ (n : Nat) (l0 : Nat) (l4 : Int32) (M : ax_M) (r : Unit) (M' : ax_M), gn M' = nf → f_Worker_init_53 nf  n l0 l4 M = some (r, M') → AW l g false Y_Worker_init 3 (none, M') 53 [(0, vA l0), (4, vI l4)] [] M := by
  intro n
  induction n with
  | zero =>
    intro l0 l4 M r M' hnf h
    cases h
  | succ n ih =>
    intro l0 l4 M r M' hnf h
    exact o_Worker_init_53_b nf  _ ih _ _ _ _ _ hnf h
set_option maxRecDepth 100000 in
def fi_Worker_init (nf : Nat) (t0 : Nat) (a1 : Nat) (a2 : Nat) (a3 : Nat) (M : ax_M) : Option (Unit × ax_M) :=
  gk t0 6 (gk (gn M + 2) 105 (ge (ln (gn M + 2)) 20 (gle (gn M + 1) nf (kM (gn M + 2) (fun r5 => kM (mS M) (fun M6 => gl M6 t0 (kM (mA M6 t0 1 r5) (fun M8 => gk (gn M8 + 2) 7 (gle (gn M8 + 1) nf (kM (gn M8 + 2) (fun r11 => kM (mS M8) (fun M12 => gle (gn M12 + 2) nf (bnd (f_Val_init (gn M12 + 2) r11 M12) (fun q13 M14 => gl M14 t0 (kM (mA M14 t0 2 r11) (fun M17 => gk (gn M17 + 2) 5 (gle (gn M17 + 1) nf (kM (gn M17 + 2) (fun r20 => kM (mS M17) (fun M21 => gle (gn M21 + 1) nf (bnd (f_Items_init (gn M21 + 1) r20 M21) (fun q22 M23 => gl M23 t0 (kM (mA M23 t0 10 r20) (fun M26 => gl M26 t0 (kM (mA M26 t0 0 a1) (fun M28 => gl M28 t0 (kM (mA M28 t0 6 a2) (fun M30 => gl M30 t0 (kM (mA M30 t0 3 a3) (fun M32 => f_Worker_init_53 nf 64 t0 0 M32))))))))))))))))))))))))))))))
def f_Worker_init (nf : Nat) (t0 : Nat) (a1 : Nat) (a2 : Nat) (a3 : Nat) (M : ax_M) : Option (Unit × ax_M) := nfw nf M (fi_Worker_init nf t0 a1 a2 a3 M)
theorem cnt_Worker_init {nf : Nat} {t0 : Nat} {a1 : Nat} {a2 : Nat} {a3 : Nat} {M : ax_M} {r : Unit} {M' : ax_M} (h : f_Worker_init nf t0 a1 a2 a3 M = some (r, M')) : gn M' = nf := (nfw_out h).1
set_option maxHeartbeats 4000000 in
set_option maxRecDepth 100000 in
theorem c_Worker_init {l : Launch} {g : ax_G} {nf : Nat} {t0 : Nat} {a1 : Nat} {a2 : Nat} {a3 : Nat} {M : ax_M} {r : Unit} {M' : ax_M} (h : f_Worker_init nf t0 a1 a2 a3 M = some (r, M')) : Ctr l g false Y_Worker_init 3 [vA t0, vA a1, vA a2, vA a3] M (none, M') := by
  obtain ⟨hnf, hle, h⟩ := nfw_out h
  refine Ctr.ofAW yok_Worker_init (Nat.le_of_ble_eq_true rfl) (Or.inr (by rw [hnf]; exact hle)) ?_
  show AW l g false Y_Worker_init 3 (none, M') 0 [(0, vA t0), (1, vA a1), (2, vA a2), (3, vA a3)] [] M
  unfold fi_Worker_init at h
  refine A_aload_n 0 rfl rfl rfl ?_
  obtain ⟨hg1, h⟩ := gk_out h
  refine A_objInit rfl (inWG 259 (by decide +kernel) (by decide +kernel)) (inWG 119 (by decide +kernel) (by decide +kernel)) (inWG 120 (by decide +kernel) (by decide +kernel)) (fun z => absurd hg1 (by rw [z]; decide)) (by decide) (Nat.le_of_ble_eq_true rfl) ?_
  refine A_aload_n 0 rfl rfl rfl ?_
  refine A_bipush (v := 20) rfl (by decide) ?_
  obtain ⟨hg2, h⟩ := gk_out h
  obtain ⟨hg3, h⟩ := ge_out h
  obtain ⟨hg4, h⟩ := gle_out h
  obtain ⟨r5, hr5, h⟩ := kM_out h
  refine A_anew (t := 5) (n := 20) rfl (inWG 260 (by decide +kernel) (by decide +kernel)) (by decide) ⟨by decide, by decide, rfl⟩ hg2 hg3 ⟨by decide, by decide, by decide⟩ (by rw [hnf]; exact hg4) ?_
  refine A_nA hr5 ?_
  obtain ⟨M6, hM6, h⟩ := kM_out h
  refine A_mem hM6 ?_
  refine A_pc (pc' := 10) rfl ?_
  obtain ⟨hg7, h⟩ := gl_out h
  refine A_putA rfl (Or.inr ⟨ff_Worker_11, rfl⟩) rfl hg1 (Or.inr hg7) rfl (Or.inl rfl) ?_
  obtain ⟨M8, hM8, h⟩ := kM_out h
  refine A_mem hM8 ?_
  refine A_aload_n 0 rfl rfl rfl ?_
  obtain ⟨hg9, h⟩ := gk_out h
  obtain ⟨hg10, h⟩ := gle_out h
  obtain ⟨r11, hr11, h⟩ := kM_out h
  refine A_new rfl cls_Val (inWG 260 (by decide +kernel) (by decide +kernel)) (inWG 262 (by decide +kernel) (by decide +kernel)) (inWG 103 (by decide +kernel) (by decide +kernel)) (by decide) hg9 (by rw [hnf]; exact hg10) ?_
  refine A_nA hr11 ?_
  obtain ⟨M12, hM12, h⟩ := kM_out h
  refine A_mem hM12 ?_
  refine A_dup rfl rfl ?_
  obtain ⟨hg15, h⟩ := gle_out h
  obtain ⟨q13, M14, hcq13, h⟩ := bnd_out h
  refine A_callI (as := []) (st' := [vA r11, vA t0]) (r1 := (none, M14)) rfl ml_Worker_17 (fun z => absurd (hr11 ▸ hg9) (by rw [z]; decide)) rfl rfl rfl (Nat.le_of_ble_eq_true rfl) (by decide) (c_Val_init hcq13) (Or.inr (by rw [hnf, cnt_Val_init hcq13]; exact hg15)) ?_
  refine A_pc (pc' := 21) rfl ?_
  refine A_stk (st' := [vA r11, vA t0]) rfl ?_
  obtain ⟨hg16, h⟩ := gl_out h
  refine A_putA rfl (Or.inr ⟨ff_Worker_18, rfl⟩) rfl hg1 (Or.inr hg16) rfl (Or.inl rfl) ?_
  obtain ⟨M17, hM17, h⟩ := kM_out h
  refine A_mem hM17 ?_
  refine A_pc (pc' := 24) rfl ?_
  refine A_aload_n 0 rfl rfl rfl ?_
  obtain ⟨hg18, h⟩ := gk_out h
  obtain ⟨hg19, h⟩ := gle_out h
  obtain ⟨r20, hr20, h⟩ := kM_out h
  refine A_new rfl cls_Items (inWG 284 (by decide +kernel) (by decide +kernel)) (inWG 240 (by decide +kernel) (by decide +kernel)) (inWG 101 (by decide +kernel) (by decide +kernel)) (by decide) hg18 (by rw [hnf]; exact hg19) ?_
  refine A_nA hr20 ?_
  obtain ⟨M21, hM21, h⟩ := kM_out h
  refine A_mem hM21 ?_
  refine A_dup rfl rfl ?_
  obtain ⟨hg24, h⟩ := gle_out h
  obtain ⟨q22, M23, hcq22, h⟩ := bnd_out h
  refine A_callI (as := []) (st' := [vA r20, vA t0]) (r1 := (none, M23)) rfl ml_Worker_24 (fun z => absurd (hr20 ▸ hg18) (by rw [z]; decide)) rfl rfl rfl (Nat.le_of_ble_eq_true rfl) (by decide) (c_Items_init hcq22) (Or.inr (by rw [hnf, cnt_Items_init hcq22]; exact hg24)) ?_
  refine A_pc (pc' := 32) rfl ?_
  refine A_stk (st' := [vA r20, vA t0]) rfl ?_
  obtain ⟨hg25, h⟩ := gl_out h
  refine A_putA rfl (Or.inr ⟨ff_Worker_25, rfl⟩) rfl hg1 (Or.inr hg25) rfl (Or.inl rfl) ?_
  obtain ⟨M26, hM26, h⟩ := kM_out h
  refine A_mem hM26 ?_
  refine A_aload_n 0 rfl rfl rfl ?_
  refine A_pc (pc' := 36) rfl ?_
  refine A_aload_n 1 rfl rfl rfl ?_
  obtain ⟨hg27, h⟩ := gl_out h
  refine A_putA rfl (Or.inr ⟨ff_Worker_29, rfl⟩) rfl hg1 (Or.inr hg27) rfl (Or.inl rfl) ?_
  obtain ⟨M28, hM28, h⟩ := kM_out h
  refine A_mem hM28 ?_
  refine A_aload_n 0 rfl rfl rfl ?_
  refine A_aload_n 2 rfl rfl rfl ?_
  obtain ⟨hg29, h⟩ := gl_out h
  refine A_putA rfl (Or.inl fl_Worker_33) rfl hg1 (Or.inr hg29) rfl (Or.inl rfl) ?_
  obtain ⟨M30, hM30, h⟩ := kM_out h
  refine A_mem hM30 ?_
  refine A_aload_n 0 rfl rfl rfl ?_
  refine A_pc (pc' := 46) rfl ?_
  refine A_aload_n 3 rfl rfl rfl ?_
  obtain ⟨hg31, h⟩ := gl_out h
  refine A_putA rfl (Or.inl fl_Worker_36) rfl hg1 (Or.inr hg31) rfl (Or.inl rfl) ?_
  obtain ⟨M32, hM32, h⟩ := kM_out h
  refine A_mem hM32 ?_
  refine A_iconst (v := 0) rfl (by decide) ?_
  refine A_istore (Ls' := [(4, vI 0), (0, vA t0), (1, vA a1), (2, vA a2), (3, vA a3)]) rfl (by decide) rfl ?_
  refine A_pc (pc' := 53) rfl ?_
  refine A_sub (Ls' := [(0, vA t0), (4, vI 0)]) [1, 0] rfl ?_
  exact o_Worker_init_53 nf  _ _ _ _ _ _ hnf h
def tb_Gate_init : List (Nat × Instr × Nat) := [(0, .aload_n 0, 1), (1, .invokespecial 3, 3), (4, .aload_n 0, 1), (5, .bipush 8, 2), (7, .anewarray 9, 3), (10, .putfield 11, 3), (13, .aload_n 0, 1), (14, .bipush 10, 2), (16, .anewarray 17, 3), (19, .putfield 19, 3), (22, .aload_n 0, 1), (23, .bipush 8, 2), (25, .anewarray 23, 3), (28, .putfield 25, 3), (31, .aload_n 0, 1), (32, .new 29, 3), (35, .dup, 1), (36, .invokespecial 31, 3), (39, .putfield 32, 3), (42, .aload_n 0, 1), (43, .iconst (-1), 1), (44, .putfield 36, 3), (47, .aload_n 0, 1), (48, .aload_n 1, 1), (49, .putfield 40, 3), (52, .aload_n 0, 1), (53, .aload_n 2, 1), (54, .putfield 44, 3), (57, .aload_n 0, 1), (58, .aload_n 3, 1), (59, .putfield 48, 3), (62, .iconst 0, 1), (63, .istore 4, 2), (65, .iload 4, 2), (67, .bipush 8, 2), (69, .if_icmp .ge 23, 3), (72, .aload_n 0, 1), (73, .getfield 11, 3), (76, .iload 4, 2), (78, .new 9, 3), (81, .dup, 1), (82, .invokespecial 52, 3), (85, .aastore, 1), (86, .iinc 4 1, 3), (89, .goto (-24), 3), (92, .iconst 0, 1), (93, .istore 4, 2), (95, .iload 4, 2), (97, .bipush 10, 2), (99, .if_icmp .ge 23, 3), (102, .aload_n 0, 1), (103, .getfield 19, 3), (106, .iload 4, 2), (108, .new 17, 3), (111, .dup, 1), (112, .invokespecial 53, 3), (115, .aastore, 1), (116, .iinc 4 1, 3), (119, .goto (-24), 3), (122, .iconst 0, 1), (123, .istore 4, 2), (125, .iload 4, 2), (127, .bipush 8, 2), (129, .if_icmp .ge 23, 3), (132, .aload_n 0, 1), (133, .getfield 25, 3), (136, .iload 4, 2), (138, .new 23, 3), (141, .dup, 1), (142, .invokespecial 54, 3), (145, .aastore, 1), (146, .iinc 4 1, 3), (149, .goto (-24), 3), (152, .return_, 1)]
def Y_Gate_init : ax_Y := (⟨"MethodWarden$Gate", "<init>", "(LMethodWarden$Context;LMethodWarden$Worker;[LMethodWarden$Expression;)V"⟩, prog_4_method_1_code, 5, none, tb_Gate_init)
theorem yok_Gate_init : yOK Y_Gate_init := ⟨by decide +kernel, by decide +kernel, inWG 324 (by decide +kernel) (by decide +kernel), inWG 104 (by decide +kernel) (by decide +kernel), by decide +kernel⟩
theorem ff_Gate_11 : fldFin "MethodWarden$Gate" 11 8 3 := ⟨_, _, cls_Gate, by decide, by decide, rfl, inWG 385 (by decide +kernel) (by decide +kernel)⟩
theorem ff_Gate_19 : fldFin "MethodWarden$Gate" 19 8 4 := ⟨_, _, cls_Gate, by decide, by decide, rfl, inWG 387 (by decide +kernel) (by decide +kernel)⟩
theorem ff_Gate_25 : fldFin "MethodWarden$Gate" 25 8 5 := ⟨_, _, cls_Gate, by decide, by decide, rfl, inWG 389 (by decide +kernel) (by decide +kernel)⟩
theorem ff_Gate_32 : fldFin "MethodWarden$Gate" 32 8 6 := ⟨_, _, cls_Gate, by decide, by decide, rfl, inWG 390 (by decide +kernel) (by decide +kernel)⟩
theorem ff_Gate_40 : fldFin "MethodWarden$Gate" 40 8 0 := ⟨_, _, cls_Gate, by decide, by decide, rfl, inWG 382 (by decide +kernel) (by decide +kernel)⟩
theorem ff_Gate_44 : fldFin "MethodWarden$Gate" 44 8 1 := ⟨_, _, cls_Gate, by decide, by decide, rfl, inWG 383 (by decide +kernel) (by decide +kernel)⟩
theorem ff_Gate_48 : fldFin "MethodWarden$Gate" 48 8 2 := ⟨_, _, cls_Gate, by decide, by decide, rfl, inWG 384 (by decide +kernel) (by decide +kernel)⟩
theorem ml_Gate_31 : mlI "MethodWarden$Gate" 31 Y_Val_init 0 := ⟨⟨yok_Val_init, by decide +kernel, by decide⟩, Or.inr ⟨"MethodWarden", inNW 333 (by decide +kernel) (by decide +kernel)⟩, inWG 264 (by decide +kernel) (by decide +kernel), rfl⟩
theorem ml_Gate_54 : mlI "MethodWarden$Gate" 54 Y_Items_init 0 := ⟨⟨yok_Items_init, by decide +kernel, by decide⟩, Or.inr ⟨"MethodWarden", inNW 381 (by decide +kernel) (by decide +kernel)⟩, inWG 242 (by decide +kernel) (by decide +kernel), rfl⟩
theorem ml_Gate_53 : mlI "MethodWarden$Gate" 53 Y_Guard_init 0 := ⟨⟨yok_Guard_init, by decide +kernel, by decide⟩, Or.inr ⟨"MethodWarden", inNW 368 (by decide +kernel) (by decide +kernel)⟩, inWG 369 (by decide +kernel) (by decide +kernel), rfl⟩
theorem ml_Gate_52 : mlI "MethodWarden$Gate" 52 Y_Meth_init 0 := ⟨⟨yok_Meth_init, by decide +kernel, by decide⟩, Or.inr ⟨"MethodWarden", inNW 335 (by decide +kernel) (by decide +kernel)⟩, inWG 336 (by decide +kernel) (by decide +kernel), rfl⟩
def f_Gate_init_125_b (nf : Nat) (K125 : Nat → Int32 → ax_M → Option (Unit × ax_M)) (l0 : Nat) (l4 : Int32) (M : ax_M) : Option (Unit × ax_M) :=
  if 8 ≤ l4 then (some ((), M)) else (gk l0 8 (gl M l0 (kM (gA M l0 5) (fun r45 => gk (gn M + 2) 5 (gle (gn M + 1) nf (kM (gn M + 2) (fun r48 => kM (mS M) (fun M49 => gle (gn M49 + 1) nf (bnd (f_Items_init (gn M49 + 1) r48 M49) (fun q50 M51 => gk r45 108 (ge (ln r45) 8 (gi l4 8 (gl M51 r45 (gl M51 r48 (kM (mA M51 r45 l4.toNatClampNeg r48) (fun M58 => kM (l4 + 1) (fun x59 => K125 l0 x59 M58)))))))))))))))))
def f_Gate_init_125 (nf : Nat) : Nat → Nat → Int32 → ax_M → Option (Unit × ax_M)
  | 0, _, _, _ => none
  | n + 1, l0, l4, M => f_Gate_init_125_b nf  (f_Gate_init_125 nf n) l0 l4 M
set_option maxHeartbeats 4000000 in
set_option maxRecDepth 100000 in
theorem o_Gate_init_125_b {l : Launch} {g : ax_G} (nf : Nat) (K125 : Nat → Int32 → ax_M → Option (Unit × ax_M)) (hK125 : ∀ (l0 : Nat) (l4 : Int32) (M : ax_M) (r : Unit) (M' : ax_M), gn M' = nf → K125 l0 l4 M = some (r, M') → AW l g false Y_Gate_init 3 (none, M') 125 [(0, vA l0), (4, vI l4)] [] M) (l0 : Nat) (l4 : Int32) (M : ax_M) (r : Unit) (M' : ax_M) (hnf : gn M' = nf) (h : f_Gate_init_125_b nf  K125 l0 l4 M = some (r, M')) : AW l g false Y_Gate_init 3 (none, M') 125 [(0, vA l0), (4, vI l4)] [] M := by
  unfold f_Gate_init_125_b at h
  refine A_iload 1 rfl rfl ?_
  refine A_bipush (v := 8) rfl (by decide) ?_
  refine A_icmp_ge (tgt := 152) rfl (by decide) (fun hc42 => ?_) (fun hc42 => ?_)
  · rw [if_pos hc42] at h
    obtain ⟨rfl, rfl⟩ := leaf h
    exact A_vret rfl rfl
  · rw [if_neg hc42] at h
    refine A_pc (pc' := 132) rfl ?_
    refine A_aload_n 0 rfl rfl rfl ?_
    obtain ⟨hg43, h⟩ := gk_out h
    obtain ⟨hg44, h⟩ := gl_out h
    refine A_getA rfl fl_Gate_25 rfl hg43 (Or.inr hg44) ?_
    obtain ⟨r45, hr45, h⟩ := kM_out h
    refine A_nA hr45 ?_
    refine A_iload 1 rfl rfl ?_
    obtain ⟨hg46, h⟩ := gk_out h
    obtain ⟨hg47, h⟩ := gle_out h
    obtain ⟨r48, hr48, h⟩ := kM_out h
    refine A_new rfl cls_Items (inWG 330 (by decide +kernel) (by decide +kernel)) (inWG 240 (by decide +kernel) (by decide +kernel)) (inWG 101 (by decide +kernel) (by decide +kernel)) (by decide) hg46 (by rw [hnf]; exact hg47) ?_
    refine A_nA hr48 ?_
    obtain ⟨M49, hM49, h⟩ := kM_out h
    refine A_mem hM49 ?_
    refine A_dup rfl rfl ?_
    refine A_pc (pc' := 142) rfl ?_
    obtain ⟨hg52, h⟩ := gle_out h
    obtain ⟨q50, M51, hcq50, h⟩ := bnd_out h
    refine A_callI (as := []) (st' := [vA r48, vI l4, vA r45]) (r1 := (none, M51)) rfl ml_Gate_54 (fun z => absurd (hr48 ▸ hg46) (by rw [z]; decide)) rfl rfl rfl (Nat.le_of_ble_eq_true rfl) (by decide) (c_Items_init hcq50) (Or.inr (by rw [hnf, cnt_Items_init hcq50]; exact hg52)) ?_
    refine A_pc (pc' := 145) rfl ?_
    refine A_stk (st' := [vA r48, vI l4, vA r45]) rfl ?_
    obtain ⟨hg53, h⟩ := gk_out h
    obtain ⟨hg54, h⟩ := ge_out h
    obtain ⟨hg55, h⟩ := gi_out h
    obtain ⟨hg56, h⟩ := gl_out h
    obtain ⟨hg57, h⟩ := gl_out h
    refine A_aast (t := 8) (n := 8) rfl hg53 ⟨by decide, by decide, rfl⟩ hg54 (Or.inr hg56) hg55 cls_Items (hr48 ▸ hg46) (Or.inr hg57) (Or.inl rfl) ?_
    obtain ⟨M58, hM58, h⟩ := kM_out h
    refine A_mem hM58 ?_
    obtain ⟨x59, hx59, h⟩ := kM_out h
    refine A_iinc 1 (v := x59) (Ls' := [(4, vI x59), (0, vA l0)]) rfl rfl ((iiN (k := 1) (by decide) _).trans hx59) (by decide) rfl ?_
    refine A_goto (tgt := 125) rfl (by decide) ?_
    refine A_pc (pc' := 125) rfl ?_
    refine A_sub (Ls' := [(0, vA l0), (4, vI x59)]) [1, 0] rfl ?_
    exact hK125 _ _ _ _ _ hnf h
theorem o_Gate_init_125 {l : Launch} {g : ax_G} (nf : Nat) : ∀ (n : Nat) (l0 : Nat) (l4 : Int32) (M : ax_M) (r : Unit) (M' : ax_M), gn M' = nf → f_Gate_init_125 nf  n l0 l4 M = some (r, M') → AW l g false Y_Gate_init 3 (none, M') 125 [(0, vA l0), (4, vI l4)] [] M := by
  intro n
  induction n with
  | zero =>
    intro l0 l4 M r M' hnf h
    cases h
  | succ n ih =>
    intro l0 l4 M r M' hnf h
    exact o_Gate_init_125_b nf  _ ih _ _ _ _ _ hnf h
def f_Gate_init_95_b (nf : Nat) (K95 : Nat → Int32 → ax_M → Option (Unit × ax_M)) (l0 : Nat) (l4 : Int32) (M : ax_M) : Option (Unit × ax_M) :=
  if 10 ≤ l4 then (f_Gate_init_125 nf 64 l0 0 M) else (gk l0 8 (gl M l0 (kM (gA M l0 4) (fun r62 => gk (gn M + 2) 10 (gle (gn M + 1) nf (kM (gn M + 2) (fun r65 => kM (mS M) (fun M66 => gle (gn M66 + 0) nf (bnd (f_Guard_init (gn M66 + 0) r65 M66) (fun q67 M68 => gk r62 107 (ge (ln r62) 10 (gi l4 10 (gl M68 r62 (gl M68 r65 (kM (mA M68 r62 l4.toNatClampNeg r65) (fun M75 => kM (l4 + 1) (fun x76 => K95 l0 x76 M75)))))))))))))))))
def f_Gate_init_95 (nf : Nat) : Nat → Nat → Int32 → ax_M → Option (Unit × ax_M)
  | 0, _, _, _ => none
  | n + 1, l0, l4, M => f_Gate_init_95_b nf  (f_Gate_init_95 nf n) l0 l4 M
set_option maxHeartbeats 4000000 in
set_option maxRecDepth 100000 in
theorem o_Gate_init_95_b {l : Launch} {g : ax_G} (nf : Nat) (K95 : Nat → Int32 → ax_M → Option (Unit × ax_M)) (hK95 : ∀ (l0 : Nat) (l4 : Int32) (M : ax_M) (r : Unit) (M' : ax_M), gn M' = nf → K95 l0 l4 M = some (r, M') → AW l g false Y_Gate_init 3 (none, M') 95 [(0, vA l0), (4, vI l4)] [] M) (l0 : Nat) (l4 : Int32) (M : ax_M) (r : Unit) (M' : ax_M) (hnf : gn M' = nf) (h : f_Gate_init_95_b nf  K95 l0 l4 M = some (r, M')) : AW l g false Y_Gate_init 3 (none, M') 95 [(0, vA l0), (4, vI l4)] [] M := by
  unfold f_Gate_init_95_b at h
  refine A_iload 1 rfl rfl ?_
  refine A_bipush (v := 10) rfl (by decide) ?_
  refine A_icmp_ge (tgt := 122) rfl (by decide) (fun hc41 => ?_) (fun hc41 => ?_)
  · rw [if_pos hc41] at h
    refine A_iconst (v := 0) rfl (by decide) ?_
    refine A_istore (Ls' := [(4, vI 0), (0, vA l0)]) rfl (by decide) rfl ?_
    refine A_pc (pc' := 125) rfl ?_
    refine A_sub (Ls' := [(0, vA l0), (4, vI 0)]) [1, 0] rfl ?_
    exact o_Gate_init_125 nf  _ _ _ _ _ _ hnf h
  · rw [if_neg hc41] at h
    refine A_pc (pc' := 102) rfl ?_
    refine A_aload_n 0 rfl rfl rfl ?_
    obtain ⟨hg60, h⟩ := gk_out h
    obtain ⟨hg61, h⟩ := gl_out h
    refine A_getA rfl fl_Gate_19 rfl hg60 (Or.inr hg61) ?_
    obtain ⟨r62, hr62, h⟩ := kM_out h
    refine A_nA hr62 ?_
    refine A_iload 1 rfl rfl ?_
    obtain ⟨hg63, h⟩ := gk_out h
    obtain ⟨hg64, h⟩ := gle_out h
    obtain ⟨r65, hr65, h⟩ := kM_out h
    refine A_new rfl cls_Guard (inWG 328 (by decide +kernel) (by decide +kernel)) (inWG 367 (by decide +kernel) (by decide +kernel)) (inWG 106 (by decide +kernel) (by decide +kernel)) (by decide) hg63 (by rw [hnf]; exact hg64) ?_
    refine A_nA hr65 ?_
    obtain ⟨M66, hM66, h⟩ := kM_out h
    refine A_mem hM66 ?_
    refine A_dup rfl rfl ?_
    refine A_pc (pc' := 112) rfl ?_
    obtain ⟨hg69, h⟩ := gle_out h
    obtain ⟨q67, M68, hcq67, h⟩ := bnd_out h
    refine A_callI (as := []) (st' := [vA r65, vI l4, vA r62]) (r1 := (none, M68)) rfl ml_Gate_53 (fun z => absurd (hr65 ▸ hg63) (by rw [z]; decide)) rfl rfl rfl (Nat.le_of_ble_eq_true rfl) (by decide) (c_Guard_init hcq67) (Or.inr (by rw [hnf, cnt_Guard_init hcq67]; exact hg69)) ?_
    refine A_pc (pc' := 115) rfl ?_
    refine A_stk (st' := [vA r65, vI l4, vA r62]) rfl ?_
    obtain ⟨hg70, h⟩ := gk_out h
    obtain ⟨hg71, h⟩ := ge_out h
    obtain ⟨hg72, h⟩ := gi_out h
    obtain ⟨hg73, h⟩ := gl_out h
    obtain ⟨hg74, h⟩ := gl_out h
    refine A_aast (t := 7) (n := 10) rfl hg70 ⟨by decide, by decide, rfl⟩ hg71 (Or.inr hg73) hg72 cls_Guard (hr65 ▸ hg63) (Or.inr hg74) (Or.inl rfl) ?_
    obtain ⟨M75, hM75, h⟩ := kM_out h
    refine A_mem hM75 ?_
    obtain ⟨x76, hx76, h⟩ := kM_out h
    refine A_iinc 1 (v := x76) (Ls' := [(4, vI x76), (0, vA l0)]) rfl rfl ((iiN (k := 1) (by decide) _).trans hx76) (by decide) rfl ?_
    refine A_goto (tgt := 95) rfl (by decide) ?_
    refine A_pc (pc' := 95) rfl ?_
    refine A_sub (Ls' := [(0, vA l0), (4, vI x76)]) [1, 0] rfl ?_
    exact hK95 _ _ _ _ _ hnf h
theorem o_Gate_init_95 {l : Launch} {g : ax_G} (nf : Nat) : ∀ (n : Nat) (l0 : Nat) (l4 : Int32) (M : ax_M) (r : Unit) (M' : ax_M), gn M' = nf → f_Gate_init_95 nf  n l0 l4 M = some (r, M') → AW l g false Y_Gate_init 3 (none, M') 95 [(0, vA l0), (4, vI l4)] [] M := by
  intro n
  induction n with
  | zero =>
    intro l0 l4 M r M' hnf h
    cases h
  | succ n ih =>
    intro l0 l4 M r M' hnf h
    exact o_Gate_init_95_b nf  _ ih _ _ _ _ _ hnf h
def f_Gate_init_65_b (nf : Nat) (K65 : Nat → Int32 → ax_M → Option (Unit × ax_M)) (l0 : Nat) (l4 : Int32) (M : ax_M) : Option (Unit × ax_M) :=
  if 8 ≤ l4 then (f_Gate_init_95 nf 64 l0 0 M) else (gk l0 8 (gl M l0 (kM (gA M l0 3) (fun r79 => gk (gn M + 2) 9 (gle (gn M + 1) nf (kM (gn M + 2) (fun r82 => kM (mS M) (fun M83 => gle (gn M83 + 1) nf (bnd (f_Meth_init (gn M83 + 1) r82 M83) (fun q84 M85 => gk r79 106 (ge (ln r79) 8 (gi l4 8 (gl M85 r79 (gl M85 r82 (kM (mA M85 r79 l4.toNatClampNeg r82) (fun M92 => kM (l4 + 1) (fun x93 => K65 l0 x93 M92)))))))))))))))))
def f_Gate_init_65 (nf : Nat) : Nat → Nat → Int32 → ax_M → Option (Unit × ax_M)
  | 0, _, _, _ => none
  | n + 1, l0, l4, M => f_Gate_init_65_b nf  (f_Gate_init_65 nf n) l0 l4 M
set_option maxHeartbeats 4000000 in
set_option maxRecDepth 100000 in
theorem o_Gate_init_65_b {l : Launch} {g : ax_G} (nf : Nat) (K65 : Nat → Int32 → ax_M → Option (Unit × ax_M)) (hK65 : ∀ (l0 : Nat) (l4 : Int32) (M : ax_M) (r : Unit) (M' : ax_M), gn M' = nf → K65 l0 l4 M = some (r, M') → AW l g false Y_Gate_init 3 (none, M') 65 [(0, vA l0), (4, vI l4)] [] M) (l0 : Nat) (l4 : Int32) (M : ax_M) (r : Unit) (M' : ax_M) (hnf : gn M' = nf) (h : f_Gate_init_65_b nf  K65 l0 l4 M = some (r, M')) : AW l g false Y_Gate_init 3 (none, M') 65 [(0, vA l0), (4, vI l4)] [] M := by
  unfold f_Gate_init_65_b at h
  refine A_iload 1 rfl rfl ?_
  refine A_bipush (v := 8) rfl (by decide) ?_
  refine A_icmp_ge (tgt := 92) rfl (by decide) (fun hc40 => ?_) (fun hc40 => ?_)
  · rw [if_pos hc40] at h
    refine A_iconst (v := 0) rfl (by decide) ?_
    refine A_istore (Ls' := [(4, vI 0), (0, vA l0)]) rfl (by decide) rfl ?_
    refine A_pc (pc' := 95) rfl ?_
    refine A_sub (Ls' := [(0, vA l0), (4, vI 0)]) [1, 0] rfl ?_
    exact o_Gate_init_95 nf  _ _ _ _ _ _ hnf h
  · rw [if_neg hc40] at h
    refine A_pc (pc' := 72) rfl ?_
    refine A_aload_n 0 rfl rfl rfl ?_
    obtain ⟨hg77, h⟩ := gk_out h
    obtain ⟨hg78, h⟩ := gl_out h
    refine A_getA rfl fl_Gate_11 rfl hg77 (Or.inr hg78) ?_
    obtain ⟨r79, hr79, h⟩ := kM_out h
    refine A_nA hr79 ?_
    refine A_iload 1 rfl rfl ?_
    obtain ⟨hg80, h⟩ := gk_out h
    obtain ⟨hg81, h⟩ := gle_out h
    obtain ⟨r82, hr82, h⟩ := kM_out h
    refine A_new rfl cls_Meth (inWG 326 (by decide +kernel) (by decide +kernel)) (inWG 334 (by decide +kernel) (by decide +kernel)) (inWG 105 (by decide +kernel) (by decide +kernel)) (by decide) hg80 (by rw [hnf]; exact hg81) ?_
    refine A_nA hr82 ?_
    obtain ⟨M83, hM83, h⟩ := kM_out h
    refine A_mem hM83 ?_
    refine A_dup rfl rfl ?_
    refine A_pc (pc' := 82) rfl ?_
    obtain ⟨hg86, h⟩ := gle_out h
    obtain ⟨q84, M85, hcq84, h⟩ := bnd_out h
    refine A_callI (as := []) (st' := [vA r82, vI l4, vA r79]) (r1 := (none, M85)) rfl ml_Gate_52 (fun z => absurd (hr82 ▸ hg80) (by rw [z]; decide)) rfl rfl rfl (Nat.le_of_ble_eq_true rfl) (by decide) (c_Meth_init hcq84) (Or.inr (by rw [hnf, cnt_Meth_init hcq84]; exact hg86)) ?_
    refine A_pc (pc' := 85) rfl ?_
    refine A_stk (st' := [vA r82, vI l4, vA r79]) rfl ?_
    obtain ⟨hg87, h⟩ := gk_out h
    obtain ⟨hg88, h⟩ := ge_out h
    obtain ⟨hg89, h⟩ := gi_out h
    obtain ⟨hg90, h⟩ := gl_out h
    obtain ⟨hg91, h⟩ := gl_out h
    refine A_aast (t := 6) (n := 8) rfl hg87 ⟨by decide, by decide, rfl⟩ hg88 (Or.inr hg90) hg89 cls_Meth (hr82 ▸ hg80) (Or.inr hg91) (Or.inl rfl) ?_
    obtain ⟨M92, hM92, h⟩ := kM_out h
    refine A_mem hM92 ?_
    obtain ⟨x93, hx93, h⟩ := kM_out h
    refine A_iinc 1 (v := x93) (Ls' := [(4, vI x93), (0, vA l0)]) rfl rfl ((iiN (k := 1) (by decide) _).trans hx93) (by decide) rfl ?_
    refine A_goto (tgt := 65) rfl (by decide) ?_
    refine A_pc (pc' := 65) rfl ?_
    refine A_sub (Ls' := [(0, vA l0), (4, vI x93)]) [1, 0] rfl ?_
    exact hK65 _ _ _ _ _ hnf h
theorem o_Gate_init_65 {l : Launch} {g : ax_G} (nf : Nat) : ∀ (n : Nat) (l0 : Nat) (l4 : Int32) (M : ax_M) (r : Unit) (M' : ax_M), gn M' = nf → f_Gate_init_65 nf  n l0 l4 M = some (r, M') → AW l g false Y_Gate_init 3 (none, M') 65 [(0, vA l0), (4, vI l4)] [] M := by
  intro n
  induction n with
  | zero =>
    intro l0 l4 M r M' hnf h
    cases h
  | succ n ih =>
    intro l0 l4 M r M' hnf h
    exact o_Gate_init_65_b nf  _ ih _ _ _ _ _ hnf h
set_option maxRecDepth 100000 in
def fi_Gate_init (nf : Nat) (t0 : Nat) (a1 : Nat) (a2 : Nat) (a3 : Nat) (M : ax_M) : Option (Unit × ax_M) :=
  gk t0 8 (gk (gn M + 2) 106 (ge (ln (gn M + 2)) 8 (gle (gn M + 1) nf (kM (gn M + 2) (fun r5 => kM (mS M) (fun M6 => gl M6 t0 (kM (mA M6 t0 3 r5) (fun M8 => gk (gn M8 + 2) 107 (ge (ln (gn M8 + 2)) 10 (gle (gn M8 + 1) nf (kM (gn M8 + 2) (fun r12 => kM (mS M8) (fun M13 => gl M13 t0 (kM (mA M13 t0 4 r12) (fun M15 => gk (gn M15 + 2) 108 (ge (ln (gn M15 + 2)) 8 (gle (gn M15 + 1) nf (kM (gn M15 + 2) (fun r19 => kM (mS M15) (fun M20 => gl M20 t0 (kM (mA M20 t0 5 r19) (fun M22 => gk (gn M22 + 2) 7 (gle (gn M22 + 1) nf (kM (gn M22 + 2) (fun r25 => kM (mS M22) (fun M26 => gle (gn M26 + 2) nf (bnd (f_Val_init (gn M26 + 2) r25 M26) (fun q27 M28 => gl M28 t0 (kM (mA M28 t0 6 r25) (fun M31 => gl M31 t0 (kM (mI M31 t0 9 ((-1))) (fun M33 => gl M33 t0 (kM (mA M33 t0 0 a1) (fun M35 => gl M35 t0 (kM (mA M35 t0 1 a2) (fun M37 => gl M37 t0 (kM (mA M37 t0 2 a3) (fun M39 => f_Gate_init_65 nf 64 t0 0 M39))))))))))))))))))))))))))))))))))))))
def f_Gate_init (nf : Nat) (t0 : Nat) (a1 : Nat) (a2 : Nat) (a3 : Nat) (M : ax_M) : Option (Unit × ax_M) := nfw nf M (fi_Gate_init nf t0 a1 a2 a3 M)
theorem cnt_Gate_init {nf : Nat} {t0 : Nat} {a1 : Nat} {a2 : Nat} {a3 : Nat} {M : ax_M} {r : Unit} {M' : ax_M} (h : f_Gate_init nf t0 a1 a2 a3 M = some (r, M')) : gn M' = nf := (nfw_out h).1
set_option maxHeartbeats 4000000 in
set_option maxRecDepth 100000 in
theorem c_Gate_init {l : Launch} {g : ax_G} {nf : Nat} {t0 : Nat} {a1 : Nat} {a2 : Nat} {a3 : Nat} {M : ax_M} {r : Unit} {M' : ax_M} (h : f_Gate_init nf t0 a1 a2 a3 M = some (r, M')) : Ctr l g false Y_Gate_init 3 [vA t0, vA a1, vA a2, vA a3] M (none, M') := by
  obtain ⟨hnf, hle, h⟩ := nfw_out h
  refine Ctr.ofAW yok_Gate_init (Nat.le_of_ble_eq_true rfl) (Or.inr (by rw [hnf]; exact hle)) ?_
  show AW l g false Y_Gate_init 3 (none, M') 0 [(0, vA t0), (1, vA a1), (2, vA a2), (3, vA a3)] [] M
  unfold fi_Gate_init at h
  refine A_aload_n 0 rfl rfl rfl ?_
  obtain ⟨hg1, h⟩ := gk_out h
  refine A_objInit rfl (inWG 325 (by decide +kernel) (by decide +kernel)) (inWG 119 (by decide +kernel) (by decide +kernel)) (inWG 120 (by decide +kernel) (by decide +kernel)) (fun z => absurd hg1 (by rw [z]; decide)) (by decide) (Nat.le_of_ble_eq_true rfl) ?_
  refine A_aload_n 0 rfl rfl rfl ?_
  refine A_bipush (v := 8) rfl (by decide) ?_
  obtain ⟨hg2, h⟩ := gk_out h
  obtain ⟨hg3, h⟩ := ge_out h
  obtain ⟨hg4, h⟩ := gle_out h
  obtain ⟨r5, hr5, h⟩ := kM_out h
  refine A_anew (t := 6) (n := 8) rfl (inWG 326 (by decide +kernel) (by decide +kernel)) (by decide) ⟨by decide, by decide, rfl⟩ hg2 hg3 ⟨by decide, by decide, by decide⟩ (by rw [hnf]; exact hg4) ?_
  refine A_nA hr5 ?_
  obtain ⟨M6, hM6, h⟩ := kM_out h
  refine A_mem hM6 ?_
  refine A_pc (pc' := 10) rfl ?_
  obtain ⟨hg7, h⟩ := gl_out h
  refine A_putA rfl (Or.inr ⟨ff_Gate_11, rfl⟩) rfl hg1 (Or.inr hg7) rfl (Or.inl rfl) ?_
  obtain ⟨M8, hM8, h⟩ := kM_out h
  refine A_mem hM8 ?_
  refine A_aload_n 0 rfl rfl rfl ?_
  refine A_bipush (v := 10) rfl (by decide) ?_
  obtain ⟨hg9, h⟩ := gk_out h
  obtain ⟨hg10, h⟩ := ge_out h
  obtain ⟨hg11, h⟩ := gle_out h
  obtain ⟨r12, hr12, h⟩ := kM_out h
  refine A_anew (t := 7) (n := 10) rfl (inWG 328 (by decide +kernel) (by decide +kernel)) (by decide) ⟨by decide, by decide, rfl⟩ hg9 hg10 ⟨by decide, by decide, by decide⟩ (by rw [hnf]; exact hg11) ?_
  refine A_nA hr12 ?_
  obtain ⟨M13, hM13, h⟩ := kM_out h
  refine A_mem hM13 ?_
  obtain ⟨hg14, h⟩ := gl_out h
  refine A_putA rfl (Or.inr ⟨ff_Gate_19, rfl⟩) rfl hg1 (Or.inr hg14) rfl (Or.inl rfl) ?_
  obtain ⟨M15, hM15, h⟩ := kM_out h
  refine A_mem hM15 ?_
  refine A_aload_n 0 rfl rfl rfl ?_
  refine A_pc (pc' := 23) rfl ?_
  refine A_bipush (v := 8) rfl (by decide) ?_
  obtain ⟨hg16, h⟩ := gk_out h
  obtain ⟨hg17, h⟩ := ge_out h
  obtain ⟨hg18, h⟩ := gle_out h
  obtain ⟨r19, hr19, h⟩ := kM_out h
  refine A_anew (t := 8) (n := 8) rfl (inWG 330 (by decide +kernel) (by decide +kernel)) (by decide) ⟨by decide, by decide, rfl⟩ hg16 hg17 ⟨by decide, by decide, by decide⟩ (by rw [hnf]; exact hg18) ?_
  refine A_nA hr19 ?_
  obtain ⟨M20, hM20, h⟩ := kM_out h
  refine A_mem hM20 ?_
  obtain ⟨hg21, h⟩ := gl_out h
  refine A_putA rfl (Or.inr ⟨ff_Gate_25, rfl⟩) rfl hg1 (Or.inr hg21) rfl (Or.inl rfl) ?_
  obtain ⟨M22, hM22, h⟩ := kM_out h
  refine A_mem hM22 ?_
  refine A_aload_n 0 rfl rfl rfl ?_
  obtain ⟨hg23, h⟩ := gk_out h
  obtain ⟨hg24, h⟩ := gle_out h
  obtain ⟨r25, hr25, h⟩ := kM_out h
  refine A_new rfl cls_Val (inWG 332 (by decide +kernel) (by decide +kernel)) (inWG 262 (by decide +kernel) (by decide +kernel)) (inWG 103 (by decide +kernel) (by decide +kernel)) (by decide) hg23 (by rw [hnf]; exact hg24) ?_
  refine A_nA hr25 ?_
  obtain ⟨M26, hM26, h⟩ := kM_out h
  refine A_mem hM26 ?_
  refine A_dup rfl rfl ?_
  refine A_pc (pc' := 36) rfl ?_
  obtain ⟨hg29, h⟩ := gle_out h
  obtain ⟨q27, M28, hcq27, h⟩ := bnd_out h
  refine A_callI (as := []) (st' := [vA r25, vA t0]) (r1 := (none, M28)) rfl ml_Gate_31 (fun z => absurd (hr25 ▸ hg23) (by rw [z]; decide)) rfl rfl rfl (Nat.le_of_ble_eq_true rfl) (by decide) (c_Val_init hcq27) (Or.inr (by rw [hnf, cnt_Val_init hcq27]; exact hg29)) ?_
  refine A_pc (pc' := 39) rfl ?_
  refine A_stk (st' := [vA r25, vA t0]) rfl ?_
  obtain ⟨hg30, h⟩ := gl_out h
  refine A_putA rfl (Or.inr ⟨ff_Gate_32, rfl⟩) rfl hg1 (Or.inr hg30) rfl (Or.inl rfl) ?_
  obtain ⟨M31, hM31, h⟩ := kM_out h
  refine A_mem hM31 ?_
  refine A_aload_n 0 rfl rfl rfl ?_
  refine A_iconst (v := (-1)) rfl (by decide) ?_
  obtain ⟨hg32, h⟩ := gl_out h
  refine A_putI rfl (Or.inl fl_Gate_36) rfl hg1 (Or.inr hg32) rfl ?_
  obtain ⟨M33, hM33, h⟩ := kM_out h
  refine A_mem hM33 ?_
  refine A_aload_n 0 rfl rfl rfl ?_
  refine A_pc (pc' := 48) rfl ?_
  refine A_aload_n 1 rfl rfl rfl ?_
  obtain ⟨hg34, h⟩ := gl_out h
  refine A_putA rfl (Or.inr ⟨ff_Gate_40, rfl⟩) rfl hg1 (Or.inr hg34) rfl (Or.inl rfl) ?_
  obtain ⟨M35, hM35, h⟩ := kM_out h
  refine A_mem hM35 ?_
  refine A_aload_n 0 rfl rfl rfl ?_
  refine A_aload_n 2 rfl rfl rfl ?_
  obtain ⟨hg36, h⟩ := gl_out h
  refine A_putA rfl (Or.inr ⟨ff_Gate_44, rfl⟩) rfl hg1 (Or.inr hg36) rfl (Or.inl rfl) ?_
  obtain ⟨M37, hM37, h⟩ := kM_out h
  refine A_mem hM37 ?_
  refine A_aload_n 0 rfl rfl rfl ?_
  refine A_pc (pc' := 58) rfl ?_
  refine A_aload_n 3 rfl rfl rfl ?_
  obtain ⟨hg38, h⟩ := gl_out h
  refine A_putA rfl (Or.inr ⟨ff_Gate_48, rfl⟩) rfl hg1 (Or.inr hg38) rfl (Or.inl rfl) ?_
  obtain ⟨M39, hM39, h⟩ := kM_out h
  refine A_mem hM39 ?_
  refine A_iconst (v := 0) rfl (by decide) ?_
  refine A_istore (Ls' := [(4, vI 0), (0, vA t0), (1, vA a1), (2, vA a2), (3, vA a3)]) rfl (by decide) rfl ?_
  refine A_pc (pc' := 65) rfl ?_
  refine A_sub (Ls' := [(0, vA t0), (4, vI 0)]) [1, 0] rfl ?_
  exact o_Gate_init_65 nf  _ _ _ _ _ _ hnf h
def tb_MW_init : List (Nat × Instr × Nat) := [(0, .aload_n 0, 1), (1, .invokespecial 1, 3), (4, .aload_n 0, 1), (5, .new 7, 3), (8, .dup, 1), (9, .invokespecial 9, 3), (12, .putfield 10, 3), (15, .aload_n 0, 1), (16, .new 16, 3), (19, .dup, 1), (20, .invokespecial 18, 3), (23, .putfield 19, 3), (26, .aload_n 0, 1), (27, .bipush 8, 2), (29, .anewarray 23, 3), (32, .putfield 25, 3), (35, .iconst 0, 1), (36, .istore_n 1, 1), (37, .iload_n 1, 1), (38, .bipush 8, 2), (40, .if_icmp .ge 22, 3), (43, .aload_n 0, 1), (44, .getfield 25, 3), (47, .iload_n 1, 1), (48, .new 23, 3), (51, .dup, 1), (52, .invokespecial 29, 3), (55, .aastore, 1), (56, .iinc 1 1, 3), (59, .goto (-22), 3), (62, .aload_n 0, 1), (63, .new 23, 3), (66, .dup, 1), (67, .invokespecial 29, 3), (70, .putfield 30, 3), (73, .aload_n 0, 1), (74, .new 34, 3), (77, .dup, 1), (78, .invokespecial 36, 3), (81, .putfield 37, 3), (84, .aload_n 0, 1), (85, .new 41, 3), (88, .dup, 1), (89, .invokespecial 43, 3), (92, .putfield 44, 3), (95, .aload_n 0, 1), (96, .new 48, 3), (99, .dup, 1), (100, .aload_n 0, 1), (101, .getfield 37, 3), (104, .aload_n 0, 1), (105, .getfield 44, 3), (108, .aload_n 0, 1), (109, .getfield 30, 3), (112, .invokespecial 50, 3), (115, .putfield 53, 3), (118, .aload_n 0, 1), (119, .new 57, 3), (122, .dup, 1), (123, .aload_n 0, 1), (124, .getfield 37, 3), (127, .aload_n 0, 1), (128, .getfield 53, 3), (131, .aload_n 0, 1), (132, .getfield 25, 3), (135, .invokespecial 59, 3), (138, .putfield 62, 3), (141, .return_, 1)]
def Y_MW_init : ax_Y := (⟨"MethodWarden", "<init>", "()V"⟩, prog_1_method_1_code, 2, none, tb_MW_init)
theorem yok_MW_init : yOK Y_MW_init := ⟨by decide +kernel, by decide +kernel, inWG 117 (by decide +kernel) (by decide +kernel), inWG 96 (by decide +kernel) (by decide +kernel), by decide +kernel⟩
theorem ff_MW_10 : fldFin "MethodWarden" 10 0 0 := ⟨_, _, cls_MW, by decide, by decide, rfl, inWG 415 (by decide +kernel) (by decide +kernel)⟩
theorem ff_MW_19 : fldFin "MethodWarden" 19 0 1 := ⟨_, _, cls_MW, by decide, by decide, rfl, inWG 416 (by decide +kernel) (by decide +kernel)⟩
theorem ff_MW_25 : fldFin "MethodWarden" 25 0 2 := ⟨_, _, cls_MW, by decide, by decide, rfl, inWG 417 (by decide +kernel) (by decide +kernel)⟩
theorem ff_MW_37 : fldFin "MethodWarden" 37 0 4 := ⟨_, _, cls_MW, by decide, by decide, rfl, inWG 419 (by decide +kernel) (by decide +kernel)⟩
theorem ff_MW_44 : fldFin "MethodWarden" 44 0 5 := ⟨_, _, cls_MW, by decide, by decide, rfl, inWG 420 (by decide +kernel) (by decide +kernel)⟩
theorem ff_MW_53 : fldFin "MethodWarden" 53 0 6 := ⟨_, _, cls_MW, by decide, by decide, rfl, inWG 421 (by decide +kernel) (by decide +kernel)⟩
theorem ff_MW_62 : fldFin "MethodWarden" 62 0 7 := ⟨_, _, cls_MW, by decide, by decide, rfl, inWG 422 (by decide +kernel) (by decide +kernel)⟩
theorem ml_MW_9 : mlI "MethodWarden" 9 Y_Text_init 0 := ⟨⟨yok_Text_init, by decide +kernel, by decide⟩, Or.inr ⟨"MethodWarden", inNW 123 (by decide +kernel) (by decide +kernel)⟩, inWG 124 (by decide +kernel) (by decide +kernel), rfl⟩
theorem ml_MW_18 : mlI "MethodWarden" 18 Y_Reader_init 0 := ⟨⟨yok_Reader_init, by decide +kernel, by decide⟩, Or.inr ⟨"MethodWarden", inNW 153 (by decide +kernel) (by decide +kernel)⟩, inWG 154 (by decide +kernel) (by decide +kernel), rfl⟩
theorem ml_MW_29 : mlI "MethodWarden" 29 Y_Expr_init 0 := ⟨⟨yok_Expr_init, by decide +kernel, by decide⟩, Or.inr ⟨"MethodWarden", inNW 186 (by decide +kernel) (by decide +kernel)⟩, inWG 187 (by decide +kernel) (by decide +kernel), rfl⟩
theorem ml_MW_36 : mlI "MethodWarden" 36 Y_Ctx_init 0 := ⟨⟨yok_Ctx_init, by decide +kernel, by decide⟩, Or.inl (inWG 218 (by decide +kernel) (by decide +kernel)), inWG 219 (by decide +kernel) (by decide +kernel), rfl⟩
theorem ml_MW_43 : mlI "MethodWarden" 43 Y_Items_init 0 := ⟨⟨yok_Items_init, by decide +kernel, by decide⟩, Or.inr ⟨"MethodWarden", inNW 241 (by decide +kernel) (by decide +kernel)⟩, inWG 242 (by decide +kernel) (by decide +kernel), rfl⟩
theorem ml_MW_50 : mlI "MethodWarden" 50 Y_Worker_init 3 := ⟨⟨yok_Worker_init, by decide +kernel, by decide⟩, Or.inl (inWG 256 (by decide +kernel) (by decide +kernel)), inWG 257 (by decide +kernel) (by decide +kernel), rfl⟩
theorem ml_MW_59 : mlI "MethodWarden" 59 Y_Gate_init 3 := ⟨⟨yok_Gate_init, by decide +kernel, by decide⟩, Or.inl (inWG 322 (by decide +kernel) (by decide +kernel)), inWG 323 (by decide +kernel) (by decide +kernel), rfl⟩
def f_MW_init_37_b (nf : Nat) (K37 : Nat → Int32 → ax_M → Option (Unit × ax_M)) (l0 : Nat) (l1 : Int32) (M : ax_M) : Option (Unit × ax_M) :=
  if 8 ≤ l1 then (gk (gn M + 2) 3 (gle (gn M + 1) nf (kM (gn M + 2) (fun r30 => kM (mS M) (fun M31 => gle (gn M31 + 5) nf (bnd (f_Expr_init (gn M31 + 5) r30 M31) (fun q32 M33 => gk l0 0 (gl M33 l0 (kM (mA M33 l0 3 r30) (fun M37 => gk (gn M37 + 2) 4 (gle (gn M37 + 1) nf (kM (gn M37 + 2) (fun r40 => kM (mS M37) (fun M41 => gle (gn M41 + 2) nf (bnd (f_Ctx_init (gn M41 + 2) r40 M41) (fun q42 M43 => gl M43 l0 (kM (mA M43 l0 4 r40) (fun M46 => gk (gn M46 + 2) 5 (gle (gn M46 + 1) nf (kM (gn M46 + 2) (fun r49 => kM (mS M46) (fun M50 => gle (gn M50 + 1) nf (bnd (f_Items_init (gn M50 + 1) r49 M50) (fun q51 M52 => gl M52 l0 (kM (mA M52 l0 5 r49) (fun M55 => gk (gn M55 + 2) 6 (gle (gn M55 + 1) nf (kM (gn M55 + 2) (fun r58 => kM (mS M55) (fun M59 => gl M59 l0 (kM (gA M59 l0 4) (fun r61 => kM (gA M59 l0 5) (fun r62 => kM (gA M59 l0 3) (fun r63 => gle (gn M59 + 66) nf (bnd (f_Worker_init (gn M59 + 66) r58 r61 r62 r63 M59) (fun q64 M65 => gl M65 l0 (kM (mA M65 l0 6 r58) (fun M68 => gk (gn M68 + 2) 8 (gle (gn M68 + 1) nf (kM (gn M68 + 2) (fun r71 => kM (mS M68) (fun M72 => gl M72 l0 (kM (gA M72 l0 4) (fun r74 => kM (gA M72 l0 6) (fun r75 => kM (gA M72 l0 2) (fun r76 => gle (gn M72 + 48) nf (bnd (f_Gate_init (gn M72 + 48) r71 r74 r75 r76 M72) (fun q77 M78 => gl M78 l0 (kM (mA M78 l0 7 r71) (fun M81 => some ((), M81))))))))))))))))))))))))))))))))))))))))))))))))))) else (gk l0 0 (gl M l0 (kM (gA M l0 2) (fun r84 => gk (gn M + 2) 3 (gle (gn M + 1) nf (kM (gn M + 2) (fun r87 => kM (mS M) (fun M88 => gle (gn M88 + 5) nf (bnd (f_Expr_init (gn M88 + 5) r87 M88) (fun q89 M90 => gk r84 104 (ge (ln r84) 8 (gi l1 8 (gl M90 r84 (gl M90 r87 (kM (mA M90 r84 l1.toNatClampNeg r87) (fun M97 => kM (l1 + 1) (fun x98 => K37 l0 x98 M97)))))))))))))))))
def f_MW_init_37 (nf : Nat) : Nat → Nat → Int32 → ax_M → Option (Unit × ax_M)
  | 0, _, _, _ => none
  | n + 1, l0, l1, M => f_MW_init_37_b nf  (f_MW_init_37 nf n) l0 l1 M
set_option maxHeartbeats 4000000 in
set_option maxRecDepth 100000 in
theorem o_MW_init_37_b {l : Launch} {g : ax_G} (nf : Nat) (K37 : Nat → Int32 → ax_M → Option (Unit × ax_M)) (hK37 : ∀ (l0 : Nat) (l1 : Int32) (M : ax_M) (r : Unit) (M' : ax_M), gn M' = nf → K37 l0 l1 M = some (r, M') → AW l g false Y_MW_init 4 (none, M') 37 [(0, vA l0), (1, vI l1)] [] M) (l0 : Nat) (l1 : Int32) (M : ax_M) (r : Unit) (M' : ax_M) (hnf : gn M' = nf) (h : f_MW_init_37_b nf  K37 l0 l1 M = some (r, M')) : AW l g false Y_MW_init 4 (none, M') 37 [(0, vA l0), (1, vI l1)] [] M := by
  unfold f_MW_init_37_b at h
  refine A_iload_n 1 rfl rfl rfl ?_
  refine A_bipush (v := 8) rfl (by decide) ?_
  refine A_icmp_ge (tgt := 62) rfl (by decide) (fun hc27 => ?_) (fun hc27 => ?_)
  · rw [if_pos hc27] at h
    refine A_aload_n 0 rfl rfl rfl ?_
    obtain ⟨hg28, h⟩ := gk_out h
    obtain ⟨hg29, h⟩ := gle_out h
    obtain ⟨r30, hr30, h⟩ := kM_out h
    refine A_new rfl cls_Expr (inWG 183 (by decide +kernel) (by decide +kernel)) (inWG 185 (by decide +kernel) (by decide +kernel)) (inWG 99 (by decide +kernel) (by decide +kernel)) (by decide) hg28 (by rw [hnf]; exact hg29) ?_
    refine A_nA hr30 ?_
    obtain ⟨M31, hM31, h⟩ := kM_out h
    refine A_mem hM31 ?_
    refine A_dup rfl rfl ?_
    obtain ⟨hg34, h⟩ := gle_out h
    obtain ⟨q32, M33, hcq32, h⟩ := bnd_out h
    refine A_callI (as := []) (st' := [vA r30, vA l0]) (r1 := (none, M33)) rfl ml_MW_29 (fun z => absurd (hr30 ▸ hg28) (by rw [z]; decide)) rfl rfl rfl (Nat.le_of_ble_eq_true rfl) (by decide) (c_Expr_init hcq32) (Or.inr (by rw [hnf, cnt_Expr_init hcq32]; exact hg34)) ?_
    refine A_pc (pc' := 70) rfl ?_
    refine A_stk (st' := [vA r30, vA l0]) rfl ?_
    obtain ⟨hg35, h⟩ := gk_out h
    obtain ⟨hg36, h⟩ := gl_out h
    refine A_putA rfl (Or.inl fl_MW_30) rfl hg35 (Or.inr hg36) rfl (Or.inl rfl) ?_
    obtain ⟨M37, hM37, h⟩ := kM_out h
    refine A_mem hM37 ?_
    refine A_pc (pc' := 73) rfl ?_
    refine A_aload_n 0 rfl rfl rfl ?_
    obtain ⟨hg38, h⟩ := gk_out h
    obtain ⟨hg39, h⟩ := gle_out h
    obtain ⟨r40, hr40, h⟩ := kM_out h
    refine A_new rfl cls_Ctx (inWG 216 (by decide +kernel) (by decide +kernel)) (inWG 217 (by decide +kernel) (by decide +kernel)) (inWG 100 (by decide +kernel) (by decide +kernel)) (by decide) hg38 (by rw [hnf]; exact hg39) ?_
    refine A_nA hr40 ?_
    obtain ⟨M41, hM41, h⟩ := kM_out h
    refine A_mem hM41 ?_
    refine A_dup rfl rfl ?_
    obtain ⟨hg44, h⟩ := gle_out h
    obtain ⟨q42, M43, hcq42, h⟩ := bnd_out h
    refine A_callI (as := []) (st' := [vA r40, vA l0]) (r1 := (none, M43)) rfl ml_MW_36 (fun z => absurd (hr40 ▸ hg38) (by rw [z]; decide)) rfl rfl rfl (Nat.le_of_ble_eq_true rfl) (by decide) (c_Ctx_init hcq42) (Or.inr (by rw [hnf, cnt_Ctx_init hcq42]; exact hg44)) ?_
    refine A_pc (pc' := 81) rfl ?_
    refine A_stk (st' := [vA r40, vA l0]) rfl ?_
    obtain ⟨hg45, h⟩ := gl_out h
    refine A_putA rfl (Or.inr ⟨ff_MW_37, rfl⟩) rfl hg35 (Or.inr hg45) rfl (Or.inl rfl) ?_
    obtain ⟨M46, hM46, h⟩ := kM_out h
    refine A_mem hM46 ?_
    refine A_aload_n 0 rfl rfl rfl ?_
    refine A_pc (pc' := 85) rfl ?_
    obtain ⟨hg47, h⟩ := gk_out h
    obtain ⟨hg48, h⟩ := gle_out h
    obtain ⟨r49, hr49, h⟩ := kM_out h
    refine A_new rfl cls_Items (inWG 239 (by decide +kernel) (by decide +kernel)) (inWG 240 (by decide +kernel) (by decide +kernel)) (inWG 101 (by decide +kernel) (by decide +kernel)) (by decide) hg47 (by rw [hnf]; exact hg48) ?_
    refine A_nA hr49 ?_
    obtain ⟨M50, hM50, h⟩ := kM_out h
    refine A_mem hM50 ?_
    refine A_dup rfl rfl ?_
    obtain ⟨hg53, h⟩ := gle_out h
    obtain ⟨q51, M52, hcq51, h⟩ := bnd_out h
    refine A_callI (as := []) (st' := [vA r49, vA l0]) (r1 := (none, M52)) rfl ml_MW_43 (fun z => absurd (hr49 ▸ hg47) (by rw [z]; decide)) rfl rfl rfl (Nat.le_of_ble_eq_true rfl) (by decide) (c_Items_init hcq51) (Or.inr (by rw [hnf, cnt_Items_init hcq51]; exact hg53)) ?_
    refine A_pc (pc' := 92) rfl ?_
    refine A_stk (st' := [vA r49, vA l0]) rfl ?_
    obtain ⟨hg54, h⟩ := gl_out h
    refine A_putA rfl (Or.inr ⟨ff_MW_44, rfl⟩) rfl hg35 (Or.inr hg54) rfl (Or.inl rfl) ?_
    obtain ⟨M55, hM55, h⟩ := kM_out h
    refine A_mem hM55 ?_
    refine A_aload_n 0 rfl rfl rfl ?_
    obtain ⟨hg56, h⟩ := gk_out h
    obtain ⟨hg57, h⟩ := gle_out h
    obtain ⟨r58, hr58, h⟩ := kM_out h
    refine A_new rfl cls_Worker (inWG 254 (by decide +kernel) (by decide +kernel)) (inWG 255 (by decide +kernel) (by decide +kernel)) (inWG 102 (by decide +kernel) (by decide +kernel)) (by decide) hg56 (by rw [hnf]; exact hg57) ?_
    refine A_nA hr58 ?_
    obtain ⟨M59, hM59, h⟩ := kM_out h
    refine A_mem hM59 ?_
    refine A_pc (pc' := 99) rfl ?_
    refine A_dup rfl rfl ?_
    refine A_aload_n 0 rfl rfl rfl ?_
    obtain ⟨hg60, h⟩ := gl_out h
    refine A_getA rfl fl_MW_37 rfl hg35 (Or.inr hg60) ?_
    obtain ⟨r61, hr61, h⟩ := kM_out h
    refine A_nA hr61 ?_
    refine A_aload_n 0 rfl rfl rfl ?_
    refine A_getA rfl fl_MW_44 rfl hg35 (Or.inr hg60) ?_
    obtain ⟨r62, hr62, h⟩ := kM_out h
    refine A_nA hr62 ?_
    refine A_aload_n 0 rfl rfl rfl ?_
    refine A_pc (pc' := 109) rfl ?_
    refine A_getA rfl fl_MW_30 rfl hg35 (Or.inr hg60) ?_
    obtain ⟨r63, hr63, h⟩ := kM_out h
    refine A_nA hr63 ?_
    obtain ⟨hg66, h⟩ := gle_out h
    obtain ⟨q64, M65, hcq64, h⟩ := bnd_out h
    refine A_callI (as := [vA r61, vA r62, vA r63]) (st' := [vA r58, vA l0]) (r1 := (none, M65)) rfl ml_MW_50 (fun z => absurd (hr58 ▸ hg56) (by rw [z]; decide)) rfl rfl rfl (Nat.le_of_ble_eq_true rfl) (by decide) (c_Worker_init hcq64) (Or.inr (by rw [hnf, cnt_Worker_init hcq64]; exact hg66)) ?_
    refine A_pc (pc' := 115) rfl ?_
    refine A_stk (st' := [vA r58, vA l0]) rfl ?_
    obtain ⟨hg67, h⟩ := gl_out h
    refine A_putA rfl (Or.inr ⟨ff_MW_53, rfl⟩) rfl hg35 (Or.inr hg67) rfl (Or.inl rfl) ?_
    obtain ⟨M68, hM68, h⟩ := kM_out h
    refine A_mem hM68 ?_
    refine A_aload_n 0 rfl rfl rfl ?_
    obtain ⟨hg69, h⟩ := gk_out h
    obtain ⟨hg70, h⟩ := gle_out h
    obtain ⟨r71, hr71, h⟩ := kM_out h
    refine A_new rfl cls_Gate (inWG 320 (by decide +kernel) (by decide +kernel)) (inWG 321 (by decide +kernel) (by decide +kernel)) (inWG 104 (by decide +kernel) (by decide +kernel)) (by decide) hg69 (by rw [hnf]; exact hg70) ?_
    refine A_nA hr71 ?_
    obtain ⟨M72, hM72, h⟩ := kM_out h
    refine A_mem hM72 ?_
    refine A_dup rfl rfl ?_
    refine A_pc (pc' := 123) rfl ?_
    refine A_aload_n 0 rfl rfl rfl ?_
    obtain ⟨hg73, h⟩ := gl_out h
    refine A_getA rfl fl_MW_37 rfl hg35 (Or.inr hg73) ?_
    obtain ⟨r74, hr74, h⟩ := kM_out h
    refine A_nA hr74 ?_
    refine A_aload_n 0 rfl rfl rfl ?_
    refine A_getA rfl fl_MW_53 rfl hg35 (Or.inr hg73) ?_
    obtain ⟨r75, hr75, h⟩ := kM_out h
    refine A_nA hr75 ?_
    refine A_aload_n 0 rfl rfl rfl ?_
    refine A_getA rfl fl_MW_25 rfl hg35 (Or.inr hg73) ?_
    obtain ⟨r76, hr76, h⟩ := kM_out h
    refine A_nA hr76 ?_
    refine A_pc (pc' := 135) rfl ?_
    obtain ⟨hg79, h⟩ := gle_out h
    obtain ⟨q77, M78, hcq77, h⟩ := bnd_out h
    refine A_callI (as := [vA r74, vA r75, vA r76]) (st' := [vA r71, vA l0]) (r1 := (none, M78)) rfl ml_MW_59 (fun z => absurd (hr71 ▸ hg69) (by rw [z]; decide)) rfl rfl rfl (Nat.le_of_ble_eq_true rfl) (by decide) (c_Gate_init hcq77) (Or.inr (by rw [hnf, cnt_Gate_init hcq77]; exact hg79)) ?_
    refine A_pc (pc' := 138) rfl ?_
    refine A_stk (st' := [vA r71, vA l0]) rfl ?_
    obtain ⟨hg80, h⟩ := gl_out h
    refine A_putA rfl (Or.inr ⟨ff_MW_62, rfl⟩) rfl hg35 (Or.inr hg80) rfl (Or.inl rfl) ?_
    obtain ⟨M81, hM81, h⟩ := kM_out h
    refine A_mem hM81 ?_
    obtain ⟨rfl, rfl⟩ := leaf h
    exact A_vret rfl rfl
  · rw [if_neg hc27] at h
    refine A_pc (pc' := 43) rfl ?_
    refine A_aload_n 0 rfl rfl rfl ?_
    obtain ⟨hg82, h⟩ := gk_out h
    obtain ⟨hg83, h⟩ := gl_out h
    refine A_getA rfl fl_MW_25 rfl hg82 (Or.inr hg83) ?_
    obtain ⟨r84, hr84, h⟩ := kM_out h
    refine A_nA hr84 ?_
    refine A_iload_n 1 rfl rfl rfl ?_
    obtain ⟨hg85, h⟩ := gk_out h
    obtain ⟨hg86, h⟩ := gle_out h
    obtain ⟨r87, hr87, h⟩ := kM_out h
    refine A_new rfl cls_Expr (inWG 183 (by decide +kernel) (by decide +kernel)) (inWG 185 (by decide +kernel) (by decide +kernel)) (inWG 99 (by decide +kernel) (by decide +kernel)) (by decide) hg85 (by rw [hnf]; exact hg86) ?_
    refine A_nA hr87 ?_
    obtain ⟨M88, hM88, h⟩ := kM_out h
    refine A_mem hM88 ?_
    refine A_dup rfl rfl ?_
    refine A_pc (pc' := 52) rfl ?_
    obtain ⟨hg91, h⟩ := gle_out h
    obtain ⟨q89, M90, hcq89, h⟩ := bnd_out h
    refine A_callI (as := []) (st' := [vA r87, vI l1, vA r84]) (r1 := (none, M90)) rfl ml_MW_29 (fun z => absurd (hr87 ▸ hg85) (by rw [z]; decide)) rfl rfl rfl (Nat.le_of_ble_eq_true rfl) (by decide) (c_Expr_init hcq89) (Or.inr (by rw [hnf, cnt_Expr_init hcq89]; exact hg91)) ?_
    refine A_pc (pc' := 55) rfl ?_
    refine A_stk (st' := [vA r87, vI l1, vA r84]) rfl ?_
    obtain ⟨hg92, h⟩ := gk_out h
    obtain ⟨hg93, h⟩ := ge_out h
    obtain ⟨hg94, h⟩ := gi_out h
    obtain ⟨hg95, h⟩ := gl_out h
    obtain ⟨hg96, h⟩ := gl_out h
    refine A_aast (t := 4) (n := 8) rfl hg92 ⟨by decide, by decide, rfl⟩ hg93 (Or.inr hg95) hg94 cls_Expr (hr87 ▸ hg85) (Or.inr hg96) (Or.inl rfl) ?_
    obtain ⟨M97, hM97, h⟩ := kM_out h
    refine A_mem hM97 ?_
    obtain ⟨x98, hx98, h⟩ := kM_out h
    refine A_iinc 1 (v := x98) (Ls' := [(1, vI x98), (0, vA l0)]) rfl rfl ((iiN (k := 1) (by decide) _).trans hx98) (by decide) rfl ?_
    refine A_goto (tgt := 37) rfl (by decide) ?_
    refine A_pc (pc' := 37) rfl ?_
    refine A_sub (Ls' := [(0, vA l0), (1, vI x98)]) [1, 0] rfl ?_
    exact hK37 _ _ _ _ _ hnf h
theorem o_MW_init_37 {l : Launch} {g : ax_G} (nf : Nat) : ∀ (n : Nat) (l0 : Nat) (l1 : Int32) (M : ax_M) (r : Unit) (M' : ax_M), gn M' = nf → f_MW_init_37 nf  n l0 l1 M = some (r, M') → AW l g false Y_MW_init 4 (none, M') 37 [(0, vA l0), (1, vI l1)] [] M := by
  intro n
  induction n with
  | zero =>
    intro l0 l1 M r M' hnf h
    cases h
  | succ n ih =>
    intro l0 l1 M r M' hnf h
    exact o_MW_init_37_b nf  _ ih _ _ _ _ _ hnf h
set_option maxRecDepth 100000 in
def fi_MW_init (nf : Nat) (t0 : Nat) (M : ax_M) : Option (Unit × ax_M) :=
  gk t0 0 (gk (gn M + 2) 1 (gle (gn M + 1) nf (kM (gn M + 2) (fun r4 => kM (mS M) (fun M5 => gle (gn M5 + 1) nf (bnd (f_Text_init (gn M5 + 1) r4 M5) (fun q6 M7 => gl M7 t0 (kM (mA M7 t0 0 r4) (fun M10 => gk (gn M10 + 2) 2 (gle (gn M10 + 1) nf (kM (gn M10 + 2) (fun r13 => kM (mS M10) (fun M14 => gle (gn M14 + 2) nf (bnd (f_Reader_init (gn M14 + 2) r13 M14) (fun q15 M16 => gl M16 t0 (kM (mA M16 t0 1 r13) (fun M19 => gk (gn M19 + 2) 104 (ge (ln (gn M19 + 2)) 8 (gle (gn M19 + 1) nf (kM (gn M19 + 2) (fun r23 => kM (mS M19) (fun M24 => gl M24 t0 (kM (mA M24 t0 2 r23) (fun M26 => f_MW_init_37 nf 64 t0 0 M26))))))))))))))))))))))))
def f_MW_init (nf : Nat) (t0 : Nat) (M : ax_M) : Option (Unit × ax_M) := nfw nf M (fi_MW_init nf t0 M)
theorem cnt_MW_init {nf : Nat} {t0 : Nat} {M : ax_M} {r : Unit} {M' : ax_M} (h : f_MW_init nf t0 M = some (r, M')) : gn M' = nf := (nfw_out h).1
set_option maxHeartbeats 4000000 in
set_option maxRecDepth 100000 in
theorem c_MW_init {l : Launch} {g : ax_G} {nf : Nat} {t0 : Nat} {M : ax_M} {r : Unit} {M' : ax_M} (h : f_MW_init nf t0 M = some (r, M')) : Ctr l g false Y_MW_init 4 [vA t0] M (none, M') := by
  obtain ⟨hnf, hle, h⟩ := nfw_out h
  refine Ctr.ofAW yok_MW_init (Nat.le_of_ble_eq_true rfl) (Or.inr (by rw [hnf]; exact hle)) ?_
  show AW l g false Y_MW_init 4 (none, M') 0 [(0, vA t0)] [] M
  unfold fi_MW_init at h
  refine A_aload_n 0 rfl rfl rfl ?_
  obtain ⟨hg1, h⟩ := gk_out h
  refine A_objInit rfl (inWG 118 (by decide +kernel) (by decide +kernel)) (inWG 119 (by decide +kernel) (by decide +kernel)) (inWG 120 (by decide +kernel) (by decide +kernel)) (fun z => absurd hg1 (by rw [z]; decide)) (by decide) (Nat.le_of_ble_eq_true rfl) ?_
  refine A_aload_n 0 rfl rfl rfl ?_
  obtain ⟨hg2, h⟩ := gk_out h
  obtain ⟨hg3, h⟩ := gle_out h
  obtain ⟨r4, hr4, h⟩ := kM_out h
  refine A_new rfl cls_Text (inWG 121 (by decide +kernel) (by decide +kernel)) (inWG 122 (by decide +kernel) (by decide +kernel)) (inWG 97 (by decide +kernel) (by decide +kernel)) (by decide) hg2 (by rw [hnf]; exact hg3) ?_
  refine A_nA hr4 ?_
  obtain ⟨M5, hM5, h⟩ := kM_out h
  refine A_mem hM5 ?_
  refine A_dup rfl rfl ?_
  refine A_pc (pc' := 9) rfl ?_
  obtain ⟨hg8, h⟩ := gle_out h
  obtain ⟨q6, M7, hcq6, h⟩ := bnd_out h
  refine A_callI (as := []) (st' := [vA r4, vA t0]) (r1 := (none, M7)) rfl ml_MW_9 (fun z => absurd (hr4 ▸ hg2) (by rw [z]; decide)) rfl rfl rfl (Nat.le_of_ble_eq_true rfl) (by decide) (c_Text_init hcq6) (Or.inr (by rw [hnf, cnt_Text_init hcq6]; exact hg8)) ?_
  refine A_pc (pc' := 12) rfl ?_
  refine A_stk (st' := [vA r4, vA t0]) rfl ?_
  obtain ⟨hg9, h⟩ := gl_out h
  refine A_putA rfl (Or.inr ⟨ff_MW_10, rfl⟩) rfl hg1 (Or.inr hg9) rfl (Or.inl rfl) ?_
  obtain ⟨M10, hM10, h⟩ := kM_out h
  refine A_mem hM10 ?_
  refine A_aload_n 0 rfl rfl rfl ?_
  obtain ⟨hg11, h⟩ := gk_out h
  obtain ⟨hg12, h⟩ := gle_out h
  obtain ⟨r13, hr13, h⟩ := kM_out h
  refine A_new rfl cls_Reader (inWG 151 (by decide +kernel) (by decide +kernel)) (inWG 152 (by decide +kernel) (by decide +kernel)) (inWG 98 (by decide +kernel) (by decide +kernel)) (by decide) hg11 (by rw [hnf]; exact hg12) ?_
  refine A_nA hr13 ?_
  obtain ⟨M14, hM14, h⟩ := kM_out h
  refine A_mem hM14 ?_
  refine A_dup rfl rfl ?_
  obtain ⟨hg17, h⟩ := gle_out h
  obtain ⟨q15, M16, hcq15, h⟩ := bnd_out h
  refine A_callI (as := []) (st' := [vA r13, vA t0]) (r1 := (none, M16)) rfl ml_MW_18 (fun z => absurd (hr13 ▸ hg11) (by rw [z]; decide)) rfl rfl rfl (Nat.le_of_ble_eq_true rfl) (by decide) (c_Reader_init hcq15) (Or.inr (by rw [hnf, cnt_Reader_init hcq15]; exact hg17)) ?_
  refine A_pc (pc' := 23) rfl ?_
  refine A_stk (st' := [vA r13, vA t0]) rfl ?_
  refine A_pc (pc' := 23) rfl ?_
  obtain ⟨hg18, h⟩ := gl_out h
  refine A_putA rfl (Or.inr ⟨ff_MW_19, rfl⟩) rfl hg1 (Or.inr hg18) rfl (Or.inl rfl) ?_
  obtain ⟨M19, hM19, h⟩ := kM_out h
  refine A_mem hM19 ?_
  refine A_aload_n 0 rfl rfl rfl ?_
  refine A_bipush (v := 8) rfl (by decide) ?_
  obtain ⟨hg20, h⟩ := gk_out h
  obtain ⟨hg21, h⟩ := ge_out h
  obtain ⟨hg22, h⟩ := gle_out h
  obtain ⟨r23, hr23, h⟩ := kM_out h
  refine A_anew (t := 4) (n := 8) rfl (inWG 183 (by decide +kernel) (by decide +kernel)) (by decide) ⟨by decide, by decide, rfl⟩ hg20 hg21 ⟨by decide, by decide, by decide⟩ (by rw [hnf]; exact hg22) ?_
  refine A_nA hr23 ?_
  obtain ⟨M24, hM24, h⟩ := kM_out h
  refine A_mem hM24 ?_
  obtain ⟨hg25, h⟩ := gl_out h
  refine A_putA rfl (Or.inr ⟨ff_MW_25, rfl⟩) rfl hg1 (Or.inr hg25) rfl (Or.inl rfl) ?_
  obtain ⟨M26, hM26, h⟩ := kM_out h
  refine A_mem hM26 ?_
  refine A_iconst (v := 0) rfl (by decide) ?_
  refine A_pc (pc' := 36) rfl ?_
  refine A_istore_n (Ls' := [(1, vI 0), (0, vA t0)]) rfl rfl (by decide) rfl ?_
  refine A_pc (pc' := 37) rfl ?_
  refine A_sub (Ls' := [(0, vA t0), (1, vI 0)]) [1, 0] rfl ?_
  exact o_MW_init_37 nf  _ _ _ _ _ _ hnf h
def tb_Mod_init : List (Nat × Instr × Nat) := [(0, .aload_n 0, 1), (1, .invokespecial 1, 3), (4, .aload_n 0, 1), (5, .bipush 48, 2), (7, .newarray .int, 2), (9, .putfield 7, 3), (12, .aload_n 0, 1), (13, .sipush 432, 3), (16, .newarray .int, 2), (18, .putfield 13, 3), (21, .aload_n 0, 1), (22, .sipush 432, 3), (25, .newarray .long, 2), (27, .putfield 16, 3), (30, .aload_n 0, 1), (31, .bipush 9, 2), (33, .newarray .int, 2), (35, .putfield 20, 3), (38, .aload_n 0, 1), (39, .bipush 48, 2), (41, .newarray .int, 2), (43, .putfield 23, 3), (46, .aload_n 0, 1), (47, .bipush 48, 2), (49, .newarray .int, 2), (51, .putfield 26, 3), (54, .aload_n 0, 1), (55, .bipush 16, 2), (57, .newarray .int, 2), (59, .putfield 29, 3), (62, .aload_n 0, 1), (63, .iconst (-1), 1), (64, .putfield 32, 3), (67, .aload_n 0, 1), (68, .iconst 5, 1), (69, .newarray .int, 2), (71, .putfield 36, 3), (74, .aload_n 0, 1), (75, .bipush 10, 2), (77, .newarray .int, 2), (79, .putfield 39, 3), (82, .aload_n 0, 1), (83, .bipush 10, 2), (85, .newarray .int, 2), (87, .putfield 42, 3), (90, .aload_n 0, 1), (91, .bipush 8, 2), (93, .newarray .int, 2), (95, .putfield 45, 3), (98, .aload_n 0, 1), (99, .bipush 8, 2), (101, .newarray .int, 2), (103, .putfield 48, 3), (106, .aload_n 0, 1), (107, .bipush 8, 2), (109, .newarray .int, 2), (111, .putfield 51, 3), (114, .aload_n 0, 1), (115, .bipush 8, 2), (117, .newarray .int, 2), (119, .putfield 54, 3), (122, .aload_n 0, 1), (123, .bipush 8, 2), (125, .newarray .int, 2), (127, .putfield 57, 3), (130, .aload_n 0, 1), (131, .bipush 8, 2), (133, .newarray .int, 2), (135, .putfield 60, 3), (138, .aload_n 0, 1), (139, .bipush 48, 2), (141, .newarray .int, 2), (143, .putfield 63, 3), (146, .aload_n 0, 1), (147, .bipush 48, 2), (149, .newarray .int, 2), (151, .putfield 66, 3), (154, .aload_n 0, 1), (155, .bipush 48, 2), (157, .newarray .long, 2), (159, .putfield 69, 3), (162, .aload_n 0, 1), (163, .sipush 240, 3), (166, .newarray .int, 2), (168, .putfield 72, 3), (171, .aload_n 0, 1), (172, .bipush 80, 2), (174, .newarray .int, 2), (176, .putfield 75, 3), (179, .aload_n 0, 1), (180, .bipush 16, 2), (182, .newarray .int, 2), (184, .putfield 78, 3), (187, .aload_n 0, 1), (188, .bipush 16, 2), (190, .newarray .int, 2), (192, .putfield 81, 3), (195, .aload_n 0, 1), (196, .bipush 80, 2), (198, .newarray .int, 2), (200, .putfield 84, 3), (203, .aload_n 0, 1), (204, .bipush 16, 2), (206, .newarray .int, 2), (208, .putfield 87, 3), (211, .aload_n 0, 1), (212, .bipush 16, 2), (214, .newarray .boolean, 2), (216, .putfield 90, 3), (219, .aload_n 0, 1), (220, .bipush 16, 2), (222, .newarray .int, 2), (224, .putfield 94, 3), (227, .aload_n 0, 1), (228, .iconst 5, 1), (229, .newarray .int, 2), (231, .putfield 97, 3), (234, .aload_n 0, 1), (235, .iconst (-1), 1), (236, .putfield 100, 3), (239, .aload_n 0, 1), (240, .iconst 5, 1), (241, .newarray .int, 2), (243, .putfield 103, 3), (246, .aload_n 0, 1), (247, .bipush 8, 2), (249, .newarray .int, 2), (251, .putfield 106, 3), (254, .aload_n 0, 1), (255, .bipush 40, 2), (257, .newarray .int, 2), (259, .putfield 109, 3), (262, .aload_n 0, 1), (263, .bipush 8, 2), (265, .newarray .int, 2), (267, .putfield 112, 3), (270, .aload_n 0, 1), (271, .bipush 8, 2), (273, .newarray .int, 2), (275, .putfield 115, 3), (278, .aload_n 0, 1), (279, .bipush 8, 2), (281, .newarray .int, 2), (283, .putfield 118, 3), (286, .aload_n 0, 1), (287, .iconst 5, 1), (288, .newarray .int, 2), (290, .putfield 121, 3), (293, .aload_n 0, 1), (294, .iconst 5, 1), (295, .newarray .int, 2), (297, .putfield 124, 3), (300, .aload_n 0, 1), (301, .iconst (-1), 1), (302, .putfield 127, 3), (305, .aload_n 0, 1), (306, .iconst 5, 1), (307, .newarray .int, 2), (309, .putfield 130, 3), (312, .iconst 0, 1), (313, .istore_n 1, 1), (314, .iload_n 1, 1), (315, .bipush 8, 2), (317, .if_icmp .ge 30, 3), (320, .aload_n 0, 1), (321, .getfield 45, 3), (324, .iload_n 1, 1), (325, .iconst (-1), 1), (326, .iastore, 1), (327, .aload_n 0, 1), (328, .getfield 48, 3), (331, .iload_n 1, 1), (332, .iconst (-1), 1), (333, .iastore, 1), (334, .aload_n 0, 1), (335, .getfield 51, 3), (338, .iload_n 1, 1), (339, .iconst (-1), 1), (340, .iastore, 1), (341, .iinc 1 1, 3), (344, .goto (-30), 3), (347, .return_, 1)]
def Y_Mod_init : ax_Y := (⟨"MethodWardenModel", "<init>", "()V"⟩, prog_14_method_1_code, 2, none, tb_Mod_init)
theorem yok_Mod_init : yOK Y_Mod_init := ⟨by decide +kernel, by decide +kernel, inWG 1085 (by decide +kernel) (by decide +kernel), inWG 107 (by decide +kernel) (by decide +kernel), by decide +kernel⟩
def f_Mod_init_314_b (nf : Nat) (K314 : Nat → Int32 → ax_M → Option (Unit × ax_M)) (l0 : Nat) (l1 : Int32) (M : ax_M) : Option (Unit × ax_M) :=
  if 8 ≤ l1 then (some ((), M)) else (gk l0 11 (gl M l0 (kM (gA M l0 19) (fun r270 => gk r270 100 (ge (ln r270) 8 (gi l1 8 (gl M r270 (kM (mI M r270 l1.toNatClampNeg ((-1))) (fun M275 => gl M275 l0 (kM (gA M275 l0 20) (fun r277 => gk r277 100 (ge (ln r277) 8 (gl M275 r277 (kM (mI M275 r277 l1.toNatClampNeg ((-1))) (fun M281 => gl M281 l0 (kM (gA M281 l0 21) (fun r283 => gk r283 100 (ge (ln r283) 8 (gl M281 r283 (kM (mI M281 r283 l1.toNatClampNeg ((-1))) (fun M287 => kM (l1 + 1) (fun x288 => K314 l0 x288 M287))))))))))))))))))))))
def f_Mod_init_314 (nf : Nat) : Nat → Nat → Int32 → ax_M → Option (Unit × ax_M)
  | 0, _, _, _ => none
  | n + 1, l0, l1, M => f_Mod_init_314_b nf  (f_Mod_init_314 nf n) l0 l1 M
set_option maxHeartbeats 4000000 in
set_option maxRecDepth 100000 in
theorem o_Mod_init_314_b {l : Launch} {g : ax_G} (nf : Nat) (K314 : Nat → Int32 → ax_M → Option (Unit × ax_M)) (hK314 : ∀ (l0 : Nat) (l1 : Int32) (M : ax_M) (r : Unit) (M' : ax_M), gn M' = nf → K314 l0 l1 M = some (r, M') → AW l g false Y_Mod_init 1 (none, M') 314 [(0, vA l0), (1, vI l1)] [] M) (l0 : Nat) (l1 : Int32) (M : ax_M) (r : Unit) (M' : ax_M) (hnf : gn M' = nf) (h : f_Mod_init_314_b nf  K314 l0 l1 M = some (r, M')) : AW l g false Y_Mod_init 1 (none, M') 314 [(0, vA l0), (1, vI l1)] [] M := by
  unfold f_Mod_init_314_b at h
  refine A_iload_n 1 rfl rfl rfl ?_
  refine A_bipush (v := 8) rfl (by decide) ?_
  refine A_icmp_ge (tgt := 347) rfl (by decide) (fun hc267 => ?_) (fun hc267 => ?_)
  · rw [if_pos hc267] at h
    obtain ⟨rfl, rfl⟩ := leaf h
    exact A_vret rfl rfl
  · rw [if_neg hc267] at h
    refine A_pc (pc' := 320) rfl ?_
    refine A_aload_n 0 rfl rfl rfl ?_
    obtain ⟨hg268, h⟩ := gk_out h
    obtain ⟨hg269, h⟩ := gl_out h
    refine A_getA rfl fl_Mod_45 rfl hg268 (Or.inr hg269) ?_
    obtain ⟨r270, hr270, h⟩ := kM_out h
    refine A_nA hr270 ?_
    refine A_iload_n 1 rfl rfl rfl ?_
    refine A_iconst (v := (-1)) rfl (by decide) ?_
    obtain ⟨hg271, h⟩ := gk_out h
    obtain ⟨hg272, h⟩ := ge_out h
    obtain ⟨hg273, h⟩ := gi_out h
    obtain ⟨hg274, h⟩ := gl_out h
    refine A_iast (n := 8) rfl hg271 hg272 (Or.inr hg274) hg273 ?_
    obtain ⟨M275, hM275, h⟩ := kM_out h
    refine A_mem hM275 ?_
    refine A_pc (pc' := 327) rfl ?_
    refine A_aload_n 0 rfl rfl rfl ?_
    obtain ⟨hg276, h⟩ := gl_out h
    refine A_getA rfl fl_Mod_48 rfl hg268 (Or.inr hg276) ?_
    obtain ⟨r277, hr277, h⟩ := kM_out h
    refine A_nA hr277 ?_
    refine A_iload_n 1 rfl rfl rfl ?_
    refine A_iconst (v := (-1)) rfl (by decide) ?_
    obtain ⟨hg278, h⟩ := gk_out h
    obtain ⟨hg279, h⟩ := ge_out h
    obtain ⟨hg280, h⟩ := gl_out h
    refine A_iast (n := 8) rfl hg278 hg279 (Or.inr hg280) hg273 ?_
    obtain ⟨M281, hM281, h⟩ := kM_out h
    refine A_mem hM281 ?_
    refine A_aload_n 0 rfl rfl rfl ?_
    refine A_pc (pc' := 335) rfl ?_
    obtain ⟨hg282, h⟩ := gl_out h
    refine A_getA rfl fl_Mod_51 rfl hg268 (Or.inr hg282) ?_
    obtain ⟨r283, hr283, h⟩ := kM_out h
    refine A_nA hr283 ?_
    refine A_iload_n 1 rfl rfl rfl ?_
    refine A_iconst (v := (-1)) rfl (by decide) ?_
    obtain ⟨hg284, h⟩ := gk_out h
    obtain ⟨hg285, h⟩ := ge_out h
    obtain ⟨hg286, h⟩ := gl_out h
    refine A_iast (n := 8) rfl hg284 hg285 (Or.inr hg286) hg273 ?_
    obtain ⟨M287, hM287, h⟩ := kM_out h
    refine A_mem hM287 ?_
    obtain ⟨x288, hx288, h⟩ := kM_out h
    refine A_iinc 1 (v := x288) (Ls' := [(1, vI x288), (0, vA l0)]) rfl rfl ((iiN (k := 1) (by decide) _).trans hx288) (by decide) rfl ?_
    refine A_goto (tgt := 314) rfl (by decide) ?_
    refine A_pc (pc' := 314) rfl ?_
    refine A_sub (Ls' := [(0, vA l0), (1, vI x288)]) [1, 0] rfl ?_
    exact hK314 _ _ _ _ _ hnf h
theorem o_Mod_init_314 {l : Launch} {g : ax_G} (nf : Nat) : ∀ (n : Nat) (l0 : Nat) (l1 : Int32) (M : ax_M) (r : Unit) (M' : ax_M), gn M' = nf → f_Mod_init_314 nf  n l0 l1 M = some (r, M') → AW l g false Y_Mod_init 1 (none, M') 314 [(0, vA l0), (1, vI l1)] [] M := by
  intro n
  induction n with
  | zero =>
    intro l0 l1 M r M' hnf h
    cases h
  | succ n ih =>
    intro l0 l1 M r M' hnf h
    exact o_Mod_init_314_b nf  _ ih _ _ _ _ _ hnf h
set_option maxRecDepth 100000 in
def fi_Mod_init (nf : Nat) (t0 : Nat) (M : ax_M) : Option (Unit × ax_M) :=
  gk t0 11 (gk (gn M + 2) 100 (ge (ln (gn M + 2)) 48 (gle (gn M + 1) nf (kM (gn M + 2) (fun r5 => kM (mS M) (fun M6 => gl M6 t0 (kM (mA M6 t0 0 r5) (fun M8 => gk (gn M8 + 2) 100 (ge (ln (gn M8 + 2)) 432 (gle (gn M8 + 1) nf (kM (gn M8 + 2) (fun r12 => kM (mS M8) (fun M13 => gl M13 t0 (kM (mA M13 t0 2 r12) (fun M15 => gk (gn M15 + 2) 101 (ge (ln (gn M15 + 2)) 432 (gle (gn M15 + 1) nf (kM (gn M15 + 2) (fun r19 => kM (mS M15) (fun M20 => gl M20 t0 (kM (mA M20 t0 3 r19) (fun M22 => gk (gn M22 + 2) 100 (ge (ln (gn M22 + 2)) 9 (gle (gn M22 + 1) nf (kM (gn M22 + 2) (fun r26 => kM (mS M22) (fun M27 => gl M27 t0 (kM (mA M27 t0 4 r26) (fun M29 => gk (gn M29 + 2) 100 (ge (ln (gn M29 + 2)) 48 (gle (gn M29 + 1) nf (kM (gn M29 + 2) (fun r33 => kM (mS M29) (fun M34 => gl M34 t0 (kM (mA M34 t0 8 r33) (fun M36 => gk (gn M36 + 2) 100 (ge (ln (gn M36 + 2)) 48 (gle (gn M36 + 1) nf (kM (gn M36 + 2) (fun r40 => kM (mS M36) (fun M41 => gl M41 t0 (kM (mA M41 t0 9 r40) (fun M43 => gk (gn M43 + 2) 100 (ge (ln (gn M43 + 2)) 16 (gle (gn M43 + 1) nf (kM (gn M43 + 2) (fun r47 => kM (mS M43) (fun M48 => gl M48 t0 (kM (mA M48 t0 12 r47) (fun M50 => gl M50 t0 (kM (mI M50 t0 13 ((-1))) (fun M52 => gk (gn M52 + 2) 100 (ge (ln (gn M52 + 2)) 5 (gle (gn M52 + 1) nf (kM (gn M52 + 2) (fun r56 => kM (mS M52) (fun M57 => gl M57 t0 (kM (mA M57 t0 15 r56) (fun M59 => gk (gn M59 + 2) 100 (ge (ln (gn M59 + 2)) 10 (gle (gn M59 + 1) nf (kM (gn M59 + 2) (fun r63 => kM (mS M59) (fun M64 => gl M64 t0 (kM (mA M64 t0 17 r63) (fun M66 => gk (gn M66 + 2) 100 (ge (ln (gn M66 + 2)) 10 (gle (gn M66 + 1) nf (kM (gn M66 + 2) (fun r70 => kM (mS M66) (fun M71 => gl M71 t0 (kM (mA M71 t0 18 r70) (fun M73 => gk (gn M73 + 2) 100 (ge (ln (gn M73 + 2)) 8 (gle (gn M73 + 1) nf (kM (gn M73 + 2) (fun r77 => kM (mS M73) (fun M78 => gl M78 t0 (kM (mA M78 t0 19 r77) (fun M80 => gk (gn M80 + 2) 100 (ge (ln (gn M80 + 2)) 8 (gle (gn M80 + 1) nf (kM (gn M80 + 2) (fun r84 => kM (mS M80) (fun M85 => gl M85 t0 (kM (mA M85 t0 20 r84) (fun M87 => gk (gn M87 + 2) 100 (ge (ln (gn M87 + 2)) 8 (gle (gn M87 + 1) nf (kM (gn M87 + 2) (fun r91 => kM (mS M87) (fun M92 => gl M92 t0 (kM (mA M92 t0 21 r91) (fun M94 => gk (gn M94 + 2) 100 (ge (ln (gn M94 + 2)) 8 (gle (gn M94 + 1) nf (kM (gn M94 + 2) (fun r98 => kM (mS M94) (fun M99 => gl M99 t0 (kM (mA M99 t0 22 r98) (fun M101 => gk (gn M101 + 2) 100 (ge (ln (gn M101 + 2)) 8 (gle (gn M101 + 1) nf (kM (gn M101 + 2) (fun r105 => kM (mS M101) (fun M106 => gl M106 t0 (kM (mA M106 t0 23 r105) (fun M108 => gk (gn M108 + 2) 100 (ge (ln (gn M108 + 2)) 8 (gle (gn M108 + 1) nf (kM (gn M108 + 2) (fun r112 => kM (mS M108) (fun M113 => gl M113 t0 (kM (mA M113 t0 24 r112) (fun M115 => gk (gn M115 + 2) 100 (ge (ln (gn M115 + 2)) 48 (gle (gn M115 + 1) nf (kM (gn M115 + 2) (fun r119 => kM (mS M115) (fun M120 => gl M120 t0 (kM (mA M120 t0 25 r119) (fun M122 => gk (gn M122 + 2) 100 (ge (ln (gn M122 + 2)) 48 (gle (gn M122 + 1) nf (kM (gn M122 + 2) (fun r126 => kM (mS M122) (fun M127 => gl M127 t0 (kM (mA M127 t0 26 r126) (fun M129 => gk (gn M129 + 2) 101 (ge (ln (gn M129 + 2)) 48 (gle (gn M129 + 1) nf (kM (gn M129 + 2) (fun r133 => kM (mS M129) (fun M134 => gl M134 t0 (kM (mA M134 t0 27 r133) (fun M136 => gk (gn M136 + 2) 100 (ge (ln (gn M136 + 2)) 240 (gle (gn M136 + 1) nf (kM (gn M136 + 2) (fun r140 => kM (mS M136) (fun M141 => gl M141 t0 (kM (mA M141 t0 28 r140) (fun M143 => gk (gn M143 + 2) 100 (ge (ln (gn M143 + 2)) 80 (gle (gn M143 + 1) nf (kM (gn M143 + 2) (fun r147 => kM (mS M143) (fun M148 => gl M148 t0 (kM (mA M148 t0 30 r147) (fun M150 => gk (gn M150 + 2) 100 (ge (ln (gn M150 + 2)) 16 (gle (gn M150 + 1) nf (kM (gn M150 + 2) (fun r154 => kM (mS M150) (fun M155 => gl M155 t0 (kM (mA M155 t0 31 r154) (fun M157 => gk (gn M157 + 2) 100 (ge (ln (gn M157 + 2)) 16 (gle (gn M157 + 1) nf (kM (gn M157 + 2) (fun r161 => kM (mS M157) (fun M162 => gl M162 t0 (kM (mA M162 t0 32 r161) (fun M164 => gk (gn M164 + 2) 100 (ge (ln (gn M164 + 2)) 80 (gle (gn M164 + 1) nf (kM (gn M164 + 2) (fun r168 => kM (mS M164) (fun M169 => gl M169 t0 (kM (mA M169 t0 33 r168) (fun M171 => gk (gn M171 + 2) 100 (ge (ln (gn M171 + 2)) 16 (gle (gn M171 + 1) nf (kM (gn M171 + 2) (fun r175 => kM (mS M171) (fun M176 => gl M176 t0 (kM (mA M176 t0 34 r175) (fun M178 => gk (gn M178 + 2) 103 (ge (ln (gn M178 + 2)) 16 (gle (gn M178 + 1) nf (kM (gn M178 + 2) (fun r182 => kM (mS M178) (fun M183 => gl M183 t0 (kM (mA M183 t0 35 r182) (fun M185 => gk (gn M185 + 2) 100 (ge (ln (gn M185 + 2)) 16 (gle (gn M185 + 1) nf (kM (gn M185 + 2) (fun r189 => kM (mS M185) (fun M190 => gl M190 t0 (kM (mA M190 t0 36 r189) (fun M192 => gk (gn M192 + 2) 100 (ge (ln (gn M192 + 2)) 5 (gle (gn M192 + 1) nf (kM (gn M192 + 2) (fun r196 => kM (mS M192) (fun M197 => gl M197 t0 (kM (mA M197 t0 42 r196) (fun M199 => gl M199 t0 (kM (mI M199 t0 44 ((-1))) (fun M201 => gk (gn M201 + 2) 100 (ge (ln (gn M201 + 2)) 5 (gle (gn M201 + 1) nf (kM (gn M201 + 2) (fun r205 => kM (mS M201) (fun M206 => gl M206 t0 (kM (mA M206 t0 46 r205) (fun M208 => gk (gn M208 + 2) 100 (ge (ln (gn M208 + 2)) 8 (gle (gn M208 + 1) nf (kM (gn M208 + 2) (fun r212 => kM (mS M208) (fun M213 => gl M213 t0 (kM (mA M213 t0 47 r212) (fun M215 => gk (gn M215 + 2) 100 (ge (ln (gn M215 + 2)) 40 (gle (gn M215 + 1) nf (kM (gn M215 + 2) (fun r219 => kM (mS M215) (fun M220 => gl M220 t0 (kM (mA M220 t0 48 r219) (fun M222 => gk (gn M222 + 2) 100 (ge (ln (gn M222 + 2)) 8 (gle (gn M222 + 1) nf (kM (gn M222 + 2) (fun r226 => kM (mS M222) (fun M227 => gl M227 t0 (kM (mA M227 t0 49 r226) (fun M229 => gk (gn M229 + 2) 100 (ge (ln (gn M229 + 2)) 8 (gle (gn M229 + 1) nf (kM (gn M229 + 2) (fun r233 => kM (mS M229) (fun M234 => gl M234 t0 (kM (mA M234 t0 50 r233) (fun M236 => gk (gn M236 + 2) 100 (ge (ln (gn M236 + 2)) 8 (gle (gn M236 + 1) nf (kM (gn M236 + 2) (fun r240 => kM (mS M236) (fun M241 => gl M241 t0 (kM (mA M241 t0 51 r240) (fun M243 => gk (gn M243 + 2) 100 (ge (ln (gn M243 + 2)) 5 (gle (gn M243 + 1) nf (kM (gn M243 + 2) (fun r247 => kM (mS M243) (fun M248 => gl M248 t0 (kM (mA M248 t0 53 r247) (fun M250 => gk (gn M250 + 2) 100 (ge (ln (gn M250 + 2)) 5 (gle (gn M250 + 1) nf (kM (gn M250 + 2) (fun r254 => kM (mS M250) (fun M255 => gl M255 t0 (kM (mA M255 t0 56 r254) (fun M257 => gl M257 t0 (kM (mI M257 t0 57 ((-1))) (fun M259 => gk (gn M259 + 2) 100 (ge (ln (gn M259 + 2)) 5 (gle (gn M259 + 1) nf (kM (gn M259 + 2) (fun r263 => kM (mS M259) (fun M264 => gl M264 t0 (kM (mA M264 t0 59 r263) (fun M266 => f_Mod_init_314 nf 64 t0 0 M266))))))))))))))))))))))))))))))))))))))))))))))))))))))))))))))))))))))))))))))))))))))))))))))))))))))))))))))))))))))))))))))))))))))))))))))))))))))))))))))))))))))))))))))))))))))))))))))))))))))))))))))))))))))))))))))))))))))))))))))))))))))))))))))))))))))))))
def f_Mod_init (nf : Nat) (t0 : Nat) (M : ax_M) : Option (Unit × ax_M) := nfw nf M (fi_Mod_init nf t0 M)
theorem cnt_Mod_init {nf : Nat} {t0 : Nat} {M : ax_M} {r : Unit} {M' : ax_M} (h : f_Mod_init nf t0 M = some (r, M')) : gn M' = nf := (nfw_out h).1
set_option maxHeartbeats 4000000 in
set_option maxRecDepth 100000 in
theorem c_Mod_init {l : Launch} {g : ax_G} {nf : Nat} {t0 : Nat} {M : ax_M} {r : Unit} {M' : ax_M} (h : f_Mod_init nf t0 M = some (r, M')) : Ctr l g false Y_Mod_init 1 [vA t0] M (none, M') := by
  obtain ⟨hnf, hle, h⟩ := nfw_out h
  refine Ctr.ofAW yok_Mod_init (Nat.le_of_ble_eq_true rfl) (Or.inr (by rw [hnf]; exact hle)) ?_
  show AW l g false Y_Mod_init 1 (none, M') 0 [(0, vA t0)] [] M
  unfold fi_Mod_init at h
  refine A_aload_n 0 rfl rfl rfl ?_
  obtain ⟨hg1, h⟩ := gk_out h
  refine A_objInit rfl (inWG 1086 (by decide +kernel) (by decide +kernel)) (inWG 119 (by decide +kernel) (by decide +kernel)) (inWG 120 (by decide +kernel) (by decide +kernel)) (fun z => absurd hg1 (by rw [z]; decide)) (by decide) (Nat.le_of_ble_eq_true rfl) ?_
  refine A_aload_n 0 rfl rfl rfl ?_
  refine A_bipush (v := 48) rfl (by decide) ?_
  obtain ⟨hg2, h⟩ := gk_out h
  obtain ⟨hg3, h⟩ := ge_out h
  obtain ⟨hg4, h⟩ := gle_out h
  obtain ⟨r5, hr5, h⟩ := kM_out h
  refine A_newa (t := 0) (n := 48) rfl rfl (inWG 182 (by decide +kernel) (by decide +kernel)) (by decide) hg2 hg3 ⟨by decide, by decide, by decide⟩ rfl (fun _ _ h => h) (by rw [hnf]; exact hg4) ?_
  refine A_nA hr5 ?_
  obtain ⟨M6, hM6, h⟩ := kM_out h
  refine A_mem hM6 ?_
  refine A_pc (pc' := 9) rfl ?_
  obtain ⟨hg7, h⟩ := gl_out h
  refine A_putA rfl (Or.inl fl_Mod_7) rfl hg1 (Or.inr hg7) rfl (Or.inl rfl) ?_
  obtain ⟨M8, hM8, h⟩ := kM_out h
  refine A_mem hM8 ?_
  refine A_aload_n 0 rfl rfl rfl ?_
  refine A_sipush (v := 432) rfl (by decide) ?_
  obtain ⟨hg9, h⟩ := gk_out h
  obtain ⟨hg10, h⟩ := ge_out h
  obtain ⟨hg11, h⟩ := gle_out h
  obtain ⟨r12, hr12, h⟩ := kM_out h
  refine A_newa (t := 0) (n := 432) rfl rfl (inWG 182 (by decide +kernel) (by decide +kernel)) (by decide) hg9 hg10 ⟨by decide, by decide, by decide⟩ rfl (fun _ _ h => h) (by rw [hnf]; exact hg11) ?_
  refine A_nA hr12 ?_
  obtain ⟨M13, hM13, h⟩ := kM_out h
  refine A_mem hM13 ?_
  obtain ⟨hg14, h⟩ := gl_out h
  refine A_putA rfl (Or.inl fl_Mod_13) rfl hg1 (Or.inr hg14) rfl (Or.inl rfl) ?_
  obtain ⟨M15, hM15, h⟩ := kM_out h
  refine A_mem hM15 ?_
  refine A_aload_n 0 rfl rfl rfl ?_
  refine A_pc (pc' := 22) rfl ?_
  refine A_sipush (v := 432) rfl (by decide) ?_
  obtain ⟨hg16, h⟩ := gk_out h
  obtain ⟨hg17, h⟩ := ge_out h
  obtain ⟨hg18, h⟩ := gle_out h
  obtain ⟨r19, hr19, h⟩ := kM_out h
  refine A_newa (t := 1) (n := 432) rfl rfl (inWG 215 (by decide +kernel) (by decide +kernel)) (by decide) hg16 hg17 ⟨by decide, by decide, by decide⟩ rfl (fun _ _ h => h) (by rw [hnf]; exact hg18) ?_
  refine A_nA hr19 ?_
  obtain ⟨M20, hM20, h⟩ := kM_out h
  refine A_mem hM20 ?_
  obtain ⟨hg21, h⟩ := gl_out h
  refine A_putA rfl (Or.inl fl_Mod_16) rfl hg1 (Or.inr hg21) rfl (Or.inl rfl) ?_
  obtain ⟨M22, hM22, h⟩ := kM_out h
  refine A_mem hM22 ?_
  refine A_aload_n 0 rfl rfl rfl ?_
  refine A_bipush (v := 9) rfl (by decide) ?_
  obtain ⟨hg23, h⟩ := gk_out h
  obtain ⟨hg24, h⟩ := ge_out h
  obtain ⟨hg25, h⟩ := gle_out h
  obtain ⟨r26, hr26, h⟩ := kM_out h
  refine A_newa (t := 0) (n := 9) rfl rfl (inWG 182 (by decide +kernel) (by decide +kernel)) (by decide) hg23 hg24 ⟨by decide, by decide, by decide⟩ rfl (fun _ _ h => h) (by rw [hnf]; exact hg25) ?_
  refine A_nA hr26 ?_
  obtain ⟨M27, hM27, h⟩ := kM_out h
  refine A_mem hM27 ?_
  refine A_pc (pc' := 35) rfl ?_
  obtain ⟨hg28, h⟩ := gl_out h
  refine A_putA rfl (Or.inl fl_Mod_20) rfl hg1 (Or.inr hg28) rfl (Or.inl rfl) ?_
  obtain ⟨M29, hM29, h⟩ := kM_out h
  refine A_mem hM29 ?_
  refine A_aload_n 0 rfl rfl rfl ?_
  refine A_bipush (v := 48) rfl (by decide) ?_
  obtain ⟨hg30, h⟩ := gk_out h
  obtain ⟨hg31, h⟩ := ge_out h
  obtain ⟨hg32, h⟩ := gle_out h
  obtain ⟨r33, hr33, h⟩ := kM_out h
  refine A_newa (t := 0) (n := 48) rfl rfl (inWG 182 (by decide +kernel) (by decide +kernel)) (by decide) hg30 hg31 ⟨by decide, by decide, by decide⟩ rfl (fun _ _ h => h) (by rw [hnf]; exact hg32) ?_
  refine A_nA hr33 ?_
  obtain ⟨M34, hM34, h⟩ := kM_out h
  refine A_mem hM34 ?_
  obtain ⟨hg35, h⟩ := gl_out h
  refine A_putA rfl (Or.inl fl_Mod_23) rfl hg1 (Or.inr hg35) rfl (Or.inl rfl) ?_
  obtain ⟨M36, hM36, h⟩ := kM_out h
  refine A_mem hM36 ?_
  refine A_aload_n 0 rfl rfl rfl ?_
  refine A_pc (pc' := 47) rfl ?_
  refine A_bipush (v := 48) rfl (by decide) ?_
  obtain ⟨hg37, h⟩ := gk_out h
  obtain ⟨hg38, h⟩ := ge_out h
  obtain ⟨hg39, h⟩ := gle_out h
  obtain ⟨r40, hr40, h⟩ := kM_out h
  refine A_newa (t := 0) (n := 48) rfl rfl (inWG 182 (by decide +kernel) (by decide +kernel)) (by decide) hg37 hg38 ⟨by decide, by decide, by decide⟩ rfl (fun _ _ h => h) (by rw [hnf]; exact hg39) ?_
  refine A_nA hr40 ?_
  obtain ⟨M41, hM41, h⟩ := kM_out h
  refine A_mem hM41 ?_
  obtain ⟨hg42, h⟩ := gl_out h
  refine A_putA rfl (Or.inl fl_Mod_26) rfl hg1 (Or.inr hg42) rfl (Or.inl rfl) ?_
  obtain ⟨M43, hM43, h⟩ := kM_out h
  refine A_mem hM43 ?_
  refine A_aload_n 0 rfl rfl rfl ?_
  refine A_bipush (v := 16) rfl (by decide) ?_
  obtain ⟨hg44, h⟩ := gk_out h
  obtain ⟨hg45, h⟩ := ge_out h
  obtain ⟨hg46, h⟩ := gle_out h
  obtain ⟨r47, hr47, h⟩ := kM_out h
  refine A_newa (t := 0) (n := 16) rfl rfl (inWG 182 (by decide +kernel) (by decide +kernel)) (by decide) hg44 hg45 ⟨by decide, by decide, by decide⟩ rfl (fun _ _ h => h) (by rw [hnf]; exact hg46) ?_
  refine A_nA hr47 ?_
  obtain ⟨M48, hM48, h⟩ := kM_out h
  refine A_mem hM48 ?_
  refine A_pc (pc' := 59) rfl ?_
  obtain ⟨hg49, h⟩ := gl_out h
  refine A_putA rfl (Or.inl fl_Mod_29) rfl hg1 (Or.inr hg49) rfl (Or.inl rfl) ?_
  obtain ⟨M50, hM50, h⟩ := kM_out h
  refine A_mem hM50 ?_
  refine A_aload_n 0 rfl rfl rfl ?_
  refine A_iconst (v := (-1)) rfl (by decide) ?_
  obtain ⟨hg51, h⟩ := gl_out h
  refine A_putI rfl (Or.inl fl_Mod_32) rfl hg1 (Or.inr hg51) rfl ?_
  obtain ⟨M52, hM52, h⟩ := kM_out h
  refine A_mem hM52 ?_
  refine A_aload_n 0 rfl rfl rfl ?_
  refine A_iconst (v := 5) rfl (by decide) ?_
  refine A_pc (pc' := 69) rfl ?_
  obtain ⟨hg53, h⟩ := gk_out h
  obtain ⟨hg54, h⟩ := ge_out h
  obtain ⟨hg55, h⟩ := gle_out h
  obtain ⟨r56, hr56, h⟩ := kM_out h
  refine A_newa (t := 0) (n := 5) rfl rfl (inWG 182 (by decide +kernel) (by decide +kernel)) (by decide) hg53 hg54 ⟨by decide, by decide, by decide⟩ rfl (fun _ _ h => h) (by rw [hnf]; exact hg55) ?_
  refine A_nA hr56 ?_
  obtain ⟨M57, hM57, h⟩ := kM_out h
  refine A_mem hM57 ?_
  obtain ⟨hg58, h⟩ := gl_out h
  refine A_putA rfl (Or.inl fl_Mod_36) rfl hg1 (Or.inr hg58) rfl (Or.inl rfl) ?_
  obtain ⟨M59, hM59, h⟩ := kM_out h
  refine A_mem hM59 ?_
  refine A_aload_n 0 rfl rfl rfl ?_
  refine A_bipush (v := 10) rfl (by decide) ?_
  obtain ⟨hg60, h⟩ := gk_out h
  obtain ⟨hg61, h⟩ := ge_out h
  obtain ⟨hg62, h⟩ := gle_out h
  obtain ⟨r63, hr63, h⟩ := kM_out h
  refine A_newa (t := 0) (n := 10) rfl rfl (inWG 182 (by decide +kernel) (by decide +kernel)) (by decide) hg60 hg61 ⟨by decide, by decide, by decide⟩ rfl (fun _ _ h => h) (by rw [hnf]; exact hg62) ?_
  refine A_nA hr63 ?_
  obtain ⟨M64, hM64, h⟩ := kM_out h
  refine A_mem hM64 ?_
  obtain ⟨hg65, h⟩ := gl_out h
  refine A_putA rfl (Or.inl fl_Mod_39) rfl hg1 (Or.inr hg65) rfl (Or.inl rfl) ?_
  obtain ⟨M66, hM66, h⟩ := kM_out h
  refine A_mem hM66 ?_
  refine A_pc (pc' := 82) rfl ?_
  refine A_aload_n 0 rfl rfl rfl ?_
  refine A_bipush (v := 10) rfl (by decide) ?_
  obtain ⟨hg67, h⟩ := gk_out h
  obtain ⟨hg68, h⟩ := ge_out h
  obtain ⟨hg69, h⟩ := gle_out h
  obtain ⟨r70, hr70, h⟩ := kM_out h
  refine A_newa (t := 0) (n := 10) rfl rfl (inWG 182 (by decide +kernel) (by decide +kernel)) (by decide) hg67 hg68 ⟨by decide, by decide, by decide⟩ rfl (fun _ _ h => h) (by rw [hnf]; exact hg69) ?_
  refine A_nA hr70 ?_
  obtain ⟨M71, hM71, h⟩ := kM_out h
  refine A_mem hM71 ?_
  obtain ⟨hg72, h⟩ := gl_out h
  refine A_putA rfl (Or.inl fl_Mod_42) rfl hg1 (Or.inr hg72) rfl (Or.inl rfl) ?_
  obtain ⟨M73, hM73, h⟩ := kM_out h
  refine A_mem hM73 ?_
  refine A_aload_n 0 rfl rfl rfl ?_
  refine A_bipush (v := 8) rfl (by decide) ?_
  refine A_pc (pc' := 93) rfl ?_
  obtain ⟨hg74, h⟩ := gk_out h
  obtain ⟨hg75, h⟩ := ge_out h
  obtain ⟨hg76, h⟩ := gle_out h
  obtain ⟨r77, hr77, h⟩ := kM_out h
  refine A_newa (t := 0) (n := 8) rfl rfl (inWG 182 (by decide +kernel) (by decide +kernel)) (by decide) hg74 hg75 ⟨by decide, by decide, by decide⟩ rfl (fun _ _ h => h) (by rw [hnf]; exact hg76) ?_
  refine A_nA hr77 ?_
  obtain ⟨M78, hM78, h⟩ := kM_out h
  refine A_mem hM78 ?_
  obtain ⟨hg79, h⟩ := gl_out h
  refine A_putA rfl (Or.inl fl_Mod_45) rfl hg1 (Or.inr hg79) rfl (Or.inl rfl) ?_
  obtain ⟨M80, hM80, h⟩ := kM_out h
  refine A_mem hM80 ?_
  refine A_aload_n 0 rfl rfl rfl ?_
  refine A_bipush (v := 8) rfl (by decide) ?_
  obtain ⟨hg81, h⟩ := gk_out h
  obtain ⟨hg82, h⟩ := ge_out h
  obtain ⟨hg83, h⟩ := gle_out h
  obtain ⟨r84, hr84, h⟩ := kM_out h
  refine A_newa (t := 0) (n := 8) rfl rfl (inWG 182 (by decide +kernel) (by decide +kernel)) (by decide) hg81 hg82 ⟨by decide, by decide, by decide⟩ rfl (fun _ _ h => h) (by rw [hnf]; exact hg83) ?_
  refine A_nA hr84 ?_
  obtain ⟨M85, hM85, h⟩ := kM_out h
  refine A_mem hM85 ?_
  obtain ⟨hg86, h⟩ := gl_out h
  refine A_putA rfl (Or.inl fl_Mod_48) rfl hg1 (Or.inr hg86) rfl (Or.inl rfl) ?_
  obtain ⟨M87, hM87, h⟩ := kM_out h
  refine A_mem hM87 ?_
  refine A_pc (pc' := 106) rfl ?_
  refine A_aload_n 0 rfl rfl rfl ?_
  refine A_bipush (v := 8) rfl (by decide) ?_
  obtain ⟨hg88, h⟩ := gk_out h
  obtain ⟨hg89, h⟩ := ge_out h
  obtain ⟨hg90, h⟩ := gle_out h
  obtain ⟨r91, hr91, h⟩ := kM_out h
  refine A_newa (t := 0) (n := 8) rfl rfl (inWG 182 (by decide +kernel) (by decide +kernel)) (by decide) hg88 hg89 ⟨by decide, by decide, by decide⟩ rfl (fun _ _ h => h) (by rw [hnf]; exact hg90) ?_
  refine A_nA hr91 ?_
  obtain ⟨M92, hM92, h⟩ := kM_out h
  refine A_mem hM92 ?_
  obtain ⟨hg93, h⟩ := gl_out h
  refine A_putA rfl (Or.inl fl_Mod_51) rfl hg1 (Or.inr hg93) rfl (Or.inl rfl) ?_
  obtain ⟨M94, hM94, h⟩ := kM_out h
  refine A_mem hM94 ?_
  refine A_aload_n 0 rfl rfl rfl ?_
  refine A_bipush (v := 8) rfl (by decide) ?_
  refine A_pc (pc' := 117) rfl ?_
  obtain ⟨hg95, h⟩ := gk_out h
  obtain ⟨hg96, h⟩ := ge_out h
  obtain ⟨hg97, h⟩ := gle_out h
  obtain ⟨r98, hr98, h⟩ := kM_out h
  refine A_newa (t := 0) (n := 8) rfl rfl (inWG 182 (by decide +kernel) (by decide +kernel)) (by decide) hg95 hg96 ⟨by decide, by decide, by decide⟩ rfl (fun _ _ h => h) (by rw [hnf]; exact hg97) ?_
  refine A_nA hr98 ?_
  obtain ⟨M99, hM99, h⟩ := kM_out h
  refine A_mem hM99 ?_
  obtain ⟨hg100, h⟩ := gl_out h
  refine A_putA rfl (Or.inl fl_Mod_54) rfl hg1 (Or.inr hg100) rfl (Or.inl rfl) ?_
  obtain ⟨M101, hM101, h⟩ := kM_out h
  refine A_mem hM101 ?_
  refine A_aload_n 0 rfl rfl rfl ?_
  refine A_bipush (v := 8) rfl (by decide) ?_
  obtain ⟨hg102, h⟩ := gk_out h
  obtain ⟨hg103, h⟩ := ge_out h
  obtain ⟨hg104, h⟩ := gle_out h
  obtain ⟨r105, hr105, h⟩ := kM_out h
  refine A_newa (t := 0) (n := 8) rfl rfl (inWG 182 (by decide +kernel) (by decide +kernel)) (by decide) hg102 hg103 ⟨by decide, by decide, by decide⟩ rfl (fun _ _ h => h) (by rw [hnf]; exact hg104) ?_
  refine A_nA hr105 ?_
  obtain ⟨M106, hM106, h⟩ := kM_out h
  refine A_mem hM106 ?_
  obtain ⟨hg107, h⟩ := gl_out h
  refine A_putA rfl (Or.inl fl_Mod_57) rfl hg1 (Or.inr hg107) rfl (Or.inl rfl) ?_
  obtain ⟨M108, hM108, h⟩ := kM_out h
  refine A_mem hM108 ?_
  refine A_pc (pc' := 130) rfl ?_
  refine A_aload_n 0 rfl rfl rfl ?_
  refine A_bipush (v := 8) rfl (by decide) ?_
  obtain ⟨hg109, h⟩ := gk_out h
  obtain ⟨hg110, h⟩ := ge_out h
  obtain ⟨hg111, h⟩ := gle_out h
  obtain ⟨r112, hr112, h⟩ := kM_out h
  refine A_newa (t := 0) (n := 8) rfl rfl (inWG 182 (by decide +kernel) (by decide +kernel)) (by decide) hg109 hg110 ⟨by decide, by decide, by decide⟩ rfl (fun _ _ h => h) (by rw [hnf]; exact hg111) ?_
  refine A_nA hr112 ?_
  obtain ⟨M113, hM113, h⟩ := kM_out h
  refine A_mem hM113 ?_
  obtain ⟨hg114, h⟩ := gl_out h
  refine A_putA rfl (Or.inl fl_Mod_60) rfl hg1 (Or.inr hg114) rfl (Or.inl rfl) ?_
  obtain ⟨M115, hM115, h⟩ := kM_out h
  refine A_mem hM115 ?_
  refine A_aload_n 0 rfl rfl rfl ?_
  refine A_bipush (v := 48) rfl (by decide) ?_
  refine A_pc (pc' := 141) rfl ?_
  obtain ⟨hg116, h⟩ := gk_out h
  obtain ⟨hg117, h⟩ := ge_out h
  obtain ⟨hg118, h⟩ := gle_out h
  obtain ⟨r119, hr119, h⟩ := kM_out h
  refine A_newa (t := 0) (n := 48) rfl rfl (inWG 182 (by decide +kernel) (by decide +kernel)) (by decide) hg116 hg117 ⟨by decide, by decide, by decide⟩ rfl (fun _ _ h => h) (by rw [hnf]; exact hg118) ?_
  refine A_nA hr119 ?_
  obtain ⟨M120, hM120, h⟩ := kM_out h
  refine A_mem hM120 ?_
  obtain ⟨hg121, h⟩ := gl_out h
  refine A_putA rfl (Or.inl fl_Mod_63) rfl hg1 (Or.inr hg121) rfl (Or.inl rfl) ?_
  obtain ⟨M122, hM122, h⟩ := kM_out h
  refine A_mem hM122 ?_
  refine A_aload_n 0 rfl rfl rfl ?_
  refine A_bipush (v := 48) rfl (by decide) ?_
  obtain ⟨hg123, h⟩ := gk_out h
  obtain ⟨hg124, h⟩ := ge_out h
  obtain ⟨hg125, h⟩ := gle_out h
  obtain ⟨r126, hr126, h⟩ := kM_out h
  refine A_newa (t := 0) (n := 48) rfl rfl (inWG 182 (by decide +kernel) (by decide +kernel)) (by decide) hg123 hg124 ⟨by decide, by decide, by decide⟩ rfl (fun _ _ h => h) (by rw [hnf]; exact hg125) ?_
  refine A_nA hr126 ?_
  obtain ⟨M127, hM127, h⟩ := kM_out h
  refine A_mem hM127 ?_
  obtain ⟨hg128, h⟩ := gl_out h
  refine A_putA rfl (Or.inl fl_Mod_66) rfl hg1 (Or.inr hg128) rfl (Or.inl rfl) ?_
  obtain ⟨M129, hM129, h⟩ := kM_out h
  refine A_mem hM129 ?_
  refine A_pc (pc' := 154) rfl ?_
  refine A_aload_n 0 rfl rfl rfl ?_
  refine A_bipush (v := 48) rfl (by decide) ?_
  obtain ⟨hg130, h⟩ := gk_out h
  obtain ⟨hg131, h⟩ := ge_out h
  obtain ⟨hg132, h⟩ := gle_out h
  obtain ⟨r133, hr133, h⟩ := kM_out h
  refine A_newa (t := 1) (n := 48) rfl rfl (inWG 215 (by decide +kernel) (by decide +kernel)) (by decide) hg130 hg131 ⟨by decide, by decide, by decide⟩ rfl (fun _ _ h => h) (by rw [hnf]; exact hg132) ?_
  refine A_nA hr133 ?_
  obtain ⟨M134, hM134, h⟩ := kM_out h
  refine A_mem hM134 ?_
  obtain ⟨hg135, h⟩ := gl_out h
  refine A_putA rfl (Or.inl fl_Mod_69) rfl hg1 (Or.inr hg135) rfl (Or.inl rfl) ?_
  obtain ⟨M136, hM136, h⟩ := kM_out h
  refine A_mem hM136 ?_
  refine A_aload_n 0 rfl rfl rfl ?_
  refine A_sipush (v := 240) rfl (by decide) ?_
  refine A_pc (pc' := 166) rfl ?_
  obtain ⟨hg137, h⟩ := gk_out h
  obtain ⟨hg138, h⟩ := ge_out h
  obtain ⟨hg139, h⟩ := gle_out h
  obtain ⟨r140, hr140, h⟩ := kM_out h
  refine A_newa (t := 0) (n := 240) rfl rfl (inWG 182 (by decide +kernel) (by decide +kernel)) (by decide) hg137 hg138 ⟨by decide, by decide, by decide⟩ rfl (fun _ _ h => h) (by rw [hnf]; exact hg139) ?_
  refine A_nA hr140 ?_
  obtain ⟨M141, hM141, h⟩ := kM_out h
  refine A_mem hM141 ?_
  obtain ⟨hg142, h⟩ := gl_out h
  refine A_putA rfl (Or.inl fl_Mod_72) rfl hg1 (Or.inr hg142) rfl (Or.inl rfl) ?_
  obtain ⟨M143, hM143, h⟩ := kM_out h
  refine A_mem hM143 ?_
  refine A_aload_n 0 rfl rfl rfl ?_
  refine A_bipush (v := 80) rfl (by decide) ?_
  obtain ⟨hg144, h⟩ := gk_out h
  obtain ⟨hg145, h⟩ := ge_out h
  obtain ⟨hg146, h⟩ := gle_out h
  obtain ⟨r147, hr147, h⟩ := kM_out h
  refine A_newa (t := 0) (n := 80) rfl rfl (inWG 182 (by decide +kernel) (by decide +kernel)) (by decide) hg144 hg145 ⟨by decide, by decide, by decide⟩ rfl (fun _ _ h => h) (by rw [hnf]; exact hg146) ?_
  refine A_nA hr147 ?_
  obtain ⟨M148, hM148, h⟩ := kM_out h
  refine A_mem hM148 ?_
  obtain ⟨hg149, h⟩ := gl_out h
  refine A_putA rfl (Or.inl fl_Mod_75) rfl hg1 (Or.inr hg149) rfl (Or.inl rfl) ?_
  obtain ⟨M150, hM150, h⟩ := kM_out h
  refine A_mem hM150 ?_
  refine A_pc (pc' := 179) rfl ?_
  refine A_aload_n 0 rfl rfl rfl ?_
  refine A_bipush (v := 16) rfl (by decide) ?_
  obtain ⟨hg151, h⟩ := gk_out h
  obtain ⟨hg152, h⟩ := ge_out h
  obtain ⟨hg153, h⟩ := gle_out h
  obtain ⟨r154, hr154, h⟩ := kM_out h
  refine A_newa (t := 0) (n := 16) rfl rfl (inWG 182 (by decide +kernel) (by decide +kernel)) (by decide) hg151 hg152 ⟨by decide, by decide, by decide⟩ rfl (fun _ _ h => h) (by rw [hnf]; exact hg153) ?_
  refine A_nA hr154 ?_
  obtain ⟨M155, hM155, h⟩ := kM_out h
  refine A_mem hM155 ?_
  obtain ⟨hg156, h⟩ := gl_out h
  refine A_putA rfl (Or.inl fl_Mod_78) rfl hg1 (Or.inr hg156) rfl (Or.inl rfl) ?_
  obtain ⟨M157, hM157, h⟩ := kM_out h
  refine A_mem hM157 ?_
  refine A_aload_n 0 rfl rfl rfl ?_
  refine A_bipush (v := 16) rfl (by decide) ?_
  refine A_pc (pc' := 190) rfl ?_
  obtain ⟨hg158, h⟩ := gk_out h
  obtain ⟨hg159, h⟩ := ge_out h
  obtain ⟨hg160, h⟩ := gle_out h
  obtain ⟨r161, hr161, h⟩ := kM_out h
  refine A_newa (t := 0) (n := 16) rfl rfl (inWG 182 (by decide +kernel) (by decide +kernel)) (by decide) hg158 hg159 ⟨by decide, by decide, by decide⟩ rfl (fun _ _ h => h) (by rw [hnf]; exact hg160) ?_
  refine A_nA hr161 ?_
  obtain ⟨M162, hM162, h⟩ := kM_out h
  refine A_mem hM162 ?_
  obtain ⟨hg163, h⟩ := gl_out h
  refine A_putA rfl (Or.inl fl_Mod_81) rfl hg1 (Or.inr hg163) rfl (Or.inl rfl) ?_
  obtain ⟨M164, hM164, h⟩ := kM_out h
  refine A_mem hM164 ?_
  refine A_aload_n 0 rfl rfl rfl ?_
  refine A_bipush (v := 80) rfl (by decide) ?_
  obtain ⟨hg165, h⟩ := gk_out h
  obtain ⟨hg166, h⟩ := ge_out h
  obtain ⟨hg167, h⟩ := gle_out h
  obtain ⟨r168, hr168, h⟩ := kM_out h
  refine A_newa (t := 0) (n := 80) rfl rfl (inWG 182 (by decide +kernel) (by decide +kernel)) (by decide) hg165 hg166 ⟨by decide, by decide, by decide⟩ rfl (fun _ _ h => h) (by rw [hnf]; exact hg167) ?_
  refine A_nA hr168 ?_
  obtain ⟨M169, hM169, h⟩ := kM_out h
  refine A_mem hM169 ?_
  obtain ⟨hg170, h⟩ := gl_out h
  refine A_putA rfl (Or.inl fl_Mod_84) rfl hg1 (Or.inr hg170) rfl (Or.inl rfl) ?_
  obtain ⟨M171, hM171, h⟩ := kM_out h
  refine A_mem hM171 ?_
  refine A_pc (pc' := 203) rfl ?_
  refine A_aload_n 0 rfl rfl rfl ?_
  refine A_bipush (v := 16) rfl (by decide) ?_
  obtain ⟨hg172, h⟩ := gk_out h
  obtain ⟨hg173, h⟩ := ge_out h
  obtain ⟨hg174, h⟩ := gle_out h
  obtain ⟨r175, hr175, h⟩ := kM_out h
  refine A_newa (t := 0) (n := 16) rfl rfl (inWG 182 (by decide +kernel) (by decide +kernel)) (by decide) hg172 hg173 ⟨by decide, by decide, by decide⟩ rfl (fun _ _ h => h) (by rw [hnf]; exact hg174) ?_
  refine A_nA hr175 ?_
  obtain ⟨M176, hM176, h⟩ := kM_out h
  refine A_mem hM176 ?_
  obtain ⟨hg177, h⟩ := gl_out h
  refine A_putA rfl (Or.inl fl_Mod_87) rfl hg1 (Or.inr hg177) rfl (Or.inl rfl) ?_
  obtain ⟨M178, hM178, h⟩ := kM_out h
  refine A_mem hM178 ?_
  refine A_aload_n 0 rfl rfl rfl ?_
  refine A_bipush (v := 16) rfl (by decide) ?_
  refine A_pc (pc' := 214) rfl ?_
  obtain ⟨hg179, h⟩ := gk_out h
  obtain ⟨hg180, h⟩ := ge_out h
  obtain ⟨hg181, h⟩ := gle_out h
  obtain ⟨r182, hr182, h⟩ := kM_out h
  refine A_newa (t := 3) (n := 16) rfl rfl (inWG 1271 (by decide +kernel) (by decide +kernel)) (by decide) hg179 hg180 ⟨by decide, by decide, by decide⟩ rfl (fun _ _ h => h) (by rw [hnf]; exact hg181) ?_
  refine A_nA hr182 ?_
  obtain ⟨M183, hM183, h⟩ := kM_out h
  refine A_mem hM183 ?_
  obtain ⟨hg184, h⟩ := gl_out h
  refine A_putA rfl (Or.inl fl_Mod_90) rfl hg1 (Or.inr hg184) rfl (Or.inl rfl) ?_
  obtain ⟨M185, hM185, h⟩ := kM_out h
  refine A_mem hM185 ?_
  refine A_aload_n 0 rfl rfl rfl ?_
  refine A_bipush (v := 16) rfl (by decide) ?_
  obtain ⟨hg186, h⟩ := gk_out h
  obtain ⟨hg187, h⟩ := ge_out h
  obtain ⟨hg188, h⟩ := gle_out h
  obtain ⟨r189, hr189, h⟩ := kM_out h
  refine A_newa (t := 0) (n := 16) rfl rfl (inWG 182 (by decide +kernel) (by decide +kernel)) (by decide) hg186 hg187 ⟨by decide, by decide, by decide⟩ rfl (fun _ _ h => h) (by rw [hnf]; exact hg188) ?_
  refine A_nA hr189 ?_
  obtain ⟨M190, hM190, h⟩ := kM_out h
  refine A_mem hM190 ?_
  obtain ⟨hg191, h⟩ := gl_out h
  refine A_putA rfl (Or.inl fl_Mod_94) rfl hg1 (Or.inr hg191) rfl (Or.inl rfl) ?_
  obtain ⟨M192, hM192, h⟩ := kM_out h
  refine A_mem hM192 ?_
  refine A_pc (pc' := 227) rfl ?_
  refine A_aload_n 0 rfl rfl rfl ?_
  refine A_iconst (v := 5) rfl (by decide) ?_
  obtain ⟨hg193, h⟩ := gk_out h
  obtain ⟨hg194, h⟩ := ge_out h
  obtain ⟨hg195, h⟩ := gle_out h
  obtain ⟨r196, hr196, h⟩ := kM_out h
  refine A_newa (t := 0) (n := 5) rfl rfl (inWG 182 (by decide +kernel) (by decide +kernel)) (by decide) hg193 hg194 ⟨by decide, by decide, by decide⟩ rfl (fun _ _ h => h) (by rw [hnf]; exact hg195) ?_
  refine A_nA hr196 ?_
  obtain ⟨M197, hM197, h⟩ := kM_out h
  refine A_mem hM197 ?_
  obtain ⟨hg198, h⟩ := gl_out h
  refine A_putA rfl (Or.inl fl_Mod_97) rfl hg1 (Or.inr hg198) rfl (Or.inl rfl) ?_
  obtain ⟨M199, hM199, h⟩ := kM_out h
  refine A_mem hM199 ?_
  refine A_aload_n 0 rfl rfl rfl ?_
  refine A_iconst (v := (-1)) rfl (by decide) ?_
  refine A_pc (pc' := 236) rfl ?_
  obtain ⟨hg200, h⟩ := gl_out h
  refine A_putI rfl (Or.inl fl_Mod_100) rfl hg1 (Or.inr hg200) rfl ?_
  obtain ⟨M201, hM201, h⟩ := kM_out h
  refine A_mem hM201 ?_
  refine A_aload_n 0 rfl rfl rfl ?_
  refine A_iconst (v := 5) rfl (by decide) ?_
  obtain ⟨hg202, h⟩ := gk_out h
  obtain ⟨hg203, h⟩ := ge_out h
  obtain ⟨hg204, h⟩ := gle_out h
  obtain ⟨r205, hr205, h⟩ := kM_out h
  refine A_newa (t := 0) (n := 5) rfl rfl (inWG 182 (by decide +kernel) (by decide +kernel)) (by decide) hg202 hg203 ⟨by decide, by decide, by decide⟩ rfl (fun _ _ h => h) (by rw [hnf]; exact hg204) ?_
  refine A_nA hr205 ?_
  obtain ⟨M206, hM206, h⟩ := kM_out h
  refine A_mem hM206 ?_
  obtain ⟨hg207, h⟩ := gl_out h
  refine A_putA rfl (Or.inl fl_Mod_103) rfl hg1 (Or.inr hg207) rfl (Or.inl rfl) ?_
  obtain ⟨M208, hM208, h⟩ := kM_out h
  refine A_mem hM208 ?_
  refine A_aload_n 0 rfl rfl rfl ?_
  refine A_pc (pc' := 247) rfl ?_
  refine A_bipush (v := 8) rfl (by decide) ?_
  obtain ⟨hg209, h⟩ := gk_out h
  obtain ⟨hg210, h⟩ := ge_out h
  obtain ⟨hg211, h⟩ := gle_out h
  obtain ⟨r212, hr212, h⟩ := kM_out h
  refine A_newa (t := 0) (n := 8) rfl rfl (inWG 182 (by decide +kernel) (by decide +kernel)) (by decide) hg209 hg210 ⟨by decide, by decide, by decide⟩ rfl (fun _ _ h => h) (by rw [hnf]; exact hg211) ?_
  refine A_nA hr212 ?_
  obtain ⟨M213, hM213, h⟩ := kM_out h
  refine A_mem hM213 ?_
  obtain ⟨hg214, h⟩ := gl_out h
  refine A_putA rfl (Or.inl fl_Mod_106) rfl hg1 (Or.inr hg214) rfl (Or.inl rfl) ?_
  obtain ⟨M215, hM215, h⟩ := kM_out h
  refine A_mem hM215 ?_
  refine A_aload_n 0 rfl rfl rfl ?_
  refine A_bipush (v := 40) rfl (by decide) ?_
  obtain ⟨hg216, h⟩ := gk_out h
  obtain ⟨hg217, h⟩ := ge_out h
  obtain ⟨hg218, h⟩ := gle_out h
  obtain ⟨r219, hr219, h⟩ := kM_out h
  refine A_newa (t := 0) (n := 40) rfl rfl (inWG 182 (by decide +kernel) (by decide +kernel)) (by decide) hg216 hg217 ⟨by decide, by decide, by decide⟩ rfl (fun _ _ h => h) (by rw [hnf]; exact hg218) ?_
  refine A_nA hr219 ?_
  obtain ⟨M220, hM220, h⟩ := kM_out h
  refine A_mem hM220 ?_
  refine A_pc (pc' := 259) rfl ?_
  obtain ⟨hg221, h⟩ := gl_out h
  refine A_putA rfl (Or.inl fl_Mod_109) rfl hg1 (Or.inr hg221) rfl (Or.inl rfl) ?_
  obtain ⟨M222, hM222, h⟩ := kM_out h
  refine A_mem hM222 ?_
  refine A_aload_n 0 rfl rfl rfl ?_
  refine A_bipush (v := 8) rfl (by decide) ?_
  obtain ⟨hg223, h⟩ := gk_out h
  obtain ⟨hg224, h⟩ := ge_out h
  obtain ⟨hg225, h⟩ := gle_out h
  obtain ⟨r226, hr226, h⟩ := kM_out h
  refine A_newa (t := 0) (n := 8) rfl rfl (inWG 182 (by decide +kernel) (by decide +kernel)) (by decide) hg223 hg224 ⟨by decide, by decide, by decide⟩ rfl (fun _ _ h => h) (by rw [hnf]; exact hg225) ?_
  refine A_nA hr226 ?_
  obtain ⟨M227, hM227, h⟩ := kM_out h
  refine A_mem hM227 ?_
  obtain ⟨hg228, h⟩ := gl_out h
  refine A_putA rfl (Or.inl fl_Mod_112) rfl hg1 (Or.inr hg228) rfl (Or.inl rfl) ?_
  obtain ⟨M229, hM229, h⟩ := kM_out h
  refine A_mem hM229 ?_
  refine A_aload_n 0 rfl rfl rfl ?_
  refine A_pc (pc' := 271) rfl ?_
  refine A_bipush (v := 8) rfl (by decide) ?_
  obtain ⟨hg230, h⟩ := gk_out h
  obtain ⟨hg231, h⟩ := ge_out h
  obtain ⟨hg232, h⟩ := gle_out h
  obtain ⟨r233, hr233, h⟩ := kM_out h
  refine A_newa (t := 0) (n := 8) rfl rfl (inWG 182 (by decide +kernel) (by decide +kernel)) (by decide) hg230 hg231 ⟨by decide, by decide, by decide⟩ rfl (fun _ _ h => h) (by rw [hnf]; exact hg232) ?_
  refine A_nA hr233 ?_
  obtain ⟨M234, hM234, h⟩ := kM_out h
  refine A_mem hM234 ?_
  obtain ⟨hg235, h⟩ := gl_out h
  refine A_putA rfl (Or.inl fl_Mod_115) rfl hg1 (Or.inr hg235) rfl (Or.inl rfl) ?_
  obtain ⟨M236, hM236, h⟩ := kM_out h
  refine A_mem hM236 ?_
  refine A_aload_n 0 rfl rfl rfl ?_
  refine A_bipush (v := 8) rfl (by decide) ?_
  obtain ⟨hg237, h⟩ := gk_out h
  obtain ⟨hg238, h⟩ := ge_out h
  obtain ⟨hg239, h⟩ := gle_out h
  obtain ⟨r240, hr240, h⟩ := kM_out h
  refine A_newa (t := 0) (n := 8) rfl rfl (inWG 182 (by decide +kernel) (by decide +kernel)) (by decide) hg237 hg238 ⟨by decide, by decide, by decide⟩ rfl (fun _ _ h => h) (by rw [hnf]; exact hg239) ?_
  refine A_nA hr240 ?_
  obtain ⟨M241, hM241, h⟩ := kM_out h
  refine A_mem hM241 ?_
  refine A_pc (pc' := 283) rfl ?_
  obtain ⟨hg242, h⟩ := gl_out h
  refine A_putA rfl (Or.inl fl_Mod_118) rfl hg1 (Or.inr hg242) rfl (Or.inl rfl) ?_
  obtain ⟨M243, hM243, h⟩ := kM_out h
  refine A_mem hM243 ?_
  refine A_aload_n 0 rfl rfl rfl ?_
  refine A_iconst (v := 5) rfl (by decide) ?_
  obtain ⟨hg244, h⟩ := gk_out h
  obtain ⟨hg245, h⟩ := ge_out h
  obtain ⟨hg246, h⟩ := gle_out h
  obtain ⟨r247, hr247, h⟩ := kM_out h
  refine A_newa (t := 0) (n := 5) rfl rfl (inWG 182 (by decide +kernel) (by decide +kernel)) (by decide) hg244 hg245 ⟨by decide, by decide, by decide⟩ rfl (fun _ _ h => h) (by rw [hnf]; exact hg246) ?_
  refine A_nA hr247 ?_
  obtain ⟨M248, hM248, h⟩ := kM_out h
  refine A_mem hM248 ?_
  obtain ⟨hg249, h⟩ := gl_out h
  refine A_putA rfl (Or.inl fl_Mod_121) rfl hg1 (Or.inr hg249) rfl (Or.inl rfl) ?_
  obtain ⟨M250, hM250, h⟩ := kM_out h
  refine A_mem hM250 ?_
  refine A_aload_n 0 rfl rfl rfl ?_
  refine A_pc (pc' := 294) rfl ?_
  refine A_iconst (v := 5) rfl (by decide) ?_
  obtain ⟨hg251, h⟩ := gk_out h
  obtain ⟨hg252, h⟩ := ge_out h
  obtain ⟨hg253, h⟩ := gle_out h
  obtain ⟨r254, hr254, h⟩ := kM_out h
  refine A_newa (t := 0) (n := 5) rfl rfl (inWG 182 (by decide +kernel) (by decide +kernel)) (by decide) hg251 hg252 ⟨by decide, by decide, by decide⟩ rfl (fun _ _ h => h) (by rw [hnf]; exact hg253) ?_
  refine A_nA hr254 ?_
  obtain ⟨M255, hM255, h⟩ := kM_out h
  refine A_mem hM255 ?_
  obtain ⟨hg256, h⟩ := gl_out h
  refine A_putA rfl (Or.inl fl_Mod_124) rfl hg1 (Or.inr hg256) rfl (Or.inl rfl) ?_
  obtain ⟨M257, hM257, h⟩ := kM_out h
  refine A_mem hM257 ?_
  refine A_aload_n 0 rfl rfl rfl ?_
  refine A_iconst (v := (-1)) rfl (by decide) ?_
  obtain ⟨hg258, h⟩ := gl_out h
  refine A_putI rfl (Or.inl fl_Mod_127) rfl hg1 (Or.inr hg258) rfl ?_
  obtain ⟨M259, hM259, h⟩ := kM_out h
  refine A_mem hM259 ?_
  refine A_pc (pc' := 305) rfl ?_
  refine A_aload_n 0 rfl rfl rfl ?_
  refine A_iconst (v := 5) rfl (by decide) ?_
  obtain ⟨hg260, h⟩ := gk_out h
  obtain ⟨hg261, h⟩ := ge_out h
  obtain ⟨hg262, h⟩ := gle_out h
  obtain ⟨r263, hr263, h⟩ := kM_out h
  refine A_newa (t := 0) (n := 5) rfl rfl (inWG 182 (by decide +kernel) (by decide +kernel)) (by decide) hg260 hg261 ⟨by decide, by decide, by decide⟩ rfl (fun _ _ h => h) (by rw [hnf]; exact hg262) ?_
  refine A_nA hr263 ?_
  obtain ⟨M264, hM264, h⟩ := kM_out h
  refine A_mem hM264 ?_
  obtain ⟨hg265, h⟩ := gl_out h
  refine A_putA rfl (Or.inl fl_Mod_130) rfl hg1 (Or.inr hg265) rfl (Or.inl rfl) ?_
  obtain ⟨M266, hM266, h⟩ := kM_out h
  refine A_mem hM266 ?_
  refine A_iconst (v := 0) rfl (by decide) ?_
  refine A_istore_n (Ls' := [(1, vI 0), (0, vA t0)]) rfl rfl (by decide) rfl ?_
  refine A_pc (pc' := 314) rfl ?_
  refine A_sub (Ls' := [(0, vA t0), (1, vI 0)]) [1, 0] rfl ?_
  exact o_Mod_init_314 nf  _ _ _ _ _ _ hnf h
