/-! Worker, what is worked out at one part. Printed by gen_methods.py. -/
def tb_Worker_setArguments : List (Nat × Instr × Nat) := [(0, .aload_n 0, 1), (1, .iload_n 1, 1), (2, .putfield 40, 3), (5, .aload_n 0, 1), (6, .lload_n 2, 1), (7, .putfield 44, 3), (10, .return_, 1)]
def Y_Worker_setArguments : ax_Y := (⟨"MethodWarden$Worker", "setArguments", "(IJ)V"⟩, prog_12_method_2_code, 4, none, tb_Worker_setArguments)
theorem yok_Worker_setArguments : yOK Y_Worker_setArguments := ⟨by decide +kernel, by decide +kernel, inWG 806 (by decide +kernel) (by decide +kernel), inWG 102 (by decide +kernel) (by decide +kernel), by decide +kernel⟩
theorem fl_Worker_40 : fldOK "MethodWarden$Worker" 40 6 4 false := ⟨_, _, _, cls_Worker, by decide, by decide, rfl, Or.inl (inWG 290 (by decide +kernel) (by decide +kernel))⟩
theorem fl_Worker_44 : fldOK "MethodWarden$Worker" 44 6 5 false := ⟨_, _, _, cls_Worker, by decide, by decide, rfl, Or.inl (inWG 291 (by decide +kernel) (by decide +kernel))⟩
def f_Worker_setArguments (a1 : Int32) (a2 : Int64) (M : ax_M) : Option (Unit × ax_M) :=
  kM (mI M 68 4 a1) (fun M1 => kM (mJ M1 68 5 a2) (fun M2 => some ((), M2)))
set_option maxHeartbeats 4000000 in
set_option maxRecDepth 100000 in
theorem c_Worker_setArguments {l : Launch} {g : ax_G} {a1 : Int32} {a2 : Int64} {M : ax_M} {r : Unit} {M' : ax_M} (h : f_Worker_setArguments a1 a2 M = some (r, M')) : Ctr l g true Y_Worker_setArguments 1 [vA 68, vI a1, vJ a2] M (none, M') := by
  refine Ctr.ofAW yok_Worker_setArguments (Nat.le_of_ble_eq_true rfl) (Or.inl rfl) ?_
  show AW l g true Y_Worker_setArguments 1 (none, M') 0 [(0, vA 68), (1, vI a1), (2, vJ a2)] [] M
  unfold f_Worker_setArguments at h
  refine A_aload_n 0 rfl rfl rfl ?_
  refine A_iload_n 1 rfl rfl rfl ?_
  refine A_putI rfl (Or.inl fl_Worker_40) rfl (by decide) (Or.inl rfl) rfl ?_
  obtain ⟨M1, hM1, h⟩ := kM_out h
  refine A_mem hM1 ?_
  refine A_aload_n 0 rfl rfl rfl ?_
  refine A_lload_n 2 rfl rfl rfl ?_
  refine A_pc (pc' := 7) rfl ?_
  refine A_putJ rfl (Or.inl fl_Worker_44) rfl (by decide) (Or.inl rfl) rfl ?_
  obtain ⟨M2, hM2, h⟩ := kM_out h
  refine A_mem hM2 ?_
  obtain ⟨rfl, rfl⟩ := leaf h
  exact A_vret rfl rfl
def tb_Worker_setLists : List (Nat × Instr × Nat) := [(0, .aload_n 0, 1), (1, .aload_n 1, 1), (2, .putfield 33, 3), (5, .aload_n 0, 1), (6, .aload_n 2, 1), (7, .putfield 48, 3), (10, .return_, 1)]
def Y_Worker_setLists : ax_Y := (⟨"MethodWarden$Worker", "setLists", "(LMethodWarden$Items;LMethodWarden$Value;)V"⟩, prog_12_method_3_code, 3, none, tb_Worker_setLists)
theorem yok_Worker_setLists : yOK Y_Worker_setLists := ⟨by decide +kernel, by decide +kernel, inWG 836 (by decide +kernel) (by decide +kernel), inWG 102 (by decide +kernel) (by decide +kernel), by decide +kernel⟩
theorem fl_Worker_33 : fldOK "MethodWarden$Worker" 33 6 6 false := ⟨_, _, _, cls_Worker, by decide, by decide, rfl, Or.inl (inWG 292 (by decide +kernel) (by decide +kernel))⟩
theorem fl_Worker_48 : fldOK "MethodWarden$Worker" 48 6 7 false := ⟨_, _, _, cls_Worker, by decide, by decide, rfl, Or.inl (inWG 293 (by decide +kernel) (by decide +kernel))⟩
def f_Worker_setLists (a1 : Nat) (a2 : Nat) (M : ax_M) : Option (Unit × ax_M) :=
  kM (mA M 68 6 a1) (fun M1 => kM (mA M1 68 7 a2) (fun M2 => some ((), M2)))
set_option maxHeartbeats 4000000 in
set_option maxRecDepth 100000 in
theorem c_Worker_setLists {l : Launch} {g : ax_G} {a1 : Nat} {a2 : Nat} {M : ax_M} {r : Unit} {M' : ax_M} (h : f_Worker_setLists a1 a2 M = some (r, M')) : Ctr l g true Y_Worker_setLists 1 [vA 68, vA a1, vA a2] M (none, M') := by
  refine Ctr.ofAW yok_Worker_setLists (Nat.le_of_ble_eq_true rfl) (Or.inl rfl) ?_
  show AW l g true Y_Worker_setLists 1 (none, M') 0 [(0, vA 68), (1, vA a1), (2, vA a2)] [] M
  unfold f_Worker_setLists at h
  refine A_aload_n 0 rfl rfl rfl ?_
  refine A_aload_n 1 rfl rfl rfl ?_
  refine A_putA rfl (Or.inl fl_Worker_33) rfl (by decide) (Or.inl rfl) rfl (Or.inr rfl) ?_
  obtain ⟨M1, hM1, h⟩ := kM_out h
  refine A_mem hM1 ?_
  refine A_aload_n 0 rfl rfl rfl ?_
  refine A_aload_n 2 rfl rfl rfl ?_
  refine A_pc (pc' := 7) rfl ?_
  refine A_putA rfl (Or.inl fl_Worker_48) rfl (by decide) (Or.inl rfl) rfl (Or.inr rfl) ?_
  obtain ⟨M2, hM2, h⟩ := kM_out h
  refine A_mem hM2 ?_
  obtain ⟨rfl, rfl⟩ := leaf h
  exact A_vret rfl rfl
def tb_Worker_valueOfLeaf : List (Nat × Instr × Nat) := [(0, .iload_n 1, 1), (1, .tableswitch 198 2 12 #[59, 67, 74, 81, 88, 94, 125, 135, 145, 169, 188], 59), (60, .aload 4, 2), (62, .lload_n 2, 1), (63, .l2i, 1), (64, .invokevirtual 121, 3), (67, .areturn, 1), (68, .aload 4, 2), (70, .lload_n 2, 1), (71, .invokevirtual 124, 3), (74, .areturn, 1), (75, .aload 4, 2), (77, .iconst 1, 1), (78, .invokevirtual 128, 3), (81, .areturn, 1), (82, .aload 4, 2), (84, .iconst 0, 1), (85, .invokevirtual 128, 3), (88, .areturn, 1), (89, .aload 4, 2), (91, .invokevirtual 132, 3), (94, .areturn, 1), (95, .aload_n 0, 1), (96, .getfield 29, 3), (99, .invokevirtual 136, 3), (102, .ifCond .eq 11, 3), (105, .aload 4, 2), (107, .invokevirtual 132, 3), (110, .goto 15, 3), (113, .aload 4, 2), (115, .aload_n 0, 1), (116, .getfield 29, 3), (119, .getfield 141, 3), (122, .invokevirtual 121, 3), (125, .areturn, 1), (126, .aload 4, 2), (128, .aload_n 0, 1), (129, .getfield 40, 3), (132, .invokevirtual 121, 3), (135, .areturn, 1), (136, .aload 4, 2), (138, .aload_n 0, 1), (139, .getfield 44, 3), (142, .invokevirtual 124, 3), (145, .areturn, 1), (146, .aload_n 0, 1), (147, .getfield 144, 3), (150, .ifCond .eq 15, 3), (153, .aload 4, 2), (155, .aload_n 0, 1), (156, .getfield 148, 3), (159, .invokevirtual 121, 3), (162, .goto 7, 3), (165, .aload_n 0, 1), (166, .getfield 18, 3), (169, .areturn, 1), (170, .aload_n 0, 1), (171, .getfield 48, 3), (174, .ifnull 10, 3), (177, .aload_n 0, 1), (178, .getfield 48, 3), (181, .goto 7, 3), (184, .aload_n 0, 1), (185, .getfield 18, 3), (188, .areturn, 1), (189, .aload 4, 2), (191, .aload_n 0, 1), (192, .getfield 33, 3), (195, .invokevirtual 151, 3), (198, .areturn, 1), (199, .aload_n 0, 1), (200, .getfield 18, 3), (203, .areturn, 1)]
def Y_Worker_valueOfLeaf : ax_Y := (⟨"MethodWarden$Worker", "valueOfLeaf", "(IJLMethodWarden$Value;)LMethodWarden$Value;"⟩, prog_12_method_7_code, 5, some (.object "MethodWarden$Value"), tb_Worker_valueOfLeaf)
theorem yok_Worker_valueOfLeaf : yOK Y_Worker_valueOfLeaf := ⟨by decide +kernel, by decide +kernel, inWG 911 (by decide +kernel) (by decide +kernel), inWG 102 (by decide +kernel) (by decide +kernel), by decide +kernel⟩
theorem fl_Worker_29 : fldOK "MethodWarden$Worker" 29 6 0 true := ⟨_, _, _, cls_Worker, by decide, by decide, rfl, Or.inl (inWG 286 (by decide +kernel) (by decide +kernel))⟩
theorem fl_Worker_141 : fldOK "MethodWarden$Worker" 141 4 2 false := ⟨_, _, _, cls_Ctx, by decide, by decide, rfl, Or.inr ⟨"MethodWarden", inNW 227 (by decide +kernel) (by decide +kernel)⟩⟩
theorem fl_Worker_144 : fldOK "MethodWarden$Worker" 144 6 8 false := ⟨_, _, _, cls_Worker, by decide, by decide, rfl, Or.inl (inWG 294 (by decide +kernel) (by decide +kernel))⟩
theorem fl_Worker_18 : fldOK "MethodWarden$Worker" 18 6 2 true := ⟨_, _, _, cls_Worker, by decide, by decide, rfl, Or.inl (inWG 288 (by decide +kernel) (by decide +kernel))⟩
theorem fl_Worker_148 : fldOK "MethodWarden$Worker" 148 6 9 false := ⟨_, _, _, cls_Worker, by decide, by decide, rfl, Or.inl (inWG 295 (by decide +kernel) (by decide +kernel))⟩
theorem ml_Worker_121 : mlV "MethodWarden$Worker" 121 Y_Val_beInt 1 := ⟨⟨yok_Val_beInt, by decide +kernel, by decide⟩, Or.inl (inWG 899 (by decide +kernel) (by decide +kernel)), inWG 900 (by decide +kernel) (by decide +kernel), inWG 901 (by decide +kernel) (by decide +kernel)⟩
theorem ml_Worker_124 : mlV "MethodWarden$Worker" 124 Y_Val_beLong 1 := ⟨⟨yok_Val_beLong, by decide +kernel, by decide⟩, Or.inl (inWG 912 (by decide +kernel) (by decide +kernel)), inWG 913 (by decide +kernel) (by decide +kernel), inWG 914 (by decide +kernel) (by decide +kernel)⟩
theorem ml_Worker_128 : mlV "MethodWarden$Worker" 128 Y_Val_beTruth 1 := ⟨⟨yok_Val_beTruth, by decide +kernel, by decide⟩, Or.inl (inWG 916 (by decide +kernel) (by decide +kernel)), inWG 917 (by decide +kernel) (by decide +kernel), inWG 918 (by decide +kernel) (by decide +kernel)⟩
theorem ml_Worker_132 : mlV "MethodWarden$Worker" 132 Y_Val_beNothing 0 := ⟨⟨yok_Val_beNothing, by decide +kernel, by decide⟩, Or.inl (inWG 903 (by decide +kernel) (by decide +kernel)), inWG 904 (by decide +kernel) (by decide +kernel), inWG 905 (by decide +kernel) (by decide +kernel)⟩
theorem ml_Worker_136 : mlV "MethodWarden$Worker" 136 Y_Ctx_isNobody 0 := ⟨⟨yok_Ctx_isNobody, by decide +kernel, by decide⟩, Or.inl (inWG 920 (by decide +kernel) (by decide +kernel)), inWG 721 (by decide +kernel) (by decide +kernel), inWG 722 (by decide +kernel) (by decide +kernel)⟩
theorem ml_Worker_151 : mlV "MethodWarden$Worker" 151 Y_Val_beList 1 := ⟨⟨yok_Val_beList, by decide +kernel, by decide⟩, Or.inl (inWG 921 (by decide +kernel) (by decide +kernel)), inWG 922 (by decide +kernel) (by decide +kernel), inWG 923 (by decide +kernel) (by decide +kernel)⟩
def f_Worker_valueOfLeaf (a1 : Int32) (a2 : Int64) (a3 : Nat) (M : ax_M) : Option (Nat × ax_M) :=
  if a1 = 2 then (gk a3 7 (bnd (f_Val_beInt a3 (Int64.toInt32 a2) M) (fun q3 M4 => some (q3, M4)))) else (if a1 = 3 then (gk a3 7 (bnd (f_Val_beLong a3 a2 M) (fun q7 M8 => some (q7, M8)))) else (if a1 = 4 then (gk a3 7 (bnd (f_Val_beTruth a3 1 M) (fun q11 M12 => some (q11, M12)))) else (if a1 = 5 then (gk a3 7 (bnd (f_Val_beTruth a3 0 M) (fun q15 M16 => some (q15, M16)))) else (if a1 = 6 then (gk a3 7 (bnd (f_Val_beNothing a3 M) (fun q19 M20 => some (q19, M20)))) else (if a1 = 7 then (bnd (f_Ctx_isNobody  M) (fun q22 M23 => if q22 = 0 then (gk a3 7 (bnd (f_Val_beInt a3 (gI M23 63 2) M23) (fun q26 M27 => some (q26, M27)))) else (gk a3 7 (bnd (f_Val_beNothing a3 M23) (fun q29 M30 => some (q29, M30)))))) else (if a1 = 8 then (gk a3 7 (bnd (f_Val_beInt a3 (gI M 68 4) M) (fun q33 M34 => some (q33, M34)))) else (if a1 = 9 then (gk a3 7 (bnd (f_Val_beLong a3 (gJ M 68 5) M) (fun q37 M38 => some (q37, M38)))) else (if a1 = 10 then (if (gI M 68 8) = 0 then (some (70, M)) else (gk a3 7 (bnd (f_Val_beInt a3 (gI M 68 9) M) (fun q42 M43 => some (q42, M43))))) else (if a1 = 11 then (kM (gA M 68 7) (fun r45 => if r45 = 0 then (some (70, M)) else (kM (gA M 68 7) (fun r47 => some (r47, M))))) else (if a1 = 12 then (kM (gA M 68 6) (fun r49 => gk a3 7 (bnd (f_Val_beList a3 r49 M) (fun q51 M52 => some (q51, M52))))) else (some (70, M))))))))))))
set_option maxHeartbeats 4000000 in
set_option maxRecDepth 100000 in
theorem c_Worker_valueOfLeaf {l : Launch} {g : ax_G} {a1 : Int32} {a2 : Int64} {a3 : Nat} {M : ax_M} {r : Nat} {M' : ax_M} (h : f_Worker_valueOfLeaf a1 a2 a3 M = some (r, M')) : Ctr l g true Y_Worker_valueOfLeaf 3 [vA 68, vI a1, vJ a2, vA a3] M (some (vA r), M') := by
  refine Ctr.ofAW yok_Worker_valueOfLeaf (Nat.le_of_ble_eq_true rfl) (Or.inl rfl) ?_
  show AW l g true Y_Worker_valueOfLeaf 3 (some (vA r), M') 0 [(0, vA 68), (1, vI a1), (2, vJ a2), (4, vA a3)] [] M
  unfold f_Worker_valueOfLeaf at h
  refine A_iload_n 1 rfl rfl rfl ?_
  by_cases hc1 : a1 = 2
  · rw [if_pos hc1] at h
    refine A_tableIn (tgt := 60) (off := 59) rfl (by rw [hc1]; decide) (by rw [hc1]; decide) (by rw [hc1]; rfl) (by decide) ?_
    refine A_aload 3 rfl rfl ?_
    refine A_lload_n 2 rfl rfl rfl ?_
    refine A_l2i rfl ?_
    obtain ⟨hg2, h⟩ := gk_out h
    obtain ⟨q3, M4, hcq3, h⟩ := bnd_out h
    refine A_callV (ci := 7) (as := [vI (Int64.toInt32 a2)]) (st' := []) (r1 := (some (vA q3), M4)) rfl ml_Worker_121 rfl (by decide) hg2 (Or.inl rfl) rfl rfl (Nat.le_of_ble_eq_true rfl) (by decide) (c_Val_beInt hcq3) (Or.inl rfl) ?_
    refine A_pc (pc' := 67) rfl ?_
    refine A_stk (st' := [vA q3]) rfl ?_
    obtain ⟨rfl, rfl⟩ := leaf h
    exact A_aret rfl rfl
  · rw [if_neg hc1] at h
    by_cases hc5 : a1 = 3
    · rw [if_pos hc5] at h
      refine A_tableIn (tgt := 68) (off := 67) rfl (by rw [hc5]; decide) (by rw [hc5]; decide) (by rw [hc5]; rfl) (by decide) ?_
      refine A_aload 3 rfl rfl ?_
      refine A_lload_n 2 rfl rfl rfl ?_
      obtain ⟨hg6, h⟩ := gk_out h
      obtain ⟨q7, M8, hcq7, h⟩ := bnd_out h
      refine A_callV (ci := 7) (as := [vJ a2]) (st' := []) (r1 := (some (vA q7), M8)) rfl ml_Worker_124 rfl (by decide) hg6 (Or.inl rfl) rfl rfl (Nat.le_of_ble_eq_true rfl) (by decide) (c_Val_beLong hcq7) (Or.inl rfl) ?_
      refine A_pc (pc' := 74) rfl ?_
      refine A_stk (st' := [vA q7]) rfl ?_
      obtain ⟨rfl, rfl⟩ := leaf h
      exact A_aret rfl rfl
    · rw [if_neg hc5] at h
      by_cases hc9 : a1 = 4
      · rw [if_pos hc9] at h
        refine A_tableIn (tgt := 75) (off := 74) rfl (by rw [hc9]; decide) (by rw [hc9]; decide) (by rw [hc9]; rfl) (by decide) ?_
        refine A_aload 3 rfl rfl ?_
        refine A_iconst (v := 1) rfl (by decide) ?_
        obtain ⟨hg10, h⟩ := gk_out h
        obtain ⟨q11, M12, hcq11, h⟩ := bnd_out h
        refine A_callV (ci := 7) (as := [vI 1]) (st' := []) (r1 := (some (vA q11), M12)) rfl ml_Worker_128 rfl (by decide) hg10 (Or.inl rfl) rfl rfl (Nat.le_of_ble_eq_true rfl) (by decide) (c_Val_beTruth hcq11) (Or.inl rfl) ?_
        refine A_pc (pc' := 81) rfl ?_
        refine A_stk (st' := [vA q11]) rfl ?_
        obtain ⟨rfl, rfl⟩ := leaf h
        exact A_aret rfl rfl
      · rw [if_neg hc9] at h
        by_cases hc13 : a1 = 5
        · rw [if_pos hc13] at h
          refine A_tableIn (tgt := 82) (off := 81) rfl (by rw [hc13]; decide) (by rw [hc13]; decide) (by rw [hc13]; rfl) (by decide) ?_
          refine A_aload 3 rfl rfl ?_
          refine A_iconst (v := 0) rfl (by decide) ?_
          obtain ⟨hg14, h⟩ := gk_out h
          obtain ⟨q15, M16, hcq15, h⟩ := bnd_out h
          refine A_callV (ci := 7) (as := [vI 0]) (st' := []) (r1 := (some (vA q15), M16)) rfl ml_Worker_128 rfl (by decide) hg14 (Or.inl rfl) rfl rfl (Nat.le_of_ble_eq_true rfl) (by decide) (c_Val_beTruth hcq15) (Or.inl rfl) ?_
          refine A_pc (pc' := 88) rfl ?_
          refine A_stk (st' := [vA q15]) rfl ?_
          obtain ⟨rfl, rfl⟩ := leaf h
          exact A_aret rfl rfl
        · rw [if_neg hc13] at h
          by_cases hc17 : a1 = 6
          · rw [if_pos hc17] at h
            refine A_tableIn (tgt := 89) (off := 88) rfl (by rw [hc17]; decide) (by rw [hc17]; decide) (by rw [hc17]; rfl) (by decide) ?_
            refine A_aload 3 rfl rfl ?_
            obtain ⟨hg18, h⟩ := gk_out h
            obtain ⟨q19, M20, hcq19, h⟩ := bnd_out h
            refine A_callV (ci := 7) (as := []) (st' := []) (r1 := (some (vA q19), M20)) rfl ml_Worker_132 rfl (by decide) hg18 (Or.inl rfl) rfl rfl (Nat.le_of_ble_eq_true rfl) (by decide) (c_Val_beNothing hcq19) (Or.inl rfl) ?_
            refine A_pc (pc' := 94) rfl ?_
            refine A_stk (st' := [vA q19]) rfl ?_
            obtain ⟨rfl, rfl⟩ := leaf h
            exact A_aret rfl rfl
          · rw [if_neg hc17] at h
            by_cases hc21 : a1 = 7
            · rw [if_pos hc21] at h
              refine A_tableIn (tgt := 95) (off := 94) rfl (by rw [hc21]; decide) (by rw [hc21]; decide) (by rw [hc21]; rfl) (by decide) ?_
              refine A_aload_n 0 rfl rfl rfl ?_
              refine A_getL (r := 63) rfl fl_Worker_29 rfl (by decide) rfl rfl ?_
              obtain ⟨q22, M23, hcq22, h⟩ := bnd_out h
              refine A_callV (ci := 4) (as := []) (st' := []) (r1 := (some (vI q22), M23)) rfl ml_Worker_136 rfl (by decide) (by decide) (Or.inl rfl) rfl rfl (Nat.le_of_ble_eq_true rfl) (by decide) (c_Ctx_isNobody hcq22) (Or.inl rfl) ?_
              refine A_pc (pc' := 102) rfl ?_
              refine A_stk (st' := [vI q22]) rfl ?_
              refine A_if_eq (tgt := 113) rfl (by decide) (fun hc24 => ?_) (fun hc24 => ?_)
              · rw [if_pos hc24] at h
                refine A_aload 3 rfl rfl ?_
                refine A_aload_n 0 rfl rfl rfl ?_
                refine A_getL (r := 63) rfl fl_Worker_29 rfl (by decide) rfl rfl ?_
                refine A_getI rfl fl_Worker_141 rfl (by decide) (Or.inl rfl) ?_
                obtain ⟨hg25, h⟩ := gk_out h
                obtain ⟨q26, M27, hcq26, h⟩ := bnd_out h
                refine A_callV (ci := 7) (as := [vI (gI M23 63 2)]) (st' := []) (r1 := (some (vA q26), M27)) rfl ml_Worker_121 rfl (by decide) hg25 (Or.inl rfl) rfl rfl (Nat.le_of_ble_eq_true rfl) (by decide) (c_Val_beInt hcq26) (Or.inl rfl) ?_
                refine A_pc (pc' := 125) rfl ?_
                refine A_stk (st' := [vA q26]) rfl ?_
                refine A_pc (pc' := 125) rfl ?_
                obtain ⟨rfl, rfl⟩ := leaf h
                exact A_aret rfl rfl
              · rw [if_neg hc24] at h
                refine A_pc (pc' := 105) rfl ?_
                refine A_aload 3 rfl rfl ?_
                obtain ⟨hg28, h⟩ := gk_out h
                obtain ⟨q29, M30, hcq29, h⟩ := bnd_out h
                refine A_callV (ci := 7) (as := []) (st' := []) (r1 := (some (vA q29), M30)) rfl ml_Worker_132 rfl (by decide) hg28 (Or.inl rfl) rfl rfl (Nat.le_of_ble_eq_true rfl) (by decide) (c_Val_beNothing hcq29) (Or.inl rfl) ?_
                refine A_pc (pc' := 110) rfl ?_
                refine A_stk (st' := [vA q29]) rfl ?_
                refine A_goto (tgt := 125) rfl (by decide) ?_
                obtain ⟨rfl, rfl⟩ := leaf h
                exact A_aret rfl rfl
            · rw [if_neg hc21] at h
              by_cases hc31 : a1 = 8
              · rw [if_pos hc31] at h
                refine A_tableIn (tgt := 126) (off := 125) rfl (by rw [hc31]; decide) (by rw [hc31]; decide) (by rw [hc31]; rfl) (by decide) ?_
                refine A_aload 3 rfl rfl ?_
                refine A_aload_n 0 rfl rfl rfl ?_
                refine A_getI rfl fl_Worker_40 rfl (by decide) (Or.inl rfl) ?_
                obtain ⟨hg32, h⟩ := gk_out h
                obtain ⟨q33, M34, hcq33, h⟩ := bnd_out h
                refine A_callV (ci := 7) (as := [vI (gI M 68 4)]) (st' := []) (r1 := (some (vA q33), M34)) rfl ml_Worker_121 rfl (by decide) hg32 (Or.inl rfl) rfl rfl (Nat.le_of_ble_eq_true rfl) (by decide) (c_Val_beInt hcq33) (Or.inl rfl) ?_
                refine A_pc (pc' := 135) rfl ?_
                refine A_stk (st' := [vA q33]) rfl ?_
                obtain ⟨rfl, rfl⟩ := leaf h
                exact A_aret rfl rfl
              · rw [if_neg hc31] at h
                by_cases hc35 : a1 = 9
                · rw [if_pos hc35] at h
                  refine A_tableIn (tgt := 136) (off := 135) rfl (by rw [hc35]; decide) (by rw [hc35]; decide) (by rw [hc35]; rfl) (by decide) ?_
                  refine A_aload 3 rfl rfl ?_
                  refine A_aload_n 0 rfl rfl rfl ?_
                  refine A_getJ rfl fl_Worker_44 rfl (by decide) (Or.inl rfl) ?_
                  obtain ⟨hg36, h⟩ := gk_out h
                  obtain ⟨q37, M38, hcq37, h⟩ := bnd_out h
                  refine A_callV (ci := 7) (as := [vJ (gJ M 68 5)]) (st' := []) (r1 := (some (vA q37), M38)) rfl ml_Worker_124 rfl (by decide) hg36 (Or.inl rfl) rfl rfl (Nat.le_of_ble_eq_true rfl) (by decide) (c_Val_beLong hcq37) (Or.inl rfl) ?_
                  refine A_pc (pc' := 145) rfl ?_
                  refine A_stk (st' := [vA q37]) rfl ?_
                  obtain ⟨rfl, rfl⟩ := leaf h
                  exact A_aret rfl rfl
                · rw [if_neg hc35] at h
                  by_cases hc39 : a1 = 10
                  · rw [if_pos hc39] at h
                    refine A_tableIn (tgt := 146) (off := 145) rfl (by rw [hc39]; decide) (by rw [hc39]; decide) (by rw [hc39]; rfl) (by decide) ?_
                    refine A_aload_n 0 rfl rfl rfl ?_
                    refine A_getI rfl fl_Worker_144 rfl (by decide) (Or.inl rfl) ?_
                    refine A_if_eq (tgt := 165) rfl (by decide) (fun hc40 => ?_) (fun hc40 => ?_)
                    · rw [if_pos hc40] at h
                      refine A_aload_n 0 rfl rfl rfl ?_
                      refine A_getL (r := 70) rfl fl_Worker_18 rfl (by decide) rfl rfl ?_
                      obtain ⟨rfl, rfl⟩ := leaf h
                      exact A_aret rfl rfl
                    · rw [if_neg hc40] at h
                      refine A_pc (pc' := 153) rfl ?_
                      refine A_aload 3 rfl rfl ?_
                      refine A_aload_n 0 rfl rfl rfl ?_
                      refine A_getI rfl fl_Worker_148 rfl (by decide) (Or.inl rfl) ?_
                      obtain ⟨hg41, h⟩ := gk_out h
                      obtain ⟨q42, M43, hcq42, h⟩ := bnd_out h
                      refine A_callV (ci := 7) (as := [vI (gI M 68 9)]) (st' := []) (r1 := (some (vA q42), M43)) rfl ml_Worker_121 rfl (by decide) hg41 (Or.inl rfl) rfl rfl (Nat.le_of_ble_eq_true rfl) (by decide) (c_Val_beInt hcq42) (Or.inl rfl) ?_
                      refine A_pc (pc' := 162) rfl ?_
                      refine A_stk (st' := [vA q42]) rfl ?_
                      refine A_goto (tgt := 169) rfl (by decide) ?_
                      refine A_pc (pc' := 169) rfl ?_
                      obtain ⟨rfl, rfl⟩ := leaf h
                      exact A_aret rfl rfl
                  · rw [if_neg hc39] at h
                    by_cases hc44 : a1 = 11
                    · rw [if_pos hc44] at h
                      refine A_tableIn (tgt := 170) (off := 169) rfl (by rw [hc44]; decide) (by rw [hc44]; decide) (by rw [hc44]; rfl) (by decide) ?_
                      refine A_aload_n 0 rfl rfl rfl ?_
                      refine A_getA rfl fl_Worker_48 rfl (by decide) (Or.inl rfl) ?_
                      obtain ⟨r45, hr45, h⟩ := kM_out h
                      refine A_nA hr45 ?_
                      refine A_ifnull (tgt := 184) rfl (by decide) (fun hc46 => ?_) (fun hc46 => ?_)
                      · rw [if_pos hc46] at h
                        refine A_aload_n 0 rfl rfl rfl ?_
                        refine A_getL (r := 70) rfl fl_Worker_18 rfl (by decide) rfl rfl ?_
                        obtain ⟨rfl, rfl⟩ := leaf h
                        exact A_aret rfl rfl
                      · rw [if_neg hc46] at h
                        refine A_pc (pc' := 177) rfl ?_
                        refine A_aload_n 0 rfl rfl rfl ?_
                        refine A_getA rfl fl_Worker_48 rfl (by decide) (Or.inl rfl) ?_
                        obtain ⟨r47, hr47, h⟩ := kM_out h
                        refine A_nA hr47 ?_
                        refine A_goto (tgt := 188) rfl (by decide) ?_
                        obtain ⟨rfl, rfl⟩ := leaf h
                        exact A_aret rfl rfl
                    · rw [if_neg hc44] at h
                      by_cases hc48 : a1 = 12
                      · rw [if_pos hc48] at h
                        refine A_tableIn (tgt := 189) (off := 188) rfl (by rw [hc48]; decide) (by rw [hc48]; decide) (by rw [hc48]; rfl) (by decide) ?_
                        refine A_aload 3 rfl rfl ?_
                        refine A_aload_n 0 rfl rfl rfl ?_
                        refine A_getA rfl fl_Worker_33 rfl (by decide) (Or.inl rfl) ?_
                        obtain ⟨r49, hr49, h⟩ := kM_out h
                        refine A_nA hr49 ?_
                        obtain ⟨hg50, h⟩ := gk_out h
                        obtain ⟨q51, M52, hcq51, h⟩ := bnd_out h
                        refine A_callV (ci := 7) (as := [vA r49]) (st' := []) (r1 := (some (vA q51), M52)) rfl ml_Worker_151 rfl (by decide) hg50 (Or.inl rfl) rfl rfl (Nat.le_of_ble_eq_true rfl) (by decide) (c_Val_beList hcq51) (Or.inl rfl) ?_
                        refine A_pc (pc' := 198) rfl ?_
                        refine A_stk (st' := [vA q51]) rfl ?_
                        obtain ⟨rfl, rfl⟩ := leaf h
                        exact A_aret rfl rfl
                      · rw [if_neg hc48] at h
                        refine A_tableDef (tgt := 199) [2, 3, 4, 5, 6, 7, 8, 9, 10, 11, 12] rfl (by decide) (by decide) (fa_cons (ne_i hc1 (by decide)) (fa_cons (ne_i hc5 (by decide)) (fa_cons (ne_i hc9 (by decide)) (fa_cons (ne_i hc13 (by decide)) (fa_cons (ne_i hc17 (by decide)) (fa_cons (ne_i hc21 (by decide)) (fa_cons (ne_i hc31 (by decide)) (fa_cons (ne_i hc35 (by decide)) (fa_cons (ne_i hc39 (by decide)) (fa_cons (ne_i hc44 (by decide)) (fa_cons (ne_i hc48 (by decide)) fa_nil))))))))))) (by decide) ?_
                        refine A_aload_n 0 rfl rfl rfl ?_
                        refine A_getL (r := 70) rfl fl_Worker_18 rfl (by decide) rfl rfl ?_
                        obtain ⟨rfl, rfl⟩ := leaf h
                        exact A_aret rfl rfl
def tb_Worker_negated : List (Nat × Instr × Nat) := [(0, .aload_n 1, 1), (1, .invokevirtual 199, 3), (4, .ifCond .ne 8, 3), (7, .aload_n 0, 1), (8, .getfield 18, 3), (11, .areturn, 1), (12, .aload_n 1, 1), (13, .getfield 211, 3), (16, .iconst 2, 1), (17, .if_icmp .ne 16, 3), (20, .aload_n 2, 1), (21, .aload_n 1, 1), (22, .getfield 202, 3), (25, .lneg, 1), (26, .l2i, 1), (27, .invokevirtual 121, 3), (30, .goto 12, 3), (33, .aload_n 2, 1), (34, .aload_n 1, 1), (35, .getfield 202, 3), (38, .lneg, 1), (39, .invokevirtual 124, 3), (42, .areturn, 1)]
def Y_Worker_negated : ax_Y := (⟨"MethodWarden$Worker", "negated", "(LMethodWarden$Value;LMethodWarden$Value;)LMethodWarden$Value;"⟩, prog_12_method_16_code, 3, some (.object "MethodWarden$Value"), tb_Worker_negated)
theorem yok_Worker_negated : yOK Y_Worker_negated := ⟨by decide +kernel, by decide +kernel, inWG 938 (by decide +kernel) (by decide +kernel), inWG 102 (by decide +kernel) (by decide +kernel), by decide +kernel⟩
theorem fl_Worker_211 : fldOK "MethodWarden$Worker" 211 7 0 false := ⟨_, _, _, cls_Val, by decide, by decide, rfl, Or.inr ⟨"MethodWarden", inNW 270 (by decide +kernel) (by decide +kernel)⟩⟩
theorem fl_Worker_202 : fldOK "MethodWarden$Worker" 202 7 1 false := ⟨_, _, _, cls_Val, by decide, by decide, rfl, Or.inr ⟨"MethodWarden", inNW 273 (by decide +kernel) (by decide +kernel)⟩⟩
theorem ml_Worker_199 : mlV "MethodWarden$Worker" 199 Y_Val_isNumber 0 := ⟨⟨yok_Val_isNumber, by decide +kernel, by decide⟩, Or.inl (inWG 939 (by decide +kernel) (by decide +kernel)), inWG 940 (by decide +kernel) (by decide +kernel), inWG 941 (by decide +kernel) (by decide +kernel)⟩
def f_Worker_negated (a1 : Nat) (a2 : Nat) (M : ax_M) : Option (Nat × ax_M) :=
  gk a1 7 (bnd (f_Val_isNumber a1 M) (fun q2 M3 => if q2 = 0 then (some (70, M3)) else (if (gI M3 a1 0) = 2 then (gk a2 7 (bnd (f_Val_beInt a2 (Int64.toInt32 (-(gJ M3 a1 1))) M3) (fun q10 M11 => some (q10, M11)))) else (gk a2 7 (bnd (f_Val_beLong a2 (-(gJ M3 a1 1)) M3) (fun q7 M8 => some (q7, M8)))))))
set_option maxHeartbeats 4000000 in
set_option maxRecDepth 100000 in
theorem c_Worker_negated {l : Launch} {g : ax_G} {a1 : Nat} {a2 : Nat} {M : ax_M} {r : Nat} {M' : ax_M} (h : f_Worker_negated a1 a2 M = some (r, M')) : Ctr l g true Y_Worker_negated 2 [vA 68, vA a1, vA a2] M (some (vA r), M') := by
  refine Ctr.ofAW yok_Worker_negated (Nat.le_of_ble_eq_true rfl) (Or.inl rfl) ?_
  show AW l g true Y_Worker_negated 2 (some (vA r), M') 0 [(0, vA 68), (1, vA a1), (2, vA a2)] [] M
  unfold f_Worker_negated at h
  refine A_aload_n 1 rfl rfl rfl ?_
  obtain ⟨hg1, h⟩ := gk_out h
  obtain ⟨q2, M3, hcq2, h⟩ := bnd_out h
  refine A_callV (ci := 7) (as := []) (st' := []) (r1 := (some (vI q2), M3)) rfl ml_Worker_199 rfl (by decide) hg1 (Or.inl rfl) rfl rfl (Nat.le_of_ble_eq_true rfl) (by decide) (c_Val_isNumber hcq2) (Or.inl rfl) ?_
  refine A_pc (pc' := 4) rfl ?_
  refine A_stk (st' := [vI q2]) rfl ?_
  refine A_if_ne (tgt := 12) rfl (by decide) (fun hc4 => ?_) (fun hc4 => ?_)
  · rw [if_neg hc4] at h
    refine A_aload_n 1 rfl rfl rfl ?_
    refine A_getI rfl fl_Worker_211 rfl hg1 (Or.inl rfl) ?_
    refine A_iconst (v := 2) rfl (by decide) ?_
    refine A_icmp_ne (tgt := 33) rfl (by decide) (fun hc5 => ?_) (fun hc5 => ?_)
    · rw [if_neg hc5] at h
      refine A_aload_n 2 rfl rfl rfl ?_
      refine A_aload_n 1 rfl rfl rfl ?_
      refine A_getJ rfl fl_Worker_202 rfl hg1 (Or.inl rfl) ?_
      refine A_lneg rfl ?_
      obtain ⟨hg6, h⟩ := gk_out h
      obtain ⟨q7, M8, hcq7, h⟩ := bnd_out h
      refine A_callV (ci := 7) (as := [vJ (-(gJ M3 a1 1))]) (st' := []) (r1 := (some (vA q7), M8)) rfl ml_Worker_124 rfl (by decide) hg6 (Or.inl rfl) rfl rfl (Nat.le_of_ble_eq_true rfl) (by decide) (c_Val_beLong hcq7) (Or.inl rfl) ?_
      refine A_pc (pc' := 42) rfl ?_
      refine A_stk (st' := [vA q7]) rfl ?_
      refine A_pc (pc' := 42) rfl ?_
      obtain ⟨rfl, rfl⟩ := leaf h
      exact A_aret rfl rfl
    · rw [if_pos hc5] at h
      refine A_pc (pc' := 20) rfl ?_
      refine A_aload_n 2 rfl rfl rfl ?_
      refine A_aload_n 1 rfl rfl rfl ?_
      refine A_getJ rfl fl_Worker_202 rfl hg1 (Or.inl rfl) ?_
      refine A_lneg rfl ?_
      refine A_l2i rfl ?_
      refine A_pc (pc' := 27) rfl ?_
      obtain ⟨hg9, h⟩ := gk_out h
      obtain ⟨q10, M11, hcq10, h⟩ := bnd_out h
      refine A_callV (ci := 7) (as := [vI (Int64.toInt32 (-(gJ M3 a1 1)))]) (st' := []) (r1 := (some (vA q10), M11)) rfl ml_Worker_121 rfl (by decide) hg9 (Or.inl rfl) rfl rfl (Nat.le_of_ble_eq_true rfl) (by decide) (c_Val_beInt hcq10) (Or.inl rfl) ?_
      refine A_pc (pc' := 30) rfl ?_
      refine A_stk (st' := [vA q10]) rfl ?_
      refine A_goto (tgt := 42) rfl (by decide) ?_
      obtain ⟨rfl, rfl⟩ := leaf h
      exact A_aret rfl rfl
  · rw [if_pos hc4] at h
    refine A_pc (pc' := 7) rfl ?_
    refine A_aload_n 0 rfl rfl rfl ?_
    refine A_getL (r := 70) rfl fl_Worker_18 rfl (by decide) rfl rfl ?_
    obtain ⟨rfl, rfl⟩ := leaf h
    exact A_aret rfl rfl
def tb_Worker_sizeOf : List (Nat × Instr × Nat) := [(0, .aload_n 1, 1), (1, .invokevirtual 167, 3), (4, .ifCond .eq 17, 3), (7, .aload_n 2, 1), (8, .aload_n 1, 1), (9, .getfield 173, 3), (12, .getfield 183, 3), (15, .invokevirtual 121, 3), (18, .goto 7, 3), (21, .aload_n 0, 1), (22, .getfield 18, 3), (25, .areturn, 1)]
def Y_Worker_sizeOf : ax_Y := (⟨"MethodWarden$Worker", "sizeOf", "(LMethodWarden$Value;LMethodWarden$Value;)LMethodWarden$Value;"⟩, prog_12_method_17_code, 3, some (.object "MethodWarden$Value"), tb_Worker_sizeOf)
theorem yok_Worker_sizeOf : yOK Y_Worker_sizeOf := ⟨by decide +kernel, by decide +kernel, inWG 952 (by decide +kernel) (by decide +kernel), inWG 102 (by decide +kernel) (by decide +kernel), by decide +kernel⟩
theorem fl_Worker_173 : fldOK "MethodWarden$Worker" 173 7 2 true := ⟨_, _, _, cls_Val, by decide, by decide, rfl, Or.inr ⟨"MethodWarden", inNW 276 (by decide +kernel) (by decide +kernel)⟩⟩
theorem fl_Worker_183 : fldOK "MethodWarden$Worker" 183 5 1 false := ⟨_, _, _, cls_Items, by decide, by decide, rfl, Or.inr ⟨"MethodWarden", inNW 247 (by decide +kernel) (by decide +kernel)⟩⟩
theorem ml_Worker_167 : mlV "MethodWarden$Worker" 167 Y_Val_isList 0 := ⟨⟨yok_Val_isList, by decide +kernel, by decide⟩, Or.inl (inWG 886 (by decide +kernel) (by decide +kernel)), inWG 887 (by decide +kernel) (by decide +kernel), inWG 888 (by decide +kernel) (by decide +kernel)⟩
def f_Worker_sizeOf (a1 : Nat) (a2 : Nat) (M : ax_M) : Option (Nat × ax_M) :=
  gk a1 7 (bnd (f_Val_isList a1 M) (fun q2 M3 => if q2 = 0 then (some (70, M3)) else (gk a2 7 (bnd (f_Val_beInt a2 (gI M3 (a1 + 1) 1) M3) (fun q6 M7 => some (q6, M7))))))
set_option maxHeartbeats 4000000 in
set_option maxRecDepth 100000 in
theorem c_Worker_sizeOf {l : Launch} {g : ax_G} {a1 : Nat} {a2 : Nat} {M : ax_M} {r : Nat} {M' : ax_M} (h : f_Worker_sizeOf a1 a2 M = some (r, M')) : Ctr l g true Y_Worker_sizeOf 2 [vA 68, vA a1, vA a2] M (some (vA r), M') := by
  refine Ctr.ofAW yok_Worker_sizeOf (Nat.le_of_ble_eq_true rfl) (Or.inl rfl) ?_
  show AW l g true Y_Worker_sizeOf 2 (some (vA r), M') 0 [(0, vA 68), (1, vA a1), (2, vA a2)] [] M
  unfold f_Worker_sizeOf at h
  refine A_aload_n 1 rfl rfl rfl ?_
  obtain ⟨hg1, h⟩ := gk_out h
  obtain ⟨q2, M3, hcq2, h⟩ := bnd_out h
  refine A_callV (ci := 7) (as := []) (st' := []) (r1 := (some (vI q2), M3)) rfl ml_Worker_167 rfl (by decide) hg1 (Or.inl rfl) rfl rfl (Nat.le_of_ble_eq_true rfl) (by decide) (c_Val_isList hcq2) (Or.inl rfl) ?_
  refine A_pc (pc' := 4) rfl ?_
  refine A_stk (st' := [vI q2]) rfl ?_
  refine A_if_eq (tgt := 21) rfl (by decide) (fun hc4 => ?_) (fun hc4 => ?_)
  · rw [if_pos hc4] at h
    refine A_aload_n 0 rfl rfl rfl ?_
    refine A_getL (r := 70) rfl fl_Worker_18 rfl (by decide) rfl rfl ?_
    obtain ⟨rfl, rfl⟩ := leaf h
    exact A_aret rfl rfl
  · rw [if_neg hc4] at h
    refine A_pc (pc' := 7) rfl ?_
    refine A_aload_n 2 rfl rfl rfl ?_
    refine A_aload_n 1 rfl rfl rfl ?_
    refine A_getL (r := a1 + 1) rfl fl_Worker_173 rfl hg1 rfl rfl ?_
    refine A_getI rfl fl_Worker_183 rfl (lf_Val_1 hg1).1 (Or.inl rfl) ?_
    obtain ⟨hg5, h⟩ := gk_out h
    obtain ⟨q6, M7, hcq6, h⟩ := bnd_out h
    refine A_callV (ci := 7) (as := [vI (gI M3 (a1 + 1) 1)]) (st' := []) (r1 := (some (vA q6), M7)) rfl ml_Worker_121 rfl (by decide) hg5 (Or.inl rfl) rfl rfl (Nat.le_of_ble_eq_true rfl) (by decide) (c_Val_beInt hcq6) (Or.inl rfl) ?_
    refine A_pc (pc' := 18) rfl ?_
    refine A_stk (st' := [vA q6]) rfl ?_
    refine A_pc (pc' := 18) rfl ?_
    refine A_goto (tgt := 25) rfl (by decide) ?_
    obtain ⟨rfl, rfl⟩ := leaf h
    exact A_aret rfl rfl
def tb_Worker_valueOfOne : List (Nat × Instr × Nat) := [(0, .iload_n 1, 1), (1, .lookupswitch 144 #[(13, 89), (14, 137), (34, 58), (41, 51), (43, 119)], 51), (52, .aload_n 0, 1), (53, .aload_n 2, 1), (54, .aload_n 3, 1), (55, .invokevirtual 195, 3), (58, .areturn, 1), (59, .aload_n 2, 1), (60, .invokevirtual 155, 3), (63, .ifCond .eq 22, 3), (66, .aload_n 3, 1), (67, .aload_n 2, 1), (68, .invokevirtual 158, 3), (71, .ifCond .ne 7, 3), (74, .iconst 1, 1), (75, .goto 4, 3), (78, .iconst 0, 1), (79, .invokevirtual 128, 3), (82, .goto 7, 3), (85, .aload_n 0, 1), (86, .getfield 18, 3), (89, .areturn, 1), (90, .aload_n 2, 1), (91, .invokevirtual 199, 3), (94, .ifCond .eq 21, 3), (97, .aload_n 3, 1), (98, .aload_n 0, 1), (99, .getfield 29, 3), (102, .aload_n 2, 1), (103, .getfield 202, 3), (106, .invokevirtual 204, 3), (109, .invokevirtual 128, 3), (112, .goto 7, 3), (115, .aload_n 0, 1), (116, .getfield 18, 3), (119, .areturn, 1), (120, .aload_n 2, 1), (121, .invokevirtual 164, 3), (124, .ifCond .eq 7, 3), (127, .aload_n 2, 1), (128, .goto 9, 3), (131, .aload_n 0, 1), (132, .aload_n 2, 1), (133, .aload_n 3, 1), (134, .invokevirtual 208, 3), (137, .areturn, 1), (138, .aload_n 0, 1), (139, .aload_n 2, 1), (140, .aload_n 3, 1), (141, .invokevirtual 208, 3), (144, .areturn, 1), (145, .aload_n 0, 1), (146, .getfield 18, 3), (149, .areturn, 1)]
def Y_Worker_valueOfOne : ax_Y := (⟨"MethodWarden$Worker", "valueOfOne", "(ILMethodWarden$Value;LMethodWarden$Value;)LMethodWarden$Value;"⟩, prog_12_method_15_code, 4, some (.object "MethodWarden$Value"), tb_Worker_valueOfOne)
theorem yok_Worker_valueOfOne : yOK Y_Worker_valueOfOne := ⟨by decide +kernel, by decide +kernel, inWG 934 (by decide +kernel) (by decide +kernel), inWG 102 (by decide +kernel) (by decide +kernel), by decide +kernel⟩
theorem ml_Worker_204 : mlV "MethodWarden$Worker" 204 Y_Ctx_reaches 1 := ⟨⟨yok_Ctx_reaches, by decide +kernel, by decide⟩, Or.inl (inWG 943 (by decide +kernel) (by decide +kernel)), inWG 944 (by decide +kernel) (by decide +kernel), inWG 945 (by decide +kernel) (by decide +kernel)⟩
theorem ml_Worker_208 : mlV "MethodWarden$Worker" 208 Y_Worker_sizeOf 2 := ⟨⟨yok_Worker_sizeOf, by decide +kernel, by decide⟩, Or.inl (inWG 949 (by decide +kernel) (by decide +kernel)), inWG 951 (by decide +kernel) (by decide +kernel), inWG 44 (by decide +kernel) (by decide +kernel)⟩
theorem ml_Worker_155 : mlV "MethodWarden$Worker" 155 Y_Val_isTruth 0 := ⟨⟨yok_Val_isTruth, by decide +kernel, by decide⟩, Or.inl (inWG 862 (by decide +kernel) (by decide +kernel)), inWG 863 (by decide +kernel) (by decide +kernel), inWG 864 (by decide +kernel) (by decide +kernel)⟩
theorem ml_Worker_158 : mlV "MethodWarden$Worker" 158 Y_Val_isTrue 0 := ⟨⟨yok_Val_isTrue, by decide +kernel, by decide⟩, Or.inl (inWG 866 (by decide +kernel) (by decide +kernel)), inWG 867 (by decide +kernel) (by decide +kernel), inWG 868 (by decide +kernel) (by decide +kernel)⟩
theorem ml_Worker_195 : mlV "MethodWarden$Worker" 195 Y_Worker_negated 2 := ⟨⟨yok_Worker_negated, by decide +kernel, by decide⟩, Or.inl (inWG 935 (by decide +kernel) (by decide +kernel)), inWG 937 (by decide +kernel) (by decide +kernel), inWG 43 (by decide +kernel) (by decide +kernel)⟩
theorem ml_Worker_164 : mlV "MethodWarden$Worker" 164 Y_Val_isNothing 0 := ⟨⟨yok_Val_isNothing, by decide +kernel, by decide⟩, Or.inl (inWG 878 (by decide +kernel) (by decide +kernel)), inWG 879 (by decide +kernel) (by decide +kernel), inWG 880 (by decide +kernel) (by decide +kernel)⟩
def f_Worker_valueOfOne (a1 : Int32) (a2 : Nat) (a3 : Nat) (M : ax_M) : Option (Nat × ax_M) :=
  if a1 = 13 then (gk a2 7 (bnd (f_Val_isNumber a2 M) (fun q3 M4 => if q3 = 0 then (some (70, M4)) else (bnd (f_Ctx_reaches (gJ M4 a2 1) M4) (fun q6 M7 => gk a3 7 (bnd (f_Val_beTruth a3 q6 M7) (fun q9 M10 => some (q9, M10)))))))) else (if a1 = 14 then (bnd (f_Worker_sizeOf a2 a3 M) (fun q12 M13 => some (q12, M13))) else (if a1 = 34 then (gk a2 7 (bnd (f_Val_isTruth a2 M) (fun q16 M17 => if q16 = 0 then (some (70, M17)) else (bnd (f_Val_isTrue a2 M17) (fun q19 M20 => if q19 = 0 then (gk a3 7 (bnd (f_Val_beTruth a3 1 M20) (fun q26 M27 => some (q26, M27)))) else (gk a3 7 (bnd (f_Val_beTruth a3 0 M20) (fun q23 M24 => some (q23, M24))))))))) else (if a1 = 41 then (bnd (f_Worker_negated a2 a3 M) (fun q29 M30 => some (q29, M30))) else (if a1 = 43 then (gk a2 7 (bnd (f_Val_isNothing a2 M) (fun q33 M34 => if q33 = 0 then (bnd (f_Worker_sizeOf a2 a3 M34) (fun q36 M37 => some (q36, M37))) else (some (a2, M34))))) else (some (70, M))))))
set_option maxHeartbeats 4000000 in
set_option maxRecDepth 100000 in
theorem c_Worker_valueOfOne {l : Launch} {g : ax_G} {a1 : Int32} {a2 : Nat} {a3 : Nat} {M : ax_M} {r : Nat} {M' : ax_M} (h : f_Worker_valueOfOne a1 a2 a3 M = some (r, M')) : Ctr l g true Y_Worker_valueOfOne 3 [vA 68, vI a1, vA a2, vA a3] M (some (vA r), M') := by
  refine Ctr.ofAW yok_Worker_valueOfOne (Nat.le_of_ble_eq_true rfl) (Or.inl rfl) ?_
  show AW l g true Y_Worker_valueOfOne 3 (some (vA r), M') 0 [(0, vA 68), (1, vI a1), (2, vA a2), (3, vA a3)] [] M
  unfold f_Worker_valueOfOne at h
  refine A_iload_n 1 rfl rfl rfl ?_
  by_cases hc1 : a1 = 13
  · rw [if_pos hc1] at h
    refine A_lookup (tgt := 90) (off := 89) rfl (by decide) (by rw [hc1]; decide) (by decide) ?_
    refine A_aload_n 2 rfl rfl rfl ?_
    obtain ⟨hg2, h⟩ := gk_out h
    obtain ⟨q3, M4, hcq3, h⟩ := bnd_out h
    refine A_callV (ci := 7) (as := []) (st' := []) (r1 := (some (vI q3), M4)) rfl ml_Worker_199 rfl (by decide) hg2 (Or.inl rfl) rfl rfl (Nat.le_of_ble_eq_true rfl) (by decide) (c_Val_isNumber hcq3) (Or.inl rfl) ?_
    refine A_pc (pc' := 94) rfl ?_
    refine A_stk (st' := [vI q3]) rfl ?_
    refine A_if_eq (tgt := 115) rfl (by decide) (fun hc5 => ?_) (fun hc5 => ?_)
    · rw [if_pos hc5] at h
      refine A_aload_n 0 rfl rfl rfl ?_
      refine A_getL (r := 70) rfl fl_Worker_18 rfl (by decide) rfl rfl ?_
      obtain ⟨rfl, rfl⟩ := leaf h
      exact A_aret rfl rfl
    · rw [if_neg hc5] at h
      refine A_pc (pc' := 97) rfl ?_
      refine A_aload_n 3 rfl rfl rfl ?_
      refine A_aload_n 0 rfl rfl rfl ?_
      refine A_getL (r := 63) rfl fl_Worker_29 rfl (by decide) rfl rfl ?_
      refine A_aload_n 2 rfl rfl rfl ?_
      refine A_getJ rfl fl_Worker_202 rfl hg2 (Or.inl rfl) ?_
      refine A_pc (pc' := 106) rfl ?_
      obtain ⟨q6, M7, hcq6, h⟩ := bnd_out h
      refine A_callV (ci := 4) (as := [vJ (gJ M4 a2 1)]) (st' := [vA a3]) (r1 := (some (vI q6), M7)) rfl ml_Worker_204 rfl (by decide) (by decide) (Or.inl rfl) rfl rfl (Nat.le_of_ble_eq_true rfl) (by decide) (c_Ctx_reaches hcq6) (Or.inl rfl) ?_
      refine A_pc (pc' := 109) rfl ?_
      refine A_stk (st' := [vI q6, vA a3]) rfl ?_
      obtain ⟨hg8, h⟩ := gk_out h
      obtain ⟨q9, M10, hcq9, h⟩ := bnd_out h
      refine A_callV (ci := 7) (as := [vI q6]) (st' := []) (r1 := (some (vA q9), M10)) rfl ml_Worker_128 rfl (by decide) hg8 (Or.inl rfl) rfl rfl (Nat.le_of_ble_eq_true rfl) (by decide) (c_Val_beTruth hcq9) (Or.inl rfl) ?_
      refine A_pc (pc' := 112) rfl ?_
      refine A_stk (st' := [vA q9]) rfl ?_
      refine A_goto (tgt := 119) rfl (by decide) ?_
      obtain ⟨rfl, rfl⟩ := leaf h
      exact A_aret rfl rfl
  · rw [if_neg hc1] at h
    by_cases hc11 : a1 = 14
    · rw [if_pos hc11] at h
      refine A_lookup (tgt := 138) (off := 137) rfl (by decide) (by rw [hc11]; decide) (by decide) ?_
      refine A_aload_n 0 rfl rfl rfl ?_
      refine A_aload_n 2 rfl rfl rfl ?_
      refine A_aload_n 3 rfl rfl rfl ?_
      obtain ⟨q12, M13, hcq12, h⟩ := bnd_out h
      refine A_callV (ci := 6) (as := [vA a2, vA a3]) (st' := []) (r1 := (some (vA q12), M13)) rfl ml_Worker_208 rfl (by decide) (by decide) (Or.inl rfl) rfl rfl (Nat.le_of_ble_eq_true rfl) (by decide) (c_Worker_sizeOf hcq12) (Or.inl rfl) ?_
      refine A_pc (pc' := 144) rfl ?_
      refine A_stk (st' := [vA q12]) rfl ?_
      obtain ⟨rfl, rfl⟩ := leaf h
      exact A_aret rfl rfl
    · rw [if_neg hc11] at h
      by_cases hc14 : a1 = 34
      · rw [if_pos hc14] at h
        refine A_lookup (tgt := 59) (off := 58) rfl (by decide) (by rw [hc14]; decide) (by decide) ?_
        refine A_aload_n 2 rfl rfl rfl ?_
        obtain ⟨hg15, h⟩ := gk_out h
        obtain ⟨q16, M17, hcq16, h⟩ := bnd_out h
        refine A_callV (ci := 7) (as := []) (st' := []) (r1 := (some (vI q16), M17)) rfl ml_Worker_155 rfl (by decide) hg15 (Or.inl rfl) rfl rfl (Nat.le_of_ble_eq_true rfl) (by decide) (c_Val_isTruth hcq16) (Or.inl rfl) ?_
        refine A_pc (pc' := 63) rfl ?_
        refine A_stk (st' := [vI q16]) rfl ?_
        refine A_if_eq (tgt := 85) rfl (by decide) (fun hc18 => ?_) (fun hc18 => ?_)
        · rw [if_pos hc18] at h
          refine A_aload_n 0 rfl rfl rfl ?_
          refine A_getL (r := 70) rfl fl_Worker_18 rfl (by decide) rfl rfl ?_
          obtain ⟨rfl, rfl⟩ := leaf h
          exact A_aret rfl rfl
        · rw [if_neg hc18] at h
          refine A_pc (pc' := 66) rfl ?_
          refine A_aload_n 3 rfl rfl rfl ?_
          refine A_aload_n 2 rfl rfl rfl ?_
          obtain ⟨q19, M20, hcq19, h⟩ := bnd_out h
          refine A_callV (ci := 7) (as := []) (st' := [vA a3]) (r1 := (some (vI q19), M20)) rfl ml_Worker_158 rfl (by decide) hg15 (Or.inl rfl) rfl rfl (Nat.le_of_ble_eq_true rfl) (by decide) (c_Val_isTrue hcq19) (Or.inl rfl) ?_
          refine A_pc (pc' := 71) rfl ?_
          refine A_stk (st' := [vI q19, vA a3]) rfl ?_
          refine A_if_ne (tgt := 78) rfl (by decide) (fun hc21 => ?_) (fun hc21 => ?_)
          · rw [if_neg hc21] at h
            refine A_iconst (v := 0) rfl (by decide) ?_
            obtain ⟨hg22, h⟩ := gk_out h
            obtain ⟨q23, M24, hcq23, h⟩ := bnd_out h
            refine A_callV (ci := 7) (as := [vI 0]) (st' := []) (r1 := (some (vA q23), M24)) rfl ml_Worker_128 rfl (by decide) hg22 (Or.inl rfl) rfl rfl (Nat.le_of_ble_eq_true rfl) (by decide) (c_Val_beTruth hcq23) (Or.inl rfl) ?_
            refine A_pc (pc' := 82) rfl ?_
            refine A_stk (st' := [vA q23]) rfl ?_
            refine A_goto (tgt := 89) rfl (by decide) ?_
            obtain ⟨rfl, rfl⟩ := leaf h
            exact A_aret rfl rfl
          · rw [if_pos hc21] at h
            refine A_pc (pc' := 74) rfl ?_
            refine A_iconst (v := 1) rfl (by decide) ?_
            refine A_goto (tgt := 79) rfl (by decide) ?_
            obtain ⟨hg25, h⟩ := gk_out h
            obtain ⟨q26, M27, hcq26, h⟩ := bnd_out h
            refine A_callV (ci := 7) (as := [vI 1]) (st' := []) (r1 := (some (vA q26), M27)) rfl ml_Worker_128 rfl (by decide) hg25 (Or.inl rfl) rfl rfl (Nat.le_of_ble_eq_true rfl) (by decide) (c_Val_beTruth hcq26) (Or.inl rfl) ?_
            refine A_pc (pc' := 82) rfl ?_
            refine A_stk (st' := [vA q26]) rfl ?_
            refine A_goto (tgt := 89) rfl (by decide) ?_
            obtain ⟨rfl, rfl⟩ := leaf h
            exact A_aret rfl rfl
      · rw [if_neg hc14] at h
        by_cases hc28 : a1 = 41
        · rw [if_pos hc28] at h
          refine A_lookup (tgt := 52) (off := 51) rfl (by decide) (by rw [hc28]; decide) (by decide) ?_
          refine A_aload_n 0 rfl rfl rfl ?_
          refine A_aload_n 2 rfl rfl rfl ?_
          refine A_aload_n 3 rfl rfl rfl ?_
          obtain ⟨q29, M30, hcq29, h⟩ := bnd_out h
          refine A_callV (ci := 6) (as := [vA a2, vA a3]) (st' := []) (r1 := (some (vA q29), M30)) rfl ml_Worker_195 rfl (by decide) (by decide) (Or.inl rfl) rfl rfl (Nat.le_of_ble_eq_true rfl) (by decide) (c_Worker_negated hcq29) (Or.inl rfl) ?_
          refine A_pc (pc' := 58) rfl ?_
          refine A_stk (st' := [vA q29]) rfl ?_
          obtain ⟨rfl, rfl⟩ := leaf h
          exact A_aret rfl rfl
        · rw [if_neg hc28] at h
          by_cases hc31 : a1 = 43
          · rw [if_pos hc31] at h
            refine A_lookup (tgt := 120) (off := 119) rfl (by decide) (by rw [hc31]; decide) (by decide) ?_
            refine A_aload_n 2 rfl rfl rfl ?_
            obtain ⟨hg32, h⟩ := gk_out h
            obtain ⟨q33, M34, hcq33, h⟩ := bnd_out h
            refine A_callV (ci := 7) (as := []) (st' := []) (r1 := (some (vI q33), M34)) rfl ml_Worker_164 rfl (by decide) hg32 (Or.inl rfl) rfl rfl (Nat.le_of_ble_eq_true rfl) (by decide) (c_Val_isNothing hcq33) (Or.inl rfl) ?_
            refine A_pc (pc' := 124) rfl ?_
            refine A_stk (st' := [vI q33]) rfl ?_
            refine A_if_eq (tgt := 131) rfl (by decide) (fun hc35 => ?_) (fun hc35 => ?_)
            · rw [if_pos hc35] at h
              refine A_aload_n 0 rfl rfl rfl ?_
              refine A_aload_n 2 rfl rfl rfl ?_
              refine A_aload_n 3 rfl rfl rfl ?_
              obtain ⟨q36, M37, hcq36, h⟩ := bnd_out h
              refine A_callV (ci := 6) (as := [vA a2, vA a3]) (st' := []) (r1 := (some (vA q36), M37)) rfl ml_Worker_208 rfl (by decide) (by decide) (Or.inl rfl) rfl rfl (Nat.le_of_ble_eq_true rfl) (by decide) (c_Worker_sizeOf hcq36) (Or.inl rfl) ?_
              refine A_pc (pc' := 137) rfl ?_
              refine A_stk (st' := [vA q36]) rfl ?_
              obtain ⟨rfl, rfl⟩ := leaf h
              exact A_aret rfl rfl
            · rw [if_neg hc35] at h
              refine A_pc (pc' := 127) rfl ?_
              refine A_aload_n 2 rfl rfl rfl ?_
              refine A_goto (tgt := 137) rfl (by decide) ?_
              obtain ⟨rfl, rfl⟩ := leaf h
              exact A_aret rfl rfl
          · rw [if_neg hc31] at h
            refine A_lookup (tgt := 145) rfl (by decide) (lk_def _ _ _ (fa_cons (ne_i hc1 (by decide)) (fa_cons (ne_i hc11 (by decide)) (fa_cons (ne_i hc14 (by decide)) (fa_cons (ne_i hc28 (by decide)) (fa_cons (ne_i hc31 (by decide)) fa_nil)))))) (by decide) ?_
            refine A_aload_n 0 rfl rfl rfl ?_
            refine A_getL (r := 70) rfl fl_Worker_18 rfl (by decide) rfl rfl ?_
            obtain ⟨rfl, rfl⟩ := leaf h
            exact A_aret rfl rfl
def tb_Worker_itemOf : List (Nat × Instr × Nat) := [(0, .aload_n 1, 1), (1, .invokevirtual 167, 3), (4, .ifCond .eq 24, 3), (7, .aload_n 2, 1), (8, .invokevirtual 199, 3), (11, .ifCond .eq 17, 3), (14, .aload_n 1, 1), (15, .getfield 173, 3), (18, .aload_n 2, 1), (19, .getfield 202, 3), (22, .invokevirtual 224, 3), (25, .ifCond .ne 8, 3), (28, .aload_n 0, 1), (29, .getfield 18, 3), (32, .areturn, 1), (33, .aload_n 3, 1), (34, .aload_n 1, 1), (35, .getfield 173, 3), (38, .aload_n 2, 1), (39, .getfield 202, 3), (42, .l2i, 1), (43, .invokevirtual 184, 3), (46, .invokevirtual 121, 3), (49, .areturn, 1)]
def Y_Worker_itemOf : ax_Y := (⟨"MethodWarden$Worker", "itemOf", "(LMethodWarden$Value;LMethodWarden$Value;LMethodWarden$Value;)LMethodWarden$Value;"⟩, prog_12_method_19_code, 4, some (.object "MethodWarden$Value"), tb_Worker_itemOf)
theorem yok_Worker_itemOf : yOK Y_Worker_itemOf := ⟨by decide +kernel, by decide +kernel, inWG 970 (by decide +kernel) (by decide +kernel), inWG 102 (by decide +kernel) (by decide +kernel), by decide +kernel⟩
theorem ml_Worker_224 : mlV "MethodWarden$Worker" 224 Y_Items_has 1 := ⟨⟨yok_Items_has, by decide +kernel, by decide⟩, Or.inl (inWG 971 (by decide +kernel) (by decide +kernel)), inWG 972 (by decide +kernel) (by decide +kernel), inWG 973 (by decide +kernel) (by decide +kernel)⟩
theorem ml_Worker_184 : mlV "MethodWarden$Worker" 184 Y_Items_get 1 := ⟨⟨yok_Items_get, by decide +kernel, by decide⟩, Or.inl (inWG 846 (by decide +kernel) (by decide +kernel)), inWG 847 (by decide +kernel) (by decide +kernel), inWG 848 (by decide +kernel) (by decide +kernel)⟩
def f_Worker_itemOf (a1 : Nat) (a2 : Nat) (a3 : Nat) (M : ax_M) : Option (Nat × ax_M) :=
  gk a1 7 (bnd (f_Val_isList a1 M) (fun q2 M3 => if q2 = 0 then (some (70, M3)) else (gk a2 7 (bnd (f_Val_isNumber a2 M3) (fun q6 M7 => if q6 = 0 then (some (70, M7)) else (bnd (f_Items_has (a1 + 1) (gJ M7 a2 1) M7) (fun q9 M10 => if q9 = 0 then (some (70, M10)) else (bnd (f_Items_get (a1 + 1) (Int64.toInt32 (gJ M10 a2 1)) M10) (fun q12 M13 => gk a3 7 (bnd (f_Val_beInt a3 q12 M13) (fun q15 M16 => some (q15, M16))))))))))))
set_option maxHeartbeats 4000000 in
set_option maxRecDepth 100000 in
theorem c_Worker_itemOf {l : Launch} {g : ax_G} {a1 : Nat} {a2 : Nat} {a3 : Nat} {M : ax_M} {r : Nat} {M' : ax_M} (h : f_Worker_itemOf a1 a2 a3 M = some (r, M')) : Ctr l g true Y_Worker_itemOf 2 [vA 68, vA a1, vA a2, vA a3] M (some (vA r), M') := by
  refine Ctr.ofAW yok_Worker_itemOf (Nat.le_of_ble_eq_true rfl) (Or.inl rfl) ?_
  show AW l g true Y_Worker_itemOf 2 (some (vA r), M') 0 [(0, vA 68), (1, vA a1), (2, vA a2), (3, vA a3)] [] M
  unfold f_Worker_itemOf at h
  refine A_aload_n 1 rfl rfl rfl ?_
  obtain ⟨hg1, h⟩ := gk_out h
  obtain ⟨q2, M3, hcq2, h⟩ := bnd_out h
  refine A_callV (ci := 7) (as := []) (st' := []) (r1 := (some (vI q2), M3)) rfl ml_Worker_167 rfl (by decide) hg1 (Or.inl rfl) rfl rfl (Nat.le_of_ble_eq_true rfl) (by decide) (c_Val_isList hcq2) (Or.inl rfl) ?_
  refine A_pc (pc' := 4) rfl ?_
  refine A_stk (st' := [vI q2]) rfl ?_
  refine A_if_eq (tgt := 28) rfl (by decide) (fun hc4 => ?_) (fun hc4 => ?_)
  · rw [if_pos hc4] at h
    refine A_aload_n 0 rfl rfl rfl ?_
    refine A_getL (r := 70) rfl fl_Worker_18 rfl (by decide) rfl rfl ?_
    obtain ⟨rfl, rfl⟩ := leaf h
    exact A_aret rfl rfl
  · rw [if_neg hc4] at h
    refine A_pc (pc' := 7) rfl ?_
    refine A_aload_n 2 rfl rfl rfl ?_
    obtain ⟨hg5, h⟩ := gk_out h
    obtain ⟨q6, M7, hcq6, h⟩ := bnd_out h
    refine A_callV (ci := 7) (as := []) (st' := []) (r1 := (some (vI q6), M7)) rfl ml_Worker_199 rfl (by decide) hg5 (Or.inl rfl) rfl rfl (Nat.le_of_ble_eq_true rfl) (by decide) (c_Val_isNumber hcq6) (Or.inl rfl) ?_
    refine A_pc (pc' := 11) rfl ?_
    refine A_stk (st' := [vI q6]) rfl ?_
    refine A_if_eq (tgt := 28) rfl (by decide) (fun hc8 => ?_) (fun hc8 => ?_)
    · rw [if_pos hc8] at h
      refine A_aload_n 0 rfl rfl rfl ?_
      refine A_getL (r := 70) rfl fl_Worker_18 rfl (by decide) rfl rfl ?_
      obtain ⟨rfl, rfl⟩ := leaf h
      exact A_aret rfl rfl
    · rw [if_neg hc8] at h
      refine A_pc (pc' := 14) rfl ?_
      refine A_aload_n 1 rfl rfl rfl ?_
      refine A_getL (r := a1 + 1) rfl fl_Worker_173 rfl hg1 rfl rfl ?_
      refine A_aload_n 2 rfl rfl rfl ?_
      refine A_getJ rfl fl_Worker_202 rfl hg5 (Or.inl rfl) ?_
      obtain ⟨q9, M10, hcq9, h⟩ := bnd_out h
      refine A_callV (ci := 5) (as := [vJ (gJ M7 a2 1)]) (st' := []) (r1 := (some (vI q9), M10)) rfl ml_Worker_224 rfl (by decide) (lf_Val_1 hg1).1 (Or.inl rfl) rfl rfl (Nat.le_of_ble_eq_true rfl) (by decide) (c_Items_has hcq9) (Or.inl rfl) ?_
      refine A_pc (pc' := 25) rfl ?_
      refine A_stk (st' := [vI q9]) rfl ?_
      refine A_pc (pc' := 25) rfl ?_
      refine A_if_ne (tgt := 33) rfl (by decide) (fun hc11 => ?_) (fun hc11 => ?_)
      · rw [if_neg hc11] at h
        refine A_aload_n 3 rfl rfl rfl ?_
        refine A_aload_n 1 rfl rfl rfl ?_
        refine A_getL (r := a1 + 1) rfl fl_Worker_173 rfl hg1 rfl rfl ?_
        refine A_aload_n 2 rfl rfl rfl ?_
        refine A_getJ rfl fl_Worker_202 rfl hg5 (Or.inl rfl) ?_
        refine A_pc (pc' := 42) rfl ?_
        refine A_l2i rfl ?_
        obtain ⟨q12, M13, hcq12, h⟩ := bnd_out h
        refine A_callV (ci := 5) (as := [vI (Int64.toInt32 (gJ M10 a2 1))]) (st' := [vA a3]) (r1 := (some (vI q12), M13)) rfl ml_Worker_184 rfl (by decide) (lf_Val_1 hg1).1 (Or.inl rfl) rfl rfl (Nat.le_of_ble_eq_true rfl) (by decide) (c_Items_get hcq12) (Or.inl rfl) ?_
        refine A_pc (pc' := 46) rfl ?_
        refine A_stk (st' := [vI q12, vA a3]) rfl ?_
        obtain ⟨hg14, h⟩ := gk_out h
        obtain ⟨q15, M16, hcq15, h⟩ := bnd_out h
        refine A_callV (ci := 7) (as := [vI q12]) (st' := []) (r1 := (some (vA q15), M16)) rfl ml_Worker_121 rfl (by decide) hg14 (Or.inl rfl) rfl rfl (Nat.le_of_ble_eq_true rfl) (by decide) (c_Val_beInt hcq15) (Or.inl rfl) ?_
        refine A_pc (pc' := 49) rfl ?_
        refine A_stk (st' := [vA q15]) rfl ?_
        obtain ⟨rfl, rfl⟩ := leaf h
        exact A_aret rfl rfl
      · rw [if_pos hc11] at h
        refine A_pc (pc' := 28) rfl ?_
        refine A_aload_n 0 rfl rfl rfl ?_
        refine A_getL (r := 70) rfl fl_Worker_18 rfl (by decide) rfl rfl ?_
        obtain ⟨rfl, rfl⟩ := leaf h
        exact A_aret rfl rfl
def tb_Worker_reckoned : List (Nat × Instr × Nat) := [(0, .iload_n 0, 1), (1, .tableswitch 75 29 33 #[35, 39, 43, 47, 61], 35), (36, .lload_n 1, 1), (37, .lload_n 3, 1), (38, .ladd, 1), (39, .lreturn, 1), (40, .lload_n 1, 1), (41, .lload_n 3, 1), (42, .lsub, 1), (43, .lreturn, 1), (44, .lload_n 1, 1), (45, .lload_n 3, 1), (46, .lmul, 1), (47, .lreturn, 1), (48, .lload_n 3, 1), (49, .lconst 0, 1), (50, .lcmp, 1), (51, .ifCond .ne 7, 3), (54, .lconst 0, 1), (55, .goto 6, 3), (58, .lload_n 1, 1), (59, .lload_n 3, 1), (60, .ldiv, 1), (61, .lreturn, 1), (62, .lload_n 3, 1), (63, .lconst 0, 1), (64, .lcmp, 1), (65, .ifCond .ne 7, 3), (68, .lconst 0, 1), (69, .goto 6, 3), (72, .lload_n 1, 1), (73, .lload_n 3, 1), (74, .lrem, 1), (75, .lreturn, 1), (76, .lconst 0, 1), (77, .lreturn, 1)]
def Y_Worker_reckoned : ax_Y := (⟨"MethodWarden$Worker", "reckoned", "(IJJ)J"⟩, prog_12_method_21_code, 5, some .long, tb_Worker_reckoned)
theorem yok_Worker_reckoned : yOK Y_Worker_reckoned := ⟨by decide +kernel, by decide +kernel, inWG 981 (by decide +kernel) (by decide +kernel), inWG 102 (by decide +kernel) (by decide +kernel), by decide +kernel⟩
def f_Worker_reckoned (a0 : Int32) (a1 : Int64) (a2 : Int64) (M : ax_M) : Option (Int64 × ax_M) :=
  if a0 = 29 then (some (a1 + a2, M)) else (if a0 = 30 then (some (a1 - a2, M)) else (if a0 = 31 then (some (a1 * a2, M)) else (if a0 = 32 then (if (lg_cmp a2 0) = 0 then (some (0, M)) else (gz a2 (some (a1 / a2, M)))) else (if a0 = 33 then (if (lg_cmp a2 0) = 0 then (some (0, M)) else (gz a2 (some (a1 - a1 / a2 * a2, M)))) else (some (0, M))))))
set_option maxHeartbeats 4000000 in
set_option maxRecDepth 100000 in
theorem c_Worker_reckoned {l : Launch} {g : ax_G} {a0 : Int32} {a1 : Int64} {a2 : Int64} {M : ax_M} {r : Int64} {M' : ax_M} (h : f_Worker_reckoned a0 a1 a2 M = some (r, M')) : Ctr l g true Y_Worker_reckoned 1 [vI a0, vJ a1, vJ a2] M (some (vJ r), M') := by
  refine Ctr.ofAW yok_Worker_reckoned (Nat.le_of_ble_eq_true rfl) (Or.inl rfl) ?_
  show AW l g true Y_Worker_reckoned 1 (some (vJ r), M') 0 [(0, vI a0), (1, vJ a1), (3, vJ a2)] [] M
  unfold f_Worker_reckoned at h
  refine A_iload_n 0 rfl rfl rfl ?_
  by_cases hc1 : a0 = 29
  · rw [if_pos hc1] at h
    refine A_tableIn (tgt := 36) (off := 35) rfl (by rw [hc1]; decide) (by rw [hc1]; decide) (by rw [hc1]; rfl) (by decide) ?_
    refine A_lload_n 1 rfl rfl rfl ?_
    refine A_lload_n 2 rfl rfl rfl ?_
    refine A_ladd rfl ?_
    obtain ⟨rfl, rfl⟩ := leaf h
    exact A_lret rfl rfl
  · rw [if_neg hc1] at h
    by_cases hc2 : a0 = 30
    · rw [if_pos hc2] at h
      refine A_tableIn (tgt := 40) (off := 39) rfl (by rw [hc2]; decide) (by rw [hc2]; decide) (by rw [hc2]; rfl) (by decide) ?_
      refine A_lload_n 1 rfl rfl rfl ?_
      refine A_lload_n 2 rfl rfl rfl ?_
      refine A_lsub rfl ?_
      obtain ⟨rfl, rfl⟩ := leaf h
      exact A_lret rfl rfl
    · rw [if_neg hc2] at h
      by_cases hc3 : a0 = 31
      · rw [if_pos hc3] at h
        refine A_tableIn (tgt := 44) (off := 43) rfl (by rw [hc3]; decide) (by rw [hc3]; decide) (by rw [hc3]; rfl) (by decide) ?_
        refine A_lload_n 1 rfl rfl rfl ?_
        refine A_lload_n 2 rfl rfl rfl ?_
        refine A_lmul rfl ?_
        obtain ⟨rfl, rfl⟩ := leaf h
        exact A_lret rfl rfl
      · rw [if_neg hc3] at h
        by_cases hc4 : a0 = 32
        · rw [if_pos hc4] at h
          refine A_tableIn (tgt := 48) (off := 47) rfl (by rw [hc4]; decide) (by rw [hc4]; decide) (by rw [hc4]; rfl) (by decide) ?_
          refine A_lload_n 2 rfl rfl rfl ?_
          refine A_lconst (v := 0) rfl (by decide) ?_
          refine A_lcmp rfl ?_
          refine A_if_ne (tgt := 58) rfl (by decide) (fun hc5 => ?_) (fun hc5 => ?_)
          · rw [if_neg hc5] at h
            refine A_lload_n 1 rfl rfl rfl ?_
            refine A_lload_n 2 rfl rfl rfl ?_
            obtain ⟨hg6, h⟩ := gz_out h
            refine A_ldiv rfl hg6 ?_
            obtain ⟨rfl, rfl⟩ := leaf h
            exact A_lret rfl rfl
          · rw [if_pos hc5] at h
            refine A_pc (pc' := 54) rfl ?_
            refine A_lconst (v := 0) rfl (by decide) ?_
            refine A_goto (tgt := 61) rfl (by decide) ?_
            obtain ⟨rfl, rfl⟩ := leaf h
            exact A_lret rfl rfl
        · rw [if_neg hc4] at h
          by_cases hc7 : a0 = 33
          · rw [if_pos hc7] at h
            refine A_tableIn (tgt := 62) (off := 61) rfl (by rw [hc7]; decide) (by rw [hc7]; decide) (by rw [hc7]; rfl) (by decide) ?_
            refine A_lload_n 2 rfl rfl rfl ?_
            refine A_lconst (v := 0) rfl (by decide) ?_
            refine A_lcmp rfl ?_
            refine A_if_ne (tgt := 72) rfl (by decide) (fun hc8 => ?_) (fun hc8 => ?_)
            · rw [if_neg hc8] at h
              refine A_lload_n 1 rfl rfl rfl ?_
              refine A_lload_n 2 rfl rfl rfl ?_
              obtain ⟨hg9, h⟩ := gz_out h
              refine A_lrem rfl hg9 ?_
              obtain ⟨rfl, rfl⟩ := leaf h
              exact A_lret rfl rfl
            · rw [if_pos hc8] at h
              refine A_pc (pc' := 68) rfl ?_
              refine A_lconst (v := 0) rfl (by decide) ?_
              refine A_goto (tgt := 75) rfl (by decide) ?_
              obtain ⟨rfl, rfl⟩ := leaf h
              exact A_lret rfl rfl
          · rw [if_neg hc7] at h
            refine A_tableDef (tgt := 76) [29, 30, 31, 32, 33] rfl (by decide) (by decide) (fa_cons (ne_i hc1 (by decide)) (fa_cons (ne_i hc2 (by decide)) (fa_cons (ne_i hc3 (by decide)) (fa_cons (ne_i hc4 (by decide)) (fa_cons (ne_i hc7 (by decide)) fa_nil))))) (by decide) ?_
            refine A_lconst (v := 0) rfl (by decide) ?_
            obtain ⟨rfl, rfl⟩ := leaf h
            exact A_lret rfl rfl
def tb_Worker_valueOfNumbers : List (Nat × Instr × Nat) := [(0, .iload_n 1, 1), (1, .tableswitch 123 25 28 #[31, 54, 77, 100], 31), (32, .aload 4, 2), (34, .aload_n 2, 1), (35, .getfield 202, 3), (38, .aload_n 3, 1), (39, .getfield 202, 3), (42, .lcmp, 1), (43, .ifCond .ge 7, 3), (46, .iconst 1, 1), (47, .goto 4, 3), (50, .iconst 0, 1), (51, .invokevirtual 128, 3), (54, .areturn, 1), (55, .aload 4, 2), (57, .aload_n 2, 1), (58, .getfield 202, 3), (61, .aload_n 3, 1), (62, .getfield 202, 3), (65, .lcmp, 1), (66, .ifCond .gt 7, 3), (69, .iconst 1, 1), (70, .goto 4, 3), (73, .iconst 0, 1), (74, .invokevirtual 128, 3), (77, .areturn, 1), (78, .aload 4, 2), (80, .aload_n 2, 1), (81, .getfield 202, 3), (84, .aload_n 3, 1), (85, .getfield 202, 3), (88, .lcmp, 1), (89, .ifCond .le 7, 3), (92, .iconst 1, 1), (93, .goto 4, 3), (96, .iconst 0, 1), (97, .invokevirtual 128, 3), (100, .areturn, 1), (101, .aload 4, 2), (103, .aload_n 2, 1), (104, .getfield 202, 3), (107, .aload_n 3, 1), (108, .getfield 202, 3), (111, .lcmp, 1), (112, .ifCond .lt 7, 3), (115, .iconst 1, 1), (116, .goto 4, 3), (119, .iconst 0, 1), (120, .invokevirtual 128, 3), (123, .areturn, 1), (124, .aload_n 3, 1), (125, .getfield 202, 3), (128, .lconst 0, 1), (129, .lcmp, 1), (130, .ifCond .ne 20, 3), (133, .iload_n 1, 1), (134, .bipush 32, 2), (136, .if_icmp .eq 9, 3), (139, .iload_n 1, 1), (140, .bipush 33, 2), (142, .if_icmp .ne 8, 3), (145, .aload_n 0, 1), (146, .getfield 18, 3), (149, .areturn, 1), (150, .iload_n 1, 1), (151, .aload_n 2, 1), (152, .getfield 202, 3), (155, .aload_n 3, 1), (156, .getfield 202, 3), (159, .invokestatic 227, 3), (162, .lstore 5, 2), (164, .aload_n 2, 1), (165, .getfield 211, 3), (168, .iconst 2, 1), (169, .if_icmp .ne 15, 3), (172, .aload_n 3, 1), (173, .getfield 211, 3), (176, .iconst 2, 1), (177, .if_icmp .ne 7, 3), (180, .iconst 1, 1), (181, .goto 4, 3), (184, .iconst 0, 1), (185, .istore 7, 2), (187, .iload 7, 2), (189, .ifCond .eq 14, 3), (192, .aload 4, 2), (194, .lload 5, 2), (196, .l2i, 1), (197, .invokevirtual 121, 3), (200, .goto 10, 3), (203, .aload 4, 2), (205, .lload 5, 2), (207, .invokevirtual 124, 3), (210, .areturn, 1)]
def Y_Worker_valueOfNumbers : ax_Y := (⟨"MethodWarden$Worker", "valueOfNumbers", "(ILMethodWarden$Value;LMethodWarden$Value;LMethodWarden$Value;)LMethodWarden$Value;"⟩, prog_12_method_20_code, 8, some (.object "MethodWarden$Value"), tb_Worker_valueOfNumbers)
theorem yok_Worker_valueOfNumbers : yOK Y_Worker_valueOfNumbers := ⟨by decide +kernel, by decide +kernel, inWG 978 (by decide +kernel) (by decide +kernel), inWG 102 (by decide +kernel) (by decide +kernel), by decide +kernel⟩
theorem ml_Worker_227 : mlS "MethodWarden$Worker" 227 Y_Worker_reckoned 3 := ⟨⟨yok_Worker_reckoned, by decide +kernel, by decide⟩, Or.inl (inWG 979 (by decide +kernel) (by decide +kernel)), inWG 980 (by decide +kernel) (by decide +kernel)⟩
def f_Worker_valueOfNumbers_150 (l1 : Int32) (l2 : Nat) (l3 : Nat) (l4 : Nat) (M : ax_M) : Option (Nat × ax_M) :=
  gk l2 7 (gk l3 7 (bnd (f_Worker_reckoned l1 (gJ M l2 1) (gJ M l3 1) M) (fun q45 M46 => if (gI M46 l2 0) = 2 then (if (gI M46 l3 0) = 2 then (if ((1 : Int32) = 0) then (gk l4 7 (bnd (f_Val_beLong l4 q45 M46) (fun q65 M66 => some (q65, M66)))) else (gk l4 7 (bnd (f_Val_beInt l4 (Int64.toInt32 q45) M46) (fun q68 M69 => some (q68, M69))))) else (if ((0 : Int32) = 0) then (gk l4 7 (bnd (f_Val_beLong l4 q45 M46) (fun q58 M59 => some (q58, M59)))) else (gk l4 7 (bnd (f_Val_beInt l4 (Int64.toInt32 q45) M46) (fun q61 M62 => some (q61, M62)))))) else (if ((0 : Int32) = 0) then (gk l4 7 (bnd (f_Val_beLong l4 q45 M46) (fun q50 M51 => some (q50, M51)))) else (gk l4 7 (bnd (f_Val_beInt l4 (Int64.toInt32 q45) M46) (fun q53 M54 => some (q53, M54))))))))
set_option maxHeartbeats 4000000 in
set_option maxRecDepth 100000 in
theorem o_Worker_valueOfNumbers_150 {l : Launch} {g : ax_G} (l1 : Int32) (l2 : Nat) (l3 : Nat) (l4 : Nat) (M : ax_M) (r : Nat) (M' : ax_M) (h : f_Worker_valueOfNumbers_150  l1 l2 l3 l4 M = some (r, M')) : AW l g true Y_Worker_valueOfNumbers 2 (some (vA r), M') 150 [(1, vI l1), (2, vA l2), (3, vA l3), (4, vA l4)] [] M := by
  unfold f_Worker_valueOfNumbers_150 at h
  refine A_iload_n 0 rfl rfl rfl ?_
  refine A_aload_n 1 rfl rfl rfl ?_
  obtain ⟨hg43, h⟩ := gk_out h
  refine A_getJ rfl fl_Worker_202 rfl hg43 (Or.inl rfl) ?_
  refine A_aload_n 2 rfl rfl rfl ?_
  obtain ⟨hg44, h⟩ := gk_out h
  refine A_getJ rfl fl_Worker_202 rfl hg44 (Or.inl rfl) ?_
  refine A_pc (pc' := 159) rfl ?_
  obtain ⟨q45, M46, hcq45, h⟩ := bnd_out h
  refine A_callS (as := [vI l1, vJ (gJ M l2 1), vJ (gJ M l3 1)]) (st' := []) (r1 := (some (vJ q45), M46)) rfl ml_Worker_227 rfl rfl (Nat.le_of_ble_eq_true rfl) (by decide) (c_Worker_reckoned hcq45) (Or.inl rfl) ?_
  refine A_pc (pc' := 162) rfl ?_
  refine A_stk (st' := [vJ q45]) rfl ?_
  refine A_lstore (Ls' := [(5, vJ q45), (1, vI l1), (2, vA l2), (3, vA l3), (4, vA l4)]) rfl (by decide) rfl ?_
  refine A_aload_n 2 rfl rfl rfl ?_
  refine A_getI rfl fl_Worker_211 rfl hg43 (Or.inl rfl) ?_
  refine A_iconst (v := 2) rfl (by decide) ?_
  refine A_icmp_ne (tgt := 184) rfl (by decide) (fun hc47 => ?_) (fun hc47 => ?_)
  · rw [if_neg hc47] at h
    refine A_iconst (v := 0) rfl (by decide) ?_
    refine A_istore (Ls' := [(7, vI 0), (5, vJ q45), (1, vI l1), (2, vA l2), (3, vA l3), (4, vA l4)]) rfl (by decide) rfl ?_
    refine A_iload 0 rfl rfl ?_
    refine A_if_eq (tgt := 203) rfl (by decide) (fun hc48 => ?_) (fun hc48 => ?_)
    · rw [if_pos hc48] at h
      refine A_aload 5 rfl rfl ?_
      refine A_lload 1 rfl rfl ?_
      obtain ⟨hg49, h⟩ := gk_out h
      obtain ⟨q50, M51, hcq50, h⟩ := bnd_out h
      refine A_callV (ci := 7) (as := [vJ q45]) (st' := []) (r1 := (some (vA q50), M51)) rfl ml_Worker_124 rfl (by decide) hg49 (Or.inl rfl) rfl rfl (Nat.le_of_ble_eq_true rfl) (by decide) (c_Val_beLong hcq50) (Or.inl rfl) ?_
      refine A_pc (pc' := 210) rfl ?_
      refine A_stk (st' := [vA q50]) rfl ?_
      obtain ⟨rfl, rfl⟩ := leaf h
      exact A_aret rfl rfl
    · rw [if_neg hc48] at h
      refine A_pc (pc' := 192) rfl ?_
      refine A_aload 5 rfl rfl ?_
      refine A_lload 1 rfl rfl ?_
      refine A_l2i rfl ?_
      obtain ⟨hg52, h⟩ := gk_out h
      obtain ⟨q53, M54, hcq53, h⟩ := bnd_out h
      refine A_callV (ci := 7) (as := [vI (Int64.toInt32 q45)]) (st' := []) (r1 := (some (vA q53), M54)) rfl ml_Worker_121 rfl (by decide) hg52 (Or.inl rfl) rfl rfl (Nat.le_of_ble_eq_true rfl) (by decide) (c_Val_beInt hcq53) (Or.inl rfl) ?_
      refine A_pc (pc' := 200) rfl ?_
      refine A_stk (st' := [vA q53]) rfl ?_
      refine A_goto (tgt := 210) rfl (by decide) ?_
      refine A_pc (pc' := 210) rfl ?_
      obtain ⟨rfl, rfl⟩ := leaf h
      exact A_aret rfl rfl
  · rw [if_pos hc47] at h
    refine A_pc (pc' := 172) rfl ?_
    refine A_aload_n 3 rfl rfl rfl ?_
    refine A_getI rfl fl_Worker_211 rfl hg44 (Or.inl rfl) ?_
    refine A_iconst (v := 2) rfl (by decide) ?_
    refine A_icmp_ne (tgt := 184) rfl (by decide) (fun hc55 => ?_) (fun hc55 => ?_)
    · rw [if_neg hc55] at h
      refine A_iconst (v := 0) rfl (by decide) ?_
      refine A_istore (Ls' := [(7, vI 0), (5, vJ q45), (1, vI l1), (2, vA l2), (3, vA l3), (4, vA l4)]) rfl (by decide) rfl ?_
      refine A_iload 0 rfl rfl ?_
      refine A_if_eq (tgt := 203) rfl (by decide) (fun hc56 => ?_) (fun hc56 => ?_)
      · rw [if_pos hc56] at h
        refine A_aload 5 rfl rfl ?_
        refine A_lload 1 rfl rfl ?_
        obtain ⟨hg57, h⟩ := gk_out h
        obtain ⟨q58, M59, hcq58, h⟩ := bnd_out h
        refine A_callV (ci := 7) (as := [vJ q45]) (st' := []) (r1 := (some (vA q58), M59)) rfl ml_Worker_124 rfl (by decide) hg57 (Or.inl rfl) rfl rfl (Nat.le_of_ble_eq_true rfl) (by decide) (c_Val_beLong hcq58) (Or.inl rfl) ?_
        refine A_pc (pc' := 210) rfl ?_
        refine A_stk (st' := [vA q58]) rfl ?_
        obtain ⟨rfl, rfl⟩ := leaf h
        exact A_aret rfl rfl
      · rw [if_neg hc56] at h
        refine A_pc (pc' := 192) rfl ?_
        refine A_aload 5 rfl rfl ?_
        refine A_lload 1 rfl rfl ?_
        refine A_l2i rfl ?_
        obtain ⟨hg60, h⟩ := gk_out h
        obtain ⟨q61, M62, hcq61, h⟩ := bnd_out h
        refine A_callV (ci := 7) (as := [vI (Int64.toInt32 q45)]) (st' := []) (r1 := (some (vA q61), M62)) rfl ml_Worker_121 rfl (by decide) hg60 (Or.inl rfl) rfl rfl (Nat.le_of_ble_eq_true rfl) (by decide) (c_Val_beInt hcq61) (Or.inl rfl) ?_
        refine A_pc (pc' := 200) rfl ?_
        refine A_stk (st' := [vA q61]) rfl ?_
        refine A_goto (tgt := 210) rfl (by decide) ?_
        refine A_pc (pc' := 210) rfl ?_
        obtain ⟨rfl, rfl⟩ := leaf h
        exact A_aret rfl rfl
    · rw [if_pos hc55] at h
      refine A_pc (pc' := 180) rfl ?_
      refine A_iconst (v := 1) rfl (by decide) ?_
      refine A_goto (tgt := 185) rfl (by decide) ?_
      refine A_istore (Ls' := [(7, vI 1), (5, vJ q45), (1, vI l1), (2, vA l2), (3, vA l3), (4, vA l4)]) rfl (by decide) rfl ?_
      refine A_iload 0 rfl rfl ?_
      refine A_if_eq (tgt := 203) rfl (by decide) (fun hc63 => ?_) (fun hc63 => ?_)
      · rw [if_pos hc63] at h
        refine A_aload 5 rfl rfl ?_
        refine A_lload 1 rfl rfl ?_
        obtain ⟨hg64, h⟩ := gk_out h
        obtain ⟨q65, M66, hcq65, h⟩ := bnd_out h
        refine A_callV (ci := 7) (as := [vJ q45]) (st' := []) (r1 := (some (vA q65), M66)) rfl ml_Worker_124 rfl (by decide) hg64 (Or.inl rfl) rfl rfl (Nat.le_of_ble_eq_true rfl) (by decide) (c_Val_beLong hcq65) (Or.inl rfl) ?_
        refine A_pc (pc' := 210) rfl ?_
        refine A_stk (st' := [vA q65]) rfl ?_
        obtain ⟨rfl, rfl⟩ := leaf h
        exact A_aret rfl rfl
      · rw [if_neg hc63] at h
        refine A_pc (pc' := 192) rfl ?_
        refine A_aload 5 rfl rfl ?_
        refine A_lload 1 rfl rfl ?_
        refine A_l2i rfl ?_
        obtain ⟨hg67, h⟩ := gk_out h
        obtain ⟨q68, M69, hcq68, h⟩ := bnd_out h
        refine A_callV (ci := 7) (as := [vI (Int64.toInt32 q45)]) (st' := []) (r1 := (some (vA q68), M69)) rfl ml_Worker_121 rfl (by decide) hg67 (Or.inl rfl) rfl rfl (Nat.le_of_ble_eq_true rfl) (by decide) (c_Val_beInt hcq68) (Or.inl rfl) ?_
        refine A_pc (pc' := 200) rfl ?_
        refine A_stk (st' := [vA q68]) rfl ?_
        refine A_goto (tgt := 210) rfl (by decide) ?_
        refine A_pc (pc' := 210) rfl ?_
        obtain ⟨rfl, rfl⟩ := leaf h
        exact A_aret rfl rfl
def f_Worker_valueOfNumbers (a1 : Int32) (a2 : Nat) (a3 : Nat) (a4 : Nat) (M : ax_M) : Option (Nat × ax_M) :=
  if a1 = 25 then (gk a2 7 (gk a3 7 (if 0 ≤ (lg_cmp (gJ M a2 1) (gJ M a3 1)) then (gk a4 7 (bnd (f_Val_beTruth a4 0 M) (fun q6 M7 => some (q6, M7)))) else (gk a4 7 (bnd (f_Val_beTruth a4 1 M) (fun q9 M10 => some (q9, M10))))))) else (if a1 = 26 then (gk a2 7 (gk a3 7 (if 0 < (lg_cmp (gJ M a2 1) (gJ M a3 1)) then (gk a4 7 (bnd (f_Val_beTruth a4 0 M) (fun q16 M17 => some (q16, M17)))) else (gk a4 7 (bnd (f_Val_beTruth a4 1 M) (fun q19 M20 => some (q19, M20))))))) else (if a1 = 27 then (gk a2 7 (gk a3 7 (if (lg_cmp (gJ M a2 1) (gJ M a3 1)) ≤ 0 then (gk a4 7 (bnd (f_Val_beTruth a4 0 M) (fun q26 M27 => some (q26, M27)))) else (gk a4 7 (bnd (f_Val_beTruth a4 1 M) (fun q29 M30 => some (q29, M30))))))) else (if a1 = 28 then (gk a2 7 (gk a3 7 (if (lg_cmp (gJ M a2 1) (gJ M a3 1)) < 0 then (gk a4 7 (bnd (f_Val_beTruth a4 0 M) (fun q36 M37 => some (q36, M37)))) else (gk a4 7 (bnd (f_Val_beTruth a4 1 M) (fun q39 M40 => some (q39, M40))))))) else (gk a3 7 (if (lg_cmp (gJ M a3 1) 0) = 0 then (if a1 = 32 then (some (70, M)) else (if a1 = 33 then (some (70, M)) else (f_Worker_valueOfNumbers_150 a1 a2 a3 a4 M))) else (f_Worker_valueOfNumbers_150 a1 a2 a3 a4 M))))))
set_option maxHeartbeats 4000000 in
set_option maxRecDepth 100000 in
theorem c_Worker_valueOfNumbers {l : Launch} {g : ax_G} {a1 : Int32} {a2 : Nat} {a3 : Nat} {a4 : Nat} {M : ax_M} {r : Nat} {M' : ax_M} (h : f_Worker_valueOfNumbers a1 a2 a3 a4 M = some (r, M')) : Ctr l g true Y_Worker_valueOfNumbers 2 [vA 68, vI a1, vA a2, vA a3, vA a4] M (some (vA r), M') := by
  refine Ctr.ofAW yok_Worker_valueOfNumbers (Nat.le_of_ble_eq_true rfl) (Or.inl rfl) ?_
  show AW l g true Y_Worker_valueOfNumbers 2 (some (vA r), M') 0 [(0, vA 68), (1, vI a1), (2, vA a2), (3, vA a3), (4, vA a4)] [] M
  unfold f_Worker_valueOfNumbers at h
  refine A_iload_n 1 rfl rfl rfl ?_
  by_cases hc1 : a1 = 25
  · rw [if_pos hc1] at h
    refine A_tableIn (tgt := 32) (off := 31) rfl (by rw [hc1]; decide) (by rw [hc1]; decide) (by rw [hc1]; rfl) (by decide) ?_
    refine A_aload 4 rfl rfl ?_
    refine A_aload_n 2 rfl rfl rfl ?_
    obtain ⟨hg2, h⟩ := gk_out h
    refine A_getJ rfl fl_Worker_202 rfl hg2 (Or.inl rfl) ?_
    refine A_aload_n 3 rfl rfl rfl ?_
    obtain ⟨hg3, h⟩ := gk_out h
    refine A_getJ rfl fl_Worker_202 rfl hg3 (Or.inl rfl) ?_
    refine A_pc (pc' := 42) rfl ?_
    refine A_lcmp rfl ?_
    refine A_if_ge (tgt := 50) rfl (by decide) (fun hc4 => ?_) (fun hc4 => ?_)
    · rw [if_pos hc4] at h
      refine A_iconst (v := 0) rfl (by decide) ?_
      obtain ⟨hg5, h⟩ := gk_out h
      obtain ⟨q6, M7, hcq6, h⟩ := bnd_out h
      refine A_callV (ci := 7) (as := [vI 0]) (st' := []) (r1 := (some (vA q6), M7)) rfl ml_Worker_128 rfl (by decide) hg5 (Or.inl rfl) rfl rfl (Nat.le_of_ble_eq_true rfl) (by decide) (c_Val_beTruth hcq6) (Or.inl rfl) ?_
      refine A_pc (pc' := 54) rfl ?_
      refine A_stk (st' := [vA q6]) rfl ?_
      obtain ⟨rfl, rfl⟩ := leaf h
      exact A_aret rfl rfl
    · rw [if_neg hc4] at h
      refine A_pc (pc' := 46) rfl ?_
      refine A_iconst (v := 1) rfl (by decide) ?_
      refine A_goto (tgt := 51) rfl (by decide) ?_
      obtain ⟨hg8, h⟩ := gk_out h
      obtain ⟨q9, M10, hcq9, h⟩ := bnd_out h
      refine A_callV (ci := 7) (as := [vI 1]) (st' := []) (r1 := (some (vA q9), M10)) rfl ml_Worker_128 rfl (by decide) hg8 (Or.inl rfl) rfl rfl (Nat.le_of_ble_eq_true rfl) (by decide) (c_Val_beTruth hcq9) (Or.inl rfl) ?_
      refine A_pc (pc' := 54) rfl ?_
      refine A_stk (st' := [vA q9]) rfl ?_
      obtain ⟨rfl, rfl⟩ := leaf h
      exact A_aret rfl rfl
  · rw [if_neg hc1] at h
    by_cases hc11 : a1 = 26
    · rw [if_pos hc11] at h
      refine A_tableIn (tgt := 55) (off := 54) rfl (by rw [hc11]; decide) (by rw [hc11]; decide) (by rw [hc11]; rfl) (by decide) ?_
      refine A_aload 4 rfl rfl ?_
      refine A_aload_n 2 rfl rfl rfl ?_
      obtain ⟨hg12, h⟩ := gk_out h
      refine A_getJ rfl fl_Worker_202 rfl hg12 (Or.inl rfl) ?_
      refine A_aload_n 3 rfl rfl rfl ?_
      obtain ⟨hg13, h⟩ := gk_out h
      refine A_getJ rfl fl_Worker_202 rfl hg13 (Or.inl rfl) ?_
      refine A_pc (pc' := 65) rfl ?_
      refine A_lcmp rfl ?_
      refine A_if_gt (tgt := 73) rfl (by decide) (fun hc14 => ?_) (fun hc14 => ?_)
      · rw [if_pos hc14] at h
        refine A_iconst (v := 0) rfl (by decide) ?_
        obtain ⟨hg15, h⟩ := gk_out h
        obtain ⟨q16, M17, hcq16, h⟩ := bnd_out h
        refine A_callV (ci := 7) (as := [vI 0]) (st' := []) (r1 := (some (vA q16), M17)) rfl ml_Worker_128 rfl (by decide) hg15 (Or.inl rfl) rfl rfl (Nat.le_of_ble_eq_true rfl) (by decide) (c_Val_beTruth hcq16) (Or.inl rfl) ?_
        refine A_pc (pc' := 77) rfl ?_
        refine A_stk (st' := [vA q16]) rfl ?_
        obtain ⟨rfl, rfl⟩ := leaf h
        exact A_aret rfl rfl
      · rw [if_neg hc14] at h
        refine A_pc (pc' := 69) rfl ?_
        refine A_iconst (v := 1) rfl (by decide) ?_
        refine A_goto (tgt := 74) rfl (by decide) ?_
        obtain ⟨hg18, h⟩ := gk_out h
        obtain ⟨q19, M20, hcq19, h⟩ := bnd_out h
        refine A_callV (ci := 7) (as := [vI 1]) (st' := []) (r1 := (some (vA q19), M20)) rfl ml_Worker_128 rfl (by decide) hg18 (Or.inl rfl) rfl rfl (Nat.le_of_ble_eq_true rfl) (by decide) (c_Val_beTruth hcq19) (Or.inl rfl) ?_
        refine A_pc (pc' := 77) rfl ?_
        refine A_stk (st' := [vA q19]) rfl ?_
        obtain ⟨rfl, rfl⟩ := leaf h
        exact A_aret rfl rfl
    · rw [if_neg hc11] at h
      by_cases hc21 : a1 = 27
      · rw [if_pos hc21] at h
        refine A_tableIn (tgt := 78) (off := 77) rfl (by rw [hc21]; decide) (by rw [hc21]; decide) (by rw [hc21]; rfl) (by decide) ?_
        refine A_aload 4 rfl rfl ?_
        refine A_aload_n 2 rfl rfl rfl ?_
        obtain ⟨hg22, h⟩ := gk_out h
        refine A_getJ rfl fl_Worker_202 rfl hg22 (Or.inl rfl) ?_
        refine A_aload_n 3 rfl rfl rfl ?_
        obtain ⟨hg23, h⟩ := gk_out h
        refine A_getJ rfl fl_Worker_202 rfl hg23 (Or.inl rfl) ?_
        refine A_pc (pc' := 88) rfl ?_
        refine A_lcmp rfl ?_
        refine A_if_le (tgt := 96) rfl (by decide) (fun hc24 => ?_) (fun hc24 => ?_)
        · rw [if_pos hc24] at h
          refine A_iconst (v := 0) rfl (by decide) ?_
          obtain ⟨hg25, h⟩ := gk_out h
          obtain ⟨q26, M27, hcq26, h⟩ := bnd_out h
          refine A_callV (ci := 7) (as := [vI 0]) (st' := []) (r1 := (some (vA q26), M27)) rfl ml_Worker_128 rfl (by decide) hg25 (Or.inl rfl) rfl rfl (Nat.le_of_ble_eq_true rfl) (by decide) (c_Val_beTruth hcq26) (Or.inl rfl) ?_
          refine A_pc (pc' := 100) rfl ?_
          refine A_stk (st' := [vA q26]) rfl ?_
          obtain ⟨rfl, rfl⟩ := leaf h
          exact A_aret rfl rfl
        · rw [if_neg hc24] at h
          refine A_pc (pc' := 92) rfl ?_
          refine A_iconst (v := 1) rfl (by decide) ?_
          refine A_goto (tgt := 97) rfl (by decide) ?_
          obtain ⟨hg28, h⟩ := gk_out h
          obtain ⟨q29, M30, hcq29, h⟩ := bnd_out h
          refine A_callV (ci := 7) (as := [vI 1]) (st' := []) (r1 := (some (vA q29), M30)) rfl ml_Worker_128 rfl (by decide) hg28 (Or.inl rfl) rfl rfl (Nat.le_of_ble_eq_true rfl) (by decide) (c_Val_beTruth hcq29) (Or.inl rfl) ?_
          refine A_pc (pc' := 100) rfl ?_
          refine A_stk (st' := [vA q29]) rfl ?_
          obtain ⟨rfl, rfl⟩ := leaf h
          exact A_aret rfl rfl
      · rw [if_neg hc21] at h
        by_cases hc31 : a1 = 28
        · rw [if_pos hc31] at h
          refine A_tableIn (tgt := 101) (off := 100) rfl (by rw [hc31]; decide) (by rw [hc31]; decide) (by rw [hc31]; rfl) (by decide) ?_
          refine A_aload 4 rfl rfl ?_
          refine A_aload_n 2 rfl rfl rfl ?_
          obtain ⟨hg32, h⟩ := gk_out h
          refine A_getJ rfl fl_Worker_202 rfl hg32 (Or.inl rfl) ?_
          refine A_aload_n 3 rfl rfl rfl ?_
          obtain ⟨hg33, h⟩ := gk_out h
          refine A_getJ rfl fl_Worker_202 rfl hg33 (Or.inl rfl) ?_
          refine A_pc (pc' := 111) rfl ?_
          refine A_lcmp rfl ?_
          refine A_if_lt (tgt := 119) rfl (by decide) (fun hc34 => ?_) (fun hc34 => ?_)
          · rw [if_pos hc34] at h
            refine A_iconst (v := 0) rfl (by decide) ?_
            obtain ⟨hg35, h⟩ := gk_out h
            obtain ⟨q36, M37, hcq36, h⟩ := bnd_out h
            refine A_callV (ci := 7) (as := [vI 0]) (st' := []) (r1 := (some (vA q36), M37)) rfl ml_Worker_128 rfl (by decide) hg35 (Or.inl rfl) rfl rfl (Nat.le_of_ble_eq_true rfl) (by decide) (c_Val_beTruth hcq36) (Or.inl rfl) ?_
            refine A_pc (pc' := 123) rfl ?_
            refine A_stk (st' := [vA q36]) rfl ?_
            obtain ⟨rfl, rfl⟩ := leaf h
            exact A_aret rfl rfl
          · rw [if_neg hc34] at h
            refine A_pc (pc' := 115) rfl ?_
            refine A_iconst (v := 1) rfl (by decide) ?_
            refine A_goto (tgt := 120) rfl (by decide) ?_
            obtain ⟨hg38, h⟩ := gk_out h
            obtain ⟨q39, M40, hcq39, h⟩ := bnd_out h
            refine A_callV (ci := 7) (as := [vI 1]) (st' := []) (r1 := (some (vA q39), M40)) rfl ml_Worker_128 rfl (by decide) hg38 (Or.inl rfl) rfl rfl (Nat.le_of_ble_eq_true rfl) (by decide) (c_Val_beTruth hcq39) (Or.inl rfl) ?_
            refine A_pc (pc' := 123) rfl ?_
            refine A_stk (st' := [vA q39]) rfl ?_
            obtain ⟨rfl, rfl⟩ := leaf h
            exact A_aret rfl rfl
        · rw [if_neg hc31] at h
          refine A_tableDef (tgt := 124) [25, 26, 27, 28] rfl (by decide) (by decide) (fa_cons (ne_i hc1 (by decide)) (fa_cons (ne_i hc11 (by decide)) (fa_cons (ne_i hc21 (by decide)) (fa_cons (ne_i hc31 (by decide)) fa_nil)))) (by decide) ?_
          refine A_aload_n 3 rfl rfl rfl ?_
          obtain ⟨hg41, h⟩ := gk_out h
          refine A_getJ rfl fl_Worker_202 rfl hg41 (Or.inl rfl) ?_
          refine A_lconst (v := 0) rfl (by decide) ?_
          refine A_lcmp rfl ?_
          refine A_if_ne (tgt := 150) rfl (by decide) (fun hc42 => ?_) (fun hc42 => ?_)
          · rw [if_neg hc42] at h
            refine A_pc (pc' := 150) rfl ?_
            refine A_sub (Ls' := [(1, vI a1), (2, vA a2), (3, vA a3), (4, vA a4)]) [1, 2, 3, 4] rfl ?_
            exact o_Worker_valueOfNumbers_150  _ _ _ _ _ _ _ h
          · rw [if_pos hc42] at h
            refine A_pc (pc' := 133) rfl ?_
            refine A_iload_n 1 rfl rfl rfl ?_
            refine A_bipush (v := 32) rfl (by decide) ?_
            refine A_icmp_eq (tgt := 145) rfl (by decide) (fun hc70 => ?_) (fun hc70 => ?_)
            · rw [if_pos hc70] at h
              refine A_aload_n 0 rfl rfl rfl ?_
              refine A_getL (r := 70) rfl fl_Worker_18 rfl (by decide) rfl rfl ?_
              obtain ⟨rfl, rfl⟩ := leaf h
              exact A_aret rfl rfl
            · rw [if_neg hc70] at h
              refine A_pc (pc' := 139) rfl ?_
              refine A_iload_n 1 rfl rfl rfl ?_
              refine A_bipush (v := 33) rfl (by decide) ?_
              refine A_icmp_ne (tgt := 150) rfl (by decide) (fun hc71 => ?_) (fun hc71 => ?_)
              · rw [if_neg hc71] at h
                refine A_pc (pc' := 150) rfl ?_
                refine A_sub (Ls' := [(1, vI a1), (2, vA a2), (3, vA a3), (4, vA a4)]) [1, 2, 3, 4] rfl ?_
                exact o_Worker_valueOfNumbers_150  _ _ _ _ _ _ _ h
              · rw [if_pos hc71] at h
                refine A_pc (pc' := 145) rfl ?_
                refine A_aload_n 0 rfl rfl rfl ?_
                refine A_getL (r := 70) rfl fl_Worker_18 rfl (by decide) rfl rfl ?_
                obtain ⟨rfl, rfl⟩ := leaf h
                exact A_aret rfl rfl
def tb_Worker_valueOfTwo : List (Nat × Instr × Nat) := [(0, .iload_n 1, 1), (1, .lookupswitch 74 #[(17, 65), (23, 35), (24, 46)], 35), (36, .aload 4, 2), (38, .aload_n 2, 1), (39, .aload_n 3, 1), (40, .invokevirtual 213, 3), (43, .invokevirtual 128, 3), (46, .areturn, 1), (47, .aload 4, 2), (49, .aload_n 2, 1), (50, .aload_n 3, 1), (51, .invokevirtual 213, 3), (54, .ifCond .ne 7, 3), (57, .iconst 1, 1), (58, .goto 4, 3), (61, .iconst 0, 1), (62, .invokevirtual 128, 3), (65, .areturn, 1), (66, .aload_n 0, 1), (67, .aload_n 2, 1), (68, .aload_n 3, 1), (69, .aload 4, 2), (71, .invokevirtual 217, 3), (74, .areturn, 1), (75, .aload_n 2, 1), (76, .invokevirtual 199, 3), (79, .ifCond .eq 22, 3), (82, .aload_n 3, 1), (83, .invokevirtual 199, 3), (86, .ifCond .eq 15, 3), (89, .aload_n 0, 1), (90, .iload_n 1, 1), (91, .aload_n 2, 1), (92, .aload_n 3, 1), (93, .aload 4, 2), (95, .invokevirtual 221, 3), (98, .goto 7, 3), (101, .aload_n 0, 1), (102, .getfield 18, 3), (105, .areturn, 1)]
def Y_Worker_valueOfTwo : ax_Y := (⟨"MethodWarden$Worker", "valueOfTwo", "(ILMethodWarden$Value;LMethodWarden$Value;LMethodWarden$Value;)LMethodWarden$Value;"⟩, prog_12_method_18_code, 5, some (.object "MethodWarden$Value"), tb_Worker_valueOfTwo)
theorem yok_Worker_valueOfTwo : yOK Y_Worker_valueOfTwo := ⟨by decide +kernel, by decide +kernel, inWG 956 (by decide +kernel) (by decide +kernel), inWG 102 (by decide +kernel) (by decide +kernel), by decide +kernel⟩
theorem ml_Worker_217 : mlV "MethodWarden$Worker" 217 Y_Worker_itemOf 3 := ⟨⟨yok_Worker_itemOf, by decide +kernel, by decide⟩, Or.inl (inWG 967 (by decide +kernel) (by decide +kernel)), inWG 969 (by decide +kernel) (by decide +kernel), inWG 46 (by decide +kernel) (by decide +kernel)⟩
theorem ml_Worker_213 : mlV "MethodWarden$Worker" 213 Y_Val_sameAs 1 := ⟨⟨yok_Val_sameAs, by decide +kernel, by decide⟩, Or.inl (inWG 957 (by decide +kernel) (by decide +kernel)), inWG 958 (by decide +kernel) (by decide +kernel), inWG 959 (by decide +kernel) (by decide +kernel)⟩
theorem ml_Worker_221 : mlV "MethodWarden$Worker" 221 Y_Worker_valueOfNumbers 4 := ⟨⟨yok_Worker_valueOfNumbers, by decide +kernel, by decide⟩, Or.inl (inWG 975 (by decide +kernel) (by decide +kernel)), inWG 977 (by decide +kernel) (by decide +kernel), inWG 47 (by decide +kernel) (by decide +kernel)⟩
def f_Worker_valueOfTwo (a1 : Int32) (a2 : Nat) (a3 : Nat) (a4 : Nat) (M : ax_M) : Option (Nat × ax_M) :=
  if a1 = 17 then (bnd (f_Worker_itemOf a2 a3 a4 M) (fun q2 M3 => some (q2, M3))) else (if a1 = 23 then (gk a2 7 (bnd (f_Val_sameAs a2 a3 M) (fun q6 M7 => gk a4 7 (bnd (f_Val_beTruth a4 q6 M7) (fun q9 M10 => some (q9, M10)))))) else (if a1 = 24 then (gk a2 7 (bnd (f_Val_sameAs a2 a3 M) (fun q13 M14 => if q13 = 0 then (gk a4 7 (bnd (f_Val_beTruth a4 1 M14) (fun q20 M21 => some (q20, M21)))) else (gk a4 7 (bnd (f_Val_beTruth a4 0 M14) (fun q17 M18 => some (q17, M18))))))) else (gk a2 7 (bnd (f_Val_isNumber a2 M) (fun q23 M24 => if q23 = 0 then (some (70, M24)) else (gk a3 7 (bnd (f_Val_isNumber a3 M24) (fun q27 M28 => if q27 = 0 then (some (70, M28)) else (bnd (f_Worker_valueOfNumbers a1 a2 a3 a4 M28) (fun q30 M31 => some (q30, M31)))))))))))
set_option maxHeartbeats 4000000 in
set_option maxRecDepth 100000 in
theorem c_Worker_valueOfTwo {l : Launch} {g : ax_G} {a1 : Int32} {a2 : Nat} {a3 : Nat} {a4 : Nat} {M : ax_M} {r : Nat} {M' : ax_M} (h : f_Worker_valueOfTwo a1 a2 a3 a4 M = some (r, M')) : Ctr l g true Y_Worker_valueOfTwo 3 [vA 68, vI a1, vA a2, vA a3, vA a4] M (some (vA r), M') := by
  refine Ctr.ofAW yok_Worker_valueOfTwo (Nat.le_of_ble_eq_true rfl) (Or.inl rfl) ?_
  show AW l g true Y_Worker_valueOfTwo 3 (some (vA r), M') 0 [(0, vA 68), (1, vI a1), (2, vA a2), (3, vA a3), (4, vA a4)] [] M
  unfold f_Worker_valueOfTwo at h
  refine A_iload_n 1 rfl rfl rfl ?_
  by_cases hc1 : a1 = 17
  · rw [if_pos hc1] at h
    refine A_lookup (tgt := 66) (off := 65) rfl (by decide) (by rw [hc1]; decide) (by decide) ?_
    refine A_aload_n 0 rfl rfl rfl ?_
    refine A_aload_n 2 rfl rfl rfl ?_
    refine A_aload_n 3 rfl rfl rfl ?_
    refine A_aload 4 rfl rfl ?_
    obtain ⟨q2, M3, hcq2, h⟩ := bnd_out h
    refine A_callV (ci := 6) (as := [vA a2, vA a3, vA a4]) (st' := []) (r1 := (some (vA q2), M3)) rfl ml_Worker_217 rfl (by decide) (by decide) (Or.inl rfl) rfl rfl (Nat.le_of_ble_eq_true rfl) (by decide) (c_Worker_itemOf hcq2) (Or.inl rfl) ?_
    refine A_pc (pc' := 74) rfl ?_
    refine A_stk (st' := [vA q2]) rfl ?_
    refine A_pc (pc' := 74) rfl ?_
    obtain ⟨rfl, rfl⟩ := leaf h
    exact A_aret rfl rfl
  · rw [if_neg hc1] at h
    by_cases hc4 : a1 = 23
    · rw [if_pos hc4] at h
      refine A_lookup (tgt := 36) (off := 35) rfl (by decide) (by rw [hc4]; decide) (by decide) ?_
      refine A_aload 4 rfl rfl ?_
      refine A_aload_n 2 rfl rfl rfl ?_
      refine A_aload_n 3 rfl rfl rfl ?_
      obtain ⟨hg5, h⟩ := gk_out h
      obtain ⟨q6, M7, hcq6, h⟩ := bnd_out h
      refine A_callV (ci := 7) (as := [vA a3]) (st' := [vA a4]) (r1 := (some (vI q6), M7)) rfl ml_Worker_213 rfl (by decide) hg5 (Or.inl rfl) rfl rfl (Nat.le_of_ble_eq_true rfl) (by decide) (c_Val_sameAs hcq6) (Or.inl rfl) ?_
      refine A_pc (pc' := 43) rfl ?_
      refine A_stk (st' := [vI q6, vA a4]) rfl ?_
      obtain ⟨hg8, h⟩ := gk_out h
      obtain ⟨q9, M10, hcq9, h⟩ := bnd_out h
      refine A_callV (ci := 7) (as := [vI q6]) (st' := []) (r1 := (some (vA q9), M10)) rfl ml_Worker_128 rfl (by decide) hg8 (Or.inl rfl) rfl rfl (Nat.le_of_ble_eq_true rfl) (by decide) (c_Val_beTruth hcq9) (Or.inl rfl) ?_
      refine A_pc (pc' := 46) rfl ?_
      refine A_stk (st' := [vA q9]) rfl ?_
      refine A_pc (pc' := 46) rfl ?_
      obtain ⟨rfl, rfl⟩ := leaf h
      exact A_aret rfl rfl
    · rw [if_neg hc4] at h
      by_cases hc11 : a1 = 24
      · rw [if_pos hc11] at h
        refine A_lookup (tgt := 47) (off := 46) rfl (by decide) (by rw [hc11]; decide) (by decide) ?_
        refine A_aload 4 rfl rfl ?_
        refine A_aload_n 2 rfl rfl rfl ?_
        refine A_aload_n 3 rfl rfl rfl ?_
        obtain ⟨hg12, h⟩ := gk_out h
        obtain ⟨q13, M14, hcq13, h⟩ := bnd_out h
        refine A_callV (ci := 7) (as := [vA a3]) (st' := [vA a4]) (r1 := (some (vI q13), M14)) rfl ml_Worker_213 rfl (by decide) hg12 (Or.inl rfl) rfl rfl (Nat.le_of_ble_eq_true rfl) (by decide) (c_Val_sameAs hcq13) (Or.inl rfl) ?_
        refine A_pc (pc' := 54) rfl ?_
        refine A_stk (st' := [vI q13, vA a4]) rfl ?_
        refine A_if_ne (tgt := 61) rfl (by decide) (fun hc15 => ?_) (fun hc15 => ?_)
        · rw [if_neg hc15] at h
          refine A_iconst (v := 0) rfl (by decide) ?_
          obtain ⟨hg16, h⟩ := gk_out h
          obtain ⟨q17, M18, hcq17, h⟩ := bnd_out h
          refine A_callV (ci := 7) (as := [vI 0]) (st' := []) (r1 := (some (vA q17), M18)) rfl ml_Worker_128 rfl (by decide) hg16 (Or.inl rfl) rfl rfl (Nat.le_of_ble_eq_true rfl) (by decide) (c_Val_beTruth hcq17) (Or.inl rfl) ?_
          refine A_pc (pc' := 65) rfl ?_
          refine A_stk (st' := [vA q17]) rfl ?_
          obtain ⟨rfl, rfl⟩ := leaf h
          exact A_aret rfl rfl
        · rw [if_pos hc15] at h
          refine A_pc (pc' := 57) rfl ?_
          refine A_iconst (v := 1) rfl (by decide) ?_
          refine A_goto (tgt := 62) rfl (by decide) ?_
          obtain ⟨hg19, h⟩ := gk_out h
          obtain ⟨q20, M21, hcq20, h⟩ := bnd_out h
          refine A_callV (ci := 7) (as := [vI 1]) (st' := []) (r1 := (some (vA q20), M21)) rfl ml_Worker_128 rfl (by decide) hg19 (Or.inl rfl) rfl rfl (Nat.le_of_ble_eq_true rfl) (by decide) (c_Val_beTruth hcq20) (Or.inl rfl) ?_
          refine A_pc (pc' := 65) rfl ?_
          refine A_stk (st' := [vA q20]) rfl ?_
          obtain ⟨rfl, rfl⟩ := leaf h
          exact A_aret rfl rfl
      · rw [if_neg hc11] at h
        refine A_lookup (tgt := 75) rfl (by decide) (lk_def _ _ _ (fa_cons (ne_i hc1 (by decide)) (fa_cons (ne_i hc4 (by decide)) (fa_cons (ne_i hc11 (by decide)) fa_nil)))) (by decide) ?_
        refine A_aload_n 2 rfl rfl rfl ?_
        obtain ⟨hg22, h⟩ := gk_out h
        obtain ⟨q23, M24, hcq23, h⟩ := bnd_out h
        refine A_callV (ci := 7) (as := []) (st' := []) (r1 := (some (vI q23), M24)) rfl ml_Worker_199 rfl (by decide) hg22 (Or.inl rfl) rfl rfl (Nat.le_of_ble_eq_true rfl) (by decide) (c_Val_isNumber hcq23) (Or.inl rfl) ?_
        refine A_pc (pc' := 79) rfl ?_
        refine A_stk (st' := [vI q23]) rfl ?_
        refine A_if_eq (tgt := 101) rfl (by decide) (fun hc25 => ?_) (fun hc25 => ?_)
        · rw [if_pos hc25] at h
          refine A_aload_n 0 rfl rfl rfl ?_
          refine A_getL (r := 70) rfl fl_Worker_18 rfl (by decide) rfl rfl ?_
          obtain ⟨rfl, rfl⟩ := leaf h
          exact A_aret rfl rfl
        · rw [if_neg hc25] at h
          refine A_pc (pc' := 82) rfl ?_
          refine A_aload_n 3 rfl rfl rfl ?_
          obtain ⟨hg26, h⟩ := gk_out h
          obtain ⟨q27, M28, hcq27, h⟩ := bnd_out h
          refine A_callV (ci := 7) (as := []) (st' := []) (r1 := (some (vI q27), M28)) rfl ml_Worker_199 rfl (by decide) hg26 (Or.inl rfl) rfl rfl (Nat.le_of_ble_eq_true rfl) (by decide) (c_Val_isNumber hcq27) (Or.inl rfl) ?_
          refine A_pc (pc' := 86) rfl ?_
          refine A_stk (st' := [vI q27]) rfl ?_
          refine A_if_eq (tgt := 101) rfl (by decide) (fun hc29 => ?_) (fun hc29 => ?_)
          · rw [if_pos hc29] at h
            refine A_aload_n 0 rfl rfl rfl ?_
            refine A_getL (r := 70) rfl fl_Worker_18 rfl (by decide) rfl rfl ?_
            obtain ⟨rfl, rfl⟩ := leaf h
            exact A_aret rfl rfl
          · rw [if_neg hc29] at h
            refine A_pc (pc' := 89) rfl ?_
            refine A_aload_n 0 rfl rfl rfl ?_
            refine A_iload_n 1 rfl rfl rfl ?_
            refine A_aload_n 2 rfl rfl rfl ?_
            refine A_aload_n 3 rfl rfl rfl ?_
            refine A_aload 4 rfl rfl ?_
            refine A_pc (pc' := 95) rfl ?_
            obtain ⟨q30, M31, hcq30, h⟩ := bnd_out h
            refine A_callV (ci := 6) (as := [vI a1, vA a2, vA a3, vA a4]) (st' := []) (r1 := (some (vA q30), M31)) rfl ml_Worker_221 rfl (by decide) (by decide) (Or.inl rfl) rfl rfl (Nat.le_of_ble_eq_true rfl) (by decide) (c_Worker_valueOfNumbers hcq30) (Or.inl rfl) ?_
            refine A_pc (pc' := 98) rfl ?_
            refine A_stk (st' := [vA q30]) rfl ?_
            refine A_goto (tgt := 105) rfl (by decide) ?_
            obtain ⟨rfl, rfl⟩ := leaf h
            exact A_aret rfl rfl
