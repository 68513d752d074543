/-! Worker: the recursion. Printed by gen_methods.py. -/
def tb_Worker_valueOf : List (Nat × Instr × Nat) := [(0, .iload_n 1, 1), (1, .ifCond .lt 14, 3), (4, .iload_n 1, 1), (5, .iload_n 2, 1), (6, .if_icmp .ge 9, 3), (9, .iload_n 2, 1), (10, .bipush 20, 2), (12, .if_icmp .le 8, 3), (15, .aload_n 0, 1), (16, .getfield 18, 3), (19, .areturn, 1), (20, .aload_n 0, 1), (21, .getfield 36, 3), (24, .getfield 68, 3), (27, .iload_n 1, 1), (28, .iaload, 1), (29, .istore_n 3, 1), (30, .iload_n 3, 1), (31, .tableswitch 137 21 42 #[101, 101, 137, 137, 137, 137, 137, 137, 137, 137, 137, 137, 137, 137, 137, 137, 124, 130, 130, 130, 137, 118], 101), (132, .aload_n 0, 1), (133, .iload_n 1, 1), (134, .iload_n 3, 1), (135, .bipush 21, 2), (137, .if_icmp .ne 7, 3), (140, .iconst 1, 1), (141, .goto 4, 3), (144, .iconst 0, 1), (145, .invokevirtual 74, 3), (148, .areturn, 1), (149, .aload_n 0, 1), (150, .iload_n 1, 1), (151, .invokevirtual 78, 3), (154, .areturn, 1), (155, .aload_n 0, 1), (156, .iload_n 1, 1), (157, .invokevirtual 82, 3), (160, .areturn, 1), (161, .aload_n 0, 1), (162, .iload_n 1, 1), (163, .iload_n 3, 1), (164, .invokevirtual 85, 3), (167, .areturn, 1), (168, .iload_n 3, 1), (169, .invokestatic 88, 3), (172, .ifCond .eq 24, 3), (175, .aload_n 0, 1), (176, .iload_n 3, 1), (177, .aload_n 0, 1), (178, .getfield 36, 3), (181, .getfield 92, 3), (184, .iload_n 1, 1), (185, .laload, 1), (186, .aload_n 0, 1), (187, .getfield 11, 3), (190, .iload_n 1, 1), (191, .aaload, 1), (192, .invokevirtual 96, 3), (195, .areturn, 1), (196, .aload_n 0, 1), (197, .aload_n 0, 1), (198, .getfield 36, 3), (201, .getfield 100, 3), (204, .iload_n 1, 1), (205, .iaload, 1), (206, .iload_n 1, 1), (207, .invokevirtual 56, 3), (210, .astore 4, 2), (212, .aload 4, 2), (214, .invokevirtual 103, 3), (217, .ifCond .eq 8, 3), (220, .aload_n 0, 1), (221, .getfield 18, 3), (224, .areturn, 1), (225, .iload_n 3, 1), (226, .invokestatic 107, 3), (229, .ifCond .eq 17, 3), (232, .aload_n 0, 1), (233, .iload_n 3, 1), (234, .aload 4, 2), (236, .aload_n 0, 1), (237, .getfield 11, 3), (240, .iload_n 1, 1), (241, .aaload, 1), (242, .invokevirtual 110, 3), (245, .areturn, 1), (246, .aload_n 0, 1), (247, .aload_n 0, 1), (248, .getfield 36, 3), (251, .getfield 114, 3), (254, .iload_n 1, 1), (255, .iaload, 1), (256, .iload_n 1, 1), (257, .invokevirtual 56, 3), (260, .astore 5, 2), (262, .aload 5, 2), (264, .invokevirtual 103, 3), (267, .ifCond .eq 10, 3), (270, .aload_n 0, 1), (271, .getfield 18, 3), (274, .goto 18, 3), (277, .aload_n 0, 1), (278, .iload_n 3, 1), (279, .aload 4, 2), (281, .aload 5, 2), (283, .aload_n 0, 1), (284, .getfield 11, 3), (287, .iload_n 1, 1), (288, .aaload, 1), (289, .invokevirtual 117, 3), (292, .areturn, 1)]
def Y_Worker_valueOf : ax_Y := (⟨"MethodWarden$Worker", "valueOf", "(II)LMethodWarden$Value;"⟩, prog_12_method_6_code, 6, some (.object "MethodWarden$Value"), tb_Worker_valueOf)
theorem yok_Worker_valueOf : yOK Y_Worker_valueOf := ⟨by decide +kernel, by decide +kernel, inWG 857 (by decide +kernel) (by decide +kernel), inWG 102 (by decide +kernel) (by decide +kernel), by decide +kernel⟩
def tb_Worker_answerFor : List (Nat × Instr × Nat) := [(0, .aload_n 0, 1), (1, .getfield 144, 3), (4, .istore 4, 2), (6, .aload_n 0, 1), (7, .getfield 148, 3), (10, .istore 5, 2), (12, .aload_n 0, 1), (13, .iconst 1, 1), (14, .putfield 144, 3), (17, .aload_n 0, 1), (18, .iload_n 1, 1), (19, .putfield 148, 3), (22, .aload_n 0, 1), (23, .iload_n 2, 1), (24, .iload_n 3, 1), (25, .invokevirtual 56, 3), (28, .astore 6, 2), (30, .aload_n 0, 1), (31, .iload 4, 2), (33, .putfield 144, 3), (36, .aload_n 0, 1), (37, .iload 5, 2), (39, .putfield 148, 3), (42, .aload 6, 2), (44, .areturn, 1)]
def Y_Worker_answerFor : ax_Y := (⟨"MethodWarden$Worker", "answerFor", "(III)LMethodWarden$Value;"⟩, prog_12_method_14_code, 7, some (.object "MethodWarden$Value"), tb_Worker_answerFor)
theorem yok_Worker_answerFor : yOK Y_Worker_answerFor := ⟨by decide +kernel, by decide +kernel, inWG 853 (by decide +kernel) (by decide +kernel), inWG 102 (by decide +kernel) (by decide +kernel), by decide +kernel⟩
theorem ml_Worker_56 : mlV "MethodWarden$Worker" 56 Y_Worker_valueOf 2 := ⟨⟨yok_Worker_valueOf, by decide +kernel, by decide⟩, Or.inl (inWG 854 (by decide +kernel) (by decide +kernel)), inWG 856 (by decide +kernel) (by decide +kernel), inWG 35 (by decide +kernel) (by decide +kernel)⟩
def f_Worker_answerFor (v : Int32 → Int32 → ax_M → Option (Nat × ax_M)) (a1 : Int32) (a2 : Int32) (a3 : Int32) (M : ax_M) : Option (Nat × ax_M) :=
  kM (gI M 68 8) (fun x1 => kM (gI M 68 9) (fun x2 => kM (mI M 68 8 1) (fun M3 => kM (mI M3 68 9 a1) (fun M4 => bnd (v a2 a3 M4) (fun q5 M6 => g2 x1 (kM (mI M6 68 8 x1) (fun M8 => kM (mI M8 68 9 x2) (fun M9 => some (q5, M9)))))))))
set_option maxHeartbeats 4000000 in
set_option maxRecDepth 100000 in
theorem c_Worker_answerFor {l : Launch} {g : ax_G} (dv : Nat) (hdv : 10 ≤ dv) (v : Int32 → Int32 → ax_M → Option (Nat × ax_M)) (hv : ∀ (a b : Int32) (M : ax_M) (r : Nat) (M' : ax_M), v a b M = some (r, M') → Ctr l g true Y_Worker_valueOf dv [vA 68, vI a, vI b] M (some (vA r), M')) {a1 : Int32} {a2 : Int32} {a3 : Int32} {M : ax_M} {r : Nat} {M' : ax_M} (h : f_Worker_answerFor v a1 a2 a3 M = some (r, M')) : Ctr l g true Y_Worker_answerFor (dv + 1) [vA 68, vI a1, vI a2, vI a3] M (some (vA r), M') := by
  refine Ctr.ofAW yok_Worker_answerFor (Nat.le_of_ble_eq_true rfl) (Or.inl rfl) ?_
  show AW l g true Y_Worker_answerFor (dv + 1) (some (vA r), M') 0 [(0, vA 68), (1, vI a1), (2, vI a2), (3, vI a3)] [] M
  unfold f_Worker_answerFor at h
  refine A_aload_n 0 rfl rfl rfl ?_
  refine A_getI rfl fl_Worker_144 rfl (by decide) (Or.inl rfl) ?_
  obtain ⟨x1, hx1, h⟩ := kM_out h
  refine A_nI hx1 ?_
  refine A_istore (Ls' := [(4, vI x1), (0, vA 68), (1, vI a1), (2, vI a2), (3, vI a3)]) rfl (by decide) rfl ?_
  refine A_aload_n 1 rfl rfl rfl ?_
  refine A_getI rfl fl_Worker_148 rfl (by decide) (Or.inl rfl) ?_
  refine A_pc (pc' := 10) rfl ?_
  obtain ⟨x2, hx2, h⟩ := kM_out h
  refine A_nI hx2 ?_
  refine A_istore (Ls' := [(5, vI x2), (4, vI x1), (0, vA 68), (1, vI a1), (2, vI a2), (3, vI a3)]) rfl (by decide) rfl ?_
  refine A_aload_n 2 rfl rfl rfl ?_
  refine A_iconst (v := 1) rfl (by decide) ?_
  refine A_putZ rfl (Or.inl fl_Worker_144) rfl (by decide) (Or.inl rfl) rfl (Or.inr rfl) ?_
  obtain ⟨M3, hM3, h⟩ := kM_out h
  refine A_mem hM3 ?_
  refine A_aload_n 2 rfl rfl rfl ?_
  refine A_iload_n 3 rfl rfl rfl ?_
  refine A_pc (pc' := 19) rfl ?_
  refine A_putI rfl (Or.inl fl_Worker_148) rfl (by decide) (Or.inl rfl) rfl ?_
  obtain ⟨M4, hM4, h⟩ := kM_out h
  refine A_mem hM4 ?_
  refine A_aload_n 2 rfl rfl rfl ?_
  refine A_iload_n 4 rfl rfl rfl ?_
  refine A_iload_n 5 rfl rfl rfl ?_
  obtain ⟨q5, M6, hcq5, h⟩ := bnd_out h
  refine A_callV (ci := 6) (as := [vI a2, vI a3]) (st' := []) (r1 := (some (vA q5), M6)) rfl ml_Worker_56 rfl (by decide) (by decide) (Or.inl rfl) rfl rfl (Nat.le_of_ble_eq_true rfl) (by omega) (hv _ _ _ _ _ hcq5) (Or.inl rfl) ?_
  refine A_pc (pc' := 28) rfl ?_
  refine A_stk (st' := [vA q5]) rfl ?_
  refine A_astore (Ls' := [(6, vA q5), (5, vI x2), (4, vI x1), (0, vA 68), (1, vI a1), (2, vI a2), (3, vI a3)]) rfl (by decide) rfl ?_
  refine A_pc (pc' := 30) rfl ?_
  refine A_aload_n 3 rfl rfl rfl ?_
  refine A_iload 2 rfl rfl ?_
  obtain ⟨hg7, h⟩ := g2_out h
  refine A_putZ rfl (Or.inl fl_Worker_144) rfl (by decide) (Or.inl rfl) rfl hg7 ?_
  obtain ⟨M8, hM8, h⟩ := kM_out h
  refine A_mem hM8 ?_
  refine A_aload_n 3 rfl rfl rfl ?_
  refine A_iload 1 rfl rfl ?_
  refine A_putI rfl (Or.inl fl_Worker_148) rfl (by decide) (Or.inl rfl) rfl ?_
  obtain ⟨M9, hM9, h⟩ := kM_out h
  refine A_mem hM9 ?_
  refine A_pc (pc' := 42) rfl ?_
  refine A_aload 0 rfl rfl ?_
  obtain ⟨rfl, rfl⟩ := leaf h
  exact A_aret rfl rfl
def tb_Worker_sift : List (Nat × Instr × Nat) := [(0, .aload 4, 2), (2, .invokevirtual 180, 3), (5, .iconst 0, 1), (6, .istore 5, 2), (8, .iload 5, 2), (10, .aload_n 3, 1), (11, .getfield 183, 3), (14, .if_icmp .ge 53, 3), (17, .aload_n 3, 1), (18, .iload 5, 2), (20, .invokevirtual 184, 3), (23, .istore 6, 2), (25, .aload_n 0, 1), (26, .iload 6, 2), (28, .iload_n 1, 1), (29, .iload_n 2, 1), (30, .invokevirtual 188, 3), (33, .astore 7, 2), (35, .aload 7, 2), (37, .invokevirtual 155, 3), (40, .ifCond .ne 5, 3), (43, .iconst 0, 1), (44, .ireturn, 1), (45, .aload 7, 2), (47, .invokevirtual 158, 3), (50, .ifCond .eq 11, 3), (53, .aload 4, 2), (55, .iload 6, 2), (57, .invokevirtual 192, 3), (60, .pop, 1), (61, .iinc 5 1, 3), (64, .goto (-56), 3), (67, .iconst 1, 1), (68, .ireturn, 1)]
def Y_Worker_sift : ax_Y := (⟨"MethodWarden$Worker", "sift", "(IILMethodWarden$Items;LMethodWarden$Items;)Z"⟩, prog_12_method_12_code, 8, some .boolean, tb_Worker_sift)
theorem yok_Worker_sift : yOK Y_Worker_sift := ⟨by decide +kernel, by decide +kernel, inWG 844 (by decide +kernel) (by decide +kernel), inWG 102 (by decide +kernel) (by decide +kernel), by decide +kernel⟩
theorem ml_Worker_180 : mlV "MethodWarden$Worker" 180 Y_Items_clear 0 := ⟨⟨yok_Items_clear, by decide +kernel, by decide⟩, Or.inl (inWG 845 (by decide +kernel) (by decide +kernel)), inWG 742 (by decide +kernel) (by decide +kernel), inWG 743 (by decide +kernel) (by decide +kernel)⟩
theorem ml_Worker_188 : mlV "MethodWarden$Worker" 188 Y_Worker_answerFor 3 := ⟨⟨yok_Worker_answerFor, by decide +kernel, by decide⟩, Or.inl (inWG 850 (by decide +kernel) (by decide +kernel)), inWG 852 (by decide +kernel) (by decide +kernel), inWG 34 (by decide +kernel) (by decide +kernel)⟩
theorem ml_Worker_192 : mlV "MethodWarden$Worker" 192 Y_Items_append 1 := ⟨⟨yok_Items_append, by decide +kernel, by decide⟩, Or.inl (inWG 982 (by decide +kernel) (by decide +kernel)), inWG 734 (by decide +kernel) (by decide +kernel), inWG 735 (by decide +kernel) (by decide +kernel)⟩
def f_Worker_sift_8_b (v : Int32 → Int32 → ax_M → Option (Nat × ax_M)) (K8 : Int32 → Int32 → Nat → Nat → Int32 → ax_M → Option (Int32 × ax_M)) (l1 : Int32) (l2 : Int32) (l3 : Nat) (l4 : Nat) (l5 : Int32) (M : ax_M) : Option (Int32 × ax_M) :=
  gk l3 5 (if (gI M l3 1) ≤ l5 then (some (1, M)) else (bnd (f_Items_get l3 l5 M) (fun q6 M7 => bnd (f_Worker_answerFor v q6 l1 l2 M7) (fun q8 M9 => gk q8 7 (bnd (f_Val_isTruth q8 M9) (fun q11 M12 => if q11 = 0 then (some (0, M12)) else (bnd (f_Val_isTrue q8 M12) (fun q14 M15 => if q14 = 0 then (kM (l5 + 1) (fun x17 => K8 l1 l2 l3 l4 x17 M15)) else (gk l4 5 (bnd (f_Items_append l4 q6 M15) (fun q19 M20 => kM (l5 + 1) (fun x21 => K8 l1 l2 l3 l4 x21 M20))))))))))))
def f_Worker_sift_8 (v : Int32 → Int32 → ax_M → Option (Nat × ax_M)) : Nat → Int32 → Int32 → Nat → Nat → Int32 → ax_M → Option (Int32 × ax_M)
  | 0, _, _, _, _, _, _ => none
  | n + 1, l1, l2, l3, l4, l5, M => f_Worker_sift_8_b v  (f_Worker_sift_8 v n) l1 l2 l3 l4 l5 M
set_option maxHeartbeats 4000000 in
set_option maxRecDepth 100000 in
theorem o_Worker_sift_8_b {l : Launch} {g : ax_G} (dv : Nat) (hdv : 10 ≤ dv) (v : Int32 → Int32 → ax_M → Option (Nat × ax_M)) (hv : ∀ (a b : Int32) (M : ax_M) (r : Nat) (M' : ax_M), v a b M = some (r, M') → Ctr l g true Y_Worker_valueOf dv [vA 68, vI a, vI b] M (some (vA r), M')) (K8 : Int32 → Int32 → Nat → Nat → Int32 → ax_M → Option (Int32 × ax_M)) (hK8 : ∀ (l1 : Int32) (l2 : Int32) (l3 : Nat) (l4 : Nat) (l5 : Int32) (M : ax_M) (r : Int32) (M' : ax_M), K8 l1 l2 l3 l4 l5 M = some (r, M') → AW l g true Y_Worker_sift (dv + 2) (some (vI r), M') 8 [(0, vA 68), (1, vI l1), (2, vI l2), (3, vA l3), (4, vA l4), (5, vI l5)] [] M) (l1 : Int32) (l2 : Int32) (l3 : Nat) (l4 : Nat) (l5 : Int32) (M : ax_M) (r : Int32) (M' : ax_M) (h : f_Worker_sift_8_b v  K8 l1 l2 l3 l4 l5 M = some (r, M')) : AW l g true Y_Worker_sift (dv + 2) (some (vI r), M') 8 [(0, vA 68), (1, vI l1), (2, vI l2), (3, vA l3), (4, vA l4), (5, vI l5)] [] M := by
  unfold f_Worker_sift_8_b at h
  refine A_iload 5 rfl rfl ?_
  refine A_aload_n 3 rfl rfl rfl ?_
  obtain ⟨hg4, h⟩ := gk_out h
  refine A_getI rfl fl_Worker_183 rfl hg4 (Or.inl rfl) ?_
  refine A_icmp_ge (tgt := 67) rfl (by decide) (fun hc5 => ?_) (fun hc5 => ?_)
  · rw [if_pos hc5] at h
    refine A_iconst (v := 1) rfl (by decide) ?_
    obtain ⟨rfl, rfl⟩ := leaf h
    exact A_zret rfl rfl (Or.inr rfl)
  · rw [if_neg hc5] at h
    refine A_pc (pc' := 17) rfl ?_
    refine A_aload_n 3 rfl rfl rfl ?_
    refine A_iload 5 rfl rfl ?_
    obtain ⟨q6, M7, hcq6, h⟩ := bnd_out h
    refine A_callV (ci := 5) (as := [vI l5]) (st' := []) (r1 := (some (vI q6), M7)) rfl ml_Worker_184 rfl (by decide) hg4 (Or.inl rfl) rfl rfl (Nat.le_of_ble_eq_true rfl) (by omega) (c_Items_get hcq6) (Or.inl rfl) ?_
    refine A_pc (pc' := 23) rfl ?_
    refine A_stk (st' := [vI q6]) rfl ?_
    refine A_istore (Ls' := [(6, vI q6), (0, vA 68), (1, vI l1), (2, vI l2), (3, vA l3), (4, vA l4), (5, vI l5)]) rfl (by decide) rfl ?_
    refine A_aload_n 1 rfl rfl rfl ?_
    refine A_pc (pc' := 26) rfl ?_
    refine A_iload 0 rfl rfl ?_
    refine A_iload_n 2 rfl rfl rfl ?_
    refine A_iload_n 3 rfl rfl rfl ?_
    obtain ⟨q8, M9, hcq8, h⟩ := bnd_out h
    refine A_callV (ci := 6) (as := [vI q6, vI l1, vI l2]) (st' := []) (r1 := (some (vA q8), M9)) rfl ml_Worker_188 rfl (by decide) (by decide) (Or.inl rfl) rfl rfl (Nat.le_of_ble_eq_true rfl) (by omega) (c_Worker_answerFor dv hdv v hv hcq8) (Or.inl rfl) ?_
    refine A_pc (pc' := 33) rfl ?_
    refine A_stk (st' := [vA q8]) rfl ?_
    refine A_astore (Ls' := [(7, vA q8), (6, vI q6), (0, vA 68), (1, vI l1), (2, vI l2), (3, vA l3), (4, vA l4), (5, vI l5)]) rfl (by decide) rfl ?_
    refine A_aload 0 rfl rfl ?_
    refine A_pc (pc' := 37) rfl ?_
    obtain ⟨hg10, h⟩ := gk_out h
    obtain ⟨q11, M12, hcq11, h⟩ := bnd_out h
    refine A_callV (ci := 7) (as := []) (st' := []) (r1 := (some (vI q11), M12)) rfl ml_Worker_155 rfl (by decide) hg10 (Or.inl rfl) rfl rfl (Nat.le_of_ble_eq_true rfl) (by omega) (c_Val_isTruth hcq11) (Or.inl rfl) ?_
    refine A_pc (pc' := 40) rfl ?_
    refine A_stk (st' := [vI q11]) rfl ?_
    refine A_if_ne (tgt := 45) rfl (by decide) (fun hc13 => ?_) (fun hc13 => ?_)
    · rw [if_neg hc13] at h
      refine A_aload 0 rfl rfl ?_
      obtain ⟨q14, M15, hcq14, h⟩ := bnd_out h
      refine A_callV (ci := 7) (as := []) (st' := []) (r1 := (some (vI q14), M15)) rfl ml_Worker_158 rfl (by decide) hg10 (Or.inl rfl) rfl rfl (Nat.le_of_ble_eq_true rfl) (by omega) (c_Val_isTrue hcq14) (Or.inl rfl) ?_
      refine A_pc (pc' := 50) rfl ?_
      refine A_stk (st' := [vI q14]) rfl ?_
      refine A_if_eq (tgt := 61) rfl (by decide) (fun hc16 => ?_) (fun hc16 => ?_)
      · rw [if_pos hc16] at h
        obtain ⟨x17, hx17, h⟩ := kM_out h
        refine A_iinc 7 (v := x17) (Ls' := [(5, vI x17), (7, vA q8), (6, vI q6), (0, vA 68), (1, vI l1), (2, vI l2), (3, vA l3), (4, vA l4)]) rfl rfl ((iiN (k := 1) (by decide) _).trans hx17) (by decide) rfl ?_
        refine A_goto (tgt := 8) rfl (by decide) ?_
        refine A_pc (pc' := 8) rfl ?_
        refine A_sub (Ls' := [(0, vA 68), (1, vI l1), (2, vI l2), (3, vA l3), (4, vA l4), (5, vI x17)]) [3, 4, 5, 6, 7, 0] rfl ?_
        exact hK8 _ _ _ _ _ _ _ _ h
      · rw [if_neg hc16] at h
        refine A_pc (pc' := 53) rfl ?_
        refine A_aload 6 rfl rfl ?_
        refine A_iload 1 rfl rfl ?_
        obtain ⟨hg18, h⟩ := gk_out h
        obtain ⟨q19, M20, hcq19, h⟩ := bnd_out h
        refine A_callV (ci := 5) (as := [vI q6]) (st' := []) (r1 := (some (vI q19), M20)) rfl ml_Worker_192 rfl (by decide) hg18 (Or.inl rfl) rfl rfl (Nat.le_of_ble_eq_true rfl) (by omega) (c_Items_append hcq19) (Or.inl rfl) ?_
        refine A_pc (pc' := 60) rfl ?_
        refine A_stk (st' := [vI q19]) rfl ?_
        refine A_pop rfl rfl ?_
        obtain ⟨x21, hx21, h⟩ := kM_out h
        refine A_iinc 7 (v := x21) (Ls' := [(5, vI x21), (7, vA q8), (6, vI q6), (0, vA 68), (1, vI l1), (2, vI l2), (3, vA l3), (4, vA l4)]) rfl rfl ((iiN (k := 1) (by decide) _).trans hx21) (by decide) rfl ?_
        refine A_pc (pc' := 64) rfl ?_
        refine A_goto (tgt := 8) rfl (by decide) ?_
        refine A_pc (pc' := 8) rfl ?_
        refine A_sub (Ls' := [(0, vA 68), (1, vI l1), (2, vI l2), (3, vA l3), (4, vA l4), (5, vI x21)]) [3, 4, 5, 6, 7, 0] rfl ?_
        exact hK8 _ _ _ _ _ _ _ _ h
    · rw [if_pos hc13] at h
      refine A_pc (pc' := 43) rfl ?_
      refine A_iconst (v := 0) rfl (by decide) ?_
      obtain ⟨rfl, rfl⟩ := leaf h
      exact A_zret rfl rfl (Or.inl rfl)
theorem o_Worker_sift_8 {l : Launch} {g : ax_G} (dv : Nat) (hdv : 10 ≤ dv) (v : Int32 → Int32 → ax_M → Option (Nat × ax_M)) (hv : ∀ (a b : Int32) (M : ax_M) (r : Nat) (M' : ax_M), v a b M = some (r, M') → Ctr l g true Y_Worker_valueOf dv [vA 68, vI a, vI b] M (some (vA r), M')) : ∀ (n : Nat) (l1 : Int32) (l2 : Int32) (l3 : Nat) (l4 : Nat) (l5 : Int32) (M : ax_M) (r : Int32) (M' : ax_M), f_Worker_sift_8 v  n l1 l2 l3 l4 l5 M = some (r, M') → AW l g true Y_Worker_sift (dv + 2) (some (vI r), M') 8 [(0, vA 68), (1, vI l1), (2, vI l2), (3, vA l3), (4, vA l4), (5, vI l5)] [] M := by
  intro n
  induction n with
  | zero =>
    intro l1 l2 l3 l4 l5 M r M' h
    cases h
  | succ n ih =>
    intro l1 l2 l3 l4 l5 M r M' h
    exact o_Worker_sift_8_b dv hdv v hv  _ ih _ _ _ _ _ _ _ _ h
def f_Worker_sift (v : Int32 → Int32 → ax_M → Option (Nat × ax_M)) (a1 : Int32) (a2 : Int32) (a3 : Nat) (a4 : Nat) (M : ax_M) : Option (Int32 × ax_M) :=
  gk a4 5 (bnd (f_Items_clear a4 M) (fun q2 M3 => f_Worker_sift_8 v 64 a1 a2 a3 a4 0 M3))
set_option maxHeartbeats 4000000 in
set_option maxRecDepth 100000 in
theorem c_Worker_sift {l : Launch} {g : ax_G} (dv : Nat) (hdv : 10 ≤ dv) (v : Int32 → Int32 → ax_M → Option (Nat × ax_M)) (hv : ∀ (a b : Int32) (M : ax_M) (r : Nat) (M' : ax_M), v a b M = some (r, M') → Ctr l g true Y_Worker_valueOf dv [vA 68, vI a, vI b] M (some (vA r), M')) {a1 : Int32} {a2 : Int32} {a3 : Nat} {a4 : Nat} {M : ax_M} {r : Int32} {M' : ax_M} (h : f_Worker_sift v a1 a2 a3 a4 M = some (r, M')) : Ctr l g true Y_Worker_sift (dv + 2) [vA 68, vI a1, vI a2, vA a3, vA a4] M (some (vI r), M') := by
  refine Ctr.ofAW yok_Worker_sift (Nat.le_of_ble_eq_true rfl) (Or.inl rfl) ?_
  show AW l g true Y_Worker_sift (dv + 2) (some (vI r), M') 0 [(0, vA 68), (1, vI a1), (2, vI a2), (3, vA a3), (4, vA a4)] [] M
  unfold f_Worker_sift at h
  refine A_aload 4 rfl rfl ?_
  obtain ⟨hg1, h⟩ := gk_out h
  obtain ⟨q2, M3, hcq2, h⟩ := bnd_out h
  refine A_callV (ci := 5) (as := []) (st' := []) (r1 := (none, M3)) rfl ml_Worker_180 rfl (by decide) hg1 (Or.inl rfl) rfl rfl (Nat.le_of_ble_eq_true rfl) (by omega) (c_Items_clear hcq2) (Or.inl rfl) ?_
  refine A_pc (pc' := 5) rfl ?_
  refine A_stk (st' := []) rfl ?_
  refine A_iconst (v := 0) rfl (by decide) ?_
  refine A_istore (Ls' := [(5, vI 0), (0, vA 68), (1, vI a1), (2, vI a2), (3, vA a3), (4, vA a4)]) rfl (by decide) rfl ?_
  refine A_pc (pc' := 8) rfl ?_
  refine A_sub (Ls' := [(0, vA 68), (1, vI a1), (2, vI a2), (3, vA a3), (4, vA a4), (5, vI 0)]) [1, 2, 3, 4, 5, 0] rfl ?_
  exact o_Worker_sift_8 dv hdv v hv  _ _ _ _ _ _ _ _ _ h
def tb_Worker_find : List (Nat × Instr × Nat) := [(0, .iconst 0, 1), (1, .istore 6, 2), (3, .iload 6, 2), (5, .aload_n 3, 1), (6, .getfield 183, 3), (9, .if_icmp .ge 73, 3), (12, .aload_n 3, 1), (13, .iload 4, 2), (15, .ifCond .eq 15, 3), (18, .aload_n 3, 1), (19, .getfield 183, 3), (22, .iconst 1, 1), (23, .isub, 1), (24, .iload 6, 2), (26, .isub, 1), (27, .goto 5, 3), (30, .iload 6, 2), (32, .invokevirtual 184, 3), (35, .istore 7, 2), (37, .aload_n 0, 1), (38, .iload 7, 2), (40, .iload_n 1, 1), (41, .iload_n 2, 1), (42, .invokevirtual 188, 3), (45, .astore 8, 2), (47, .aload 8, 2), (49, .invokevirtual 155, 3), (52, .ifCond .ne 8, 3), (55, .aload_n 0, 1), (56, .getfield 18, 3), (59, .areturn, 1), (60, .aload 8, 2), (62, .invokevirtual 158, 3), (65, .ifCond .eq 11, 3), (68, .aload 5, 2), (70, .iload 7, 2), (72, .invokevirtual 121, 3), (75, .areturn, 1), (76, .iinc 6 1, 3), (79, .goto (-76), 3), (82, .aload 5, 2), (84, .invokevirtual 132, 3), (87, .areturn, 1)]
def Y_Worker_find : ax_Y := (⟨"MethodWarden$Worker", "find", "(IILMethodWarden$Items;ZLMethodWarden$Value;)LMethodWarden$Value;"⟩, prog_12_method_13_code, 9, some (.object "MethodWarden$Value"), tb_Worker_find)
theorem yok_Worker_find : yOK Y_Worker_find := ⟨by decide +kernel, by decide +kernel, inWG 898 (by decide +kernel) (by decide +kernel), inWG 102 (by decide +kernel) (by decide +kernel), by decide +kernel⟩
def f_Worker_find_32 (v : Int32 → Int32 → ax_M → Option (Nat × ax_M)) (K3 : Int32 → Int32 → Nat → Int32 → Nat → Int32 → ax_M → Option (Nat × ax_M)) (l1 : Int32) (l2 : Int32) (l3 : Nat) (l4 : Int32) (l5 : Nat) (l6 : Int32) (s0 : Int32) (s1 : Nat) (M : ax_M) : Option (Nat × ax_M) :=
  gk s1 5 (bnd (f_Items_get s1 s0 M) (fun q8 M9 => bnd (f_Worker_answerFor v q8 l1 l2 M9) (fun q10 M11 => gk q10 7 (bnd (f_Val_isTruth q10 M11) (fun q13 M14 => if q13 = 0 then (some (70, M14)) else (bnd (f_Val_isTrue q10 M14) (fun q16 M17 => if q16 = 0 then (kM (l6 + 1) (fun x19 => K3 l1 l2 l3 l4 l5 x19 M17)) else (gk l5 7 (bnd (f_Val_beInt l5 q8 M17) (fun q21 M22 => some (q21, M22)))))))))))
set_option maxHeartbeats 4000000 in
set_option maxRecDepth 100000 in
theorem o_Worker_find_32 {l : Launch} {g : ax_G} (dv : Nat) (hdv : 10 ≤ dv) (v : Int32 → Int32 → ax_M → Option (Nat × ax_M)) (hv : ∀ (a b : Int32) (M : ax_M) (r : Nat) (M' : ax_M), v a b M = some (r, M') → Ctr l g true Y_Worker_valueOf dv [vA 68, vI a, vI b] M (some (vA r), M')) (K3 : Int32 → Int32 → Nat → Int32 → Nat → Int32 → ax_M → Option (Nat × ax_M)) (hK3 : ∀ (l1 : Int32) (l2 : Int32) (l3 : Nat) (l4 : Int32) (l5 : Nat) (l6 : Int32) (M : ax_M) (r : Nat) (M' : ax_M), K3 l1 l2 l3 l4 l5 l6 M = some (r, M') → AW l g true Y_Worker_find (dv + 2) (some (vA r), M') 3 [(0, vA 68), (1, vI l1), (2, vI l2), (3, vA l3), (4, vI l4), (5, vA l5), (6, vI l6)] [] M) (l1 : Int32) (l2 : Int32) (l3 : Nat) (l4 : Int32) (l5 : Nat) (l6 : Int32) (s0 : Int32) (s1 : Nat) (M : ax_M) (r : Nat) (M' : ax_M) (h : f_Worker_find_32 v K3 l1 l2 l3 l4 l5 l6 s0 s1 M = some (r, M')) : AW l g true Y_Worker_find (dv + 2) (some (vA r), M') 32 [(0, vA 68), (1, vI l1), (2, vI l2), (3, vA l3), (4, vI l4), (5, vA l5), (6, vI l6)] [vI s0, vA s1] M := by
  unfold f_Worker_find_32 at h
  obtain ⟨hg7, h⟩ := gk_out h
  obtain ⟨q8, M9, hcq8, h⟩ := bnd_out h
  refine A_callV (ci := 5) (as := [vI s0]) (st' := []) (r1 := (some (vI q8), M9)) rfl ml_Worker_184 rfl (by decide) hg7 (Or.inl rfl) rfl rfl (Nat.le_of_ble_eq_true rfl) (by omega) (c_Items_get hcq8) (Or.inl rfl) ?_
  refine A_pc (pc' := 35) rfl ?_
  refine A_stk (st' := [vI q8]) rfl ?_
  refine A_istore (Ls' := [(7, vI q8), (0, vA 68), (1, vI l1), (2, vI l2), (3, vA l3), (4, vI l4), (5, vA l5), (6, vI l6)]) rfl (by decide) rfl ?_
  refine A_aload_n 1 rfl rfl rfl ?_
  refine A_iload 0 rfl rfl ?_
  refine A_iload_n 2 rfl rfl rfl ?_
  refine A_pc (pc' := 41) rfl ?_
  refine A_iload_n 3 rfl rfl rfl ?_
  obtain ⟨q10, M11, hcq10, h⟩ := bnd_out h
  refine A_callV (ci := 6) (as := [vI q8, vI l1, vI l2]) (st' := []) (r1 := (some (vA q10), M11)) rfl ml_Worker_188 rfl (by decide) (by decide) (Or.inl rfl) rfl rfl (Nat.le_of_ble_eq_true rfl) (by omega) (c_Worker_answerFor dv hdv v hv hcq10) (Or.inl rfl) ?_
  refine A_pc (pc' := 45) rfl ?_
  refine A_stk (st' := [vA q10]) rfl ?_
  refine A_astore (Ls' := [(8, vA q10), (7, vI q8), (0, vA 68), (1, vI l1), (2, vI l2), (3, vA l3), (4, vI l4), (5, vA l5), (6, vI l6)]) rfl (by decide) rfl ?_
  refine A_aload 0 rfl rfl ?_
  obtain ⟨hg12, h⟩ := gk_out h
  obtain ⟨q13, M14, hcq13, h⟩ := bnd_out h
  refine A_callV (ci := 7) (as := []) (st' := []) (r1 := (some (vI q13), M14)) rfl ml_Worker_155 rfl (by decide) hg12 (Or.inl rfl) rfl rfl (Nat.le_of_ble_eq_true rfl) (by omega) (c_Val_isTruth hcq13) (Or.inl rfl) ?_
  refine A_pc (pc' := 52) rfl ?_
  refine A_stk (st' := [vI q13]) rfl ?_
  refine A_if_ne (tgt := 60) rfl (by decide) (fun hc15 => ?_) (fun hc15 => ?_)
  · rw [if_neg hc15] at h
    refine A_aload 0 rfl rfl ?_
    obtain ⟨q16, M17, hcq16, h⟩ := bnd_out h
    refine A_callV (ci := 7) (as := []) (st' := []) (r1 := (some (vI q16), M17)) rfl ml_Worker_158 rfl (by decide) hg12 (Or.inl rfl) rfl rfl (Nat.le_of_ble_eq_true rfl) (by omega) (c_Val_isTrue hcq16) (Or.inl rfl) ?_
    refine A_pc (pc' := 65) rfl ?_
    refine A_stk (st' := [vI q16]) rfl ?_
    refine A_if_eq (tgt := 76) rfl (by decide) (fun hc18 => ?_) (fun hc18 => ?_)
    · rw [if_pos hc18] at h
      obtain ⟨x19, hx19, h⟩ := kM_out h
      refine A_iinc 8 (v := x19) (Ls' := [(6, vI x19), (8, vA q10), (7, vI q8), (0, vA 68), (1, vI l1), (2, vI l2), (3, vA l3), (4, vI l4), (5, vA l5)]) rfl rfl ((iiN (k := 1) (by decide) _).trans hx19) (by decide) rfl ?_
      refine A_goto (tgt := 3) rfl (by decide) ?_
      refine A_pc (pc' := 3) rfl ?_
      refine A_sub (Ls' := [(0, vA 68), (1, vI l1), (2, vI l2), (3, vA l3), (4, vI l4), (5, vA l5), (6, vI x19)]) [3, 4, 5, 6, 7, 8, 0] rfl ?_
      exact hK3 _ _ _ _ _ _ _ _ _ h
    · rw [if_neg hc18] at h
      refine A_pc (pc' := 68) rfl ?_
      refine A_aload 7 rfl rfl ?_
      refine A_iload 1 rfl rfl ?_
      obtain ⟨hg20, h⟩ := gk_out h
      obtain ⟨q21, M22, hcq21, h⟩ := bnd_out h
      refine A_callV (ci := 7) (as := [vI q8]) (st' := []) (r1 := (some (vA q21), M22)) rfl ml_Worker_121 rfl (by decide) hg20 (Or.inl rfl) rfl rfl (Nat.le_of_ble_eq_true rfl) (by omega) (c_Val_beInt hcq21) (Or.inl rfl) ?_
      refine A_pc (pc' := 75) rfl ?_
      refine A_stk (st' := [vA q21]) rfl ?_
      obtain ⟨rfl, rfl⟩ := leaf h
      exact A_aret rfl rfl
  · rw [if_pos hc15] at h
    refine A_pc (pc' := 55) rfl ?_
    refine A_aload_n 2 rfl rfl rfl ?_
    refine A_getL (r := 70) rfl fl_Worker_18 rfl (by decide) rfl rfl ?_
    obtain ⟨rfl, rfl⟩ := leaf h
    exact A_aret rfl rfl
def f_Worker_find_3_b (v : Int32 → Int32 → ax_M → Option (Nat × ax_M)) (K3 : Int32 → Int32 → Nat → Int32 → Nat → Int32 → ax_M → Option (Nat × ax_M)) (l1 : Int32) (l2 : Int32) (l3 : Nat) (l4 : Int32) (l5 : Nat) (l6 : Int32) (M : ax_M) : Option (Nat × ax_M) :=
  gk l3 5 (if (gI M l3 1) ≤ l6 then (gk l5 7 (bnd (f_Val_beNothing l5 M) (fun q4 M5 => some (q4, M5)))) else (if l4 = 0 then (f_Worker_find_32 v K3 l1 l2 l3 l4 l5 l6 l6 l3 M) else (f_Worker_find_32 v K3 l1 l2 l3 l4 l5 l6 (((gI M l3 1) - 1) - l6) l3 M)))
def f_Worker_find_3 (v : Int32 → Int32 → ax_M → Option (Nat × ax_M)) : Nat → Int32 → Int32 → Nat → Int32 → Nat → Int32 → ax_M → Option (Nat × ax_M)
  | 0, _, _, _, _, _, _, _ => none
  | n + 1, l1, l2, l3, l4, l5, l6, M => f_Worker_find_3_b v  (f_Worker_find_3 v n) l1 l2 l3 l4 l5 l6 M
set_option maxHeartbeats 4000000 in
set_option maxRecDepth 100000 in
theorem o_Worker_find_3_b {l : Launch} {g : ax_G} (dv : Nat) (hdv : 10 ≤ dv) (v : Int32 → Int32 → ax_M → Option (Nat × ax_M)) (hv : ∀ (a b : Int32) (M : ax_M) (r : Nat) (M' : ax_M), v a b M = some (r, M') → Ctr l g true Y_Worker_valueOf dv [vA 68, vI a, vI b] M (some (vA r), M')) (K3 : Int32 → Int32 → Nat → Int32 → Nat → Int32 → ax_M → Option (Nat × ax_M)) (hK3 : ∀ (l1 : Int32) (l2 : Int32) (l3 : Nat) (l4 : Int32) (l5 : Nat) (l6 : Int32) (M : ax_M) (r : Nat) (M' : ax_M), K3 l1 l2 l3 l4 l5 l6 M = some (r, M') → AW l g true Y_Worker_find (dv + 2) (some (vA r), M') 3 [(0, vA 68), (1, vI l1), (2, vI l2), (3, vA l3), (4, vI l4), (5, vA l5), (6, vI l6)] [] M) (l1 : Int32) (l2 : Int32) (l3 : Nat) (l4 : Int32) (l5 : Nat) (l6 : Int32) (M : ax_M) (r : Nat) (M' : ax_M) (h : f_Worker_find_3_b v  K3 l1 l2 l3 l4 l5 l6 M = some (r, M')) : AW l g true Y_Worker_find (dv + 2) (some (vA r), M') 3 [(0, vA 68), (1, vI l1), (2, vI l2), (3, vA l3), (4, vI l4), (5, vA l5), (6, vI l6)] [] M := by
  unfold f_Worker_find_3_b at h
  refine A_iload 6 rfl rfl ?_
  refine A_aload_n 3 rfl rfl rfl ?_
  obtain ⟨hg1, h⟩ := gk_out h
  refine A_getI rfl fl_Worker_183 rfl hg1 (Or.inl rfl) ?_
  refine A_icmp_ge (tgt := 82) rfl (by decide) (fun hc2 => ?_) (fun hc2 => ?_)
  · rw [if_pos hc2] at h
    refine A_aload 5 rfl rfl ?_
    obtain ⟨hg3, h⟩ := gk_out h
    obtain ⟨q4, M5, hcq4, h⟩ := bnd_out h
    refine A_callV (ci := 7) (as := []) (st' := []) (r1 := (some (vA q4), M5)) rfl ml_Worker_132 rfl (by decide) hg3 (Or.inl rfl) rfl rfl (Nat.le_of_ble_eq_true rfl) (by omega) (c_Val_beNothing hcq4) (Or.inl rfl) ?_
    refine A_pc (pc' := 87) rfl ?_
    refine A_stk (st' := [vA q4]) rfl ?_
    obtain ⟨rfl, rfl⟩ := leaf h
    exact A_aret rfl rfl
  · rw [if_neg hc2] at h
    refine A_pc (pc' := 12) rfl ?_
    refine A_aload_n 3 rfl rfl rfl ?_
    refine A_iload 4 rfl rfl ?_
    refine A_if_eq (tgt := 30) rfl (by decide) (fun hc6 => ?_) (fun hc6 => ?_)
    · rw [if_pos hc6] at h
      refine A_iload 6 rfl rfl ?_
      refine A_pc (pc' := 32) rfl ?_
      refine A_sub (Ls' := [(0, vA 68), (1, vI l1), (2, vI l2), (3, vA l3), (4, vI l4), (5, vA l5), (6, vI l6)]) [0, 1, 2, 3, 4, 5, 6] rfl ?_
      exact o_Worker_find_32 dv hdv v hv K3 hK3 _ _ _ _ _ _ _ _ _ _ _ h
    · rw [if_neg hc6] at h
      refine A_pc (pc' := 18) rfl ?_
      refine A_aload_n 3 rfl rfl rfl ?_
      refine A_getI rfl fl_Worker_183 rfl hg1 (Or.inl rfl) ?_
      refine A_iconst (v := 1) rfl (by decide) ?_
      refine A_isub rfl ?_
      refine A_iload 6 rfl rfl ?_
      refine A_pc (pc' := 26) rfl ?_
      refine A_isub rfl ?_
      refine A_goto (tgt := 32) rfl (by decide) ?_
      refine A_pc (pc' := 32) rfl ?_
      refine A_sub (Ls' := [(0, vA 68), (1, vI l1), (2, vI l2), (3, vA l3), (4, vI l4), (5, vA l5), (6, vI l6)]) [0, 1, 2, 3, 4, 5, 6] rfl ?_
      exact o_Worker_find_32 dv hdv v hv K3 hK3 _ _ _ _ _ _ _ _ _ _ _ h
theorem o_Worker_find_3 {l : Launch} {g : ax_G} (dv : Nat) (hdv : 10 ≤ dv) (v : Int32 → Int32 → ax_M → Option (Nat × ax_M)) (hv : ∀ (a b : Int32) (M : ax_M) (r : Nat) (M' : ax_M), v a b M = some (r, M') → Ctr l g true Y_Worker_valueOf dv [vA 68, vI a, vI b] M (some (vA r), M')) : ∀ (n : Nat) (l1 : Int32) (l2 : Int32) (l3 : Nat) (l4 : Int32) (l5 : Nat) (l6 : Int32) (M : ax_M) (r : Nat) (M' : ax_M), f_Worker_find_3 v  n l1 l2 l3 l4 l5 l6 M = some (r, M') → AW l g true Y_Worker_find (dv + 2) (some (vA r), M') 3 [(0, vA 68), (1, vI l1), (2, vI l2), (3, vA l3), (4, vI l4), (5, vA l5), (6, vI l6)] [] M := by
  intro n
  induction n with
  | zero =>
    intro l1 l2 l3 l4 l5 l6 M r M' h
    cases h
  | succ n ih =>
    intro l1 l2 l3 l4 l5 l6 M r M' h
    exact o_Worker_find_3_b dv hdv v hv  _ ih _ _ _ _ _ _ _ _ _ h
def f_Worker_find (v : Int32 → Int32 → ax_M → Option (Nat × ax_M)) (a1 : Int32) (a2 : Int32) (a3 : Nat) (a4 : Int32) (a5 : Nat) (M : ax_M) : Option (Nat × ax_M) :=
  f_Worker_find_3 v 64 a1 a2 a3 a4 a5 0 M
set_option maxHeartbeats 4000000 in
set_option maxRecDepth 100000 in
theorem c_Worker_find {l : Launch} {g : ax_G} (dv : Nat) (hdv : 10 ≤ dv) (v : Int32 → Int32 → ax_M → Option (Nat × ax_M)) (hv : ∀ (a b : Int32) (M : ax_M) (r : Nat) (M' : ax_M), v a b M = some (r, M') → Ctr l g true Y_Worker_valueOf dv [vA 68, vI a, vI b] M (some (vA r), M')) {a1 : Int32} {a2 : Int32} {a3 : Nat} {a4 : Int32} {a5 : Nat} {M : ax_M} {r : Nat} {M' : ax_M} (h : f_Worker_find v a1 a2 a3 a4 a5 M = some (r, M')) : Ctr l g true Y_Worker_find (dv + 2) [vA 68, vI a1, vI a2, vA a3, vI a4, vA a5] M (some (vA r), M') := by
  refine Ctr.ofAW yok_Worker_find (Nat.le_of_ble_eq_true rfl) (Or.inl rfl) ?_
  show AW l g true Y_Worker_find (dv + 2) (some (vA r), M') 0 [(0, vA 68), (1, vI a1), (2, vI a2), (3, vA a3), (4, vI a4), (5, vA a5)] [] M
  unfold f_Worker_find at h
  refine A_iconst (v := 0) rfl (by decide) ?_
  refine A_istore (Ls' := [(6, vI 0), (0, vA 68), (1, vI a1), (2, vI a2), (3, vA a3), (4, vI a4), (5, vA a5)]) rfl (by decide) rfl ?_
  refine A_pc (pc' := 3) rfl ?_
  refine A_sub (Ls' := [(0, vA 68), (1, vI a1), (2, vI a2), (3, vA a3), (4, vI a4), (5, vA a5), (6, vI 0)]) [1, 2, 3, 4, 5, 6, 0] rfl ?_
  exact o_Worker_find_3 dv hdv v hv  _ _ _ _ _ _ _ _ _ _ h
def tb_Worker_valueOfSearch : List (Nat × Instr × Nat) := [(0, .aload_n 0, 1), (1, .aload_n 0, 1), (2, .getfield 36, 3), (5, .getfield 100, 3), (8, .iload_n 1, 1), (9, .iaload, 1), (10, .iload_n 1, 1), (11, .invokevirtual 56, 3), (14, .astore_n 3, 1), (15, .aload_n 3, 1), (16, .invokevirtual 167, 3), (19, .ifCond .ne 8, 3), (22, .aload_n 0, 1), (23, .getfield 18, 3), (26, .areturn, 1), (27, .aload_n 0, 1), (28, .getfield 36, 3), (31, .getfield 114, 3), (34, .iload_n 1, 1), (35, .iaload, 1), (36, .istore 4, 2), (38, .aload_n 0, 1), (39, .getfield 11, 3), (42, .iload_n 1, 1), (43, .aaload, 1), (44, .astore 5, 2), (46, .iload_n 2, 1), (47, .bipush 38, 2), (49, .if_icmp .ne 38, 3), (52, .aload 5, 2), (54, .invokevirtual 170, 3), (57, .pop, 1), (58, .aload_n 0, 1), (59, .iload 4, 2), (61, .iload_n 1, 1), (62, .aload_n 3, 1), (63, .getfield 173, 3), (66, .aload 5, 2), (68, .getfield 173, 3), (71, .invokevirtual 60, 3), (74, .ifCond .eq 8, 3), (77, .aload 5, 2), (79, .goto 7, 3), (82, .aload_n 0, 1), (83, .getfield 18, 3), (86, .areturn, 1), (87, .aload_n 0, 1), (88, .iload 4, 2), (90, .iload_n 1, 1), (91, .aload_n 3, 1), (92, .getfield 173, 3), (95, .iload_n 2, 1), (96, .bipush 40, 2), (98, .if_icmp .ne 7, 3), (101, .iconst 1, 1), (102, .goto 4, 3), (105, .iconst 0, 1), (106, .aload 5, 2), (108, .invokevirtual 176, 3), (111, .areturn, 1)]
def Y_Worker_valueOfSearch : ax_Y := (⟨"MethodWarden$Worker", "valueOfSearch", "(II)LMethodWarden$Value;"⟩, prog_12_method_11_code, 6, some (.object "MethodWarden$Value"), tb_Worker_valueOfSearch)
theorem yok_Worker_valueOfSearch : yOK Y_Worker_valueOfSearch := ⟨by decide +kernel, by decide +kernel, inWG 885 (by decide +kernel) (by decide +kernel), inWG 102 (by decide +kernel) (by decide +kernel), by decide +kernel⟩
theorem fl_Worker_36 : fldOK "MethodWarden$Worker" 36 6 3 false := ⟨_, _, _, cls_Worker, by decide, by decide, rfl, Or.inl (inWG 289 (by decide +kernel) (by decide +kernel))⟩
theorem fl_Worker_100 : fldOK "MethodWarden$Worker" 100 3 1 true := ⟨_, _, _, cls_Expr, by decide, by decide, rfl, Or.inr ⟨"MethodWarden", inNW 193 (by decide +kernel) (by decide +kernel)⟩⟩
theorem fl_Worker_114 : fldOK "MethodWarden$Worker" 114 3 2 true := ⟨_, _, _, cls_Expr, by decide, by decide, rfl, Or.inr ⟨"MethodWarden", inNW 195 (by decide +kernel) (by decide +kernel)⟩⟩
theorem fl_Worker_11 : fldOK "MethodWarden$Worker" 11 6 1 true := ⟨_, _, _, cls_Worker, by decide, by decide, rfl, Or.inl (inWG 287 (by decide +kernel) (by decide +kernel))⟩
theorem ml_Worker_176 : mlV "MethodWarden$Worker" 176 Y_Worker_find 5 := ⟨⟨yok_Worker_find, by decide +kernel, by decide⟩, Or.inl (inWG 895 (by decide +kernel) (by decide +kernel)), inWG 897 (by decide +kernel) (by decide +kernel), inWG 40 (by decide +kernel) (by decide +kernel)⟩
theorem ml_Worker_170 : mlV "MethodWarden$Worker" 170 Y_Val_beEmptyList 0 := ⟨⟨yok_Val_beEmptyList, by decide +kernel, by decide⟩, Or.inl (inWG 890 (by decide +kernel) (by decide +kernel)), inWG 891 (by decide +kernel) (by decide +kernel), inWG 892 (by decide +kernel) (by decide +kernel)⟩
theorem ml_Worker_60 : mlV "MethodWarden$Worker" 60 Y_Worker_sift 4 := ⟨⟨yok_Worker_sift, by decide +kernel, by decide⟩, Or.inl (inWG 841 (by decide +kernel) (by decide +kernel)), inWG 843 (by decide +kernel) (by decide +kernel), inWG 33 (by decide +kernel) (by decide +kernel)⟩
def f_Worker_valueOfSearch (v : Int32 → Int32 → ax_M → Option (Nat × ax_M)) (a1 : Int32) (a2 : Int32) (M : ax_M) : Option (Nat × ax_M) :=
  kM (gA M 68 3) (fun r1 => gk r1 3 (gi a1 20 (bnd (v (gI M (r1 + 2) a1.toNatClampNeg) a1 M) (fun q4 M5 => gk q4 7 (bnd (f_Val_isList q4 M5) (fun q7 M8 => if q7 = 0 then (some (70, M8)) else (kM (gA M8 68 3) (fun r10 => gk r10 3 (kM (gI M8 (r10 + 3) a1.toNatClampNeg) (fun x12 => kM (75 + 3 * a1.toNatClampNeg) (fun r13 => if a2 = 38 then (bnd (f_Val_beEmptyList r13 M8) (fun q20 M21 => bnd (f_Worker_sift v x12 a1 (q4 + 1) (r13 + 1) M21) (fun q22 M23 => if q22 = 0 then (some (70, M23)) else (some (r13, M23))))) else (if a2 = 40 then (bnd (f_Worker_find v x12 a1 (q4 + 1) 1 r13 M8) (fun q18 M19 => some (q18, M19))) else (bnd (f_Worker_find v x12 a1 (q4 + 1) 0 r13 M8) (fun q16 M17 => some (q16, M17)))))))))))))))
set_option maxHeartbeats 4000000 in
set_option maxRecDepth 100000 in
theorem c_Worker_valueOfSearch {l : Launch} {g : ax_G} (dv : Nat) (hdv : 10 ≤ dv) (v : Int32 → Int32 → ax_M → Option (Nat × ax_M)) (hv : ∀ (a b : Int32) (M : ax_M) (r : Nat) (M' : ax_M), v a b M = some (r, M') → Ctr l g true Y_Worker_valueOf dv [vA 68, vI a, vI b] M (some (vA r), M')) {a1 : Int32} {a2 : Int32} {M : ax_M} {r : Nat} {M' : ax_M} (h : f_Worker_valueOfSearch v a1 a2 M = some (r, M')) : Ctr l g true Y_Worker_valueOfSearch (dv + 3) [vA 68, vI a1, vI a2] M (some (vA r), M') := by
  refine Ctr.ofAW yok_Worker_valueOfSearch (Nat.le_of_ble_eq_true rfl) (Or.inl rfl) ?_
  show AW l g true Y_Worker_valueOfSearch (dv + 3) (some (vA r), M') 0 [(0, vA 68), (1, vI a1), (2, vI a2)] [] M
  unfold f_Worker_valueOfSearch at h
  refine A_aload_n 0 rfl rfl rfl ?_
  refine A_aload_n 0 rfl rfl rfl ?_
  refine A_getA rfl fl_Worker_36 rfl (by decide) (Or.inl rfl) ?_
  obtain ⟨r1, hr1, h⟩ := kM_out h
  refine A_nA hr1 ?_
  obtain ⟨hg2, h⟩ := gk_out h
  refine A_getL (r := r1 + 2) rfl fl_Worker_100 rfl hg2 rfl rfl ?_
  refine A_iload_n 1 rfl rfl rfl ?_
  refine A_pc (pc' := 9) rfl ?_
  obtain ⟨hg3, h⟩ := gi_out h
  refine A_iald (n := 20) rfl (lf_Expr_2 hg2).1 (lf_Expr_2 hg2).2 (Or.inl rfl) hg3 ?_
  refine A_iload_n 1 rfl rfl rfl ?_
  obtain ⟨q4, M5, hcq4, h⟩ := bnd_out h
  refine A_callV (ci := 6) (as := [vI (gI M (r1 + 2) a1.toNatClampNeg), vI a1]) (st' := []) (r1 := (some (vA q4), M5)) rfl ml_Worker_56 rfl (by decide) (by decide) (Or.inl rfl) rfl rfl (Nat.le_of_ble_eq_true rfl) (by omega) (hv _ _ _ _ _ hcq4) (Or.inl rfl) ?_
  refine A_pc (pc' := 14) rfl ?_
  refine A_stk (st' := [vA q4]) rfl ?_
  refine A_astore_n (Ls' := [(3, vA q4), (0, vA 68), (1, vI a1), (2, vI a2)]) rfl rfl (by decide) rfl ?_
  refine A_aload_n 0 rfl rfl rfl ?_
  obtain ⟨hg6, h⟩ := gk_out h
  obtain ⟨q7, M8, hcq7, h⟩ := bnd_out h
  refine A_callV (ci := 7) (as := []) (st' := []) (r1 := (some (vI q7), M8)) rfl ml_Worker_167 rfl (by decide) hg6 (Or.inl rfl) rfl rfl (Nat.le_of_ble_eq_true rfl) (by omega) (c_Val_isList hcq7) (Or.inl rfl) ?_
  refine A_pc (pc' := 19) rfl ?_
  refine A_stk (st' := [vI q7]) rfl ?_
  refine A_pc (pc' := 19) rfl ?_
  refine A_if_ne (tgt := 27) rfl (by decide) (fun hc9 => ?_) (fun hc9 => ?_)
  · rw [if_neg hc9] at h
    refine A_aload_n 1 rfl rfl rfl ?_
    refine A_getA rfl fl_Worker_36 rfl (by decide) (Or.inl rfl) ?_
    obtain ⟨r10, hr10, h⟩ := kM_out h
    refine A_nA hr10 ?_
    obtain ⟨hg11, h⟩ := gk_out h
    refine A_getL (r := r10 + 3) rfl fl_Worker_114 rfl hg11 rfl rfl ?_
    refine A_iload_n 2 rfl rfl rfl ?_
    refine A_iald (n := 20) rfl (lf_Expr_3 hg11).1 (lf_Expr_3 hg11).2 (Or.inl rfl) hg3 ?_
    refine A_pc (pc' := 36) rfl ?_
    obtain ⟨x12, hx12, h⟩ := kM_out h
    refine A_nI hx12 ?_
    refine A_istore (Ls' := [(4, vI x12), (3, vA q4), (0, vA 68), (1, vI a1), (2, vI a2)]) rfl (by decide) rfl ?_
    refine A_aload_n 2 rfl rfl rfl ?_
    refine A_getL (r := 69) rfl fl_Worker_11 rfl (by decide) rfl rfl ?_
    refine A_iload_n 3 rfl rfl rfl ?_
    refine A_aldL (t := 5) (C := "MethodWarden$Value") (n := 20) (r := 75 + 3 * a1.toNatClampNeg) rfl (by decide) ⟨by decide, by decide, rfl⟩ (by decide) hg3 rfl rfl ?_
    obtain ⟨r13, hr13, h⟩ := kM_out h
    refine A_nA hr13 ?_
    refine A_astore (Ls' := [(5, vA r13), (4, vI x12), (3, vA q4), (0, vA 68), (1, vI a1), (2, vI a2)]) rfl (by decide) rfl ?_
    refine A_pc (pc' := 46) rfl ?_
    refine A_iload_n 5 rfl rfl rfl ?_
    refine A_bipush (v := 38) rfl (by decide) ?_
    refine A_icmp_ne (tgt := 87) rfl (by decide) (fun hc14 => ?_) (fun hc14 => ?_)
    · rw [if_neg hc14] at h
      refine A_aload_n 3 rfl rfl rfl ?_
      refine A_iload 1 rfl rfl ?_
      refine A_iload_n 4 rfl rfl rfl ?_
      refine A_aload_n 2 rfl rfl rfl ?_
      refine A_getL (r := q4 + 1) rfl fl_Worker_173 rfl hg6 rfl rfl ?_
      refine A_pc (pc' := 95) rfl ?_
      refine A_iload_n 5 rfl rfl rfl ?_
      refine A_bipush (v := 40) rfl (by decide) ?_
      refine A_icmp_ne (tgt := 105) rfl (by decide) (fun hc15 => ?_) (fun hc15 => ?_)
      · rw [if_neg hc15] at h
        refine A_iconst (v := 0) rfl (by decide) ?_
        refine A_aload 0 rfl rfl ?_
        obtain ⟨q16, M17, hcq16, h⟩ := bnd_out h
        refine A_callV (ci := 6) (as := [vI x12, vI a1, vA (q4 + 1), vI 0, vA r13]) (st' := []) (r1 := (some (vA q16), M17)) rfl ml_Worker_176 rfl (by decide) (by decide) (Or.inl rfl) rfl rfl (Nat.le_of_ble_eq_true rfl) (by omega) (c_Worker_find dv hdv v hv hcq16) (Or.inl rfl) ?_
        refine A_pc (pc' := 111) rfl ?_
        refine A_stk (st' := [vA q16]) rfl ?_
        obtain ⟨rfl, rfl⟩ := leaf h
        exact A_aret rfl rfl
      · rw [if_pos hc15] at h
        refine A_pc (pc' := 101) rfl ?_
        refine A_iconst (v := 1) rfl (by decide) ?_
        refine A_goto (tgt := 106) rfl (by decide) ?_
        refine A_aload 0 rfl rfl ?_
        obtain ⟨q18, M19, hcq18, h⟩ := bnd_out h
        refine A_callV (ci := 6) (as := [vI x12, vI a1, vA (q4 + 1), vI 1, vA r13]) (st' := []) (r1 := (some (vA q18), M19)) rfl ml_Worker_176 rfl (by decide) (by decide) (Or.inl rfl) rfl rfl (Nat.le_of_ble_eq_true rfl) (by omega) (c_Worker_find dv hdv v hv hcq18) (Or.inl rfl) ?_
        refine A_pc (pc' := 111) rfl ?_
        refine A_stk (st' := [vA q18]) rfl ?_
        obtain ⟨rfl, rfl⟩ := leaf h
        exact A_aret rfl rfl
    · rw [if_pos hc14] at h
      refine A_pc (pc' := 52) rfl ?_
      refine A_aload 0 rfl rfl ?_
      obtain ⟨q20, M21, hcq20, h⟩ := bnd_out h
      refine A_callV (ci := 7) (as := []) (st' := []) (r1 := (some (vA q20), M21)) rfl ml_Worker_170 rfl (by decide) (hr13 ▸ (la_105 _ (vin_lt hg3))) (Or.inl rfl) rfl rfl (Nat.le_of_ble_eq_true rfl) (by omega) (c_Val_beEmptyList hcq20) (Or.inl rfl) ?_
      refine A_pc (pc' := 57) rfl ?_
      refine A_stk (st' := [vA q20]) rfl ?_
      refine A_pop rfl rfl ?_
      refine A_aload_n 3 rfl rfl rfl ?_
      refine A_iload 1 rfl rfl ?_
      refine A_pc (pc' := 61) rfl ?_
      refine A_iload_n 4 rfl rfl rfl ?_
      refine A_aload_n 2 rfl rfl rfl ?_
      refine A_getL (r := q4 + 1) rfl fl_Worker_173 rfl hg6 rfl rfl ?_
      refine A_aload 0 rfl rfl ?_
      refine A_getL (r := r13 + 1) rfl fl_Worker_173 rfl (hr13 ▸ (la_105 _ (vin_lt hg3))) rfl rfl ?_
      obtain ⟨q22, M23, hcq22, h⟩ := bnd_out h
      refine A_callV (ci := 6) (as := [vI x12, vI a1, vA (q4 + 1), vA (r13 + 1)]) (st' := []) (r1 := (some (vI q22), M23)) rfl ml_Worker_60 rfl (by decide) (by decide) (Or.inl rfl) rfl rfl (Nat.le_of_ble_eq_true rfl) (by omega) (c_Worker_sift dv hdv v hv hcq22) (Or.inl rfl) ?_
      refine A_pc (pc' := 74) rfl ?_
      refine A_stk (st' := [vI q22]) rfl ?_
      refine A_pc (pc' := 74) rfl ?_
      refine A_if_eq (tgt := 82) rfl (by decide) (fun hc24 => ?_) (fun hc24 => ?_)
      · rw [if_pos hc24] at h
        refine A_aload_n 3 rfl rfl rfl ?_
        refine A_getL (r := 70) rfl fl_Worker_18 rfl (by decide) rfl rfl ?_
        obtain ⟨rfl, rfl⟩ := leaf h
        exact A_aret rfl rfl
      · rw [if_neg hc24] at h
        refine A_pc (pc' := 77) rfl ?_
        refine A_aload 0 rfl rfl ?_
        refine A_goto (tgt := 86) rfl (by decide) ?_
        obtain ⟨rfl, rfl⟩ := leaf h
        exact A_aret rfl rfl
  · rw [if_pos hc9] at h
    refine A_pc (pc' := 22) rfl ?_
    refine A_aload_n 1 rfl rfl rfl ?_
    refine A_getL (r := 70) rfl fl_Worker_18 rfl (by decide) rfl rfl ?_
    obtain ⟨rfl, rfl⟩ := leaf h
    exact A_aret rfl rfl
def tb_Worker_valueOfLogic : List (Nat × Instr × Nat) := [(0, .aload_n 0, 1), (1, .aload_n 0, 1), (2, .getfield 36, 3), (5, .getfield 100, 3), (8, .iload_n 1, 1), (9, .iaload, 1), (10, .iload_n 1, 1), (11, .invokevirtual 56, 3), (14, .astore_n 3, 1), (15, .aload_n 3, 1), (16, .invokevirtual 155, 3), (19, .ifCond .ne 8, 3), (22, .aload_n 0, 1), (23, .getfield 18, 3), (26, .areturn, 1), (27, .aload_n 3, 1), (28, .invokevirtual 158, 3), (31, .iload_n 2, 1), (32, .if_icmp .ne 5, 3), (35, .aload_n 3, 1), (36, .areturn, 1), (37, .aload_n 0, 1), (38, .aload_n 0, 1), (39, .getfield 36, 3), (42, .getfield 114, 3), (45, .iload_n 1, 1), (46, .iaload, 1), (47, .iload_n 1, 1), (48, .invokevirtual 56, 3), (51, .astore 4, 2), (53, .aload 4, 2), (55, .invokevirtual 155, 3), (58, .ifCond .eq 8, 3), (61, .aload 4, 2), (63, .goto 7, 3), (66, .aload_n 0, 1), (67, .getfield 18, 3), (70, .areturn, 1)]
def Y_Worker_valueOfLogic : ax_Y := (⟨"MethodWarden$Worker", "valueOfLogic", "(IZ)LMethodWarden$Value;"⟩, prog_12_method_8_code, 5, some (.object "MethodWarden$Value"), tb_Worker_valueOfLogic)
theorem yok_Worker_valueOfLogic : yOK Y_Worker_valueOfLogic := ⟨by decide +kernel, by decide +kernel, inWG 861 (by decide +kernel) (by decide +kernel), inWG 102 (by decide +kernel) (by decide +kernel), by decide +kernel⟩
def f_Worker_valueOfLogic (v : Int32 → Int32 → ax_M → Option (Nat × ax_M)) (a1 : Int32) (a2 : Int32) (M : ax_M) : Option (Nat × ax_M) :=
  kM (gA M 68 3) (fun r1 => gk r1 3 (gi a1 20 (bnd (v (gI M (r1 + 2) a1.toNatClampNeg) a1 M) (fun q4 M5 => gk q4 7 (bnd (f_Val_isTruth q4 M5) (fun q7 M8 => if q7 = 0 then (some (70, M8)) else (bnd (f_Val_isTrue q4 M8) (fun q10 M11 => if q10 = a2 then (some (q4, M11)) else (kM (gA M11 68 3) (fun r13 => gk r13 3 (bnd (v (gI M11 (r13 + 3) a1.toNatClampNeg) a1 M11) (fun q15 M16 => gk q15 7 (bnd (f_Val_isTruth q15 M16) (fun q18 M19 => if q18 = 0 then (some (70, M19)) else (some (q15, M19))))))))))))))))
set_option maxHeartbeats 4000000 in
set_option maxRecDepth 100000 in
theorem c_Worker_valueOfLogic {l : Launch} {g : ax_G} (dv : Nat) (hdv : 10 ≤ dv) (v : Int32 → Int32 → ax_M → Option (Nat × ax_M)) (hv : ∀ (a b : Int32) (M : ax_M) (r : Nat) (M' : ax_M), v a b M = some (r, M') → Ctr l g true Y_Worker_valueOf dv [vA 68, vI a, vI b] M (some (vA r), M')) {a1 : Int32} {a2 : Int32} {M : ax_M} {r : Nat} {M' : ax_M} (h : f_Worker_valueOfLogic v a1 a2 M = some (r, M')) : Ctr l g true Y_Worker_valueOfLogic (dv + 1) [vA 68, vI a1, vI a2] M (some (vA r), M') := by
  refine Ctr.ofAW yok_Worker_valueOfLogic (Nat.le_of_ble_eq_true rfl) (Or.inl rfl) ?_
  show AW l g true Y_Worker_valueOfLogic (dv + 1) (some (vA r), M') 0 [(0, vA 68), (1, vI a1), (2, vI a2)] [] M
  unfold f_Worker_valueOfLogic at h
  refine A_aload_n 0 rfl rfl rfl ?_
  refine A_aload_n 0 rfl rfl rfl ?_
  refine A_getA rfl fl_Worker_36 rfl (by decide) (Or.inl rfl) ?_
  obtain ⟨r1, hr1, h⟩ := kM_out h
  refine A_nA hr1 ?_
  obtain ⟨hg2, h⟩ := gk_out h
  refine A_getL (r := r1 + 2) rfl fl_Worker_100 rfl hg2 rfl rfl ?_
  refine A_iload_n 1 rfl rfl rfl ?_
  refine A_pc (pc' := 9) rfl ?_
  obtain ⟨hg3, h⟩ := gi_out h
  refine A_iald (n := 20) rfl (lf_Expr_2 hg2).1 (lf_Expr_2 hg2).2 (Or.inl rfl) hg3 ?_
  refine A_iload_n 1 rfl rfl rfl ?_
  obtain ⟨q4, M5, hcq4, h⟩ := bnd_out h
  refine A_callV (ci := 6) (as := [vI (gI M (r1 + 2) a1.toNatClampNeg), vI a1]) (st' := []) (r1 := (some (vA q4), M5)) rfl ml_Worker_56 rfl (by decide) (by decide) (Or.inl rfl) rfl rfl (Nat.le_of_ble_eq_true rfl) (by omega) (hv _ _ _ _ _ hcq4) (Or.inl rfl) ?_
  refine A_pc (pc' := 14) rfl ?_
  refine A_stk (st' := [vA q4]) rfl ?_
  refine A_astore_n (Ls' := [(3, vA q4), (0, vA 68), (1, vI a1), (2, vI a2)]) rfl rfl (by decide) rfl ?_
  refine A_aload_n 0 rfl rfl rfl ?_
  obtain ⟨hg6, h⟩ := gk_out h
  obtain ⟨q7, M8, hcq7, h⟩ := bnd_out h
  refine A_callV (ci := 7) (as := []) (st' := []) (r1 := (some (vI q7), M8)) rfl ml_Worker_155 rfl (by decide) hg6 (Or.inl rfl) rfl rfl (Nat.le_of_ble_eq_true rfl) (by omega) (c_Val_isTruth hcq7) (Or.inl rfl) ?_
  refine A_pc (pc' := 19) rfl ?_
  refine A_stk (st' := [vI q7]) rfl ?_
  refine A_pc (pc' := 19) rfl ?_
  refine A_if_ne (tgt := 27) rfl (by decide) (fun hc9 => ?_) (fun hc9 => ?_)
  · rw [if_neg hc9] at h
    refine A_aload_n 0 rfl rfl rfl ?_
    obtain ⟨q10, M11, hcq10, h⟩ := bnd_out h
    refine A_callV (ci := 7) (as := []) (st' := []) (r1 := (some (vI q10), M11)) rfl ml_Worker_158 rfl (by decide) hg6 (Or.inl rfl) rfl rfl (Nat.le_of_ble_eq_true rfl) (by omega) (c_Val_isTrue hcq10) (Or.inl rfl) ?_
    refine A_pc (pc' := 31) rfl ?_
    refine A_stk (st' := [vI q10]) rfl ?_
    refine A_iload_n 3 rfl rfl rfl ?_
    refine A_icmp_ne (tgt := 37) rfl (by decide) (fun hc12 => ?_) (fun hc12 => ?_)
    · rw [if_neg hc12] at h
      refine A_aload_n 1 rfl rfl rfl ?_
      refine A_aload_n 1 rfl rfl rfl ?_
      refine A_getA rfl fl_Worker_36 rfl (by decide) (Or.inl rfl) ?_
      obtain ⟨r13, hr13, h⟩ := kM_out h
      refine A_nA hr13 ?_
      obtain ⟨hg14, h⟩ := gk_out h
      refine A_getL (r := r13 + 3) rfl fl_Worker_114 rfl hg14 rfl rfl ?_
      refine A_iload_n 2 rfl rfl rfl ?_
      refine A_pc (pc' := 46) rfl ?_
      refine A_iald (n := 20) rfl (lf_Expr_3 hg14).1 (lf_Expr_3 hg14).2 (Or.inl rfl) hg3 ?_
      refine A_iload_n 2 rfl rfl rfl ?_
      obtain ⟨q15, M16, hcq15, h⟩ := bnd_out h
      refine A_callV (ci := 6) (as := [vI (gI M11 (r13 + 3) a1.toNatClampNeg), vI a1]) (st' := []) (r1 := (some (vA q15), M16)) rfl ml_Worker_56 rfl (by decide) (by decide) (Or.inl rfl) rfl rfl (Nat.le_of_ble_eq_true rfl) (by omega) (hv _ _ _ _ _ hcq15) (Or.inl rfl) ?_
      refine A_pc (pc' := 51) rfl ?_
      refine A_stk (st' := [vA q15]) rfl ?_
      refine A_astore (Ls' := [(4, vA q15), (3, vA q4), (0, vA 68), (1, vI a1), (2, vI a2)]) rfl (by decide) rfl ?_
      refine A_aload 0 rfl rfl ?_
      obtain ⟨hg17, h⟩ := gk_out h
      obtain ⟨q18, M19, hcq18, h⟩ := bnd_out h
      refine A_callV (ci := 7) (as := []) (st' := []) (r1 := (some (vI q18), M19)) rfl ml_Worker_155 rfl (by decide) hg17 (Or.inl rfl) rfl rfl (Nat.le_of_ble_eq_true rfl) (by omega) (c_Val_isTruth hcq18) (Or.inl rfl) ?_
      refine A_pc (pc' := 58) rfl ?_
      refine A_stk (st' := [vI q18]) rfl ?_
      refine A_pc (pc' := 58) rfl ?_
      refine A_if_eq (tgt := 66) rfl (by decide) (fun hc20 => ?_) (fun hc20 => ?_)
      · rw [if_pos hc20] at h
        refine A_aload_n 2 rfl rfl rfl ?_
        refine A_getL (r := 70) rfl fl_Worker_18 rfl (by decide) rfl rfl ?_
        obtain ⟨rfl, rfl⟩ := leaf h
        exact A_aret rfl rfl
      · rw [if_neg hc20] at h
        refine A_pc (pc' := 61) rfl ?_
        refine A_aload 0 rfl rfl ?_
        refine A_goto (tgt := 70) rfl (by decide) ?_
        obtain ⟨rfl, rfl⟩ := leaf h
        exact A_aret rfl rfl
    · rw [if_pos hc12] at h
      refine A_pc (pc' := 35) rfl ?_
      refine A_aload_n 0 rfl rfl rfl ?_
      obtain ⟨rfl, rfl⟩ := leaf h
      exact A_aret rfl rfl
  · rw [if_pos hc9] at h
    refine A_pc (pc' := 22) rfl ?_
    refine A_aload_n 1 rfl rfl rfl ?_
    refine A_getL (r := 70) rfl fl_Worker_18 rfl (by decide) rfl rfl ?_
    obtain ⟨rfl, rfl⟩ := leaf h
    exact A_aret rfl rfl
def tb_Worker_valueOfChoice : List (Nat × Instr × Nat) := [(0, .aload_n 0, 1), (1, .aload_n 0, 1), (2, .getfield 36, 3), (5, .getfield 100, 3), (8, .iload_n 1, 1), (9, .iaload, 1), (10, .iload_n 1, 1), (11, .invokevirtual 56, 3), (14, .astore_n 2, 1), (15, .aload_n 2, 1), (16, .invokevirtual 155, 3), (19, .ifCond .ne 8, 3), (22, .aload_n 0, 1), (23, .getfield 18, 3), (26, .areturn, 1), (27, .aload_n 0, 1), (28, .aload_n 2, 1), (29, .invokevirtual 158, 3), (32, .ifCond .eq 15, 3), (35, .aload_n 0, 1), (36, .getfield 36, 3), (39, .getfield 114, 3), (42, .iload_n 1, 1), (43, .iaload, 1), (44, .goto 12, 3), (47, .aload_n 0, 1), (48, .getfield 36, 3), (51, .getfield 161, 3), (54, .iload_n 1, 1), (55, .iaload, 1), (56, .iload_n 1, 1), (57, .invokevirtual 56, 3), (60, .areturn, 1)]
def Y_Worker_valueOfChoice : ax_Y := (⟨"MethodWarden$Worker", "valueOfChoice", "(I)LMethodWarden$Value;"⟩, prog_12_method_9_code, 3, some (.object "MethodWarden$Value"), tb_Worker_valueOfChoice)
theorem yok_Worker_valueOfChoice : yOK Y_Worker_valueOfChoice := ⟨by decide +kernel, by decide +kernel, inWG 873 (by decide +kernel) (by decide +kernel), inWG 102 (by decide +kernel) (by decide +kernel), by decide +kernel⟩
theorem fl_Worker_161 : fldOK "MethodWarden$Worker" 161 3 3 true := ⟨_, _, _, cls_Expr, by decide, by decide, rfl, Or.inr ⟨"MethodWarden", inNW 197 (by decide +kernel) (by decide +kernel)⟩⟩
def f_Worker_valueOfChoice (v : Int32 → Int32 → ax_M → Option (Nat × ax_M)) (a1 : Int32) (M : ax_M) : Option (Nat × ax_M) :=
  kM (gA M 68 3) (fun r1 => gk r1 3 (gi a1 20 (bnd (v (gI M (r1 + 2) a1.toNatClampNeg) a1 M) (fun q4 M5 => gk q4 7 (bnd (f_Val_isTruth q4 M5) (fun q7 M8 => if q7 = 0 then (some (70, M8)) else (bnd (f_Val_isTrue q4 M8) (fun q10 M11 => if q10 = 0 then (kM (gA M11 68 3) (fun r13 => gk r13 3 (bnd (v (gI M11 (r13 + 4) a1.toNatClampNeg) a1 M11) (fun q15 M16 => some (q15, M16))))) else (kM (gA M11 68 3) (fun r17 => gk r17 3 (bnd (v (gI M11 (r17 + 3) a1.toNatClampNeg) a1 M11) (fun q19 M20 => some (q19, M20)))))))))))))
set_option maxHeartbeats 4000000 in
set_option maxRecDepth 100000 in
theorem c_Worker_valueOfChoice {l : Launch} {g : ax_G} (dv : Nat) (hdv : 10 ≤ dv) (v : Int32 → Int32 → ax_M → Option (Nat × ax_M)) (hv : ∀ (a b : Int32) (M : ax_M) (r : Nat) (M' : ax_M), v a b M = some (r, M') → Ctr l g true Y_Worker_valueOf dv [vA 68, vI a, vI b] M (some (vA r), M')) {a1 : Int32} {M : ax_M} {r : Nat} {M' : ax_M} (h : f_Worker_valueOfChoice v a1 M = some (r, M')) : Ctr l g true Y_Worker_valueOfChoice (dv + 1) [vA 68, vI a1] M (some (vA r), M') := by
  refine Ctr.ofAW yok_Worker_valueOfChoice (Nat.le_of_ble_eq_true rfl) (Or.inl rfl) ?_
  show AW l g true Y_Worker_valueOfChoice (dv + 1) (some (vA r), M') 0 [(0, vA 68), (1, vI a1)] [] M
  unfold f_Worker_valueOfChoice at h
  refine A_aload_n 0 rfl rfl rfl ?_
  refine A_aload_n 0 rfl rfl rfl ?_
  refine A_getA rfl fl_Worker_36 rfl (by decide) (Or.inl rfl) ?_
  obtain ⟨r1, hr1, h⟩ := kM_out h
  refine A_nA hr1 ?_
  obtain ⟨hg2, h⟩ := gk_out h
  refine A_getL (r := r1 + 2) rfl fl_Worker_100 rfl hg2 rfl rfl ?_
  refine A_iload_n 1 rfl rfl rfl ?_
  refine A_pc (pc' := 9) rfl ?_
  obtain ⟨hg3, h⟩ := gi_out h
  refine A_iald (n := 20) rfl (lf_Expr_2 hg2).1 (lf_Expr_2 hg2).2 (Or.inl rfl) hg3 ?_
  refine A_iload_n 1 rfl rfl rfl ?_
  obtain ⟨q4, M5, hcq4, h⟩ := bnd_out h
  refine A_callV (ci := 6) (as := [vI (gI M (r1 + 2) a1.toNatClampNeg), vI a1]) (st' := []) (r1 := (some (vA q4), M5)) rfl ml_Worker_56 rfl (by decide) (by decide) (Or.inl rfl) rfl rfl (Nat.le_of_ble_eq_true rfl) (by omega) (hv _ _ _ _ _ hcq4) (Or.inl rfl) ?_
  refine A_pc (pc' := 14) rfl ?_
  refine A_stk (st' := [vA q4]) rfl ?_
  refine A_astore_n (Ls' := [(2, vA q4), (0, vA 68), (1, vI a1)]) rfl rfl (by decide) rfl ?_
  refine A_aload_n 0 rfl rfl rfl ?_
  obtain ⟨hg6, h⟩ := gk_out h
  obtain ⟨q7, M8, hcq7, h⟩ := bnd_out h
  refine A_callV (ci := 7) (as := []) (st' := []) (r1 := (some (vI q7), M8)) rfl ml_Worker_155 rfl (by decide) hg6 (Or.inl rfl) rfl rfl (Nat.le_of_ble_eq_true rfl) (by omega) (c_Val_isTruth hcq7) (Or.inl rfl) ?_
  refine A_pc (pc' := 19) rfl ?_
  refine A_stk (st' := [vI q7]) rfl ?_
  refine A_pc (pc' := 19) rfl ?_
  refine A_if_ne (tgt := 27) rfl (by decide) (fun hc9 => ?_) (fun hc9 => ?_)
  · rw [if_neg hc9] at h
    refine A_aload_n 1 rfl rfl rfl ?_
    refine A_aload_n 0 rfl rfl rfl ?_
    obtain ⟨q10, M11, hcq10, h⟩ := bnd_out h
    refine A_callV (ci := 7) (as := []) (st' := [vA 68]) (r1 := (some (vI q10), M11)) rfl ml_Worker_158 rfl (by decide) hg6 (Or.inl rfl) rfl rfl (Nat.le_of_ble_eq_true rfl) (by omega) (c_Val_isTrue hcq10) (Or.inl rfl) ?_
    refine A_pc (pc' := 32) rfl ?_
    refine A_stk (st' := [vI q10, vA 68]) rfl ?_
    refine A_if_eq (tgt := 47) rfl (by decide) (fun hc12 => ?_) (fun hc12 => ?_)
    · rw [if_pos hc12] at h
      refine A_aload_n 1 rfl rfl rfl ?_
      refine A_getA rfl fl_Worker_36 rfl (by decide) (Or.inl rfl) ?_
      obtain ⟨r13, hr13, h⟩ := kM_out h
      refine A_nA hr13 ?_
      obtain ⟨hg14, h⟩ := gk_out h
      refine A_getL (r := r13 + 4) rfl fl_Worker_161 rfl hg14 rfl rfl ?_
      refine A_iload_n 2 rfl rfl rfl ?_
      refine A_iald (n := 20) rfl (lf_Expr_4 hg14).1 (lf_Expr_4 hg14).2 (Or.inl rfl) hg3 ?_
      refine A_pc (pc' := 56) rfl ?_
      refine A_iload_n 2 rfl rfl rfl ?_
      obtain ⟨q15, M16, hcq15, h⟩ := bnd_out h
      refine A_callV (ci := 6) (as := [vI (gI M11 (r13 + 4) a1.toNatClampNeg), vI a1]) (st' := []) (r1 := (some (vA q15), M16)) rfl ml_Worker_56 rfl (by decide) (by decide) (Or.inl rfl) rfl rfl (Nat.le_of_ble_eq_true rfl) (by omega) (hv _ _ _ _ _ hcq15) (Or.inl rfl) ?_
      refine A_pc (pc' := 60) rfl ?_
      refine A_stk (st' := [vA q15]) rfl ?_
      obtain ⟨rfl, rfl⟩ := leaf h
      exact A_aret rfl rfl
    · rw [if_neg hc12] at h
      refine A_pc (pc' := 35) rfl ?_
      refine A_aload_n 1 rfl rfl rfl ?_
      refine A_getA rfl fl_Worker_36 rfl (by decide) (Or.inl rfl) ?_
      obtain ⟨r17, hr17, h⟩ := kM_out h
      refine A_nA hr17 ?_
      obtain ⟨hg18, h⟩ := gk_out h
      refine A_getL (r := r17 + 3) rfl fl_Worker_114 rfl hg18 rfl rfl ?_
      refine A_iload_n 2 rfl rfl rfl ?_
      refine A_iald (n := 20) rfl (lf_Expr_3 hg18).1 (lf_Expr_3 hg18).2 (Or.inl rfl) hg3 ?_
      refine A_pc (pc' := 44) rfl ?_
      refine A_goto (tgt := 56) rfl (by decide) ?_
      refine A_iload_n 2 rfl rfl rfl ?_
      obtain ⟨q19, M20, hcq19, h⟩ := bnd_out h
      refine A_callV (ci := 6) (as := [vI (gI M11 (r17 + 3) a1.toNatClampNeg), vI a1]) (st' := []) (r1 := (some (vA q19), M20)) rfl ml_Worker_56 rfl (by decide) (by decide) (Or.inl rfl) rfl rfl (Nat.le_of_ble_eq_true rfl) (by omega) (hv _ _ _ _ _ hcq19) (Or.inl rfl) ?_
      refine A_pc (pc' := 60) rfl ?_
      refine A_stk (st' := [vA q19]) rfl ?_
      obtain ⟨rfl, rfl⟩ := leaf h
      exact A_aret rfl rfl
  · rw [if_pos hc9] at h
    refine A_pc (pc' := 22) rfl ?_
    refine A_aload_n 1 rfl rfl rfl ?_
    refine A_getL (r := 70) rfl fl_Worker_18 rfl (by decide) rfl rfl ?_
    obtain ⟨rfl, rfl⟩ := leaf h
    exact A_aret rfl rfl
def tb_Worker_valueOfIfNothing : List (Nat × Instr × Nat) := [(0, .aload_n 0, 1), (1, .aload_n 0, 1), (2, .getfield 36, 3), (5, .getfield 100, 3), (8, .iload_n 1, 1), (9, .iaload, 1), (10, .iload_n 1, 1), (11, .invokevirtual 56, 3), (14, .astore_n 2, 1), (15, .aload_n 2, 1), (16, .invokevirtual 164, 3), (19, .ifCond .eq 20, 3), (22, .aload_n 0, 1), (23, .aload_n 0, 1), (24, .getfield 36, 3), (27, .getfield 114, 3), (30, .iload_n 1, 1), (31, .iaload, 1), (32, .iload_n 1, 1), (33, .invokevirtual 56, 3), (36, .goto 4, 3), (39, .aload_n 2, 1), (40, .areturn, 1)]
def Y_Worker_valueOfIfNothing : ax_Y := (⟨"MethodWarden$Worker", "valueOfIfNothing", "(I)LMethodWarden$Value;"⟩, prog_12_method_10_code, 3, some (.object "MethodWarden$Value"), tb_Worker_valueOfIfNothing)
theorem yok_Worker_valueOfIfNothing : yOK Y_Worker_valueOfIfNothing := ⟨by decide +kernel, by decide +kernel, inWG 877 (by decide +kernel) (by decide +kernel), inWG 102 (by decide +kernel) (by decide +kernel), by decide +kernel⟩
def f_Worker_valueOfIfNothing (v : Int32 → Int32 → ax_M → Option (Nat × ax_M)) (a1 : Int32) (M : ax_M) : Option (Nat × ax_M) :=
  kM (gA M 68 3) (fun r1 => gk r1 3 (gi a1 20 (bnd (v (gI M (r1 + 2) a1.toNatClampNeg) a1 M) (fun q4 M5 => gk q4 7 (bnd (f_Val_isNothing q4 M5) (fun q7 M8 => if q7 = 0 then (some (q4, M8)) else (kM (gA M8 68 3) (fun r10 => gk r10 3 (bnd (v (gI M8 (r10 + 3) a1.toNatClampNeg) a1 M8) (fun q12 M13 => some (q12, M13)))))))))))
set_option maxHeartbeats 4000000 in
set_option maxRecDepth 100000 in
theorem c_Worker_valueOfIfNothing {l : Launch} {g : ax_G} (dv : Nat) (hdv : 10 ≤ dv) (v : Int32 → Int32 → ax_M → Option (Nat × ax_M)) (hv : ∀ (a b : Int32) (M : ax_M) (r : Nat) (M' : ax_M), v a b M = some (r, M') → Ctr l g true Y_Worker_valueOf dv [vA 68, vI a, vI b] M (some (vA r), M')) {a1 : Int32} {M : ax_M} {r : Nat} {M' : ax_M} (h : f_Worker_valueOfIfNothing v a1 M = some (r, M')) : Ctr l g true Y_Worker_valueOfIfNothing (dv + 1) [vA 68, vI a1] M (some (vA r), M') := by
  refine Ctr.ofAW yok_Worker_valueOfIfNothing (Nat.le_of_ble_eq_true rfl) (Or.inl rfl) ?_
  show AW l g true Y_Worker_valueOfIfNothing (dv + 1) (some (vA r), M') 0 [(0, vA 68), (1, vI a1)] [] M
  unfold f_Worker_valueOfIfNothing at h
  refine A_aload_n 0 rfl rfl rfl ?_
  refine A_aload_n 0 rfl rfl rfl ?_
  refine A_getA rfl fl_Worker_36 rfl (by decide) (Or.inl rfl) ?_
  obtain ⟨r1, hr1, h⟩ := kM_out h
  refine A_nA hr1 ?_
  obtain ⟨hg2, h⟩ := gk_out h
  refine A_getL (r := r1 + 2) rfl fl_Worker_100 rfl hg2 rfl rfl ?_
  refine A_iload_n 1 rfl rfl rfl ?_
  refine A_pc (pc' := 9) rfl ?_
  obtain ⟨hg3, h⟩ := gi_out h
  refine A_iald (n := 20) rfl (lf_Expr_2 hg2).1 (lf_Expr_2 hg2).2 (Or.inl rfl) hg3 ?_
  refine A_iload_n 1 rfl rfl rfl ?_
  obtain ⟨q4, M5, hcq4, h⟩ := bnd_out h
  refine A_callV (ci := 6) (as := [vI (gI M (r1 + 2) a1.toNatClampNeg), vI a1]) (st' := []) (r1 := (some (vA q4), M5)) rfl ml_Worker_56 rfl (by decide) (by decide) (Or.inl rfl) rfl rfl (Nat.le_of_ble_eq_true rfl) (by omega) (hv _ _ _ _ _ hcq4) (Or.inl rfl) ?_
  refine A_pc (pc' := 14) rfl ?_
  refine A_stk (st' := [vA q4]) rfl ?_
  refine A_astore_n (Ls' := [(2, vA q4), (0, vA 68), (1, vI a1)]) rfl rfl (by decide) rfl ?_
  refine A_aload_n 0 rfl rfl rfl ?_
  obtain ⟨hg6, h⟩ := gk_out h
  obtain ⟨q7, M8, hcq7, h⟩ := bnd_out h
  refine A_callV (ci := 7) (as := []) (st' := []) (r1 := (some (vI q7), M8)) rfl ml_Worker_164 rfl (by decide) hg6 (Or.inl rfl) rfl rfl (Nat.le_of_ble_eq_true rfl) (by omega) (c_Val_isNothing hcq7) (Or.inl rfl) ?_
  refine A_pc (pc' := 19) rfl ?_
  refine A_stk (st' := [vI q7]) rfl ?_
  refine A_pc (pc' := 19) rfl ?_
  refine A_if_eq (tgt := 39) rfl (by decide) (fun hc9 => ?_) (fun hc9 => ?_)
  · rw [if_pos hc9] at h
    refine A_aload_n 0 rfl rfl rfl ?_
    obtain ⟨rfl, rfl⟩ := leaf h
    exact A_aret rfl rfl
  · rw [if_neg hc9] at h
    refine A_pc (pc' := 22) rfl ?_
    refine A_aload_n 1 rfl rfl rfl ?_
    refine A_aload_n 1 rfl rfl rfl ?_
    refine A_getA rfl fl_Worker_36 rfl (by decide) (Or.inl rfl) ?_
    obtain ⟨r10, hr10, h⟩ := kM_out h
    refine A_nA hr10 ?_
    obtain ⟨hg11, h⟩ := gk_out h
    refine A_getL (r := r10 + 3) rfl fl_Worker_114 rfl hg11 rfl rfl ?_
    refine A_iload_n 2 rfl rfl rfl ?_
    refine A_pc (pc' := 31) rfl ?_
    refine A_iald (n := 20) rfl (lf_Expr_3 hg11).1 (lf_Expr_3 hg11).2 (Or.inl rfl) hg3 ?_
    refine A_iload_n 2 rfl rfl rfl ?_
    obtain ⟨q12, M13, hcq12, h⟩ := bnd_out h
    refine A_callV (ci := 6) (as := [vI (gI M8 (r10 + 3) a1.toNatClampNeg), vI a1]) (st' := []) (r1 := (some (vA q12), M13)) rfl ml_Worker_56 rfl (by decide) (by decide) (Or.inl rfl) rfl rfl (Nat.le_of_ble_eq_true rfl) (by omega) (hv _ _ _ _ _ hcq12) (Or.inl rfl) ?_
    refine A_pc (pc' := 36) rfl ?_
    refine A_stk (st' := [vA q12]) rfl ?_
    refine A_goto (tgt := 40) rfl (by decide) ?_
    obtain ⟨rfl, rfl⟩ := leaf h
    exact A_aret rfl rfl
theorem fl_Worker_68 : fldOK "MethodWarden$Worker" 68 3 0 true := ⟨_, _, _, cls_Expr, by decide, by decide, rfl, Or.inr ⟨"MethodWarden", inNW 191 (by decide +kernel) (by decide +kernel)⟩⟩
theorem fl_Worker_92 : fldOK "MethodWarden$Worker" 92 3 4 true := ⟨_, _, _, cls_Expr, by decide, by decide, rfl, Or.inr ⟨"MethodWarden", inNW 199 (by decide +kernel) (by decide +kernel)⟩⟩
theorem ml_Worker_74 : mlV "MethodWarden$Worker" 74 Y_Worker_valueOfLogic 2 := ⟨⟨yok_Worker_valueOfLogic, by decide +kernel, by decide⟩, Or.inl (inWG 858 (by decide +kernel) (by decide +kernel)), inWG 860 (by decide +kernel) (by decide +kernel), inWG 36 (by decide +kernel) (by decide +kernel)⟩
theorem ml_Worker_82 : mlV "MethodWarden$Worker" 82 Y_Worker_valueOfIfNothing 1 := ⟨⟨yok_Worker_valueOfIfNothing, by decide +kernel, by decide⟩, Or.inl (inWG 874 (by decide +kernel) (by decide +kernel)), inWG 876 (by decide +kernel) (by decide +kernel), inWG 38 (by decide +kernel) (by decide +kernel)⟩
theorem ml_Worker_85 : mlV "MethodWarden$Worker" 85 Y_Worker_valueOfSearch 2 := ⟨⟨yok_Worker_valueOfSearch, by decide +kernel, by decide⟩, Or.inl (inWG 882 (by decide +kernel) (by decide +kernel)), inWG 884 (by decide +kernel) (by decide +kernel), inWG 39 (by decide +kernel) (by decide +kernel)⟩
theorem ml_Worker_78 : mlV "MethodWarden$Worker" 78 Y_Worker_valueOfChoice 1 := ⟨⟨yok_Worker_valueOfChoice, by decide +kernel, by decide⟩, Or.inl (inWG 870 (by decide +kernel) (by decide +kernel)), inWG 872 (by decide +kernel) (by decide +kernel), inWG 37 (by decide +kernel) (by decide +kernel)⟩
theorem ml_Worker_88 : mlS "MethodWarden$Worker" 88 Y_Tok_isLeaf 1 := ⟨⟨yok_Tok_isLeaf, by decide +kernel, by decide⟩, Or.inl (inWG 907 (by decide +kernel) (by decide +kernel)), inWG 631 (by decide +kernel) (by decide +kernel)⟩
theorem ml_Worker_103 : mlV "MethodWarden$Worker" 103 Y_Val_isError 0 := ⟨⟨yok_Val_isError, by decide +kernel, by decide⟩, Or.inl (inWG 926 (by decide +kernel) (by decide +kernel)), inWG 927 (by decide +kernel) (by decide +kernel), inWG 928 (by decide +kernel) (by decide +kernel)⟩
theorem ml_Worker_107 : mlS "MethodWarden$Worker" 107 Y_Tok_isOfOne 1 := ⟨⟨yok_Tok_isOfOne, by decide +kernel, by decide⟩, Or.inl (inWG 930 (by decide +kernel) (by decide +kernel)), inWG 605 (by decide +kernel) (by decide +kernel)⟩
theorem ml_Worker_117 : mlV "MethodWarden$Worker" 117 Y_Worker_valueOfTwo 4 := ⟨⟨yok_Worker_valueOfTwo, by decide +kernel, by decide⟩, Or.inl (inWG 953 (by decide +kernel) (by decide +kernel)), inWG 955 (by decide +kernel) (by decide +kernel), inWG 45 (by decide +kernel) (by decide +kernel)⟩
theorem ml_Worker_110 : mlV "MethodWarden$Worker" 110 Y_Worker_valueOfOne 3 := ⟨⟨yok_Worker_valueOfOne, by decide +kernel, by decide⟩, Or.inl (inWG 931 (by decide +kernel) (by decide +kernel)), inWG 933 (by decide +kernel) (by decide +kernel), inWG 42 (by decide +kernel) (by decide +kernel)⟩
theorem ml_Worker_96 : mlV "MethodWarden$Worker" 96 Y_Worker_valueOfLeaf 3 := ⟨⟨yok_Worker_valueOfLeaf, by decide +kernel, by decide⟩, Or.inl (inWG 908 (by decide +kernel) (by decide +kernel)), inWG 910 (by decide +kernel) (by decide +kernel), inWG 41 (by decide +kernel) (by decide +kernel)⟩
def fb_Worker_valueOf (v : Int32 → Int32 → ax_M → Option (Nat × ax_M)) (a1 : Int32) (a2 : Int32) (M : ax_M) : Option (Nat × ax_M) :=
  if a1 < 0 then (some (70, M)) else (if a2 ≤ a1 then (some (70, M)) else (if a2 ≤ 20 then (kM (gA M 68 3) (fun r4 => gk r4 3 (gi a1 20 (kM (gI M (r4 + 1) a1.toNatClampNeg) (fun x7 => if x7 = 21 then (if x7 = 21 then (bnd (f_Worker_valueOfLogic v a1 1 M) (fun q12 M13 => some (q12, M13))) else (bnd (f_Worker_valueOfLogic v a1 0 M) (fun q10 M11 => some (q10, M11)))) else (if x7 = 22 then (if x7 = 21 then (bnd (f_Worker_valueOfLogic v a1 1 M) (fun q18 M19 => some (q18, M19))) else (bnd (f_Worker_valueOfLogic v a1 0 M) (fun q16 M17 => some (q16, M17)))) else (if x7 = 37 then (bnd (f_Worker_valueOfIfNothing v a1 M) (fun q21 M22 => some (q21, M22))) else (if x7 = 38 then (bnd (f_Worker_valueOfSearch v a1 x7 M) (fun q24 M25 => some (q24, M25))) else (if x7 = 39 then (bnd (f_Worker_valueOfSearch v a1 x7 M) (fun q27 M28 => some (q27, M28))) else (if x7 = 40 then (bnd (f_Worker_valueOfSearch v a1 x7 M) (fun q30 M31 => some (q30, M31))) else (if x7 = 42 then (bnd (f_Worker_valueOfChoice v a1 M) (fun q33 M34 => some (q33, M34))) else (bnd (f_Tok_isLeaf x7 M) (fun q35 M36 => if q35 = 0 then (kM (gA M36 68 3) (fun r38 => gk r38 3 (bnd (v (gI M36 (r38 + 2) a1.toNatClampNeg) a1 M36) (fun q40 M41 => gk q40 7 (bnd (f_Val_isError q40 M41) (fun q43 M44 => if q43 = 0 then (bnd (f_Tok_isOfOne x7 M44) (fun q46 M47 => if q46 = 0 then (kM (gA M47 68 3) (fun r49 => gk r49 3 (bnd (v (gI M47 (r49 + 3) a1.toNatClampNeg) a1 M47) (fun q51 M52 => gk q51 7 (bnd (f_Val_isError q51 M52) (fun q54 M55 => if q54 = 0 then (kM (75 + 3 * a1.toNatClampNeg) (fun r57 => bnd (f_Worker_valueOfTwo x7 q40 q51 r57 M55) (fun q58 M59 => some (q58, M59)))) else (some (70, M55)))))))) else (kM (75 + 3 * a1.toNatClampNeg) (fun r60 => bnd (f_Worker_valueOfOne x7 q40 r60 M47) (fun q61 M62 => some (q61, M62)))))) else (some (70, M44)))))))) else (kM (gA M36 68 3) (fun r63 => gk r63 3 (kM (75 + 3 * a1.toNatClampNeg) (fun r65 => bnd (f_Worker_valueOfLeaf x7 (gJ M36 (r63 + 5) a1.toNatClampNeg) r65 M36) (fun q66 M67 => some (q66, M67))))))))))))))))))) else (some (70, M))))
set_option maxHeartbeats 4000000 in
set_option maxRecDepth 100000 in
theorem cb_Worker_valueOf {l : Launch} {g : ax_G} (dv : Nat) (hdv : 10 ≤ dv) (v : Int32 → Int32 → ax_M → Option (Nat × ax_M)) (hv : ∀ (a b : Int32) (M : ax_M) (r : Nat) (M' : ax_M), v a b M = some (r, M') → Ctr l g true Y_Worker_valueOf dv [vA 68, vI a, vI b] M (some (vA r), M')) {a1 : Int32} {a2 : Int32} {M : ax_M} {r : Nat} {M' : ax_M} (h : fb_Worker_valueOf v a1 a2 M = some (r, M')) : Ctr l g true Y_Worker_valueOf (dv + 4) [vA 68, vI a1, vI a2] M (some (vA r), M') := by
  refine Ctr.ofAW yok_Worker_valueOf (Nat.le_of_ble_eq_true rfl) (Or.inl rfl) ?_
  show AW l g true Y_Worker_valueOf (dv + 4) (some (vA r), M') 0 [(0, vA 68), (1, vI a1), (2, vI a2)] [] M
  unfold fb_Worker_valueOf at h
  refine A_iload_n 1 rfl rfl rfl ?_
  refine A_if_lt (tgt := 15) rfl (by decide) (fun hc1 => ?_) (fun hc1 => ?_)
  · rw [if_pos hc1] at h
    refine A_aload_n 0 rfl rfl rfl ?_
    refine A_getL (r := 70) rfl fl_Worker_18 rfl (by decide) rfl rfl ?_
    obtain ⟨rfl, rfl⟩ := leaf h
    exact A_aret rfl rfl
  · rw [if_neg hc1] at h
    refine A_pc (pc' := 4) rfl ?_
    refine A_iload_n 1 rfl rfl rfl ?_
    refine A_iload_n 2 rfl rfl rfl ?_
    refine A_icmp_ge (tgt := 15) rfl (by decide) (fun hc2 => ?_) (fun hc2 => ?_)
    · rw [if_pos hc2] at h
      refine A_aload_n 0 rfl rfl rfl ?_
      refine A_getL (r := 70) rfl fl_Worker_18 rfl (by decide) rfl rfl ?_
      obtain ⟨rfl, rfl⟩ := leaf h
      exact A_aret rfl rfl
    · rw [if_neg hc2] at h
      refine A_pc (pc' := 9) rfl ?_
      refine A_iload_n 2 rfl rfl rfl ?_
      refine A_bipush (v := 20) rfl (by decide) ?_
      refine A_icmp_le (tgt := 20) rfl (by decide) (fun hc3 => ?_) (fun hc3 => ?_)
      · rw [if_pos hc3] at h
        refine A_aload_n 0 rfl rfl rfl ?_
        refine A_getA rfl fl_Worker_36 rfl (by decide) (Or.inl rfl) ?_
        obtain ⟨r4, hr4, h⟩ := kM_out h
        refine A_nA hr4 ?_
        obtain ⟨hg5, h⟩ := gk_out h
        refine A_getL (r := r4 + 1) rfl fl_Worker_68 rfl hg5 rfl rfl ?_
        refine A_iload_n 1 rfl rfl rfl ?_
        obtain ⟨hg6, h⟩ := gi_out h
        refine A_iald (n := 20) rfl (lf_Expr_1 hg5).1 (lf_Expr_1 hg5).2 (Or.inl rfl) hg6 ?_
        refine A_pc (pc' := 29) rfl ?_
        obtain ⟨x7, hx7, h⟩ := kM_out h
        refine A_nI hx7 ?_
        refine A_istore_n (Ls' := [(3, vI x7), (0, vA 68), (1, vI a1), (2, vI a2)]) rfl rfl (by decide) rfl ?_
        refine A_iload_n 0 rfl rfl rfl ?_
        by_cases hc8 : x7 = 21
        · rw [if_pos hc8] at h
          refine A_tableIn (tgt := 132) (off := 101) rfl (by rw [hc8]; decide) (by rw [hc8]; decide) (by rw [hc8]; rfl) (by decide) ?_
          refine A_aload_n 1 rfl rfl rfl ?_
          refine A_iload_n 2 rfl rfl rfl ?_
          refine A_iload_n 0 rfl rfl rfl ?_
          refine A_bipush (v := 21) rfl (by decide) ?_
          refine A_icmp_ne (tgt := 144) rfl (by decide) (fun hc9 => ?_) (fun hc9 => ?_)
          · rw [if_neg hc9] at h
            refine A_iconst (v := 0) rfl (by decide) ?_
            obtain ⟨q10, M11, hcq10, h⟩ := bnd_out h
            refine A_callV (ci := 6) (as := [vI a1, vI 0]) (st' := []) (r1 := (some (vA q10), M11)) rfl ml_Worker_74 rfl (by decide) (by decide) (Or.inl rfl) rfl rfl (Nat.le_of_ble_eq_true rfl) (by omega) (c_Worker_valueOfLogic dv hdv v hv hcq10) (Or.inl rfl) ?_
            refine A_pc (pc' := 148) rfl ?_
            refine A_stk (st' := [vA q10]) rfl ?_
            obtain ⟨rfl, rfl⟩ := leaf h
            exact A_aret rfl rfl
          · rw [if_pos hc9] at h
            refine A_pc (pc' := 140) rfl ?_
            refine A_iconst (v := 1) rfl (by decide) ?_
            refine A_goto (tgt := 145) rfl (by decide) ?_
            obtain ⟨q12, M13, hcq12, h⟩ := bnd_out h
            refine A_callV (ci := 6) (as := [vI a1, vI 1]) (st' := []) (r1 := (some (vA q12), M13)) rfl ml_Worker_74 rfl (by decide) (by decide) (Or.inl rfl) rfl rfl (Nat.le_of_ble_eq_true rfl) (by omega) (c_Worker_valueOfLogic dv hdv v hv hcq12) (Or.inl rfl) ?_
            refine A_pc (pc' := 148) rfl ?_
            refine A_stk (st' := [vA q12]) rfl ?_
            obtain ⟨rfl, rfl⟩ := leaf h
            exact A_aret rfl rfl
        · rw [if_neg hc8] at h
          by_cases hc14 : x7 = 22
          · rw [if_pos hc14] at h
            refine A_tableIn (tgt := 132) (off := 101) rfl (by rw [hc14]; decide) (by rw [hc14]; decide) (by rw [hc14]; rfl) (by decide) ?_
            refine A_aload_n 1 rfl rfl rfl ?_
            refine A_iload_n 2 rfl rfl rfl ?_
            refine A_iload_n 0 rfl rfl rfl ?_
            refine A_bipush (v := 21) rfl (by decide) ?_
            refine A_icmp_ne (tgt := 144) rfl (by decide) (fun hc15 => ?_) (fun hc15 => ?_)
            · rw [if_neg hc15] at h
              refine A_iconst (v := 0) rfl (by decide) ?_
              obtain ⟨q16, M17, hcq16, h⟩ := bnd_out h
              refine A_callV (ci := 6) (as := [vI a1, vI 0]) (st' := []) (r1 := (some (vA q16), M17)) rfl ml_Worker_74 rfl (by decide) (by decide) (Or.inl rfl) rfl rfl (Nat.le_of_ble_eq_true rfl) (by omega) (c_Worker_valueOfLogic dv hdv v hv hcq16) (Or.inl rfl) ?_
              refine A_pc (pc' := 148) rfl ?_
              refine A_stk (st' := [vA q16]) rfl ?_
              obtain ⟨rfl, rfl⟩ := leaf h
              exact A_aret rfl rfl
            · rw [if_pos hc15] at h
              refine A_pc (pc' := 140) rfl ?_
              refine A_iconst (v := 1) rfl (by decide) ?_
              refine A_goto (tgt := 145) rfl (by decide) ?_
              obtain ⟨q18, M19, hcq18, h⟩ := bnd_out h
              refine A_callV (ci := 6) (as := [vI a1, vI 1]) (st' := []) (r1 := (some (vA q18), M19)) rfl ml_Worker_74 rfl (by decide) (by decide) (Or.inl rfl) rfl rfl (Nat.le_of_ble_eq_true rfl) (by omega) (c_Worker_valueOfLogic dv hdv v hv hcq18) (Or.inl rfl) ?_
              refine A_pc (pc' := 148) rfl ?_
              refine A_stk (st' := [vA q18]) rfl ?_
              obtain ⟨rfl, rfl⟩ := leaf h
              exact A_aret rfl rfl
          · rw [if_neg hc14] at h
            by_cases hc20 : x7 = 37
            · rw [if_pos hc20] at h
              refine A_tableIn (tgt := 155) (off := 124) rfl (by rw [hc20]; decide) (by rw [hc20]; decide) (by rw [hc20]; rfl) (by decide) ?_
              refine A_aload_n 1 rfl rfl rfl ?_
              refine A_iload_n 2 rfl rfl rfl ?_
              obtain ⟨q21, M22, hcq21, h⟩ := bnd_out h
              refine A_callV (ci := 6) (as := [vI a1]) (st' := []) (r1 := (some (vA q21), M22)) rfl ml_Worker_82 rfl (by decide) (by decide) (Or.inl rfl) rfl rfl (Nat.le_of_ble_eq_true rfl) (by omega) (c_Worker_valueOfIfNothing dv hdv v hv hcq21) (Or.inl rfl) ?_
              refine A_pc (pc' := 160) rfl ?_
              refine A_stk (st' := [vA q21]) rfl ?_
              obtain ⟨rfl, rfl⟩ := leaf h
              exact A_aret rfl rfl
            · rw [if_neg hc20] at h
              by_cases hc23 : x7 = 38
              · rw [if_pos hc23] at h
                refine A_tableIn (tgt := 161) (off := 130) rfl (by rw [hc23]; decide) (by rw [hc23]; decide) (by rw [hc23]; rfl) (by decide) ?_
                refine A_aload_n 1 rfl rfl rfl ?_
                refine A_iload_n 2 rfl rfl rfl ?_
                refine A_iload_n 0 rfl rfl rfl ?_
                obtain ⟨q24, M25, hcq24, h⟩ := bnd_out h
                refine A_callV (ci := 6) (as := [vI a1, vI x7]) (st' := []) (r1 := (some (vA q24), M25)) rfl ml_Worker_85 rfl (by decide) (by decide) (Or.inl rfl) rfl rfl (Nat.le_of_ble_eq_true rfl) (by omega) (c_Worker_valueOfSearch dv hdv v hv hcq24) (Or.inl rfl) ?_
                refine A_pc (pc' := 167) rfl ?_
                refine A_stk (st' := [vA q24]) rfl ?_
                obtain ⟨rfl, rfl⟩ := leaf h
                exact A_aret rfl rfl
              · rw [if_neg hc23] at h
                by_cases hc26 : x7 = 39
                · rw [if_pos hc26] at h
                  refine A_tableIn (tgt := 161) (off := 130) rfl (by rw [hc26]; decide) (by rw [hc26]; decide) (by rw [hc26]; rfl) (by decide) ?_
                  refine A_aload_n 1 rfl rfl rfl ?_
                  refine A_iload_n 2 rfl rfl rfl ?_
                  refine A_iload_n 0 rfl rfl rfl ?_
                  obtain ⟨q27, M28, hcq27, h⟩ := bnd_out h
                  refine A_callV (ci := 6) (as := [vI a1, vI x7]) (st' := []) (r1 := (some (vA q27), M28)) rfl ml_Worker_85 rfl (by decide) (by decide) (Or.inl rfl) rfl rfl (Nat.le_of_ble_eq_true rfl) (by omega) (c_Worker_valueOfSearch dv hdv v hv hcq27) (Or.inl rfl) ?_
                  refine A_pc (pc' := 167) rfl ?_
                  refine A_stk (st' := [vA q27]) rfl ?_
                  obtain ⟨rfl, rfl⟩ := leaf h
                  exact A_aret rfl rfl
                · rw [if_neg hc26] at h
                  by_cases hc29 : x7 = 40
                  · rw [if_pos hc29] at h
                    refine A_tableIn (tgt := 161) (off := 130) rfl (by rw [hc29]; decide) (by rw [hc29]; decide) (by rw [hc29]; rfl) (by decide) ?_
                    refine A_aload_n 1 rfl rfl rfl ?_
                    refine A_iload_n 2 rfl rfl rfl ?_
                    refine A_iload_n 0 rfl rfl rfl ?_
                    obtain ⟨q30, M31, hcq30, h⟩ := bnd_out h
                    refine A_callV (ci := 6) (as := [vI a1, vI x7]) (st' := []) (r1 := (some (vA q30), M31)) rfl ml_Worker_85 rfl (by decide) (by decide) (Or.inl rfl) rfl rfl (Nat.le_of_ble_eq_true rfl) (by omega) (c_Worker_valueOfSearch dv hdv v hv hcq30) (Or.inl rfl) ?_
                    refine A_pc (pc' := 167) rfl ?_
                    refine A_stk (st' := [vA q30]) rfl ?_
                    obtain ⟨rfl, rfl⟩ := leaf h
                    exact A_aret rfl rfl
                  · rw [if_neg hc29] at h
                    by_cases hc32 : x7 = 42
                    · rw [if_pos hc32] at h
                      refine A_tableIn (tgt := 149) (off := 118) rfl (by rw [hc32]; decide) (by rw [hc32]; decide) (by rw [hc32]; rfl) (by decide) ?_
                      refine A_aload_n 1 rfl rfl rfl ?_
                      refine A_iload_n 2 rfl rfl rfl ?_
                      obtain ⟨q33, M34, hcq33, h⟩ := bnd_out h
                      refine A_callV (ci := 6) (as := [vI a1]) (st' := []) (r1 := (some (vA q33), M34)) rfl ml_Worker_78 rfl (by decide) (by decide) (Or.inl rfl) rfl rfl (Nat.le_of_ble_eq_true rfl) (by omega) (c_Worker_valueOfChoice dv hdv v hv hcq33) (Or.inl rfl) ?_
                      refine A_pc (pc' := 154) rfl ?_
                      refine A_stk (st' := [vA q33]) rfl ?_
                      obtain ⟨rfl, rfl⟩ := leaf h
                      exact A_aret rfl rfl
                    · rw [if_neg hc32] at h
                      refine A_tableDef (tgt := 168) [21, 22, 37, 38, 39, 40, 42] rfl (by decide) (by decide) (fa_cons (ne_i hc8 (by decide)) (fa_cons (ne_i hc14 (by decide)) (fa_cons (ne_i hc20 (by decide)) (fa_cons (ne_i hc23 (by decide)) (fa_cons (ne_i hc26 (by decide)) (fa_cons (ne_i hc29 (by decide)) (fa_cons (ne_i hc32 (by decide)) fa_nil))))))) (by decide) ?_
                      refine A_iload_n 0 rfl rfl rfl ?_
                      obtain ⟨q35, M36, hcq35, h⟩ := bnd_out h
                      refine A_callS (as := [vI x7]) (st' := []) (r1 := (some (vI q35), M36)) rfl ml_Worker_88 rfl rfl (Nat.le_of_ble_eq_true rfl) (by omega) (c_Tok_isLeaf hcq35) (Or.inl rfl) ?_
                      refine A_pc (pc' := 172) rfl ?_
                      refine A_stk (st' := [vI q35]) rfl ?_
                      refine A_if_eq (tgt := 196) rfl (by decide) (fun hc37 => ?_) (fun hc37 => ?_)
                      · rw [if_pos hc37] at h
                        refine A_aload_n 1 rfl rfl rfl ?_
                        refine A_aload_n 1 rfl rfl rfl ?_
                        refine A_getA rfl fl_Worker_36 rfl (by decide) (Or.inl rfl) ?_
                        obtain ⟨r38, hr38, h⟩ := kM_out h
                        refine A_nA hr38 ?_
                        obtain ⟨hg39, h⟩ := gk_out h
                        refine A_getL (r := r38 + 2) rfl fl_Worker_100 rfl hg39 rfl rfl ?_
                        refine A_iload_n 2 rfl rfl rfl ?_
                        refine A_pc (pc' := 205) rfl ?_
                        refine A_iald (n := 20) rfl (lf_Expr_2 hg39).1 (lf_Expr_2 hg39).2 (Or.inl rfl) hg6 ?_
                        refine A_iload_n 2 rfl rfl rfl ?_
                        obtain ⟨q40, M41, hcq40, h⟩ := bnd_out h
                        refine A_callV (ci := 6) (as := [vI (gI M36 (r38 + 2) a1.toNatClampNeg), vI a1]) (st' := []) (r1 := (some (vA q40), M41)) rfl ml_Worker_56 rfl (by decide) (by decide) (Or.inl rfl) rfl rfl (Nat.le_of_ble_eq_true rfl) (by omega) (hv _ _ _ _ _ hcq40) (Or.inl rfl) ?_
                        refine A_pc (pc' := 210) rfl ?_
                        refine A_stk (st' := [vA q40]) rfl ?_
                        refine A_astore (Ls' := [(4, vA q40), (3, vI x7), (0, vA 68), (1, vI a1), (2, vI a2)]) rfl (by decide) rfl ?_
                        refine A_aload 0 rfl rfl ?_
                        obtain ⟨hg42, h⟩ := gk_out h
                        obtain ⟨q43, M44, hcq43, h⟩ := bnd_out h
                        refine A_callV (ci := 7) (as := []) (st' := []) (r1 := (some (vI q43), M44)) rfl ml_Worker_103 rfl (by decide) hg42 (Or.inl rfl) rfl rfl (Nat.le_of_ble_eq_true rfl) (by omega) (c_Val_isError hcq43) (Or.inl rfl) ?_
                        refine A_pc (pc' := 217) rfl ?_
                        refine A_stk (st' := [vI q43]) rfl ?_
                        refine A_pc (pc' := 217) rfl ?_
                        refine A_if_eq (tgt := 225) rfl (by decide) (fun hc45 => ?_) (fun hc45 => ?_)
                        · rw [if_pos hc45] at h
                          refine A_iload_n 1 rfl rfl rfl ?_
                          obtain ⟨q46, M47, hcq46, h⟩ := bnd_out h
                          refine A_callS (as := [vI x7]) (st' := []) (r1 := (some (vI q46), M47)) rfl ml_Worker_107 rfl rfl (Nat.le_of_ble_eq_true rfl) (by omega) (c_Tok_isOfOne hcq46) (Or.inl rfl) ?_
                          refine A_pc (pc' := 229) rfl ?_
                          refine A_stk (st' := [vI q46]) rfl ?_
                          refine A_if_eq (tgt := 246) rfl (by decide) (fun hc48 => ?_) (fun hc48 => ?_)
                          · rw [if_pos hc48] at h
                            refine A_aload_n 2 rfl rfl rfl ?_
                            refine A_aload_n 2 rfl rfl rfl ?_
                            refine A_getA rfl fl_Worker_36 rfl (by decide) (Or.inl rfl) ?_
                            obtain ⟨r49, hr49, h⟩ := kM_out h
                            refine A_nA hr49 ?_
                            obtain ⟨hg50, h⟩ := gk_out h
                            refine A_getL (r := r49 + 3) rfl fl_Worker_114 rfl hg50 rfl rfl ?_
                            refine A_iload_n 3 rfl rfl rfl ?_
                            refine A_pc (pc' := 255) rfl ?_
                            refine A_iald (n := 20) rfl (lf_Expr_3 hg50).1 (lf_Expr_3 hg50).2 (Or.inl rfl) hg6 ?_
                            refine A_iload_n 3 rfl rfl rfl ?_
                            obtain ⟨q51, M52, hcq51, h⟩ := bnd_out h
                            refine A_callV (ci := 6) (as := [vI (gI M47 (r49 + 3) a1.toNatClampNeg), vI a1]) (st' := []) (r1 := (some (vA q51), M52)) rfl ml_Worker_56 rfl (by decide) (by decide) (Or.inl rfl) rfl rfl (Nat.le_of_ble_eq_true rfl) (by omega) (hv _ _ _ _ _ hcq51) (Or.inl rfl) ?_
                            refine A_pc (pc' := 260) rfl ?_
                            refine A_stk (st' := [vA q51]) rfl ?_
                            refine A_astore (Ls' := [(5, vA q51), (4, vA q40), (3, vI x7), (0, vA 68), (1, vI a1), (2, vI a2)]) rfl (by decide) rfl ?_
                            refine A_aload 0 rfl rfl ?_
                            obtain ⟨hg53, h⟩ := gk_out h
                            obtain ⟨q54, M55, hcq54, h⟩ := bnd_out h
                            refine A_callV (ci := 7) (as := []) (st' := []) (r1 := (some (vI q54), M55)) rfl ml_Worker_103 rfl (by decide) hg53 (Or.inl rfl) rfl rfl (Nat.le_of_ble_eq_true rfl) (by omega) (c_Val_isError hcq54) (Or.inl rfl) ?_
                            refine A_pc (pc' := 267) rfl ?_
                            refine A_stk (st' := [vI q54]) rfl ?_
                            refine A_pc (pc' := 267) rfl ?_
                            refine A_if_eq (tgt := 277) rfl (by decide) (fun hc56 => ?_) (fun hc56 => ?_)
                            · rw [if_pos hc56] at h
                              refine A_aload_n 3 rfl rfl rfl ?_
                              refine A_iload_n 2 rfl rfl rfl ?_
                              refine A_aload 1 rfl rfl ?_
                              refine A_aload 0 rfl rfl ?_
                              refine A_aload_n 3 rfl rfl rfl ?_
                              refine A_pc (pc' := 284) rfl ?_
                              refine A_getL (r := 69) rfl fl_Worker_11 rfl (by decide) rfl rfl ?_
                              refine A_iload_n 4 rfl rfl rfl ?_
                              refine A_aldL (t := 5) (C := "MethodWarden$Value") (n := 20) (r := 75 + 3 * a1.toNatClampNeg) rfl (by decide) ⟨by decide, by decide, rfl⟩ (by decide) hg6 rfl rfl ?_
                              obtain ⟨r57, hr57, h⟩ := kM_out h
                              refine A_nA hr57 ?_
                              obtain ⟨q58, M59, hcq58, h⟩ := bnd_out h
                              refine A_callV (ci := 6) (as := [vI x7, vA q40, vA q51, vA r57]) (st' := []) (r1 := (some (vA q58), M59)) rfl ml_Worker_117 rfl (by decide) (by decide) (Or.inl rfl) rfl rfl (Nat.le_of_ble_eq_true rfl) (by omega) (c_Worker_valueOfTwo hcq58) (Or.inl rfl) ?_
                              refine A_pc (pc' := 292) rfl ?_
                              refine A_stk (st' := [vA q58]) rfl ?_
                              obtain ⟨rfl, rfl⟩ := leaf h
                              exact A_aret rfl rfl
                            · rw [if_neg hc56] at h
                              refine A_pc (pc' := 270) rfl ?_
                              refine A_aload_n 3 rfl rfl rfl ?_
                              refine A_getL (r := 70) rfl fl_Worker_18 rfl (by decide) rfl rfl ?_
                              refine A_goto (tgt := 292) rfl (by decide) ?_
                              obtain ⟨rfl, rfl⟩ := leaf h
                              exact A_aret rfl rfl
                          · rw [if_neg hc48] at h
                            refine A_pc (pc' := 232) rfl ?_
                            refine A_aload_n 2 rfl rfl rfl ?_
                            refine A_iload_n 1 rfl rfl rfl ?_
                            refine A_aload 0 rfl rfl ?_
                            refine A_aload_n 2 rfl rfl rfl ?_
                            refine A_getL (r := 69) rfl fl_Worker_11 rfl (by decide) rfl rfl ?_
                            refine A_pc (pc' := 240) rfl ?_
                            refine A_iload_n 3 rfl rfl rfl ?_
                            refine A_aldL (t := 5) (C := "MethodWarden$Value") (n := 20) (r := 75 + 3 * a1.toNatClampNeg) rfl (by decide) ⟨by decide, by decide, rfl⟩ (by decide) hg6 rfl rfl ?_
                            obtain ⟨r60, hr60, h⟩ := kM_out h
                            refine A_nA hr60 ?_
                            obtain ⟨q61, M62, hcq61, h⟩ := bnd_out h
                            refine A_callV (ci := 6) (as := [vI x7, vA q40, vA r60]) (st' := []) (r1 := (some (vA q61), M62)) rfl ml_Worker_110 rfl (by decide) (by decide) (Or.inl rfl) rfl rfl (Nat.le_of_ble_eq_true rfl) (by omega) (c_Worker_valueOfOne hcq61) (Or.inl rfl) ?_
                            refine A_pc (pc' := 245) rfl ?_
                            refine A_stk (st' := [vA q61]) rfl ?_
                            obtain ⟨rfl, rfl⟩ := leaf h
                            exact A_aret rfl rfl
                        · rw [if_neg hc45] at h
                          refine A_pc (pc' := 220) rfl ?_
                          refine A_aload_n 2 rfl rfl rfl ?_
                          refine A_getL (r := 70) rfl fl_Worker_18 rfl (by decide) rfl rfl ?_
                          obtain ⟨rfl, rfl⟩ := leaf h
                          exact A_aret rfl rfl
                      · rw [if_neg hc37] at h
                        refine A_pc (pc' := 175) rfl ?_
                        refine A_aload_n 1 rfl rfl rfl ?_
                        refine A_iload_n 0 rfl rfl rfl ?_
                        refine A_aload_n 1 rfl rfl rfl ?_
                        refine A_getA rfl fl_Worker_36 rfl (by decide) (Or.inl rfl) ?_
                        obtain ⟨r63, hr63, h⟩ := kM_out h
                        refine A_nA hr63 ?_
                        obtain ⟨hg64, h⟩ := gk_out h
                        refine A_getL (r := r63 + 5) rfl fl_Worker_92 rfl hg64 rfl rfl ?_
                        refine A_pc (pc' := 184) rfl ?_
                        refine A_iload_n 2 rfl rfl rfl ?_
                        refine A_lald (n := 20) rfl (lf_Expr_5 hg64).1 (lf_Expr_5 hg64).2 (Or.inl rfl) hg6 ?_
                        refine A_aload_n 1 rfl rfl rfl ?_
                        refine A_getL (r := 69) rfl fl_Worker_11 rfl (by decide) rfl rfl ?_
                        refine A_iload_n 2 rfl rfl rfl ?_
                        refine A_aldL (t := 5) (C := "MethodWarden$Value") (n := 20) (r := 75 + 3 * a1.toNatClampNeg) rfl (by decide) ⟨by decide, by decide, rfl⟩ (by decide) hg6 rfl rfl ?_
                        obtain ⟨r65, hr65, h⟩ := kM_out h
                        refine A_nA hr65 ?_
                        refine A_pc (pc' := 192) rfl ?_
                        obtain ⟨q66, M67, hcq66, h⟩ := bnd_out h
                        refine A_callV (ci := 6) (as := [vI x7, vJ (gJ M36 (r63 + 5) a1.toNatClampNeg), vA r65]) (st' := []) (r1 := (some (vA q66), M67)) rfl ml_Worker_96 rfl (by decide) (by decide) (Or.inl rfl) rfl rfl (Nat.le_of_ble_eq_true rfl) (by omega) (c_Worker_valueOfLeaf hcq66) (Or.inl rfl) ?_
                        refine A_pc (pc' := 195) rfl ?_
                        refine A_stk (st' := [vA q66]) rfl ?_
                        obtain ⟨rfl, rfl⟩ := leaf h
                        exact A_aret rfl rfl
      · rw [if_neg hc3] at h
        refine A_pc (pc' := 15) rfl ?_
        refine A_aload_n 0 rfl rfl rfl ?_
        refine A_getL (r := 70) rfl fl_Worker_18 rfl (by decide) rfl rfl ?_
        obtain ⟨rfl, rfl⟩ := leaf h
        exact A_aret rfl rfl
def f_Worker_valueOf : Nat → Int32 → Int32 → ax_M → Option (Nat × ax_M)
  | 0, _, _, _ => none
  | n + 1, a, b, M => fb_Worker_valueOf (f_Worker_valueOf n) a b M
theorem c_Worker_valueOf {l : Launch} {g : ax_G} : ∀ (n : Nat) {a b : Int32} {M : ax_M} {r : Nat} {M' : ax_M}, f_Worker_valueOf n a b M = some (r, M') → Ctr l g true Y_Worker_valueOf (4 * n + 10) [vA 68, vI a, vI b] M (some (vA r), M')
  | 0, _, _, _, _, _, h => by cases h
  | n + 1, _, _, _, _, _, h => cb_Worker_valueOf (4 * n + 10) (by omega) _ (fun _ _ _ _ _ z => c_Worker_valueOf n z) h
def tb_Worker_workOut : List (Nat × Instr × Nat) := [(0, .aload_n 0, 1), (1, .aload_n 1, 1), (2, .putfield 36, 3), (5, .aload_n 0, 1), (6, .aload_n 1, 1), (7, .getfield 51, 3), (10, .iconst 1, 1), (11, .isub, 1), (12, .aload_n 1, 1), (13, .getfield 51, 3), (16, .invokevirtual 56, 3), (19, .areturn, 1)]
def Y_Worker_workOut : ax_Y := (⟨"MethodWarden$Worker", "workOut", "(LMethodWarden$Expression;)LMethodWarden$Value;"⟩, prog_12_method_4_code, 2, some (.object "MethodWarden$Value"), tb_Worker_workOut)
theorem yok_Worker_workOut : yOK Y_Worker_workOut := ⟨by decide +kernel, by decide +kernel, inWG 987 (by decide +kernel) (by decide +kernel), inWG 102 (by decide +kernel) (by decide +kernel), by decide +kernel⟩
theorem fl_Worker_51 : fldOK "MethodWarden$Worker" 51 3 5 false := ⟨_, _, _, cls_Expr, by decide, by decide, rfl, Or.inr ⟨"MethodWarden", inNW 201 (by decide +kernel) (by decide +kernel)⟩⟩
def f_Worker_workOut (a1 : Nat) (M : ax_M) : Option (Nat × ax_M) :=
  kM (mA M 68 3 a1) (fun M1 => gk a1 3 (bnd (f_Worker_valueOf 21 ((gI M1 a1 5) - 1) (gI M1 a1 5) M1) (fun q3 M4 => some (q3, M4))))
set_option maxHeartbeats 4000000 in
set_option maxRecDepth 100000 in
theorem c_Worker_workOut {l : Launch} {g : ax_G} {a1 : Nat} {M : ax_M} {r : Nat} {M' : ax_M} (h : f_Worker_workOut a1 M = some (r, M')) : Ctr l g true Y_Worker_workOut 95 [vA 68, vA a1] M (some (vA r), M') := by
  refine Ctr.ofAW yok_Worker_workOut (Nat.le_of_ble_eq_true rfl) (Or.inl rfl) ?_
  show AW l g true Y_Worker_workOut 95 (some (vA r), M') 0 [(0, vA 68), (1, vA a1)] [] M
  unfold f_Worker_workOut at h
  refine A_aload_n 0 rfl rfl rfl ?_
  refine A_aload_n 1 rfl rfl rfl ?_
  refine A_putA rfl (Or.inl fl_Worker_36) rfl (by decide) (Or.inl rfl) rfl (Or.inr rfl) ?_
  obtain ⟨M1, hM1, h⟩ := kM_out h
  refine A_mem hM1 ?_
  refine A_aload_n 0 rfl rfl rfl ?_
  refine A_aload_n 1 rfl rfl rfl ?_
  refine A_pc (pc' := 7) rfl ?_
  obtain ⟨hg2, h⟩ := gk_out h
  refine A_getI rfl fl_Worker_51 rfl hg2 (Or.inl rfl) ?_
  refine A_iconst (v := 1) rfl (by decide) ?_
  refine A_isub rfl ?_
  refine A_aload_n 1 rfl rfl rfl ?_
  refine A_getI rfl fl_Worker_51 rfl hg2 (Or.inl rfl) ?_
  obtain ⟨q3, M4, hcq3, h⟩ := bnd_out h
  refine A_callV (ci := 6) (as := [vI ((gI M1 a1 5) - 1), vI (gI M1 a1 5)]) (st' := []) (r1 := (some (vA q3), M4)) rfl ml_Worker_56 rfl (by decide) (by decide) (Or.inl rfl) rfl rfl (Nat.le_of_ble_eq_true rfl) (by decide) (c_Worker_valueOf 21 hcq3) (Or.inl rfl) ?_
  refine A_pc (pc' := 19) rfl ?_
  refine A_stk (st' := [vA q3]) rfl ?_
  refine A_pc (pc' := 19) rfl ?_
  obtain ⟨rfl, rfl⟩ := leaf h
  exact A_aret rfl rfl
def tb_Worker_filter : List (Nat × Instr × Nat) := [(0, .aload_n 0, 1), (1, .aload_n 1, 1), (2, .putfield 36, 3), (5, .aload_n 0, 1), (6, .aload_n 1, 1), (7, .getfield 51, 3), (10, .iconst 1, 1), (11, .isub, 1), (12, .aload_n 1, 1), (13, .getfield 51, 3), (16, .aload_n 2, 1), (17, .aload_n 0, 1), (18, .getfield 25, 3), (21, .invokevirtual 60, 3), (24, .istore_n 3, 1), (25, .iload_n 3, 1), (26, .ifCond .eq 11, 3), (29, .aload_n 2, 1), (30, .aload_n 0, 1), (31, .getfield 25, 3), (34, .invokevirtual 64, 3), (37, .iload_n 3, 1), (38, .ireturn, 1)]
def Y_Worker_filter : ax_Y := (⟨"MethodWarden$Worker", "filter", "(LMethodWarden$Expression;LMethodWarden$Items;)Z"⟩, prog_12_method_5_code, 4, some .boolean, tb_Worker_filter)
theorem yok_Worker_filter : yOK Y_Worker_filter := ⟨by decide +kernel, by decide +kernel, inWG 840 (by decide +kernel) (by decide +kernel), inWG 102 (by decide +kernel) (by decide +kernel), by decide +kernel⟩
theorem fl_Worker_25 : fldOK "MethodWarden$Worker" 25 6 10 true := ⟨_, _, _, cls_Worker, by decide, by decide, rfl, Or.inl (inWG 296 (by decide +kernel) (by decide +kernel))⟩
theorem ml_Worker_64 : mlV "MethodWarden$Worker" 64 Y_Items_copyFrom 1 := ⟨⟨yok_Items_copyFrom, by decide +kernel, by decide⟩, Or.inl (inWG 983 (by decide +kernel) (by decide +kernel)), inWG 808 (by decide +kernel) (by decide +kernel), inWG 809 (by decide +kernel) (by decide +kernel)⟩
def f_Worker_filter (a1 : Nat) (a2 : Nat) (M : ax_M) : Option (Int32 × ax_M) :=
  kM (mA M 68 3 a1) (fun M1 => gk a1 3 (bnd (f_Worker_sift (f_Worker_valueOf 21) ((gI M1 a1 5) - 1) (gI M1 a1 5) a2 73 M1) (fun q3 M4 => if q3 = 0 then (g2 q3 (some (q3, M4))) else (gk a2 5 (bnd (f_Items_copyFrom a2 73 M4) (fun q8 M9 => g2 q3 (some (q3, M9))))))))
set_option maxHeartbeats 4000000 in
set_option maxRecDepth 100000 in
theorem c_Worker_filter {l : Launch} {g : ax_G} {a1 : Nat} {a2 : Nat} {M : ax_M} {r : Int32} {M' : ax_M} (h : f_Worker_filter a1 a2 M = some (r, M')) : Ctr l g true Y_Worker_filter 97 [vA 68, vA a1, vA a2] M (some (vI r), M') := by
  refine Ctr.ofAW yok_Worker_filter (Nat.le_of_ble_eq_true rfl) (Or.inl rfl) ?_
  show AW l g true Y_Worker_filter 97 (some (vI r), M') 0 [(0, vA 68), (1, vA a1), (2, vA a2)] [] M
  unfold f_Worker_filter at h
  refine A_aload_n 0 rfl rfl rfl ?_
  refine A_aload_n 1 rfl rfl rfl ?_
  refine A_putA rfl (Or.inl fl_Worker_36) rfl (by decide) (Or.inl rfl) rfl (Or.inr rfl) ?_
  obtain ⟨M1, hM1, h⟩ := kM_out h
  refine A_mem hM1 ?_
  refine A_aload_n 0 rfl rfl rfl ?_
  refine A_aload_n 1 rfl rfl rfl ?_
  refine A_pc (pc' := 7) rfl ?_
  obtain ⟨hg2, h⟩ := gk_out h
  refine A_getI rfl fl_Worker_51 rfl hg2 (Or.inl rfl) ?_
  refine A_iconst (v := 1) rfl (by decide) ?_
  refine A_isub rfl ?_
  refine A_aload_n 1 rfl rfl rfl ?_
  refine A_getI rfl fl_Worker_51 rfl hg2 (Or.inl rfl) ?_
  refine A_aload_n 2 rfl rfl rfl ?_
  refine A_pc (pc' := 17) rfl ?_
  refine A_aload_n 0 rfl rfl rfl ?_
  refine A_getL (r := 73) rfl fl_Worker_25 rfl (by decide) rfl rfl ?_
  obtain ⟨q3, M4, hcq3, h⟩ := bnd_out h
  refine A_callV (ci := 6) (as := [vI ((gI M1 a1 5) - 1), vI (gI M1 a1 5), vA a2, vA 73]) (st' := []) (r1 := (some (vI q3), M4)) rfl ml_Worker_60 rfl (by decide) (by decide) (Or.inl rfl) rfl rfl (Nat.le_of_ble_eq_true rfl) (by decide) (c_Worker_sift 94 (by decide) _ (fun _ _ _ _ _ z => c_Worker_valueOf 21 z) hcq3) (Or.inl rfl) ?_
  refine A_pc (pc' := 24) rfl ?_
  refine A_stk (st' := [vI q3]) rfl ?_
  refine A_istore_n (Ls' := [(3, vI q3), (0, vA 68), (1, vA a1), (2, vA a2)]) rfl rfl (by decide) rfl ?_
  refine A_iload_n 0 rfl rfl rfl ?_
  refine A_if_eq (tgt := 37) rfl (by decide) (fun hc5 => ?_) (fun hc5 => ?_)
  · rw [if_pos hc5] at h
    refine A_iload_n 0 rfl rfl rfl ?_
    obtain ⟨hg6, h⟩ := g2_out h
    obtain ⟨rfl, rfl⟩ := leaf h
    exact A_zret rfl rfl hg6
  · rw [if_neg hc5] at h
    refine A_pc (pc' := 29) rfl ?_
    refine A_aload_n 3 rfl rfl rfl ?_
    refine A_aload_n 1 rfl rfl rfl ?_
    refine A_getL (r := 73) rfl fl_Worker_25 rfl (by decide) rfl rfl ?_
    obtain ⟨hg7, h⟩ := gk_out h
    obtain ⟨q8, M9, hcq8, h⟩ := bnd_out h
    refine A_callV (ci := 5) (as := [vA 73]) (st' := []) (r1 := (none, M9)) rfl ml_Worker_64 rfl (by decide) hg7 (Or.inl rfl) rfl rfl (Nat.le_of_ble_eq_true rfl) (by decide) (c_Items_copyFrom hcq8) (Or.inl rfl) ?_
    refine A_pc (pc' := 37) rfl ?_
    refine A_stk (st' := []) rfl ?_
    refine A_iload_n 0 rfl rfl rfl ?_
    refine A_pc (pc' := 38) rfl ?_
    obtain ⟨hg10, h⟩ := g2_out h
    obtain ⟨rfl, rfl⟩ := leaf h
    exact A_zret rfl rfl hg10
