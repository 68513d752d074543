/-! Token, Expression, Context, Guard, Method. Printed by gen_methods.py. -/
def tb_Tok_isPart : List (Nat × Instr × Nat) := [(0, .iload_n 0, 1), (1, .lookupswitch 61 #[(15, 59), (16, 59), (18, 59), (19, 59), (35, 59), (36, 59)], 59), (60, .iconst 0, 1), (61, .ireturn, 1), (62, .iconst 1, 1), (63, .ireturn, 1)]
def Y_Tok_isPart : ax_Y := (⟨"MethodWarden$Token", "isPart", "(I)Z"⟩, prog_10_method_2_code, 1, some .boolean, tb_Tok_isPart)
theorem yok_Tok_isPart : yOK Y_Tok_isPart := ⟨by decide +kernel, by decide +kernel, inWG 621 (by decide +kernel) (by decide +kernel), inWG 112 (by decide +kernel) (by decide +kernel), by decide +kernel⟩
def f_Tok_isPart (a0 : Int32) (M : ax_M) : Option (Int32 × ax_M) :=
  if a0 = 15 then (some (0, M)) else (if a0 = 16 then (some (0, M)) else (if a0 = 18 then (some (0, M)) else (if a0 = 19 then (some (0, M)) else (if a0 = 35 then (some (0, M)) else (if a0 = 36 then (some (0, M)) else (some (1, M)))))))
set_option maxHeartbeats 4000000 in
set_option maxRecDepth 100000 in
theorem c_Tok_isPart {l : Launch} {g : ax_G} {a0 : Int32} {M : ax_M} {r : Int32} {M' : ax_M} (h : f_Tok_isPart a0 M = some (r, M')) : Ctr l g true Y_Tok_isPart 1 [vI a0] M (some (vI r), M') := by
  refine Ctr.ofAW yok_Tok_isPart (Nat.le_of_ble_eq_true rfl) (Or.inl rfl) ?_
  show AW l g true Y_Tok_isPart 1 (some (vI r), M') 0 [(0, vI a0)] [] M
  unfold f_Tok_isPart at h
  refine A_iload_n 0 rfl rfl rfl ?_
  by_cases hc1 : a0 = 15
  · rw [if_pos hc1] at h
    refine A_lookup (tgt := 60) (off := 59) rfl (by decide) (by rw [hc1]; decide) (by decide) ?_
    refine A_iconst (v := 0) rfl (by decide) ?_
    obtain ⟨rfl, rfl⟩ := leaf h
    exact A_zret rfl rfl (Or.inl rfl)
  · rw [if_neg hc1] at h
    by_cases hc2 : a0 = 16
    · rw [if_pos hc2] at h
      refine A_lookup (tgt := 60) (off := 59) rfl (by decide) (by rw [hc2]; decide) (by decide) ?_
      refine A_iconst (v := 0) rfl (by decide) ?_
      obtain ⟨rfl, rfl⟩ := leaf h
      exact A_zret rfl rfl (Or.inl rfl)
    · rw [if_neg hc2] at h
      by_cases hc3 : a0 = 18
      · rw [if_pos hc3] at h
        refine A_lookup (tgt := 60) (off := 59) rfl (by decide) (by rw [hc3]; decide) (by decide) ?_
        refine A_iconst (v := 0) rfl (by decide) ?_
        obtain ⟨rfl, rfl⟩ := leaf h
        exact A_zret rfl rfl (Or.inl rfl)
      · rw [if_neg hc3] at h
        by_cases hc4 : a0 = 19
        · rw [if_pos hc4] at h
          refine A_lookup (tgt := 60) (off := 59) rfl (by decide) (by rw [hc4]; decide) (by decide) ?_
          refine A_iconst (v := 0) rfl (by decide) ?_
          obtain ⟨rfl, rfl⟩ := leaf h
          exact A_zret rfl rfl (Or.inl rfl)
        · rw [if_neg hc4] at h
          by_cases hc5 : a0 = 35
          · rw [if_pos hc5] at h
            refine A_lookup (tgt := 60) (off := 59) rfl (by decide) (by rw [hc5]; decide) (by decide) ?_
            refine A_iconst (v := 0) rfl (by decide) ?_
            obtain ⟨rfl, rfl⟩ := leaf h
            exact A_zret rfl rfl (Or.inl rfl)
          · rw [if_neg hc5] at h
            by_cases hc6 : a0 = 36
            · rw [if_pos hc6] at h
              refine A_lookup (tgt := 60) (off := 59) rfl (by decide) (by rw [hc6]; decide) (by decide) ?_
              refine A_iconst (v := 0) rfl (by decide) ?_
              obtain ⟨rfl, rfl⟩ := leaf h
              exact A_zret rfl rfl (Or.inl rfl)
            · rw [if_neg hc6] at h
              refine A_lookup (tgt := 62) rfl (by decide) (lk_def _ _ _ (fa_cons (ne_i hc1 (by decide)) (fa_cons (ne_i hc2 (by decide)) (fa_cons (ne_i hc3 (by decide)) (fa_cons (ne_i hc4 (by decide)) (fa_cons (ne_i hc5 (by decide)) (fa_cons (ne_i hc6 (by decide)) fa_nil))))))) (by decide) ?_
              refine A_iconst (v := 1) rfl (by decide) ?_
              obtain ⟨rfl, rfl⟩ := leaf h
              exact A_zret rfl rfl (Or.inr rfl)
def tb_Tok_isLeaf : List (Nat × Instr × Nat) := [(0, .iload_n 0, 1), (1, .iconst 2, 1), (2, .if_icmp .lt 13, 3), (5, .iload_n 0, 1), (6, .bipush 12, 2), (8, .if_icmp .gt 7, 3), (11, .iconst 1, 1), (12, .goto 4, 3), (15, .iconst 0, 1), (16, .ireturn, 1)]
def Y_Tok_isLeaf : ax_Y := (⟨"MethodWarden$Token", "isLeaf", "(I)Z"⟩, prog_10_method_3_code, 1, some .boolean, tb_Tok_isLeaf)
theorem yok_Tok_isLeaf : yOK Y_Tok_isLeaf := ⟨by decide +kernel, by decide +kernel, inWG 632 (by decide +kernel) (by decide +kernel), inWG 112 (by decide +kernel) (by decide +kernel), by decide +kernel⟩
def f_Tok_isLeaf (a0 : Int32) (M : ax_M) : Option (Int32 × ax_M) :=
  if a0 < 2 then (some (0, M)) else (if 12 < a0 then (some (0, M)) else (some (1, M)))
set_option maxHeartbeats 4000000 in
set_option maxRecDepth 100000 in
theorem c_Tok_isLeaf {l : Launch} {g : ax_G} {a0 : Int32} {M : ax_M} {r : Int32} {M' : ax_M} (h : f_Tok_isLeaf a0 M = some (r, M')) : Ctr l g true Y_Tok_isLeaf 1 [vI a0] M (some (vI r), M') := by
  refine Ctr.ofAW yok_Tok_isLeaf (Nat.le_of_ble_eq_true rfl) (Or.inl rfl) ?_
  show AW l g true Y_Tok_isLeaf 1 (some (vI r), M') 0 [(0, vI a0)] [] M
  unfold f_Tok_isLeaf at h
  refine A_iload_n 0 rfl rfl rfl ?_
  refine A_iconst (v := 2) rfl (by decide) ?_
  refine A_icmp_lt (tgt := 15) rfl (by decide) (fun hc1 => ?_) (fun hc1 => ?_)
  · rw [if_pos hc1] at h
    refine A_iconst (v := 0) rfl (by decide) ?_
    obtain ⟨rfl, rfl⟩ := leaf h
    exact A_zret rfl rfl (Or.inl rfl)
  · rw [if_neg hc1] at h
    refine A_pc (pc' := 5) rfl ?_
    refine A_iload_n 0 rfl rfl rfl ?_
    refine A_bipush (v := 12) rfl (by decide) ?_
    refine A_icmp_gt (tgt := 15) rfl (by decide) (fun hc2 => ?_) (fun hc2 => ?_)
    · rw [if_pos hc2] at h
      refine A_iconst (v := 0) rfl (by decide) ?_
      obtain ⟨rfl, rfl⟩ := leaf h
      exact A_zret rfl rfl (Or.inl rfl)
    · rw [if_neg hc2] at h
      refine A_pc (pc' := 11) rfl ?_
      refine A_iconst (v := 1) rfl (by decide) ?_
      refine A_goto (tgt := 16) rfl (by decide) ?_
      obtain ⟨rfl, rfl⟩ := leaf h
      exact A_zret rfl rfl (Or.inr rfl)
def tb_Tok_opensSquare : List (Nat × Instr × Nat) := [(0, .iload_n 0, 1), (1, .bipush 17, 2), (3, .if_icmp .eq 21, 3), (6, .iload_n 0, 1), (7, .bipush 38, 2), (9, .if_icmp .eq 15, 3), (12, .iload_n 0, 1), (13, .bipush 39, 2), (15, .if_icmp .eq 9, 3), (18, .iload_n 0, 1), (19, .bipush 40, 2), (21, .if_icmp .ne 7, 3), (24, .iconst 1, 1), (25, .goto 4, 3), (28, .iconst 0, 1), (29, .ireturn, 1)]
def Y_Tok_opensSquare : ax_Y := (⟨"MethodWarden$Token", "opensSquare", "(I)Z"⟩, prog_10_method_4_code, 1, some .boolean, tb_Tok_opensSquare)
theorem yok_Tok_opensSquare : yOK Y_Tok_opensSquare := ⟨by decide +kernel, by decide +kernel, inWG 664 (by decide +kernel) (by decide +kernel), inWG 112 (by decide +kernel) (by decide +kernel), by decide +kernel⟩
def f_Tok_opensSquare (a0 : Int32) (M : ax_M) : Option (Int32 × ax_M) :=
  if a0 = 17 then (some (1, M)) else (if a0 = 38 then (some (1, M)) else (if a0 = 39 then (some (1, M)) else (if a0 = 40 then (some (1, M)) else (some (0, M)))))
set_option maxHeartbeats 4000000 in
set_option maxRecDepth 100000 in
theorem c_Tok_opensSquare {l : Launch} {g : ax_G} {a0 : Int32} {M : ax_M} {r : Int32} {M' : ax_M} (h : f_Tok_opensSquare a0 M = some (r, M')) : Ctr l g true Y_Tok_opensSquare 1 [vI a0] M (some (vI r), M') := by
  refine Ctr.ofAW yok_Tok_opensSquare (Nat.le_of_ble_eq_true rfl) (Or.inl rfl) ?_
  show AW l g true Y_Tok_opensSquare 1 (some (vI r), M') 0 [(0, vI a0)] [] M
  unfold f_Tok_opensSquare at h
  refine A_iload_n 0 rfl rfl rfl ?_
  refine A_bipush (v := 17) rfl (by decide) ?_
  refine A_icmp_eq (tgt := 24) rfl (by decide) (fun hc1 => ?_) (fun hc1 => ?_)
  · rw [if_pos hc1] at h
    refine A_iconst (v := 1) rfl (by decide) ?_
    refine A_goto (tgt := 29) rfl (by decide) ?_
    obtain ⟨rfl, rfl⟩ := leaf h
    exact A_zret rfl rfl (Or.inr rfl)
  · rw [if_neg hc1] at h
    refine A_pc (pc' := 6) rfl ?_
    refine A_iload_n 0 rfl rfl rfl ?_
    refine A_bipush (v := 38) rfl (by decide) ?_
    refine A_icmp_eq (tgt := 24) rfl (by decide) (fun hc2 => ?_) (fun hc2 => ?_)
    · rw [if_pos hc2] at h
      refine A_iconst (v := 1) rfl (by decide) ?_
      refine A_goto (tgt := 29) rfl (by decide) ?_
      obtain ⟨rfl, rfl⟩ := leaf h
      exact A_zret rfl rfl (Or.inr rfl)
    · rw [if_neg hc2] at h
      refine A_pc (pc' := 12) rfl ?_
      refine A_iload_n 0 rfl rfl rfl ?_
      refine A_bipush (v := 39) rfl (by decide) ?_
      refine A_icmp_eq (tgt := 24) rfl (by decide) (fun hc3 => ?_) (fun hc3 => ?_)
      · rw [if_pos hc3] at h
        refine A_iconst (v := 1) rfl (by decide) ?_
        refine A_goto (tgt := 29) rfl (by decide) ?_
        obtain ⟨rfl, rfl⟩ := leaf h
        exact A_zret rfl rfl (Or.inr rfl)
      · rw [if_neg hc3] at h
        refine A_pc (pc' := 18) rfl ?_
        refine A_iload_n 0 rfl rfl rfl ?_
        refine A_bipush (v := 40) rfl (by decide) ?_
        refine A_icmp_ne (tgt := 28) rfl (by decide) (fun hc4 => ?_) (fun hc4 => ?_)
        · rw [if_neg hc4] at h
          refine A_iconst (v := 0) rfl (by decide) ?_
          obtain ⟨rfl, rfl⟩ := leaf h
          exact A_zret rfl rfl (Or.inl rfl)
        · rw [if_pos hc4] at h
          refine A_pc (pc' := 24) rfl ?_
          refine A_iconst (v := 1) rfl (by decide) ?_
          refine A_goto (tgt := 29) rfl (by decide) ?_
          obtain ⟨rfl, rfl⟩ := leaf h
          exact A_zret rfl rfl (Or.inr rfl)
def tb_Tok_isOfOne : List (Nat × Instr × Nat) := [(0, .iload_n 0, 1), (1, .lookupswitch 53 #[(13, 51), (14, 51), (34, 51), (41, 51), (43, 51)], 51), (52, .iconst 1, 1), (53, .ireturn, 1), (54, .iconst 0, 1), (55, .ireturn, 1)]
def Y_Tok_isOfOne : ax_Y := (⟨"MethodWarden$Token", "isOfOne", "(I)Z"⟩, prog_10_method_5_code, 1, some .boolean, tb_Tok_isOfOne)
theorem yok_Tok_isOfOne : yOK Y_Tok_isOfOne := ⟨by decide +kernel, by decide +kernel, inWG 606 (by decide +kernel) (by decide +kernel), inWG 112 (by decide +kernel) (by decide +kernel), by decide +kernel⟩
def f_Tok_isOfOne (a0 : Int32) (M : ax_M) : Option (Int32 × ax_M) :=
  if a0 = 13 then (some (1, M)) else (if a0 = 14 then (some (1, M)) else (if a0 = 34 then (some (1, M)) else (if a0 = 41 then (some (1, M)) else (if a0 = 43 then (some (1, M)) else (some (0, M))))))
set_option maxHeartbeats 4000000 in
set_option maxRecDepth 100000 in
theorem c_Tok_isOfOne {l : Launch} {g : ax_G} {a0 : Int32} {M : ax_M} {r : Int32} {M' : ax_M} (h : f_Tok_isOfOne a0 M = some (r, M')) : Ctr l g true Y_Tok_isOfOne 1 [vI a0] M (some (vI r), M') := by
  refine Ctr.ofAW yok_Tok_isOfOne (Nat.le_of_ble_eq_true rfl) (Or.inl rfl) ?_
  show AW l g true Y_Tok_isOfOne 1 (some (vI r), M') 0 [(0, vI a0)] [] M
  unfold f_Tok_isOfOne at h
  refine A_iload_n 0 rfl rfl rfl ?_
  by_cases hc1 : a0 = 13
  · rw [if_pos hc1] at h
    refine A_lookup (tgt := 52) (off := 51) rfl (by decide) (by rw [hc1]; decide) (by decide) ?_
    refine A_iconst (v := 1) rfl (by decide) ?_
    obtain ⟨rfl, rfl⟩ := leaf h
    exact A_zret rfl rfl (Or.inr rfl)
  · rw [if_neg hc1] at h
    by_cases hc2 : a0 = 14
    · rw [if_pos hc2] at h
      refine A_lookup (tgt := 52) (off := 51) rfl (by decide) (by rw [hc2]; decide) (by decide) ?_
      refine A_iconst (v := 1) rfl (by decide) ?_
      obtain ⟨rfl, rfl⟩ := leaf h
      exact A_zret rfl rfl (Or.inr rfl)
    · rw [if_neg hc2] at h
      by_cases hc3 : a0 = 34
      · rw [if_pos hc3] at h
        refine A_lookup (tgt := 52) (off := 51) rfl (by decide) (by rw [hc3]; decide) (by decide) ?_
        refine A_iconst (v := 1) rfl (by decide) ?_
        obtain ⟨rfl, rfl⟩ := leaf h
        exact A_zret rfl rfl (Or.inr rfl)
      · rw [if_neg hc3] at h
        by_cases hc4 : a0 = 41
        · rw [if_pos hc4] at h
          refine A_lookup (tgt := 52) (off := 51) rfl (by decide) (by rw [hc4]; decide) (by decide) ?_
          refine A_iconst (v := 1) rfl (by decide) ?_
          obtain ⟨rfl, rfl⟩ := leaf h
          exact A_zret rfl rfl (Or.inr rfl)
        · rw [if_neg hc4] at h
          by_cases hc5 : a0 = 43
          · rw [if_pos hc5] at h
            refine A_lookup (tgt := 52) (off := 51) rfl (by decide) (by rw [hc5]; decide) (by decide) ?_
            refine A_iconst (v := 1) rfl (by decide) ?_
            obtain ⟨rfl, rfl⟩ := leaf h
            exact A_zret rfl rfl (Or.inr rfl)
          · rw [if_neg hc5] at h
            refine A_lookup (tgt := 54) rfl (by decide) (lk_def _ _ _ (fa_cons (ne_i hc1 (by decide)) (fa_cons (ne_i hc2 (by decide)) (fa_cons (ne_i hc3 (by decide)) (fa_cons (ne_i hc4 (by decide)) (fa_cons (ne_i hc5 (by decide)) fa_nil)))))) (by decide) ?_
            refine A_iconst (v := 0) rfl (by decide) ?_
            obtain ⟨rfl, rfl⟩ := leaf h
            exact A_zret rfl rfl (Or.inl rfl)
def tb_Tok_rankOf : List (Nat × Instr × Nat) := [(0, .iload_n 0, 1), (1, .tableswitch 122 21 42 #[105, 107, 109, 109, 111, 111, 111, 111, 113, 113, 116, 116, 116, 119, 122, 122, 103, 122, 122, 122, 119, 103], 103), (104, .iconst 1, 1), (105, .ireturn, 1), (106, .iconst 2, 1), (107, .ireturn, 1), (108, .iconst 3, 1), (109, .ireturn, 1), (110, .iconst 4, 1), (111, .ireturn, 1), (112, .iconst 5, 1), (113, .ireturn, 1), (114, .bipush 6, 2), (116, .ireturn, 1), (117, .bipush 7, 2), (119, .ireturn, 1), (120, .bipush 8, 2), (122, .ireturn, 1), (123, .iconst 0, 1), (124, .ireturn, 1)]
def Y_Tok_rankOf : ax_Y := (⟨"MethodWarden$Token", "rankOf", "(I)I"⟩, prog_10_method_6_code, 1, some .int, tb_Tok_rankOf)
theorem yok_Tok_rankOf : yOK Y_Tok_rankOf := ⟨by decide +kernel, by decide +kernel, inWG 595 (by decide +kernel) (by decide +kernel), inWG 112 (by decide +kernel) (by decide +kernel), by decide +kernel⟩
def f_Tok_rankOf (a0 : Int32) (M : ax_M) : Option (Int32 × ax_M) :=
  if a0 = 21 then (some (2, M)) else (if a0 = 22 then (some (3, M)) else (if a0 = 23 then (some (4, M)) else (if a0 = 24 then (some (4, M)) else (if a0 = 25 then (some (5, M)) else (if a0 = 26 then (some (5, M)) else (if a0 = 27 then (some (5, M)) else (if a0 = 28 then (some (5, M)) else (if a0 = 29 then (some (6, M)) else (if a0 = 30 then (some (6, M)) else (if a0 = 31 then (some (7, M)) else (if a0 = 32 then (some (7, M)) else (if a0 = 33 then (some (7, M)) else (if a0 = 34 then (some (8, M)) else (if a0 = 37 then (some (1, M)) else (if a0 = 41 then (some (8, M)) else (if a0 = 42 then (some (1, M)) else (some (0, M))))))))))))))))))
set_option maxHeartbeats 4000000 in
set_option maxRecDepth 100000 in
theorem c_Tok_rankOf {l : Launch} {g : ax_G} {a0 : Int32} {M : ax_M} {r : Int32} {M' : ax_M} (h : f_Tok_rankOf a0 M = some (r, M')) : Ctr l g true Y_Tok_rankOf 1 [vI a0] M (some (vI r), M') := by
  refine Ctr.ofAW yok_Tok_rankOf (Nat.le_of_ble_eq_true rfl) (Or.inl rfl) ?_
  show AW l g true Y_Tok_rankOf 1 (some (vI r), M') 0 [(0, vI a0)] [] M
  unfold f_Tok_rankOf at h
  refine A_iload_n 0 rfl rfl rfl ?_
  by_cases hc1 : a0 = 21
  · rw [if_pos hc1] at h
    refine A_tableIn (tgt := 106) (off := 105) rfl (by rw [hc1]; decide) (by rw [hc1]; decide) (by rw [hc1]; rfl) (by decide) ?_
    refine A_iconst (v := 2) rfl (by decide) ?_
    obtain ⟨rfl, rfl⟩ := leaf h
    exact A_iret rfl rfl
  · rw [if_neg hc1] at h
    by_cases hc2 : a0 = 22
    · rw [if_pos hc2] at h
      refine A_tableIn (tgt := 108) (off := 107) rfl (by rw [hc2]; decide) (by rw [hc2]; decide) (by rw [hc2]; rfl) (by decide) ?_
      refine A_iconst (v := 3) rfl (by decide) ?_
      obtain ⟨rfl, rfl⟩ := leaf h
      exact A_iret rfl rfl
    · rw [if_neg hc2] at h
      by_cases hc3 : a0 = 23
      · rw [if_pos hc3] at h
        refine A_tableIn (tgt := 110) (off := 109) rfl (by rw [hc3]; decide) (by rw [hc3]; decide) (by rw [hc3]; rfl) (by decide) ?_
        refine A_iconst (v := 4) rfl (by decide) ?_
        obtain ⟨rfl, rfl⟩ := leaf h
        exact A_iret rfl rfl
      · rw [if_neg hc3] at h
        by_cases hc4 : a0 = 24
        · rw [if_pos hc4] at h
          refine A_tableIn (tgt := 110) (off := 109) rfl (by rw [hc4]; decide) (by rw [hc4]; decide) (by rw [hc4]; rfl) (by decide) ?_
          refine A_iconst (v := 4) rfl (by decide) ?_
          obtain ⟨rfl, rfl⟩ := leaf h
          exact A_iret rfl rfl
        · rw [if_neg hc4] at h
          by_cases hc5 : a0 = 25
          · rw [if_pos hc5] at h
            refine A_tableIn (tgt := 112) (off := 111) rfl (by rw [hc5]; decide) (by rw [hc5]; decide) (by rw [hc5]; rfl) (by decide) ?_
            refine A_iconst (v := 5) rfl (by decide) ?_
            obtain ⟨rfl, rfl⟩ := leaf h
            exact A_iret rfl rfl
          · rw [if_neg hc5] at h
            by_cases hc6 : a0 = 26
            · rw [if_pos hc6] at h
              refine A_tableIn (tgt := 112) (off := 111) rfl (by rw [hc6]; decide) (by rw [hc6]; decide) (by rw [hc6]; rfl) (by decide) ?_
              refine A_iconst (v := 5) rfl (by decide) ?_
              obtain ⟨rfl, rfl⟩ := leaf h
              exact A_iret rfl rfl
            · rw [if_neg hc6] at h
              by_cases hc7 : a0 = 27
              · rw [if_pos hc7] at h
                refine A_tableIn (tgt := 112) (off := 111) rfl (by rw [hc7]; decide) (by rw [hc7]; decide) (by rw [hc7]; rfl) (by decide) ?_
                refine A_iconst (v := 5) rfl (by decide) ?_
                obtain ⟨rfl, rfl⟩ := leaf h
                exact A_iret rfl rfl
              · rw [if_neg hc7] at h
                by_cases hc8 : a0 = 28
                · rw [if_pos hc8] at h
                  refine A_tableIn (tgt := 112) (off := 111) rfl (by rw [hc8]; decide) (by rw [hc8]; decide) (by rw [hc8]; rfl) (by decide) ?_
                  refine A_iconst (v := 5) rfl (by decide) ?_
                  obtain ⟨rfl, rfl⟩ := leaf h
                  exact A_iret rfl rfl
                · rw [if_neg hc8] at h
                  by_cases hc9 : a0 = 29
                  · rw [if_pos hc9] at h
                    refine A_tableIn (tgt := 114) (off := 113) rfl (by rw [hc9]; decide) (by rw [hc9]; decide) (by rw [hc9]; rfl) (by decide) ?_
                    refine A_bipush (v := 6) rfl (by decide) ?_
                    obtain ⟨rfl, rfl⟩ := leaf h
                    exact A_iret rfl rfl
                  · rw [if_neg hc9] at h
                    by_cases hc10 : a0 = 30
                    · rw [if_pos hc10] at h
                      refine A_tableIn (tgt := 114) (off := 113) rfl (by rw [hc10]; decide) (by rw [hc10]; decide) (by rw [hc10]; rfl) (by decide) ?_
                      refine A_bipush (v := 6) rfl (by decide) ?_
                      obtain ⟨rfl, rfl⟩ := leaf h
                      exact A_iret rfl rfl
                    · rw [if_neg hc10] at h
                      by_cases hc11 : a0 = 31
                      · rw [if_pos hc11] at h
                        refine A_tableIn (tgt := 117) (off := 116) rfl (by rw [hc11]; decide) (by rw [hc11]; decide) (by rw [hc11]; rfl) (by decide) ?_
                        refine A_bipush (v := 7) rfl (by decide) ?_
                        obtain ⟨rfl, rfl⟩ := leaf h
                        exact A_iret rfl rfl
                      · rw [if_neg hc11] at h
                        by_cases hc12 : a0 = 32
                        · rw [if_pos hc12] at h
                          refine A_tableIn (tgt := 117) (off := 116) rfl (by rw [hc12]; decide) (by rw [hc12]; decide) (by rw [hc12]; rfl) (by decide) ?_
                          refine A_bipush (v := 7) rfl (by decide) ?_
                          obtain ⟨rfl, rfl⟩ := leaf h
                          exact A_iret rfl rfl
                        · rw [if_neg hc12] at h
                          by_cases hc13 : a0 = 33
                          · rw [if_pos hc13] at h
                            refine A_tableIn (tgt := 117) (off := 116) rfl (by rw [hc13]; decide) (by rw [hc13]; decide) (by rw [hc13]; rfl) (by decide) ?_
                            refine A_bipush (v := 7) rfl (by decide) ?_
                            obtain ⟨rfl, rfl⟩ := leaf h
                            exact A_iret rfl rfl
                          · rw [if_neg hc13] at h
                            by_cases hc14 : a0 = 34
                            · rw [if_pos hc14] at h
                              refine A_tableIn (tgt := 120) (off := 119) rfl (by rw [hc14]; decide) (by rw [hc14]; decide) (by rw [hc14]; rfl) (by decide) ?_
                              refine A_bipush (v := 8) rfl (by decide) ?_
                              obtain ⟨rfl, rfl⟩ := leaf h
                              exact A_iret rfl rfl
                            · rw [if_neg hc14] at h
                              by_cases hc15 : a0 = 37
                              · rw [if_pos hc15] at h
                                refine A_tableIn (tgt := 104) (off := 103) rfl (by rw [hc15]; decide) (by rw [hc15]; decide) (by rw [hc15]; rfl) (by decide) ?_
                                refine A_iconst (v := 1) rfl (by decide) ?_
                                obtain ⟨rfl, rfl⟩ := leaf h
                                exact A_iret rfl rfl
                              · rw [if_neg hc15] at h
                                by_cases hc16 : a0 = 41
                                · rw [if_pos hc16] at h
                                  refine A_tableIn (tgt := 120) (off := 119) rfl (by rw [hc16]; decide) (by rw [hc16]; decide) (by rw [hc16]; rfl) (by decide) ?_
                                  refine A_bipush (v := 8) rfl (by decide) ?_
                                  obtain ⟨rfl, rfl⟩ := leaf h
                                  exact A_iret rfl rfl
                                · rw [if_neg hc16] at h
                                  by_cases hc17 : a0 = 42
                                  · rw [if_pos hc17] at h
                                    refine A_tableIn (tgt := 104) (off := 103) rfl (by rw [hc17]; decide) (by rw [hc17]; decide) (by rw [hc17]; rfl) (by decide) ?_
                                    refine A_iconst (v := 1) rfl (by decide) ?_
                                    obtain ⟨rfl, rfl⟩ := leaf h
                                    exact A_iret rfl rfl
                                  · rw [if_neg hc17] at h
                                    refine A_tableDef (tgt := 123) [21, 22, 23, 24, 25, 26, 27, 28, 29, 30, 31, 32, 33, 34, 37, 41, 42] rfl (by decide) (by decide) (fa_cons (ne_i hc1 (by decide)) (fa_cons (ne_i hc2 (by decide)) (fa_cons (ne_i hc3 (by decide)) (fa_cons (ne_i hc4 (by decide)) (fa_cons (ne_i hc5 (by decide)) (fa_cons (ne_i hc6 (by decide)) (fa_cons (ne_i hc7 (by decide)) (fa_cons (ne_i hc8 (by decide)) (fa_cons (ne_i hc9 (by decide)) (fa_cons (ne_i hc10 (by decide)) (fa_cons (ne_i hc11 (by decide)) (fa_cons (ne_i hc12 (by decide)) (fa_cons (ne_i hc13 (by decide)) (fa_cons (ne_i hc14 (by decide)) (fa_cons (ne_i hc15 (by decide)) (fa_cons (ne_i hc16 (by decide)) (fa_cons (ne_i hc17 (by decide)) fa_nil))))))))))))))))) (by decide) ?_
                                    refine A_iconst (v := 0) rfl (by decide) ?_
                                    obtain ⟨rfl, rfl⟩ := leaf h
                                    exact A_iret rfl rfl
def tb_Expr_isThere : List (Nat × Instr × Nat) := [(0, .aload_n 0, 1), (1, .getfield 28, 3), (4, .ifCond .le 7, 3), (7, .iconst 1, 1), (8, .goto 4, 3), (11, .iconst 0, 1), (12, .ireturn, 1)]
def Y_Expr_isThere : ax_Y := (⟨"MethodWarden$Expression", "isThere", "()Z"⟩, prog_3_method_2_code, 1, some .boolean, tb_Expr_isThere)
theorem yok_Expr_isThere : yOK Y_Expr_isThere := ⟨by decide +kernel, by decide +kernel, inWG 760 (by decide +kernel) (by decide +kernel), inWG 99 (by decide +kernel) (by decide +kernel), by decide +kernel⟩
theorem fl_Expr_28 : fldOK "MethodWarden$Expression" 28 3 5 false := ⟨_, _, _, cls_Expr, by decide, by decide, rfl, Or.inl (inWG 200 (by decide +kernel) (by decide +kernel))⟩
def f_Expr_isThere (t0 : Nat) (M : ax_M) : Option (Int32 × ax_M) :=
  gk t0 3 (if (gI M t0 5) ≤ 0 then (some (0, M)) else (some (1, M)))
set_option maxHeartbeats 4000000 in
set_option maxRecDepth 100000 in
theorem c_Expr_isThere {l : Launch} {g : ax_G} {t0 : Nat} {M : ax_M} {r : Int32} {M' : ax_M} (h : f_Expr_isThere t0 M = some (r, M')) : Ctr l g true Y_Expr_isThere 1 [vA t0] M (some (vI r), M') := by
  refine Ctr.ofAW yok_Expr_isThere (Nat.le_of_ble_eq_true rfl) (Or.inl rfl) ?_
  show AW l g true Y_Expr_isThere 1 (some (vI r), M') 0 [(0, vA t0)] [] M
  unfold f_Expr_isThere at h
  refine A_aload_n 0 rfl rfl rfl ?_
  obtain ⟨hg1, h⟩ := gk_out h
  refine A_getI rfl fl_Expr_28 rfl hg1 (Or.inl rfl) ?_
  refine A_if_le (tgt := 11) rfl (by decide) (fun hc2 => ?_) (fun hc2 => ?_)
  · rw [if_pos hc2] at h
    refine A_iconst (v := 0) rfl (by decide) ?_
    obtain ⟨rfl, rfl⟩ := leaf h
    exact A_zret rfl rfl (Or.inl rfl)
  · rw [if_neg hc2] at h
    refine A_pc (pc' := 7) rfl ?_
    refine A_iconst (v := 1) rfl (by decide) ?_
    refine A_goto (tgt := 12) rfl (by decide) ?_
    obtain ⟨rfl, rfl⟩ := leaf h
    exact A_zret rfl rfl (Or.inr rfl)
def tb_Expr_clear : List (Nat × Instr × Nat) := [(0, .aload_n 0, 1), (1, .iconst 0, 1), (2, .putfield 28, 3), (5, .return_, 1)]
def Y_Expr_clear : ax_Y := (⟨"MethodWarden$Expression", "clear", "()V"⟩, prog_3_method_3_code, 1, none, tb_Expr_clear)
theorem yok_Expr_clear : yOK Y_Expr_clear := ⟨by decide +kernel, by decide +kernel, inWG 465 (by decide +kernel) (by decide +kernel), inWG 99 (by decide +kernel) (by decide +kernel), by decide +kernel⟩
def f_Expr_clear (t0 : Nat) (M : ax_M) : Option (Unit × ax_M) :=
  gk t0 3 (kM (mI M t0 5 0) (fun M2 => some ((), M2)))
set_option maxHeartbeats 4000000 in
set_option maxRecDepth 100000 in
theorem c_Expr_clear {l : Launch} {g : ax_G} {t0 : Nat} {M : ax_M} {r : Unit} {M' : ax_M} (h : f_Expr_clear t0 M = some (r, M')) : Ctr l g true Y_Expr_clear 1 [vA t0] M (none, M') := by
  refine Ctr.ofAW yok_Expr_clear (Nat.le_of_ble_eq_true rfl) (Or.inl rfl) ?_
  show AW l g true Y_Expr_clear 1 (none, M') 0 [(0, vA t0)] [] M
  unfold f_Expr_clear at h
  refine A_aload_n 0 rfl rfl rfl ?_
  refine A_iconst (v := 0) rfl (by decide) ?_
  obtain ⟨hg1, h⟩ := gk_out h
  refine A_putI rfl (Or.inl fl_Expr_28) rfl hg1 (Or.inl rfl) rfl ?_
  obtain ⟨M2, hM2, h⟩ := kM_out h
  refine A_mem hM2 ?_
  obtain ⟨rfl, rfl⟩ := leaf h
  exact A_vret rfl rfl
def tb_Expr_appendPart : List (Nat × Instr × Nat) := [(0, .aload_n 0, 1), (1, .getfield 28, 3), (4, .bipush 20, 2), (6, .if_icmp .lt 5, 3), (9, .iconst (-1), 1), (10, .ireturn, 1), (11, .aload_n 0, 1), (12, .getfield 28, 3), (15, .istore 5, 2), (17, .aload_n 0, 1), (18, .getfield 9, 3), (21, .iload 5, 2), (23, .iload_n 1, 1), (24, .iastore, 1), (25, .aload_n 0, 1), (26, .getfield 15, 3), (29, .iload 5, 2), (31, .iload_n 2, 1), (32, .iastore, 1), (33, .aload_n 0, 1), (34, .getfield 18, 3), (37, .iload 5, 2), (39, .iload_n 3, 1), (40, .iastore, 1), (41, .aload_n 0, 1), (42, .getfield 21, 3), (45, .iload 5, 2), (47, .iload 4, 2), (49, .iastore, 1), (50, .aload_n 0, 1), (51, .dup, 1), (52, .getfield 28, 3), (55, .iconst 1, 1), (56, .iadd, 1), (57, .putfield 28, 3), (60, .iload 5, 2), (62, .ireturn, 1)]
def Y_Expr_appendPart : ax_Y := (⟨"MethodWarden$Expression", "appendPart", "(IIII)I"⟩, prog_3_method_5_code, 6, some .int, tb_Expr_appendPart)
theorem yok_Expr_appendPart : yOK Y_Expr_appendPart := ⟨by decide +kernel, by decide +kernel, inWG 610 (by decide +kernel) (by decide +kernel), inWG 99 (by decide +kernel) (by decide +kernel), by decide +kernel⟩
theorem fl_Expr_9 : fldOK "MethodWarden$Expression" 9 3 0 true := ⟨_, _, _, cls_Expr, by decide, by decide, rfl, Or.inl (inWG 190 (by decide +kernel) (by decide +kernel))⟩
theorem fl_Expr_15 : fldOK "MethodWarden$Expression" 15 3 1 true := ⟨_, _, _, cls_Expr, by decide, by decide, rfl, Or.inl (inWG 192 (by decide +kernel) (by decide +kernel))⟩
theorem fl_Expr_18 : fldOK "MethodWarden$Expression" 18 3 2 true := ⟨_, _, _, cls_Expr, by decide, by decide, rfl, Or.inl (inWG 194 (by decide +kernel) (by decide +kernel))⟩
theorem fl_Expr_21 : fldOK "MethodWarden$Expression" 21 3 3 true := ⟨_, _, _, cls_Expr, by decide, by decide, rfl, Or.inl (inWG 196 (by decide +kernel) (by decide +kernel))⟩
def f_Expr_appendPart (t0 : Nat) (a1 : Int32) (a2 : Int32) (a3 : Int32) (a4 : Int32) (M : ax_M) : Option (Int32 × ax_M) :=
  gk t0 3 (if (gI M t0 5) < 20 then (kM (gI M t0 5) (fun x3 => gi x3 20 (kM (mI M (t0 + 1) x3.toNatClampNeg a1) (fun M5 => kM (mI M5 (t0 + 2) x3.toNatClampNeg a2) (fun M6 => kM (mI M6 (t0 + 3) x3.toNatClampNeg a3) (fun M7 => kM (mI M7 (t0 + 4) x3.toNatClampNeg a4) (fun M8 => kM (mI M8 t0 5 ((gI M8 t0 5) + 1)) (fun M9 => some (x3, M9))))))))) else (some ((-1), M)))
set_option maxHeartbeats 4000000 in
set_option maxRecDepth 100000 in
theorem c_Expr_appendPart {l : Launch} {g : ax_G} {t0 : Nat} {a1 : Int32} {a2 : Int32} {a3 : Int32} {a4 : Int32} {M : ax_M} {r : Int32} {M' : ax_M} (h : f_Expr_appendPart t0 a1 a2 a3 a4 M = some (r, M')) : Ctr l g true Y_Expr_appendPart 1 [vA t0, vI a1, vI a2, vI a3, vI a4] M (some (vI r), M') := by
  refine Ctr.ofAW yok_Expr_appendPart (Nat.le_of_ble_eq_true rfl) (Or.inl rfl) ?_
  show AW l g true Y_Expr_appendPart 1 (some (vI r), M') 0 [(0, vA t0), (1, vI a1), (2, vI a2), (3, vI a3), (4, vI a4)] [] M
  unfold f_Expr_appendPart at h
  refine A_aload_n 0 rfl rfl rfl ?_
  obtain ⟨hg1, h⟩ := gk_out h
  refine A_getI rfl fl_Expr_28 rfl hg1 (Or.inl rfl) ?_
  refine A_bipush (v := 20) rfl (by decide) ?_
  refine A_icmp_lt (tgt := 11) rfl (by decide) (fun hc2 => ?_) (fun hc2 => ?_)
  · rw [if_pos hc2] at h
    refine A_aload_n 0 rfl rfl rfl ?_
    refine A_getI rfl fl_Expr_28 rfl hg1 (Or.inl rfl) ?_
    obtain ⟨x3, hx3, h⟩ := kM_out h
    refine A_nI hx3 ?_
    refine A_istore (Ls' := [(5, vI x3), (0, vA t0), (1, vI a1), (2, vI a2), (3, vI a3), (4, vI a4)]) rfl (by decide) rfl ?_
    refine A_aload_n 1 rfl rfl rfl ?_
    refine A_getL (r := t0 + 1) rfl fl_Expr_9 rfl hg1 rfl rfl ?_
    refine A_pc (pc' := 21) rfl ?_
    refine A_iload 0 rfl rfl ?_
    refine A_iload_n 2 rfl rfl rfl ?_
    obtain ⟨hg4, h⟩ := gi_out h
    refine A_iast (n := 20) rfl (lf_Expr_1 hg1).1 (lf_Expr_1 hg1).2 (Or.inl rfl) hg4 ?_
    obtain ⟨M5, hM5, h⟩ := kM_out h
    refine A_mem hM5 ?_
    refine A_aload_n 1 rfl rfl rfl ?_
    refine A_getL (r := t0 + 2) rfl fl_Expr_15 rfl hg1 rfl rfl ?_
    refine A_iload 0 rfl rfl ?_
    refine A_pc (pc' := 31) rfl ?_
    refine A_iload_n 3 rfl rfl rfl ?_
    refine A_iast (n := 20) rfl (lf_Expr_2 hg1).1 (lf_Expr_2 hg1).2 (Or.inl rfl) hg4 ?_
    obtain ⟨M6, hM6, h⟩ := kM_out h
    refine A_mem hM6 ?_
    refine A_aload_n 1 rfl rfl rfl ?_
    refine A_getL (r := t0 + 3) rfl fl_Expr_18 rfl hg1 rfl rfl ?_
    refine A_iload 0 rfl rfl ?_
    refine A_iload_n 4 rfl rfl rfl ?_
    refine A_pc (pc' := 40) rfl ?_
    refine A_iast (n := 20) rfl (lf_Expr_3 hg1).1 (lf_Expr_3 hg1).2 (Or.inl rfl) hg4 ?_
    obtain ⟨M7, hM7, h⟩ := kM_out h
    refine A_mem hM7 ?_
    refine A_aload_n 1 rfl rfl rfl ?_
    refine A_getL (r := t0 + 4) rfl fl_Expr_21 rfl hg1 rfl rfl ?_
    refine A_iload 0 rfl rfl ?_
    refine A_iload 5 rfl rfl ?_
    refine A_iast (n := 20) rfl (lf_Expr_4 hg1).1 (lf_Expr_4 hg1).2 (Or.inl rfl) hg4 ?_
    obtain ⟨M8, hM8, h⟩ := kM_out h
    refine A_mem hM8 ?_
    refine A_pc (pc' := 50) rfl ?_
    refine A_aload_n 1 rfl rfl rfl ?_
    refine A_dup rfl rfl ?_
    refine A_getI rfl fl_Expr_28 rfl hg1 (Or.inl rfl) ?_
    refine A_iconst (v := 1) rfl (by decide) ?_
    refine A_iadd rfl ?_
    refine A_putI rfl (Or.inl fl_Expr_28) rfl hg1 (Or.inl rfl) rfl ?_
    obtain ⟨M9, hM9, h⟩ := kM_out h
    refine A_mem hM9 ?_
    refine A_pc (pc' := 60) rfl ?_
    refine A_iload 0 rfl rfl ?_
    obtain ⟨rfl, rfl⟩ := leaf h
    exact A_iret rfl rfl
  · rw [if_neg hc2] at h
    refine A_pc (pc' := 9) rfl ?_
    refine A_iconst (v := (-1)) rfl (by decide) ?_
    obtain ⟨rfl, rfl⟩ := leaf h
    exact A_iret rfl rfl
def tb_Expr_appendLeaf : List (Nat × Instr × Nat) := [(0, .aload_n 0, 1), (1, .iload_n 1, 1), (2, .iconst (-1), 1), (3, .iconst (-1), 1), (4, .iconst (-1), 1), (5, .invokevirtual 32, 3), (8, .istore 4, 2), (10, .iload 4, 2), (12, .iconst (-1), 1), (13, .if_icmp .eq 11, 3), (16, .aload_n 0, 1), (17, .getfield 24, 3), (20, .iload 4, 2), (22, .lload_n 2, 1), (23, .lastore, 1), (24, .iload 4, 2), (26, .ireturn, 1)]
def Y_Expr_appendLeaf : ax_Y := (⟨"MethodWarden$Expression", "appendLeaf", "(IJ)I"⟩, prog_3_method_4_code, 5, some .int, tb_Expr_appendLeaf)
theorem yok_Expr_appendLeaf : yOK Y_Expr_appendLeaf := ⟨by decide +kernel, by decide +kernel, inWG 640 (by decide +kernel) (by decide +kernel), inWG 99 (by decide +kernel) (by decide +kernel), by decide +kernel⟩
theorem fl_Expr_24 : fldOK "MethodWarden$Expression" 24 3 4 true := ⟨_, _, _, cls_Expr, by decide, by decide, rfl, Or.inl (inWG 198 (by decide +kernel) (by decide +kernel))⟩
theorem ml_Expr_32 : mlV "MethodWarden$Expression" 32 Y_Expr_appendPart 4 := ⟨⟨yok_Expr_appendPart, by decide +kernel, by decide⟩, Or.inl (inWG 641 (by decide +kernel) (by decide +kernel)), inWG 608 (by decide +kernel) (by decide +kernel), inWG 609 (by decide +kernel) (by decide +kernel)⟩
def f_Expr_appendLeaf (t0 : Nat) (a1 : Int32) (a2 : Int64) (M : ax_M) : Option (Int32 × ax_M) :=
  gk t0 3 (bnd (f_Expr_appendPart t0 a1 ((-1)) ((-1)) ((-1)) M) (fun q2 M3 => if q2 = ((-1)) then (some (q2, M3)) else (gi q2 20 (kM (mJ M3 (t0 + 5) q2.toNatClampNeg a2) (fun M6 => some (q2, M6))))))
set_option maxHeartbeats 4000000 in
set_option maxRecDepth 100000 in
theorem c_Expr_appendLeaf {l : Launch} {g : ax_G} {t0 : Nat} {a1 : Int32} {a2 : Int64} {M : ax_M} {r : Int32} {M' : ax_M} (h : f_Expr_appendLeaf t0 a1 a2 M = some (r, M')) : Ctr l g true Y_Expr_appendLeaf 2 [vA t0, vI a1, vJ a2] M (some (vI r), M') := by
  refine Ctr.ofAW yok_Expr_appendLeaf (Nat.le_of_ble_eq_true rfl) (Or.inl rfl) ?_
  show AW l g true Y_Expr_appendLeaf 2 (some (vI r), M') 0 [(0, vA t0), (1, vI a1), (2, vJ a2)] [] M
  unfold f_Expr_appendLeaf at h
  refine A_aload_n 0 rfl rfl rfl ?_
  refine A_iload_n 1 rfl rfl rfl ?_
  refine A_iconst (v := (-1)) rfl (by decide) ?_
  refine A_iconst (v := (-1)) rfl (by decide) ?_
  refine A_iconst (v := (-1)) rfl (by decide) ?_
  refine A_pc (pc' := 5) rfl ?_
  obtain ⟨hg1, h⟩ := gk_out h
  obtain ⟨q2, M3, hcq2, h⟩ := bnd_out h
  refine A_callV (ci := 3) (as := [vI a1, vI ((-1)), vI ((-1)), vI ((-1))]) (st' := []) (r1 := (some (vI q2), M3)) rfl ml_Expr_32 rfl (by decide) hg1 (Or.inl rfl) rfl rfl (Nat.le_of_ble_eq_true rfl) (by decide) (c_Expr_appendPart hcq2) (Or.inl rfl) ?_
  refine A_pc (pc' := 8) rfl ?_
  refine A_stk (st' := [vI q2]) rfl ?_
  refine A_istore (Ls' := [(4, vI q2), (0, vA t0), (1, vI a1), (2, vJ a2)]) rfl (by decide) rfl ?_
  refine A_iload 0 rfl rfl ?_
  refine A_iconst (v := (-1)) rfl (by decide) ?_
  refine A_icmp_eq (tgt := 24) rfl (by decide) (fun hc4 => ?_) (fun hc4 => ?_)
  · rw [if_pos hc4] at h
    refine A_iload 0 rfl rfl ?_
    obtain ⟨rfl, rfl⟩ := leaf h
    exact A_iret rfl rfl
  · rw [if_neg hc4] at h
    refine A_pc (pc' := 16) rfl ?_
    refine A_aload_n 1 rfl rfl rfl ?_
    refine A_getL (r := t0 + 5) rfl fl_Expr_24 rfl hg1 rfl rfl ?_
    refine A_iload 0 rfl rfl ?_
    refine A_lload_n 3 rfl rfl rfl ?_
    obtain ⟨hg5, h⟩ := gi_out h
    refine A_last (n := 20) rfl (lf_Expr_5 hg1).1 (lf_Expr_5 hg1).2 (Or.inl rfl) hg5 ?_
    obtain ⟨M6, hM6, h⟩ := kM_out h
    refine A_mem hM6 ?_
    refine A_pc (pc' := 24) rfl ?_
    refine A_iload 0 rfl rfl ?_
    obtain ⟨rfl, rfl⟩ := leaf h
    exact A_iret rfl rfl
def tb_Ctx_holds : List (Nat × Instr × Nat) := [(0, .iload_n 0, 1), (1, .iload_n 1, 1), (2, .ishr, 1), (3, .iconst 1, 1), (4, .iand, 1), (5, .iconst 1, 1), (6, .if_icmp .ne 7, 3), (9, .iconst 1, 1), (10, .goto 4, 3), (13, .iconst 0, 1), (14, .ireturn, 1)]
def Y_Ctx_holds : ax_Y := (⟨"MethodWarden$Context", "holds", "(II)Z"⟩, prog_2_method_3_code, 2, some .boolean, tb_Ctx_holds)
theorem yok_Ctx_holds : yOK Y_Ctx_holds := ⟨by decide +kernel, by decide +kernel, inWG 695 (by decide +kernel) (by decide +kernel), inWG 100 (by decide +kernel) (by decide +kernel), by decide +kernel⟩
def f_Ctx_holds (a0 : Int32) (a1 : Int32) (M : ax_M) : Option (Int32 × ax_M) :=
  if ((a0 >>> (a1 &&& 31)) &&& 1) = 1 then (some (1, M)) else (some (0, M))
set_option maxHeartbeats 4000000 in
set_option maxRecDepth 100000 in
theorem c_Ctx_holds {l : Launch} {g : ax_G} {a0 : Int32} {a1 : Int32} {M : ax_M} {r : Int32} {M' : ax_M} (h : f_Ctx_holds a0 a1 M = some (r, M')) : Ctr l g true Y_Ctx_holds 1 [vI a0, vI a1] M (some (vI r), M') := by
  refine Ctr.ofAW yok_Ctx_holds (Nat.le_of_ble_eq_true rfl) (Or.inl rfl) ?_
  show AW l g true Y_Ctx_holds 1 (some (vI r), M') 0 [(0, vI a0), (1, vI a1)] [] M
  unfold f_Ctx_holds at h
  refine A_iload_n 0 rfl rfl rfl ?_
  refine A_iload_n 1 rfl rfl rfl ?_
  refine A_ishr rfl ?_
  refine A_iconst (v := 1) rfl (by decide) ?_
  refine A_iand rfl ?_
  refine A_pc (pc' := 5) rfl ?_
  refine A_iconst (v := 1) rfl (by decide) ?_
  refine A_icmp_ne (tgt := 13) rfl (by decide) (fun hc1 => ?_) (fun hc1 => ?_)
  · rw [if_neg hc1] at h
    refine A_iconst (v := 0) rfl (by decide) ?_
    obtain ⟨rfl, rfl⟩ := leaf h
    exact A_zret rfl rfl (Or.inl rfl)
  · rw [if_pos hc1] at h
    refine A_pc (pc' := 9) rfl ?_
    refine A_iconst (v := 1) rfl (by decide) ?_
    refine A_goto (tgt := 14) rfl (by decide) ?_
    obtain ⟨rfl, rfl⟩ := leaf h
    exact A_zret rfl rfl (Or.inr rfl)
def tb_Ctx_include : List (Nat × Instr × Nat) := [(0, .aload_n 0, 1), (1, .getfield 9, 3), (4, .iload_n 1, 1), (5, .iaload, 1), (6, .iload_n 2, 1), (7, .invokestatic 22, 3), (10, .ifCond .ne 16, 3), (13, .aload_n 0, 1), (14, .getfield 15, 3), (17, .iload_n 2, 1), (18, .iaload, 1), (19, .iload_n 1, 1), (20, .invokestatic 22, 3), (23, .ifCond .eq 5, 3), (26, .iconst 0, 1), (27, .ireturn, 1), (28, .aload_n 0, 1), (29, .getfield 9, 3), (32, .iload_n 1, 1), (33, .dup2, 1), (34, .iaload, 1), (35, .iconst 1, 1), (36, .iload_n 2, 1), (37, .ishl, 1), (38, .ior, 1), (39, .iastore, 1), (40, .iconst 0, 1), (41, .istore_n 3, 1), (42, .iload_n 3, 1), (43, .bipush 16, 2), (45, .if_icmp .ge 37, 3), (48, .aload_n 0, 1), (49, .getfield 15, 3), (52, .iload_n 3, 1), (53, .iaload, 1), (54, .iload_n 1, 1), (55, .invokestatic 22, 3), (58, .ifCond .eq 18, 3), (61, .aload_n 0, 1), (62, .getfield 15, 3), (65, .iload_n 3, 1), (66, .dup2, 1), (67, .iaload, 1), (68, .aload_n 0, 1), (69, .getfield 15, 3), (72, .iload_n 2, 1), (73, .iaload, 1), (74, .ior, 1), (75, .iastore, 1), (76, .iinc 3 1, 3), (79, .goto (-37), 3), (82, .iconst 1, 1), (83, .ireturn, 1)]
def Y_Ctx_include : ax_Y := (⟨"MethodWarden$Context", "include", "(II)Z"⟩, prog_2_method_2_code, 4, some .boolean, tb_Ctx_include)
theorem yok_Ctx_include : yOK Y_Ctx_include := ⟨by decide +kernel, by decide +kernel, inWG 692 (by decide +kernel) (by decide +kernel), inWG 100 (by decide +kernel) (by decide +kernel), by decide +kernel⟩
theorem fl_Ctx_9 : fldOK "MethodWarden$Context" 9 4 0 true := ⟨_, _, _, cls_Ctx, by decide, by decide, rfl, Or.inl (inWG 222 (by decide +kernel) (by decide +kernel))⟩
theorem fl_Ctx_15 : fldOK "MethodWarden$Context" 15 4 1 true := ⟨_, _, _, cls_Ctx, by decide, by decide, rfl, Or.inl (inWG 223 (by decide +kernel) (by decide +kernel))⟩
theorem ml_Ctx_22 : mlS "MethodWarden$Context" 22 Y_Ctx_holds 2 := ⟨⟨yok_Ctx_holds, by decide +kernel, by decide⟩, Or.inl (inWG 693 (by decide +kernel) (by decide +kernel)), inWG 694 (by decide +kernel) (by decide +kernel)⟩
def f_Ctx_include_42_b (K42 : Int32 → Int32 → Int32 → ax_M → Option (Int32 × ax_M)) (l1 : Int32) (l2 : Int32) (l3 : Int32) (M : ax_M) : Option (Int32 × ax_M) :=
  if 16 ≤ l3 then (some (1, M)) else (gi l3 16 (bnd (f_Ctx_holds (gI M 65 l3.toNatClampNeg) l1 M) (fun q12 M13 => if q12 = 0 then (kM (l3 + 1) (fun x15 => K42 l1 l2 x15 M13)) else (gi l2 16 (kM ((gI M13 65 l3.toNatClampNeg) ||| (gI M13 65 l2.toNatClampNeg)) (fun x17 => kM (mI M13 65 l3.toNatClampNeg x17) (fun M18 => kM (l3 + 1) (fun x19 => K42 l1 l2 x19 M18))))))))
def f_Ctx_include_42 : Nat → Int32 → Int32 → Int32 → ax_M → Option (Int32 × ax_M)
  | 0, _, _, _, _ => none
  | n + 1, l1, l2, l3, M => f_Ctx_include_42_b  (f_Ctx_include_42 n) l1 l2 l3 M
set_option maxHeartbeats 4000000 in
set_option maxRecDepth 100000 in
theorem o_Ctx_include_42_b {l : Launch} {g : ax_G} (K42 : Int32 → Int32 → Int32 → ax_M → Option (Int32 × ax_M)) (hK42 : ∀ (l1 : Int32) (l2 : Int32) (l3 : Int32) (M : ax_M) (r : Int32) (M' : ax_M), K42 l1 l2 l3 M = some (r, M') → AW l g true Y_Ctx_include 2 (some (vI r), M') 42 [(0, vA 63), (1, vI l1), (2, vI l2), (3, vI l3)] [] M) (l1 : Int32) (l2 : Int32) (l3 : Int32) (M : ax_M) (r : Int32) (M' : ax_M) (h : f_Ctx_include_42_b  K42 l1 l2 l3 M = some (r, M')) : AW l g true Y_Ctx_include 2 (some (vI r), M') 42 [(0, vA 63), (1, vI l1), (2, vI l2), (3, vI l3)] [] M := by
  unfold f_Ctx_include_42_b at h
  refine A_iload_n 3 rfl rfl rfl ?_
  refine A_bipush (v := 16) rfl (by decide) ?_
  refine A_icmp_ge (tgt := 82) rfl (by decide) (fun hc10 => ?_) (fun hc10 => ?_)
  · rw [if_pos hc10] at h
    refine A_iconst (v := 1) rfl (by decide) ?_
    obtain ⟨rfl, rfl⟩ := leaf h
    exact A_zret rfl rfl (Or.inr rfl)
  · rw [if_neg hc10] at h
    refine A_pc (pc' := 48) rfl ?_
    refine A_aload_n 0 rfl rfl rfl ?_
    refine A_getL (r := 65) rfl fl_Ctx_15 rfl (by decide) rfl rfl ?_
    refine A_iload_n 3 rfl rfl rfl ?_
    obtain ⟨hg11, h⟩ := gi_out h
    refine A_iald (n := 16) rfl (by decide) (by decide) (Or.inl rfl) hg11 ?_
    refine A_iload_n 1 rfl rfl rfl ?_
    refine A_pc (pc' := 55) rfl ?_
    obtain ⟨q12, M13, hcq12, h⟩ := bnd_out h
    refine A_callS (as := [vI (gI M 65 l3.toNatClampNeg), vI l1]) (st' := []) (r1 := (some (vI q12), M13)) rfl ml_Ctx_22 rfl rfl (Nat.le_of_ble_eq_true rfl) (by decide) (c_Ctx_holds hcq12) (Or.inl rfl) ?_
    refine A_pc (pc' := 58) rfl ?_
    refine A_stk (st' := [vI q12]) rfl ?_
    refine A_if_eq (tgt := 76) rfl (by decide) (fun hc14 => ?_) (fun hc14 => ?_)
    · rw [if_pos hc14] at h
      obtain ⟨x15, hx15, h⟩ := kM_out h
      refine A_iinc 3 (v := x15) (Ls' := [(3, vI x15), (0, vA 63), (1, vI l1), (2, vI l2)]) rfl rfl ((iiN (k := 1) (by decide) _).trans hx15) (by decide) rfl ?_
      refine A_goto (tgt := 42) rfl (by decide) ?_
      refine A_pc (pc' := 42) rfl ?_
      refine A_sub (Ls' := [(0, vA 63), (1, vI l1), (2, vI l2), (3, vI x15)]) [1, 2, 3, 0] rfl ?_
      exact hK42 _ _ _ _ _ _ h
    · rw [if_neg hc14] at h
      refine A_pc (pc' := 61) rfl ?_
      refine A_aload_n 0 rfl rfl rfl ?_
      refine A_getL (r := 65) rfl fl_Ctx_15 rfl (by decide) rfl rfl ?_
      refine A_iload_n 3 rfl rfl rfl ?_
      refine A_dup2 rfl rfl rfl ?_
      refine A_iald (n := 16) rfl (by decide) (by decide) (Or.inl rfl) hg11 ?_
      refine A_pc (pc' := 68) rfl ?_
      refine A_aload_n 0 rfl rfl rfl ?_
      refine A_getL (r := 65) rfl fl_Ctx_15 rfl (by decide) rfl rfl ?_
      refine A_iload_n 2 rfl rfl rfl ?_
      obtain ⟨hg16, h⟩ := gi_out h
      refine A_iald (n := 16) rfl (by decide) (by decide) (Or.inl rfl) hg16 ?_
      refine A_ior rfl ?_
      obtain ⟨x17, hx17, h⟩ := kM_out h
      refine A_nI hx17 ?_
      refine A_iast (n := 16) rfl (by decide) (by decide) (Or.inl rfl) hg11 ?_
      obtain ⟨M18, hM18, h⟩ := kM_out h
      refine A_mem hM18 ?_
      refine A_pc (pc' := 76) rfl ?_
      obtain ⟨x19, hx19, h⟩ := kM_out h
      refine A_iinc 3 (v := x19) (Ls' := [(3, vI x19), (0, vA 63), (1, vI l1), (2, vI l2)]) rfl rfl ((iiN (k := 1) (by decide) _).trans hx19) (by decide) rfl ?_
      refine A_goto (tgt := 42) rfl (by decide) ?_
      refine A_pc (pc' := 42) rfl ?_
      refine A_sub (Ls' := [(0, vA 63), (1, vI l1), (2, vI l2), (3, vI x19)]) [1, 2, 3, 0] rfl ?_
      exact hK42 _ _ _ _ _ _ h
theorem o_Ctx_include_42 {l : Launch} {g : ax_G} : ∀ (n : Nat) (l1 : Int32) (l2 : Int32) (l3 : Int32) (M : ax_M) (r : Int32) (M' : ax_M), f_Ctx_include_42  n l1 l2 l3 M = some (r, M') → AW l g true Y_Ctx_include 2 (some (vI r), M') 42 [(0, vA 63), (1, vI l1), (2, vI l2), (3, vI l3)] [] M := by
  intro n
  induction n with
  | zero =>
    intro l1 l2 l3 M r M' h
    cases h
  | succ n ih =>
    intro l1 l2 l3 M r M' h
    exact o_Ctx_include_42_b  _ ih _ _ _ _ _ _ h
def f_Ctx_include (a1 : Int32) (a2 : Int32) (M : ax_M) : Option (Int32 × ax_M) :=
  gi a1 16 (bnd (f_Ctx_holds (gI M 64 a1.toNatClampNeg) a2 M) (fun q2 M3 => if q2 = 0 then (gi a2 16 (bnd (f_Ctx_holds (gI M3 65 a2.toNatClampNeg) a1 M3) (fun q6 M7 => if q6 = 0 then (kM (mI M7 64 a1.toNatClampNeg ((gI M7 64 a1.toNatClampNeg) ||| (1 <<< (a2 &&& 31)))) (fun M9 => f_Ctx_include_42 64 a1 a2 0 M9)) else (some (0, M7))))) else (some (0, M3))))
set_option maxHeartbeats 4000000 in
set_option maxRecDepth 100000 in
theorem c_Ctx_include {l : Launch} {g : ax_G} {a1 : Int32} {a2 : Int32} {M : ax_M} {r : Int32} {M' : ax_M} (h : f_Ctx_include a1 a2 M = some (r, M')) : Ctr l g true Y_Ctx_include 2 [vA 63, vI a1, vI a2] M (some (vI r), M') := by
  refine Ctr.ofAW yok_Ctx_include (Nat.le_of_ble_eq_true rfl) (Or.inl rfl) ?_
  show AW l g true Y_Ctx_include 2 (some (vI r), M') 0 [(0, vA 63), (1, vI a1), (2, vI a2)] [] M
  unfold f_Ctx_include at h
  refine A_aload_n 0 rfl rfl rfl ?_
  refine A_getL (r := 64) rfl fl_Ctx_9 rfl (by decide) rfl rfl ?_
  refine A_iload_n 1 rfl rfl rfl ?_
  obtain ⟨hg1, h⟩ := gi_out h
  refine A_iald (n := 16) rfl (by decide) (by decide) (Or.inl rfl) hg1 ?_
  refine A_iload_n 2 rfl rfl rfl ?_
  refine A_pc (pc' := 7) rfl ?_
  obtain ⟨q2, M3, hcq2, h⟩ := bnd_out h
  refine A_callS (as := [vI (gI M 64 a1.toNatClampNeg), vI a2]) (st' := []) (r1 := (some (vI q2), M3)) rfl ml_Ctx_22 rfl rfl (Nat.le_of_ble_eq_true rfl) (by decide) (c_Ctx_holds hcq2) (Or.inl rfl) ?_
  refine A_pc (pc' := 10) rfl ?_
  refine A_stk (st' := [vI q2]) rfl ?_
  refine A_if_ne (tgt := 26) rfl (by decide) (fun hc4 => ?_) (fun hc4 => ?_)
  · rw [if_neg hc4] at h
    refine A_iconst (v := 0) rfl (by decide) ?_
    obtain ⟨rfl, rfl⟩ := leaf h
    exact A_zret rfl rfl (Or.inl rfl)
  · rw [if_pos hc4] at h
    refine A_pc (pc' := 13) rfl ?_
    refine A_aload_n 0 rfl rfl rfl ?_
    refine A_getL (r := 65) rfl fl_Ctx_15 rfl (by decide) rfl rfl ?_
    refine A_iload_n 2 rfl rfl rfl ?_
    obtain ⟨hg5, h⟩ := gi_out h
    refine A_iald (n := 16) rfl (by decide) (by decide) (Or.inl rfl) hg5 ?_
    refine A_iload_n 1 rfl rfl rfl ?_
    refine A_pc (pc' := 20) rfl ?_
    obtain ⟨q6, M7, hcq6, h⟩ := bnd_out h
    refine A_callS (as := [vI (gI M3 65 a2.toNatClampNeg), vI a1]) (st' := []) (r1 := (some (vI q6), M7)) rfl ml_Ctx_22 rfl rfl (Nat.le_of_ble_eq_true rfl) (by decide) (c_Ctx_holds hcq6) (Or.inl rfl) ?_
    refine A_pc (pc' := 23) rfl ?_
    refine A_stk (st' := [vI q6]) rfl ?_
    refine A_if_eq (tgt := 28) rfl (by decide) (fun hc8 => ?_) (fun hc8 => ?_)
    · rw [if_pos hc8] at h
      refine A_aload_n 0 rfl rfl rfl ?_
      refine A_getL (r := 64) rfl fl_Ctx_9 rfl (by decide) rfl rfl ?_
      refine A_iload_n 1 rfl rfl rfl ?_
      refine A_dup2 rfl rfl rfl ?_
      refine A_iald (n := 16) rfl (by decide) (by decide) (Or.inl rfl) hg1 ?_
      refine A_pc (pc' := 35) rfl ?_
      refine A_iconst (v := 1) rfl (by decide) ?_
      refine A_iload_n 2 rfl rfl rfl ?_
      refine A_ishl rfl ?_
      refine A_ior rfl ?_
      refine A_iast (n := 16) rfl (by decide) (by decide) (Or.inl rfl) hg1 ?_
      obtain ⟨M9, hM9, h⟩ := kM_out h
      refine A_mem hM9 ?_
      refine A_iconst (v := 0) rfl (by decide) ?_
      refine A_pc (pc' := 41) rfl ?_
      refine A_istore_n (Ls' := [(3, vI 0), (0, vA 63), (1, vI a1), (2, vI a2)]) rfl rfl (by decide) rfl ?_
      refine A_pc (pc' := 42) rfl ?_
      refine A_sub (Ls' := [(0, vA 63), (1, vI a1), (2, vI a2), (3, vI 0)]) [1, 2, 3, 0] rfl ?_
      exact o_Ctx_include_42  _ _ _ _ _ _ _ h
    · rw [if_neg hc8] at h
      refine A_pc (pc' := 26) rfl ?_
      refine A_iconst (v := 0) rfl (by decide) ?_
      obtain ⟨rfl, rfl⟩ := leaf h
      exact A_zret rfl rfl (Or.inl rfl)
def tb_Ctx_become : List (Nat × Instr × Nat) := [(0, .aload_n 0, 1), (1, .iload_n 1, 1), (2, .putfield 18, 3), (5, .aload_n 0, 1), (6, .iload_n 2, 1), (7, .putfield 26, 3), (10, .return_, 1)]
def Y_Ctx_become : ax_Y := (⟨"MethodWarden$Context", "become", "(II)V"⟩, prog_2_method_4_code, 3, none, tb_Ctx_become)
theorem yok_Ctx_become : yOK Y_Ctx_become := ⟨by decide +kernel, by decide +kernel, inWG 707 (by decide +kernel) (by decide +kernel), inWG 100 (by decide +kernel) (by decide +kernel), by decide +kernel⟩
theorem fl_Ctx_18 : fldOK "MethodWarden$Context" 18 4 2 false := ⟨_, _, _, cls_Ctx, by decide, by decide, rfl, Or.inl (inWG 224 (by decide +kernel) (by decide +kernel))⟩
theorem fl_Ctx_26 : fldOK "MethodWarden$Context" 26 4 3 false := ⟨_, _, _, cls_Ctx, by decide, by decide, rfl, Or.inl (inWG 228 (by decide +kernel) (by decide +kernel))⟩
def f_Ctx_become (a1 : Int32) (a2 : Int32) (M : ax_M) : Option (Unit × ax_M) :=
  kM (mI M 63 2 a1) (fun M1 => kM (mI M1 63 3 a2) (fun M2 => some ((), M2)))
set_option maxHeartbeats 4000000 in
set_option maxRecDepth 100000 in
theorem c_Ctx_become {l : Launch} {g : ax_G} {a1 : Int32} {a2 : Int32} {M : ax_M} {r : Unit} {M' : ax_M} (h : f_Ctx_become a1 a2 M = some (r, M')) : Ctr l g true Y_Ctx_become 1 [vA 63, vI a1, vI a2] M (none, M') := by
  refine Ctr.ofAW yok_Ctx_become (Nat.le_of_ble_eq_true rfl) (Or.inl rfl) ?_
  show AW l g true Y_Ctx_become 1 (none, M') 0 [(0, vA 63), (1, vI a1), (2, vI a2)] [] M
  unfold f_Ctx_become at h
  refine A_aload_n 0 rfl rfl rfl ?_
  refine A_iload_n 1 rfl rfl rfl ?_
  refine A_putI rfl (Or.inl fl_Ctx_18) rfl (by decide) (Or.inl rfl) rfl ?_
  obtain ⟨M1, hM1, h⟩ := kM_out h
  refine A_mem hM1 ?_
  refine A_aload_n 0 rfl rfl rfl ?_
  refine A_iload_n 2 rfl rfl rfl ?_
  refine A_pc (pc' := 7) rfl ?_
  refine A_putI rfl (Or.inl fl_Ctx_26) rfl (by decide) (Or.inl rfl) rfl ?_
  obtain ⟨M2, hM2, h⟩ := kM_out h
  refine A_mem hM2 ?_
  obtain ⟨rfl, rfl⟩ := leaf h
  exact A_vret rfl rfl
def tb_Ctx_leave : List (Nat × Instr × Nat) := [(0, .aload_n 0, 1), (1, .iconst (-1), 1), (2, .iconst 0, 1), (3, .invokevirtual 29, 3), (6, .return_, 1)]
def Y_Ctx_leave : ax_Y := (⟨"MethodWarden$Context", "leave", "()V"⟩, prog_2_method_5_code, 1, none, tb_Ctx_leave)
theorem yok_Ctx_leave : yOK Y_Ctx_leave := ⟨by decide +kernel, by decide +kernel, inWG 703 (by decide +kernel) (by decide +kernel), inWG 100 (by decide +kernel) (by decide +kernel), by decide +kernel⟩
theorem ml_Ctx_29 : mlV "MethodWarden$Context" 29 Y_Ctx_become 2 := ⟨⟨yok_Ctx_become, by decide +kernel, by decide⟩, Or.inl (inWG 704 (by decide +kernel) (by decide +kernel)), inWG 705 (by decide +kernel) (by decide +kernel), inWG 706 (by decide +kernel) (by decide +kernel)⟩
def f_Ctx_leave  (M : ax_M) : Option (Unit × ax_M) :=
  bnd (f_Ctx_become ((-1)) 0 M) (fun q1 M2 => some ((), M2))
set_option maxHeartbeats 4000000 in
set_option maxRecDepth 100000 in
theorem c_Ctx_leave {l : Launch} {g : ax_G}  {M : ax_M} {r : Unit} {M' : ax_M} (h : f_Ctx_leave  M = some (r, M')) : Ctr l g true Y_Ctx_leave 2 [vA 63] M (none, M') := by
  refine Ctr.ofAW yok_Ctx_leave (Nat.le_of_ble_eq_true rfl) (Or.inl rfl) ?_
  show AW l g true Y_Ctx_leave 2 (none, M') 0 [(0, vA 63)] [] M
  unfold f_Ctx_leave at h
  refine A_aload_n 0 rfl rfl rfl ?_
  refine A_iconst (v := (-1)) rfl (by decide) ?_
  refine A_iconst (v := 0) rfl (by decide) ?_
  obtain ⟨q1, M2, hcq1, h⟩ := bnd_out h
  refine A_callV (ci := 4) (as := [vI ((-1)), vI 0]) (st' := []) (r1 := (none, M2)) rfl ml_Ctx_29 rfl (by decide) (by decide) (Or.inl rfl) rfl rfl (Nat.le_of_ble_eq_true rfl) (by decide) (c_Ctx_become hcq1) (Or.inl rfl) ?_
  refine A_pc (pc' := 6) rfl ?_
  refine A_stk (st' := []) rfl ?_
  obtain ⟨rfl, rfl⟩ := leaf h
  exact A_vret rfl rfl
def tb_Ctx_isNobody : List (Nat × Instr × Nat) := [(0, .aload_n 0, 1), (1, .getfield 18, 3), (4, .iconst (-1), 1), (5, .if_icmp .ne 7, 3), (8, .iconst 1, 1), (9, .goto 4, 3), (12, .iconst 0, 1), (13, .ireturn, 1)]
def Y_Ctx_isNobody : ax_Y := (⟨"MethodWarden$Context", "isNobody", "()Z"⟩, prog_2_method_7_code, 1, some .boolean, tb_Ctx_isNobody)
theorem yok_Ctx_isNobody : yOK Y_Ctx_isNobody := ⟨by decide +kernel, by decide +kernel, inWG 723 (by decide +kernel) (by decide +kernel), inWG 100 (by decide +kernel) (by decide +kernel), by decide +kernel⟩
def f_Ctx_isNobody  (M : ax_M) : Option (Int32 × ax_M) :=
  if (gI M 63 2) = ((-1)) then (some (1, M)) else (some (0, M))
set_option maxHeartbeats 4000000 in
set_option maxRecDepth 100000 in
theorem c_Ctx_isNobody {l : Launch} {g : ax_G}  {M : ax_M} {r : Int32} {M' : ax_M} (h : f_Ctx_isNobody  M = some (r, M')) : Ctr l g true Y_Ctx_isNobody 1 [vA 63] M (some (vI r), M') := by
  refine Ctr.ofAW yok_Ctx_isNobody (Nat.le_of_ble_eq_true rfl) (Or.inl rfl) ?_
  show AW l g true Y_Ctx_isNobody 1 (some (vI r), M') 0 [(0, vA 63)] [] M
  unfold f_Ctx_isNobody at h
  refine A_aload_n 0 rfl rfl rfl ?_
  refine A_getI rfl fl_Ctx_18 rfl (by decide) (Or.inl rfl) ?_
  refine A_iconst (v := (-1)) rfl (by decide) ?_
  refine A_icmp_ne (tgt := 12) rfl (by decide) (fun hc1 => ?_) (fun hc1 => ?_)
  · rw [if_neg hc1] at h
    refine A_iconst (v := 0) rfl (by decide) ?_
    obtain ⟨rfl, rfl⟩ := leaf h
    exact A_zret rfl rfl (Or.inl rfl)
  · rw [if_pos hc1] at h
    refine A_pc (pc' := 8) rfl ?_
    refine A_iconst (v := 1) rfl (by decide) ?_
    refine A_goto (tgt := 13) rfl (by decide) ?_
    obtain ⟨rfl, rfl⟩ := leaf h
    exact A_zret rfl rfl (Or.inr rfl)
def tb_Ctx_lend : List (Nat × Instr × Nat) := [(0, .aload_n 0, 1), (1, .invokevirtual 33, 3), (4, .ifCond .ne 13, 3), (7, .aload_n 0, 1), (8, .dup, 1), (9, .getfield 26, 3), (12, .iload_n 1, 1), (13, .ior, 1), (14, .putfield 26, 3), (17, .return_, 1)]
def Y_Ctx_lend : ax_Y := (⟨"MethodWarden$Context", "lend", "(I)V"⟩, prog_2_method_6_code, 2, none, tb_Ctx_lend)
theorem yok_Ctx_lend : yOK Y_Ctx_lend := ⟨by decide +kernel, by decide +kernel, inWG 1005 (by decide +kernel) (by decide +kernel), inWG 100 (by decide +kernel) (by decide +kernel), by decide +kernel⟩
theorem ml_Ctx_33 : mlV "MethodWarden$Context" 33 Y_Ctx_isNobody 0 := ⟨⟨yok_Ctx_isNobody, by decide +kernel, by decide⟩, Or.inl (inWG 1006 (by decide +kernel) (by decide +kernel)), inWG 721 (by decide +kernel) (by decide +kernel), inWG 722 (by decide +kernel) (by decide +kernel)⟩
def f_Ctx_lend (a1 : Int32) (M : ax_M) : Option (Unit × ax_M) :=
  bnd (f_Ctx_isNobody  M) (fun q1 M2 => if q1 = 0 then (kM (mI M2 63 3 ((gI M2 63 3) ||| a1)) (fun M4 => some ((), M4))) else (some ((), M2)))
set_option maxHeartbeats 4000000 in
set_option maxRecDepth 100000 in
theorem c_Ctx_lend {l : Launch} {g : ax_G} {a1 : Int32} {M : ax_M} {r : Unit} {M' : ax_M} (h : f_Ctx_lend a1 M = some (r, M')) : Ctr l g true Y_Ctx_lend 2 [vA 63, vI a1] M (none, M') := by
  refine Ctr.ofAW yok_Ctx_lend (Nat.le_of_ble_eq_true rfl) (Or.inl rfl) ?_
  show AW l g true Y_Ctx_lend 2 (none, M') 0 [(0, vA 63), (1, vI a1)] [] M
  unfold f_Ctx_lend at h
  refine A_aload_n 0 rfl rfl rfl ?_
  obtain ⟨q1, M2, hcq1, h⟩ := bnd_out h
  refine A_callV (ci := 4) (as := []) (st' := []) (r1 := (some (vI q1), M2)) rfl ml_Ctx_33 rfl (by decide) (by decide) (Or.inl rfl) rfl rfl (Nat.le_of_ble_eq_true rfl) (by decide) (c_Ctx_isNobody hcq1) (Or.inl rfl) ?_
  refine A_pc (pc' := 4) rfl ?_
  refine A_stk (st' := [vI q1]) rfl ?_
  refine A_if_ne (tgt := 17) rfl (by decide) (fun hc3 => ?_) (fun hc3 => ?_)
  · rw [if_neg hc3] at h
    obtain ⟨rfl, rfl⟩ := leaf h
    exact A_vret rfl rfl
  · rw [if_pos hc3] at h
    refine A_pc (pc' := 7) rfl ?_
    refine A_aload_n 0 rfl rfl rfl ?_
    refine A_dup rfl rfl ?_
    refine A_getI rfl fl_Ctx_26 rfl (by decide) (Or.inl rfl) ?_
    refine A_iload_n 1 rfl rfl rfl ?_
    refine A_ior rfl ?_
    refine A_pc (pc' := 14) rfl ?_
    refine A_putI rfl (Or.inl fl_Ctx_26) rfl (by decide) (Or.inl rfl) rfl ?_
    obtain ⟨M4, hM4, h⟩ := kM_out h
    refine A_mem hM4 ?_
    obtain ⟨rfl, rfl⟩ := leaf h
    exact A_vret rfl rfl
def tb_Ctx_reachable : List (Nat × Instr × Nat) := [(0, .iconst 0, 1), (1, .istore_n 1, 1), (2, .iconst 0, 1), (3, .istore_n 2, 1), (4, .iload_n 2, 1), (5, .bipush 16, 2), (7, .if_icmp .ge 30, 3), (10, .aload_n 0, 1), (11, .getfield 26, 3), (14, .iload_n 2, 1), (15, .ishr, 1), (16, .iconst 1, 1), (17, .iand, 1), (18, .iconst 1, 1), (19, .if_icmp .ne 12, 3), (22, .iload_n 1, 1), (23, .aload_n 0, 1), (24, .getfield 15, 3), (27, .iload_n 2, 1), (28, .iaload, 1), (29, .ior, 1), (30, .istore_n 1, 1), (31, .iinc 2 1, 3), (34, .goto (-30), 3), (37, .iload_n 1, 1), (38, .ireturn, 1)]
def Y_Ctx_reachable : ax_Y := (⟨"MethodWarden$Context", "reachable", "()I"⟩, prog_2_method_8_code, 3, some .int, tb_Ctx_reachable)
theorem yok_Ctx_reachable : yOK Y_Ctx_reachable := ⟨by decide +kernel, by decide +kernel, inWG 728 (by decide +kernel) (by decide +kernel), inWG 100 (by decide +kernel) (by decide +kernel), by decide +kernel⟩
def f_Ctx_reachable_4_b (K4 : Int32 → Int32 → ax_M → Option (Int32 × ax_M)) (l1 : Int32) (l2 : Int32) (M : ax_M) : Option (Int32 × ax_M) :=
  if 16 ≤ l2 then (some (l1, M)) else (if (((gI M 63 3) >>> (l2 &&& 31)) &&& 1) = 1 then (gi l2 16 (kM (l1 ||| (gI M 65 l2.toNatClampNeg)) (fun x5 => kM (l2 + 1) (fun x6 => K4 x5 x6 M)))) else (kM (l2 + 1) (fun x3 => K4 l1 x3 M)))
def f_Ctx_reachable_4 : Nat → Int32 → Int32 → ax_M → Option (Int32 × ax_M)
  | 0, _, _, _ => none
  | n + 1, l1, l2, M => f_Ctx_reachable_4_b  (f_Ctx_reachable_4 n) l1 l2 M
set_option maxHeartbeats 4000000 in
set_option maxRecDepth 100000 in
theorem o_Ctx_reachable_4_b {l : Launch} {g : ax_G} (K4 : Int32 → Int32 → ax_M → Option (Int32 × ax_M)) (hK4 : ∀ (l1 : Int32) (l2 : Int32) (M : ax_M) (r : Int32) (M' : ax_M), K4 l1 l2 M = some (r, M') → AW l g true Y_Ctx_reachable 1 (some (vI r), M') 4 [(0, vA 63), (1, vI l1), (2, vI l2)] [] M) (l1 : Int32) (l2 : Int32) (M : ax_M) (r : Int32) (M' : ax_M) (h : f_Ctx_reachable_4_b  K4 l1 l2 M = some (r, M')) : AW l g true Y_Ctx_reachable 1 (some (vI r), M') 4 [(0, vA 63), (1, vI l1), (2, vI l2)] [] M := by
  unfold f_Ctx_reachable_4_b at h
  refine A_iload_n 2 rfl rfl rfl ?_
  refine A_bipush (v := 16) rfl (by decide) ?_
  refine A_icmp_ge (tgt := 37) rfl (by decide) (fun hc1 => ?_) (fun hc1 => ?_)
  · rw [if_pos hc1] at h
    refine A_iload_n 1 rfl rfl rfl ?_
    obtain ⟨rfl, rfl⟩ := leaf h
    exact A_iret rfl rfl
  · rw [if_neg hc1] at h
    refine A_pc (pc' := 10) rfl ?_
    refine A_aload_n 0 rfl rfl rfl ?_
    refine A_getI rfl fl_Ctx_26 rfl (by decide) (Or.inl rfl) ?_
    refine A_iload_n 2 rfl rfl rfl ?_
    refine A_ishr rfl ?_
    refine A_iconst (v := 1) rfl (by decide) ?_
    refine A_pc (pc' := 17) rfl ?_
    refine A_iand rfl ?_
    refine A_iconst (v := 1) rfl (by decide) ?_
    refine A_icmp_ne (tgt := 31) rfl (by decide) (fun hc2 => ?_) (fun hc2 => ?_)
    · rw [if_neg hc2] at h
      obtain ⟨x3, hx3, h⟩ := kM_out h
      refine A_iinc 2 (v := x3) (Ls' := [(2, vI x3), (0, vA 63), (1, vI l1)]) rfl rfl ((iiN (k := 1) (by decide) _).trans hx3) (by decide) rfl ?_
      refine A_goto (tgt := 4) rfl (by decide) ?_
      refine A_pc (pc' := 4) rfl ?_
      refine A_sub (Ls' := [(0, vA 63), (1, vI l1), (2, vI x3)]) [1, 2, 0] rfl ?_
      exact hK4 _ _ _ _ _ h
    · rw [if_pos hc2] at h
      refine A_pc (pc' := 22) rfl ?_
      refine A_iload_n 1 rfl rfl rfl ?_
      refine A_aload_n 0 rfl rfl rfl ?_
      refine A_getL (r := 65) rfl fl_Ctx_15 rfl (by decide) rfl rfl ?_
      refine A_iload_n 2 rfl rfl rfl ?_
      obtain ⟨hg4, h⟩ := gi_out h
      refine A_iald (n := 16) rfl (by decide) (by decide) (Or.inl rfl) hg4 ?_
      refine A_pc (pc' := 29) rfl ?_
      refine A_ior rfl ?_
      obtain ⟨x5, hx5, h⟩ := kM_out h
      refine A_nI hx5 ?_
      refine A_istore_n (Ls' := [(1, vI x5), (0, vA 63), (2, vI l2)]) rfl rfl (by decide) rfl ?_
      obtain ⟨x6, hx6, h⟩ := kM_out h
      refine A_iinc 2 (v := x6) (Ls' := [(2, vI x6), (1, vI x5), (0, vA 63)]) rfl rfl ((iiN (k := 1) (by decide) _).trans hx6) (by decide) rfl ?_
      refine A_goto (tgt := 4) rfl (by decide) ?_
      refine A_pc (pc' := 4) rfl ?_
      refine A_sub (Ls' := [(0, vA 63), (1, vI x5), (2, vI x6)]) [2, 1, 0] rfl ?_
      exact hK4 _ _ _ _ _ h
theorem o_Ctx_reachable_4 {l : Launch} {g : ax_G} : ∀ (n : Nat) (l1 : Int32) (l2 : Int32) (M : ax_M) (r : Int32) (M' : ax_M), f_Ctx_reachable_4  n l1 l2 M = some (r, M') → AW l g true Y_Ctx_reachable 1 (some (vI r), M') 4 [(0, vA 63), (1, vI l1), (2, vI l2)] [] M := by
  intro n
  induction n with
  | zero =>
    intro l1 l2 M r M' h
    cases h
  | succ n ih =>
    intro l1 l2 M r M' h
    exact o_Ctx_reachable_4_b  _ ih _ _ _ _ _ h
def f_Ctx_reachable  (M : ax_M) : Option (Int32 × ax_M) :=
  f_Ctx_reachable_4 64 0 0 M
set_option maxHeartbeats 4000000 in
set_option maxRecDepth 100000 in
theorem c_Ctx_reachable {l : Launch} {g : ax_G}  {M : ax_M} {r : Int32} {M' : ax_M} (h : f_Ctx_reachable  M = some (r, M')) : Ctr l g true Y_Ctx_reachable 1 [vA 63] M (some (vI r), M') := by
  refine Ctr.ofAW yok_Ctx_reachable (Nat.le_of_ble_eq_true rfl) (Or.inl rfl) ?_
  show AW l g true Y_Ctx_reachable 1 (some (vI r), M') 0 [(0, vA 63)] [] M
  unfold f_Ctx_reachable at h
  refine A_iconst (v := 0) rfl (by decide) ?_
  refine A_istore_n (Ls' := [(1, vI 0), (0, vA 63)]) rfl rfl (by decide) rfl ?_
  refine A_iconst (v := 0) rfl (by decide) ?_
  refine A_istore_n (Ls' := [(2, vI 0), (1, vI 0), (0, vA 63)]) rfl rfl (by decide) rfl ?_
  refine A_pc (pc' := 4) rfl ?_
  refine A_sub (Ls' := [(0, vA 63), (1, vI 0), (2, vI 0)]) [2, 1, 0] rfl ?_
  exact o_Ctx_reachable_4  _ _ _ _ _ _ h
def tb_Ctx_reaches : List (Nat × Instr × Nat) := [(0, .lload_n 1, 1), (1, .lconst 0, 1), (2, .lcmp, 1), (3, .ifCond .lt 28, 3), (6, .lload_n 1, 1), (7, .ldc2_w 37, 3), (10, .lcmp, 1), (11, .ifCond .ge 20, 3), (14, .aload_n 0, 1), (15, .invokevirtual 39, 3), (18, .lload_n 1, 1), (19, .l2i, 1), (20, .ishr, 1), (21, .iconst 1, 1), (22, .iand, 1), (23, .iconst 1, 1), (24, .if_icmp .ne 7, 3), (27, .iconst 1, 1), (28, .goto 4, 3), (31, .iconst 0, 1), (32, .ireturn, 1)]
def Y_Ctx_reaches : ax_Y := (⟨"MethodWarden$Context", "reaches", "(J)Z"⟩, prog_2_method_9_code, 3, some .boolean, tb_Ctx_reaches)
theorem yok_Ctx_reaches : yOK Y_Ctx_reaches := ⟨by decide +kernel, by decide +kernel, inWG 946 (by decide +kernel) (by decide +kernel), inWG 100 (by decide +kernel) (by decide +kernel), by decide +kernel⟩
theorem ml_Ctx_39 : mlV "MethodWarden$Context" 39 Y_Ctx_reachable 0 := ⟨⟨yok_Ctx_reachable, by decide +kernel, by decide⟩, Or.inl (inWG 948 (by decide +kernel) (by decide +kernel)), inWG 726 (by decide +kernel) (by decide +kernel), inWG 727 (by decide +kernel) (by decide +kernel)⟩
def f_Ctx_reaches (a1 : Int64) (M : ax_M) : Option (Int32 × ax_M) :=
  if (lg_cmp a1 0) < 0 then (some (0, M)) else (if 0 ≤ (lg_cmp a1 16) then (some (0, M)) else (bnd (f_Ctx_reachable  M) (fun q3 M4 => if ((q3 >>> ((Int64.toInt32 a1) &&& 31)) &&& 1) = 1 then (some (1, M4)) else (some (0, M4)))))
set_option maxHeartbeats 4000000 in
set_option maxRecDepth 100000 in
theorem c_Ctx_reaches {l : Launch} {g : ax_G} {a1 : Int64} {M : ax_M} {r : Int32} {M' : ax_M} (h : f_Ctx_reaches a1 M = some (r, M')) : Ctr l g true Y_Ctx_reaches 2 [vA 63, vJ a1] M (some (vI r), M') := by
  refine Ctr.ofAW yok_Ctx_reaches (Nat.le_of_ble_eq_true rfl) (Or.inl rfl) ?_
  show AW l g true Y_Ctx_reaches 2 (some (vI r), M') 0 [(0, vA 63), (1, vJ a1)] [] M
  unfold f_Ctx_reaches at h
  refine A_lload_n 1 rfl rfl rfl ?_
  refine A_lconst (v := 0) rfl (by decide) ?_
  refine A_lcmp rfl ?_
  refine A_if_lt (tgt := 31) rfl (by decide) (fun hc1 => ?_) (fun hc1 => ?_)
  · rw [if_pos hc1] at h
    refine A_iconst (v := 0) rfl (by decide) ?_
    obtain ⟨rfl, rfl⟩ := leaf h
    exact A_zret rfl rfl (Or.inl rfl)
  · rw [if_neg hc1] at h
    refine A_pc (pc' := 6) rfl ?_
    refine A_lload_n 1 rfl rfl rfl ?_
    refine A_ldc2 (v := 16) rfl (inWG 947 (by decide +kernel) (by decide +kernel)) ?_
    refine A_lcmp rfl ?_
    refine A_if_ge (tgt := 31) rfl (by decide) (fun hc2 => ?_) (fun hc2 => ?_)
    · rw [if_pos hc2] at h
      refine A_iconst (v := 0) rfl (by decide) ?_
      obtain ⟨rfl, rfl⟩ := leaf h
      exact A_zret rfl rfl (Or.inl rfl)
    · rw [if_neg hc2] at h
      refine A_pc (pc' := 14) rfl ?_
      refine A_aload_n 0 rfl rfl rfl ?_
      obtain ⟨q3, M4, hcq3, h⟩ := bnd_out h
      refine A_callV (ci := 4) (as := []) (st' := []) (r1 := (some (vI q3), M4)) rfl ml_Ctx_39 rfl (by decide) (by decide) (Or.inl rfl) rfl rfl (Nat.le_of_ble_eq_true rfl) (by decide) (c_Ctx_reachable hcq3) (Or.inl rfl) ?_
      refine A_pc (pc' := 18) rfl ?_
      refine A_stk (st' := [vI q3]) rfl ?_
      refine A_lload_n 1 rfl rfl rfl ?_
      refine A_l2i rfl ?_
      refine A_ishr rfl ?_
      refine A_pc (pc' := 21) rfl ?_
      refine A_iconst (v := 1) rfl (by decide) ?_
      refine A_iand rfl ?_
      refine A_iconst (v := 1) rfl (by decide) ?_
      refine A_icmp_ne (tgt := 31) rfl (by decide) (fun hc5 => ?_) (fun hc5 => ?_)
      · rw [if_neg hc5] at h
        refine A_iconst (v := 0) rfl (by decide) ?_
        obtain ⟨rfl, rfl⟩ := leaf h
        exact A_zret rfl rfl (Or.inl rfl)
      · rw [if_pos hc5] at h
        refine A_pc (pc' := 27) rfl ?_
        refine A_iconst (v := 1) rfl (by decide) ?_
        refine A_goto (tgt := 32) rfl (by decide) ?_
        obtain ⟨rfl, rfl⟩ := leaf h
        exact A_zret rfl rfl (Or.inr rfl)
def tb_Guard_isThere : List (Nat × Instr × Nat) := [(0, .aload_n 0, 1), (1, .getfield 9, 3), (4, .ifCond .eq 7, 3), (7, .iconst 1, 1), (8, .goto 4, 3), (11, .iconst 0, 1), (12, .ireturn, 1)]
def Y_Guard_isThere : ax_Y := (⟨"MethodWarden$Guard", "isThere", "()Z"⟩, prog_5_method_2_code, 1, some .boolean, tb_Guard_isThere)
theorem yok_Guard_isThere : yOK Y_Guard_isThere := ⟨by decide +kernel, by decide +kernel, inWG 768 (by decide +kernel) (by decide +kernel), inWG 106 (by decide +kernel) (by decide +kernel), by decide +kernel⟩
theorem fl_Guard_9 : fldOK "MethodWarden$Guard" 9 10 0 false := ⟨_, _, _, cls_Guard, by decide, by decide, rfl, Or.inl (inWG 372 (by decide +kernel) (by decide +kernel))⟩
def f_Guard_isThere (t0 : Nat) (M : ax_M) : Option (Int32 × ax_M) :=
  gk t0 10 (if (gI M t0 0) = 0 then (some (0, M)) else (some (1, M)))
set_option maxHeartbeats 4000000 in
set_option maxRecDepth 100000 in
theorem c_Guard_isThere {l : Launch} {g : ax_G} {t0 : Nat} {M : ax_M} {r : Int32} {M' : ax_M} (h : f_Guard_isThere t0 M = some (r, M')) : Ctr l g true Y_Guard_isThere 1 [vA t0] M (some (vI r), M') := by
  refine Ctr.ofAW yok_Guard_isThere (Nat.le_of_ble_eq_true rfl) (Or.inl rfl) ?_
  show AW l g true Y_Guard_isThere 1 (some (vI r), M') 0 [(0, vA t0)] [] M
  unfold f_Guard_isThere at h
  refine A_aload_n 0 rfl rfl rfl ?_
  obtain ⟨hg1, h⟩ := gk_out h
  refine A_getI rfl fl_Guard_9 rfl hg1 (Or.inl rfl) ?_
  refine A_if_eq (tgt := 11) rfl (by decide) (fun hc2 => ?_) (fun hc2 => ?_)
  · rw [if_pos hc2] at h
    refine A_iconst (v := 0) rfl (by decide) ?_
    obtain ⟨rfl, rfl⟩ := leaf h
    exact A_zret rfl rfl (Or.inl rfl)
  · rw [if_neg hc2] at h
    refine A_pc (pc' := 7) rfl ?_
    refine A_iconst (v := 1) rfl (by decide) ?_
    refine A_goto (tgt := 12) rfl (by decide) ?_
    obtain ⟨rfl, rfl⟩ := leaf h
    exact A_zret rfl rfl (Or.inr rfl)
def tb_Guard_watches : List (Nat × Instr × Nat) := [(0, .aload_n 0, 1), (1, .getfield 9, 3), (4, .iconst 2, 1), (5, .if_icmp .eq 19, 3), (8, .aload_n 0, 1), (9, .getfield 9, 3), (12, .iconst 3, 1), (13, .if_icmp .eq 11, 3), (16, .aload_n 0, 1), (17, .getfield 9, 3), (20, .iconst 4, 1), (21, .if_icmp .ne 7, 3), (24, .iconst 1, 1), (25, .goto 4, 3), (28, .iconst 0, 1), (29, .ireturn, 1)]
def Y_Guard_watches : ax_Y := (⟨"MethodWarden$Guard", "watches", "()Z"⟩, prog_5_method_3_code, 1, some .boolean, tb_Guard_watches)
theorem yok_Guard_watches : yOK Y_Guard_watches := ⟨by decide +kernel, by decide +kernel, inWG 828 (by decide +kernel) (by decide +kernel), inWG 106 (by decide +kernel) (by decide +kernel), by decide +kernel⟩
def f_Guard_watches (t0 : Nat) (M : ax_M) : Option (Int32 × ax_M) :=
  gk t0 10 (if (gI M t0 0) = 2 then (some (1, M)) else (if (gI M t0 0) = 3 then (some (1, M)) else (if (gI M t0 0) = 4 then (some (1, M)) else (some (0, M)))))
set_option maxHeartbeats 4000000 in
set_option maxRecDepth 100000 in
theorem c_Guard_watches {l : Launch} {g : ax_G} {t0 : Nat} {M : ax_M} {r : Int32} {M' : ax_M} (h : f_Guard_watches t0 M = some (r, M')) : Ctr l g true Y_Guard_watches 1 [vA t0] M (some (vI r), M') := by
  refine Ctr.ofAW yok_Guard_watches (Nat.le_of_ble_eq_true rfl) (Or.inl rfl) ?_
  show AW l g true Y_Guard_watches 1 (some (vI r), M') 0 [(0, vA t0)] [] M
  unfold f_Guard_watches at h
  refine A_aload_n 0 rfl rfl rfl ?_
  obtain ⟨hg1, h⟩ := gk_out h
  refine A_getI rfl fl_Guard_9 rfl hg1 (Or.inl rfl) ?_
  refine A_iconst (v := 2) rfl (by decide) ?_
  refine A_icmp_eq (tgt := 24) rfl (by decide) (fun hc2 => ?_) (fun hc2 => ?_)
  · rw [if_pos hc2] at h
    refine A_iconst (v := 1) rfl (by decide) ?_
    refine A_goto (tgt := 29) rfl (by decide) ?_
    obtain ⟨rfl, rfl⟩ := leaf h
    exact A_zret rfl rfl (Or.inr rfl)
  · rw [if_neg hc2] at h
    refine A_pc (pc' := 8) rfl ?_
    refine A_aload_n 0 rfl rfl rfl ?_
    refine A_getI rfl fl_Guard_9 rfl hg1 (Or.inl rfl) ?_
    refine A_iconst (v := 3) rfl (by decide) ?_
    refine A_icmp_eq (tgt := 24) rfl (by decide) (fun hc3 => ?_) (fun hc3 => ?_)
    · rw [if_pos hc3] at h
      refine A_iconst (v := 1) rfl (by decide) ?_
      refine A_goto (tgt := 29) rfl (by decide) ?_
      obtain ⟨rfl, rfl⟩ := leaf h
      exact A_zret rfl rfl (Or.inr rfl)
    · rw [if_neg hc3] at h
      refine A_pc (pc' := 16) rfl ?_
      refine A_aload_n 0 rfl rfl rfl ?_
      refine A_getI rfl fl_Guard_9 rfl hg1 (Or.inl rfl) ?_
      refine A_iconst (v := 4) rfl (by decide) ?_
      refine A_icmp_ne (tgt := 28) rfl (by decide) (fun hc4 => ?_) (fun hc4 => ?_)
      · rw [if_neg hc4] at h
        refine A_iconst (v := 0) rfl (by decide) ?_
        obtain ⟨rfl, rfl⟩ := leaf h
        exact A_zret rfl rfl (Or.inl rfl)
      · rw [if_pos hc4] at h
        refine A_pc (pc' := 24) rfl ?_
        refine A_iconst (v := 1) rfl (by decide) ?_
        refine A_goto (tgt := 29) rfl (by decide) ?_
        obtain ⟨rfl, rfl⟩ := leaf h
        exact A_zret rfl rfl (Or.inr rfl)
def tb_Guard_opensTo : List (Nat × Instr × Nat) := [(0, .aload_n 0, 1), (1, .getfield 9, 3), (4, .iconst 3, 1), (5, .if_icmp .ne 20, 3), (8, .iload_n 1, 1), (9, .aload_n 0, 1), (10, .getfield 13, 3), (13, .iand, 1), (14, .ifCond .eq 7, 3), (17, .iconst 1, 1), (18, .goto 20, 3), (21, .iconst 0, 1), (22, .goto 16, 3), (25, .aload_n 0, 1), (26, .getfield 9, 3), (29, .iconst 2, 1), (30, .if_icmp .eq 7, 3), (33, .iconst 1, 1), (34, .goto 4, 3), (37, .iconst 0, 1), (38, .ireturn, 1)]
def Y_Guard_opensTo : ax_Y := (⟨"MethodWarden$Guard", "opensTo", "(I)Z"⟩, prog_5_method_4_code, 2, some .boolean, tb_Guard_opensTo)
theorem yok_Guard_opensTo : yOK Y_Guard_opensTo := ⟨by decide +kernel, by decide +kernel, inWG 993 (by decide +kernel) (by decide +kernel), inWG 106 (by decide +kernel) (by decide +kernel), by decide +kernel⟩
theorem fl_Guard_13 : fldOK "MethodWarden$Guard" 13 10 1 false := ⟨_, _, _, cls_Guard, by decide, by decide, rfl, Or.inl (inWG 374 (by decide +kernel) (by decide +kernel))⟩
def f_Guard_opensTo (t0 : Nat) (a1 : Int32) (M : ax_M) : Option (Int32 × ax_M) :=
  gk t0 10 (if (gI M t0 0) = 3 then (if (a1 &&& (gI M t0 1)) = 0 then (some (0, M)) else (some (1, M))) else (if (gI M t0 0) = 2 then (some (0, M)) else (some (1, M))))
set_option maxHeartbeats 4000000 in
set_option maxRecDepth 100000 in
theorem c_Guard_opensTo {l : Launch} {g : ax_G} {t0 : Nat} {a1 : Int32} {M : ax_M} {r : Int32} {M' : ax_M} (h : f_Guard_opensTo t0 a1 M = some (r, M')) : Ctr l g true Y_Guard_opensTo 1 [vA t0, vI a1] M (some (vI r), M') := by
  refine Ctr.ofAW yok_Guard_opensTo (Nat.le_of_ble_eq_true rfl) (Or.inl rfl) ?_
  show AW l g true Y_Guard_opensTo 1 (some (vI r), M') 0 [(0, vA t0), (1, vI a1)] [] M
  unfold f_Guard_opensTo at h
  refine A_aload_n 0 rfl rfl rfl ?_
  obtain ⟨hg1, h⟩ := gk_out h
  refine A_getI rfl fl_Guard_9 rfl hg1 (Or.inl rfl) ?_
  refine A_iconst (v := 3) rfl (by decide) ?_
  refine A_icmp_ne (tgt := 25) rfl (by decide) (fun hc2 => ?_) (fun hc2 => ?_)
  · rw [if_neg hc2] at h
    refine A_aload_n 0 rfl rfl rfl ?_
    refine A_getI rfl fl_Guard_9 rfl hg1 (Or.inl rfl) ?_
    refine A_iconst (v := 2) rfl (by decide) ?_
    refine A_icmp_eq (tgt := 37) rfl (by decide) (fun hc3 => ?_) (fun hc3 => ?_)
    · rw [if_pos hc3] at h
      refine A_iconst (v := 0) rfl (by decide) ?_
      obtain ⟨rfl, rfl⟩ := leaf h
      exact A_zret rfl rfl (Or.inl rfl)
    · rw [if_neg hc3] at h
      refine A_pc (pc' := 33) rfl ?_
      refine A_iconst (v := 1) rfl (by decide) ?_
      refine A_goto (tgt := 38) rfl (by decide) ?_
      obtain ⟨rfl, rfl⟩ := leaf h
      exact A_zret rfl rfl (Or.inr rfl)
  · rw [if_pos hc2] at h
    refine A_pc (pc' := 8) rfl ?_
    refine A_iload_n 1 rfl rfl rfl ?_
    refine A_aload_n 0 rfl rfl rfl ?_
    refine A_getI rfl fl_Guard_13 rfl hg1 (Or.inl rfl) ?_
    refine A_iand rfl ?_
    refine A_if_eq (tgt := 21) rfl (by decide) (fun hc4 => ?_) (fun hc4 => ?_)
    · rw [if_pos hc4] at h
      refine A_iconst (v := 0) rfl (by decide) ?_
      refine A_goto (tgt := 38) rfl (by decide) ?_
      obtain ⟨rfl, rfl⟩ := leaf h
      exact A_zret rfl rfl (Or.inl rfl)
    · rw [if_neg hc4] at h
      refine A_pc (pc' := 17) rfl ?_
      refine A_iconst (v := 1) rfl (by decide) ?_
      refine A_goto (tgt := 38) rfl (by decide) ?_
      obtain ⟨rfl, rfl⟩ := leaf h
      exact A_zret rfl rfl (Or.inr rfl)
def tb_Guard_turnInto : List (Nat × Instr × Nat) := [(0, .iload_n 1, 1), (1, .ifCond .ne 10, 3), (4, .aload_n 0, 1), (5, .invokevirtual 16, 3), (8, .goto 23, 3), (11, .aload_n 0, 1), (12, .invokevirtual 16, 3), (15, .ifCond .eq 11, 3), (18, .aload_n 0, 1), (19, .getfield 9, 3), (22, .iload_n 1, 1), (23, .if_icmp .ne 7, 3), (26, .iconst 1, 1), (27, .goto 4, 3), (30, .iconst 0, 1), (31, .istore_n 3, 1), (32, .iload_n 3, 1), (33, .ifCond .eq 13, 3), (36, .aload_n 0, 1), (37, .iload_n 1, 1), (38, .putfield 9, 3), (41, .aload_n 0, 1), (42, .iload_n 2, 1), (43, .putfield 13, 3), (46, .iload_n 3, 1), (47, .ireturn, 1)]
def Y_Guard_turnInto : ax_Y := (⟨"MethodWarden$Guard", "turnInto", "(II)Z"⟩, prog_5_method_5_code, 4, some .boolean, tb_Guard_turnInto)
theorem yok_Guard_turnInto : yOK Y_Guard_turnInto := ⟨by decide +kernel, by decide +kernel, inWG 764 (by decide +kernel) (by decide +kernel), inWG 106 (by decide +kernel) (by decide +kernel), by decide +kernel⟩
theorem ml_Guard_16 : mlV "MethodWarden$Guard" 16 Y_Guard_isThere 0 := ⟨⟨yok_Guard_isThere, by decide +kernel, by decide⟩, Or.inl (inWG 765 (by decide +kernel) (by decide +kernel)), inWG 766 (by decide +kernel) (by decide +kernel), inWG 767 (by decide +kernel) (by decide +kernel)⟩
def f_Guard_turnInto_31 (l0 : Nat) (l1 : Int32) (l2 : Int32) (s0 : Int32) (M : ax_M) : Option (Int32 × ax_M) :=
  if s0 = 0 then (g2 s0 (some (s0, M))) else (gk l0 10 (kM (mI M l0 0 l1) (fun M9 => kM (mI M9 l0 1 l2) (fun M10 => g2 s0 (some (s0, M10))))))
set_option maxHeartbeats 4000000 in
set_option maxRecDepth 100000 in
theorem o_Guard_turnInto_31 {l : Launch} {g : ax_G} (l0 : Nat) (l1 : Int32) (l2 : Int32) (s0 : Int32) (M : ax_M) (r : Int32) (M' : ax_M) (h : f_Guard_turnInto_31  l0 l1 l2 s0 M = some (r, M')) : AW l g true Y_Guard_turnInto 2 (some (vI r), M') 31 [(0, vA l0), (1, vI l1), (2, vI l2)] [vI s0] M := by
  unfold f_Guard_turnInto_31 at h
  refine A_istore_n (Ls' := [(3, vI s0), (0, vA l0), (1, vI l1), (2, vI l2)]) rfl rfl (by decide) rfl ?_
  refine A_iload_n 0 rfl rfl rfl ?_
  refine A_if_eq (tgt := 46) rfl (by decide) (fun hc6 => ?_) (fun hc6 => ?_)
  · rw [if_pos hc6] at h
    refine A_iload_n 0 rfl rfl rfl ?_
    obtain ⟨hg7, h⟩ := g2_out h
    obtain ⟨rfl, rfl⟩ := leaf h
    exact A_zret rfl rfl hg7
  · rw [if_neg hc6] at h
    refine A_pc (pc' := 36) rfl ?_
    refine A_aload_n 1 rfl rfl rfl ?_
    refine A_iload_n 2 rfl rfl rfl ?_
    obtain ⟨hg8, h⟩ := gk_out h
    refine A_putI rfl (Or.inl fl_Guard_9) rfl hg8 (Or.inl rfl) rfl ?_
    obtain ⟨M9, hM9, h⟩ := kM_out h
    refine A_mem hM9 ?_
    refine A_aload_n 1 rfl rfl rfl ?_
    refine A_iload_n 3 rfl rfl rfl ?_
    refine A_pc (pc' := 43) rfl ?_
    refine A_putI rfl (Or.inl fl_Guard_13) rfl hg8 (Or.inl rfl) rfl ?_
    obtain ⟨M10, hM10, h⟩ := kM_out h
    refine A_mem hM10 ?_
    refine A_iload_n 0 rfl rfl rfl ?_
    obtain ⟨hg11, h⟩ := g2_out h
    obtain ⟨rfl, rfl⟩ := leaf h
    exact A_zret rfl rfl hg11
def f_Guard_turnInto (t0 : Nat) (a1 : Int32) (a2 : Int32) (M : ax_M) : Option (Int32 × ax_M) :=
  if a1 = 0 then (gk t0 10 (bnd (f_Guard_isThere t0 M) (fun q14 M15 => f_Guard_turnInto_31 t0 a1 a2 q14 M15))) else (gk t0 10 (bnd (f_Guard_isThere t0 M) (fun q3 M4 => if q3 = 0 then (f_Guard_turnInto_31 t0 a1 a2 1 M4) else (if (gI M4 t0 0) = a1 then (f_Guard_turnInto_31 t0 a1 a2 1 M4) else (f_Guard_turnInto_31 t0 a1 a2 0 M4)))))
set_option maxHeartbeats 4000000 in
set_option maxRecDepth 100000 in
theorem c_Guard_turnInto {l : Launch} {g : ax_G} {t0 : Nat} {a1 : Int32} {a2 : Int32} {M : ax_M} {r : Int32} {M' : ax_M} (h : f_Guard_turnInto t0 a1 a2 M = some (r, M')) : Ctr l g true Y_Guard_turnInto 2 [vA t0, vI a1, vI a2] M (some (vI r), M') := by
  refine Ctr.ofAW yok_Guard_turnInto (Nat.le_of_ble_eq_true rfl) (Or.inl rfl) ?_
  show AW l g true Y_Guard_turnInto 2 (some (vI r), M') 0 [(0, vA t0), (1, vI a1), (2, vI a2)] [] M
  unfold f_Guard_turnInto at h
  refine A_iload_n 1 rfl rfl rfl ?_
  refine A_if_ne (tgt := 11) rfl (by decide) (fun hc1 => ?_) (fun hc1 => ?_)
  · rw [if_neg hc1] at h
    refine A_aload_n 0 rfl rfl rfl ?_
    obtain ⟨hg2, h⟩ := gk_out h
    obtain ⟨q3, M4, hcq3, h⟩ := bnd_out h
    refine A_callV (ci := 10) (as := []) (st' := []) (r1 := (some (vI q3), M4)) rfl ml_Guard_16 rfl (by decide) hg2 (Or.inl rfl) rfl rfl (Nat.le_of_ble_eq_true rfl) (by decide) (c_Guard_isThere hcq3) (Or.inl rfl) ?_
    refine A_pc (pc' := 15) rfl ?_
    refine A_stk (st' := [vI q3]) rfl ?_
    refine A_if_eq (tgt := 26) rfl (by decide) (fun hc5 => ?_) (fun hc5 => ?_)
    · rw [if_pos hc5] at h
      refine A_iconst (v := 1) rfl (by decide) ?_
      refine A_goto (tgt := 31) rfl (by decide) ?_
      refine A_pc (pc' := 31) rfl ?_
      refine A_sub (Ls' := [(0, vA t0), (1, vI a1), (2, vI a2)]) [0, 1, 2] rfl ?_
      exact o_Guard_turnInto_31  _ _ _ _ _ _ _ h
    · rw [if_neg hc5] at h
      refine A_pc (pc' := 18) rfl ?_
      refine A_aload_n 0 rfl rfl rfl ?_
      refine A_getI rfl fl_Guard_9 rfl hg2 (Or.inl rfl) ?_
      refine A_iload_n 1 rfl rfl rfl ?_
      refine A_icmp_ne (tgt := 30) rfl (by decide) (fun hc12 => ?_) (fun hc12 => ?_)
      · rw [if_neg hc12] at h
        refine A_iconst (v := 0) rfl (by decide) ?_
        refine A_pc (pc' := 31) rfl ?_
        refine A_sub (Ls' := [(0, vA t0), (1, vI a1), (2, vI a2)]) [0, 1, 2] rfl ?_
        exact o_Guard_turnInto_31  _ _ _ _ _ _ _ h
      · rw [if_pos hc12] at h
        refine A_pc (pc' := 26) rfl ?_
        refine A_iconst (v := 1) rfl (by decide) ?_
        refine A_goto (tgt := 31) rfl (by decide) ?_
        refine A_pc (pc' := 31) rfl ?_
        refine A_sub (Ls' := [(0, vA t0), (1, vI a1), (2, vI a2)]) [0, 1, 2] rfl ?_
        exact o_Guard_turnInto_31  _ _ _ _ _ _ _ h
  · rw [if_pos hc1] at h
    refine A_pc (pc' := 4) rfl ?_
    refine A_aload_n 0 rfl rfl rfl ?_
    obtain ⟨hg13, h⟩ := gk_out h
    obtain ⟨q14, M15, hcq14, h⟩ := bnd_out h
    refine A_callV (ci := 10) (as := []) (st' := []) (r1 := (some (vI q14), M15)) rfl ml_Guard_16 rfl (by decide) hg13 (Or.inl rfl) rfl rfl (Nat.le_of_ble_eq_true rfl) (by decide) (c_Guard_isThere hcq14) (Or.inl rfl) ?_
    refine A_pc (pc' := 8) rfl ?_
    refine A_stk (st' := [vI q14]) rfl ?_
    refine A_goto (tgt := 31) rfl (by decide) ?_
    refine A_pc (pc' := 31) rfl ?_
    refine A_sub (Ls' := [(0, vA t0), (1, vI a1), (2, vI a2)]) [0, 1, 2] rfl ?_
    exact o_Guard_turnInto_31  _ _ _ _ _ _ _ h
def tb_Meth_setRules : List (Nat × Instr × Nat) := [(0, .aload_n 0, 1), (1, .iload_n 1, 1), (2, .putfield 9, 3), (5, .aload_n 0, 1), (6, .iload_n 2, 1), (7, .putfield 15, 3), (10, .aload_n 0, 1), (11, .iload_n 3, 1), (12, .putfield 18, 3), (15, .return_, 1)]
def Y_Meth_setRules : ax_Y := (⟨"MethodWarden$Method", "setRules", "(III)V"⟩, prog_7_method_2_code, 4, none, tb_Meth_setRules)
theorem yok_Meth_setRules : yOK Y_Meth_setRules := ⟨by decide +kernel, by decide +kernel, inWG 783 (by decide +kernel) (by decide +kernel), inWG 105 (by decide +kernel) (by decide +kernel), by decide +kernel⟩
theorem fl_Meth_9 : fldOK "MethodWarden$Method" 9 9 0 false := ⟨_, _, _, cls_Meth, by decide, by decide, rfl, Or.inl (inWG 339 (by decide +kernel) (by decide +kernel))⟩
theorem fl_Meth_15 : fldOK "MethodWarden$Method" 15 9 1 false := ⟨_, _, _, cls_Meth, by decide, by decide, rfl, Or.inl (inWG 341 (by decide +kernel) (by decide +kernel))⟩
theorem fl_Meth_18 : fldOK "MethodWarden$Method" 18 9 2 false := ⟨_, _, _, cls_Meth, by decide, by decide, rfl, Or.inl (inWG 343 (by decide +kernel) (by decide +kernel))⟩
def f_Meth_setRules (t0 : Nat) (a1 : Int32) (a2 : Int32) (a3 : Int32) (M : ax_M) : Option (Unit × ax_M) :=
  gk t0 9 (kM (mI M t0 0 a1) (fun M2 => kM (mI M2 t0 1 a2) (fun M3 => kM (mI M3 t0 2 a3) (fun M4 => some ((), M4)))))
set_option maxHeartbeats 4000000 in
set_option maxRecDepth 100000 in
theorem c_Meth_setRules {l : Launch} {g : ax_G} {t0 : Nat} {a1 : Int32} {a2 : Int32} {a3 : Int32} {M : ax_M} {r : Unit} {M' : ax_M} (h : f_Meth_setRules t0 a1 a2 a3 M = some (r, M')) : Ctr l g true Y_Meth_setRules 1 [vA t0, vI a1, vI a2, vI a3] M (none, M') := by
  refine Ctr.ofAW yok_Meth_setRules (Nat.le_of_ble_eq_true rfl) (Or.inl rfl) ?_
  show AW l g true Y_Meth_setRules 1 (none, M') 0 [(0, vA t0), (1, vI a1), (2, vI a2), (3, vI a3)] [] M
  unfold f_Meth_setRules at h
  refine A_aload_n 0 rfl rfl rfl ?_
  refine A_iload_n 1 rfl rfl rfl ?_
  obtain ⟨hg1, h⟩ := gk_out h
  refine A_putI rfl (Or.inl fl_Meth_9) rfl hg1 (Or.inl rfl) rfl ?_
  obtain ⟨M2, hM2, h⟩ := kM_out h
  refine A_mem hM2 ?_
  refine A_aload_n 0 rfl rfl rfl ?_
  refine A_iload_n 2 rfl rfl rfl ?_
  refine A_pc (pc' := 7) rfl ?_
  refine A_putI rfl (Or.inl fl_Meth_15) rfl hg1 (Or.inl rfl) rfl ?_
  obtain ⟨M3, hM3, h⟩ := kM_out h
  refine A_mem hM3 ?_
  refine A_aload_n 0 rfl rfl rfl ?_
  refine A_iload_n 3 rfl rfl rfl ?_
  refine A_putI rfl (Or.inl fl_Meth_18) rfl hg1 (Or.inl rfl) rfl ?_
  obtain ⟨M4, hM4, h⟩ := kM_out h
  refine A_mem hM4 ?_
  obtain ⟨rfl, rfl⟩ := leaf h
  exact A_vret rfl rfl
def tb_Meth_hasRule : List (Nat × Instr × Nat) := [(0, .aload_n 0, 1), (1, .getfield 9, 3), (4, .iconst (-1), 1), (5, .if_icmp .ne 19, 3), (8, .aload_n 0, 1), (9, .getfield 15, 3), (12, .iconst (-1), 1), (13, .if_icmp .ne 11, 3), (16, .aload_n 0, 1), (17, .getfield 18, 3), (20, .iconst (-1), 1), (21, .if_icmp .eq 7, 3), (24, .iconst 1, 1), (25, .goto 4, 3), (28, .iconst 0, 1), (29, .ireturn, 1)]
def Y_Meth_hasRule : ax_Y := (⟨"MethodWarden$Method", "hasRule", "()Z"⟩, prog_7_method_3_code, 1, some .boolean, tb_Meth_hasRule)
theorem yok_Meth_hasRule : yOK Y_Meth_hasRule := ⟨by decide +kernel, by decide +kernel, inWG 832 (by decide +kernel) (by decide +kernel), inWG 105 (by decide +kernel) (by decide +kernel), by decide +kernel⟩
def f_Meth_hasRule (t0 : Nat) (M : ax_M) : Option (Int32 × ax_M) :=
  gk t0 9 (if (gI M t0 0) = ((-1)) then (if (gI M t0 1) = ((-1)) then (if (gI M t0 2) = ((-1)) then (some (0, M)) else (some (1, M))) else (some (1, M))) else (some (1, M)))
set_option maxHeartbeats 4000000 in
set_option maxRecDepth 100000 in
theorem c_Meth_hasRule {l : Launch} {g : ax_G} {t0 : Nat} {M : ax_M} {r : Int32} {M' : ax_M} (h : f_Meth_hasRule t0 M = some (r, M')) : Ctr l g true Y_Meth_hasRule 1 [vA t0] M (some (vI r), M') := by
  refine Ctr.ofAW yok_Meth_hasRule (Nat.le_of_ble_eq_true rfl) (Or.inl rfl) ?_
  show AW l g true Y_Meth_hasRule 1 (some (vI r), M') 0 [(0, vA t0)] [] M
  unfold f_Meth_hasRule at h
  refine A_aload_n 0 rfl rfl rfl ?_
  obtain ⟨hg1, h⟩ := gk_out h
  refine A_getI rfl fl_Meth_9 rfl hg1 (Or.inl rfl) ?_
  refine A_iconst (v := (-1)) rfl (by decide) ?_
  refine A_icmp_ne (tgt := 24) rfl (by decide) (fun hc2 => ?_) (fun hc2 => ?_)
  · rw [if_neg hc2] at h
    refine A_iconst (v := 1) rfl (by decide) ?_
    refine A_goto (tgt := 29) rfl (by decide) ?_
    obtain ⟨rfl, rfl⟩ := leaf h
    exact A_zret rfl rfl (Or.inr rfl)
  · rw [if_pos hc2] at h
    refine A_pc (pc' := 8) rfl ?_
    refine A_aload_n 0 rfl rfl rfl ?_
    refine A_getI rfl fl_Meth_15 rfl hg1 (Or.inl rfl) ?_
    refine A_iconst (v := (-1)) rfl (by decide) ?_
    refine A_icmp_ne (tgt := 24) rfl (by decide) (fun hc3 => ?_) (fun hc3 => ?_)
    · rw [if_neg hc3] at h
      refine A_iconst (v := 1) rfl (by decide) ?_
      refine A_goto (tgt := 29) rfl (by decide) ?_
      obtain ⟨rfl, rfl⟩ := leaf h
      exact A_zret rfl rfl (Or.inr rfl)
    · rw [if_pos hc3] at h
      refine A_pc (pc' := 16) rfl ?_
      refine A_aload_n 0 rfl rfl rfl ?_
      refine A_getI rfl fl_Meth_18 rfl hg1 (Or.inl rfl) ?_
      refine A_iconst (v := (-1)) rfl (by decide) ?_
      refine A_icmp_eq (tgt := 28) rfl (by decide) (fun hc4 => ?_) (fun hc4 => ?_)
      · rw [if_pos hc4] at h
        refine A_iconst (v := 0) rfl (by decide) ?_
        obtain ⟨rfl, rfl⟩ := leaf h
        exact A_zret rfl rfl (Or.inl rfl)
      · rw [if_neg hc4] at h
        refine A_pc (pc' := 24) rfl ?_
        refine A_iconst (v := 1) rfl (by decide) ?_
        refine A_goto (tgt := 29) rfl (by decide) ?_
        obtain ⟨rfl, rfl⟩ := leaf h
        exact A_zret rfl rfl (Or.inr rfl)
def tb_Meth_setTarget : List (Nat × Instr × Nat) := [(0, .aload_n 0, 1), (1, .iload_n 1, 1), (2, .putfield 21, 3), (5, .aload_n 0, 1), (6, .iload_n 2, 1), (7, .putfield 28, 3), (10, .aload_n 0, 1), (11, .iload_n 3, 1), (12, .putfield 31, 3), (15, .return_, 1)]
def Y_Meth_setTarget : ax_Y := (⟨"MethodWarden$Method", "setTarget", "(III)V"⟩, prog_7_method_4_code, 4, none, tb_Meth_setTarget)
theorem yok_Meth_setTarget : yOK Y_Meth_setTarget := ⟨by decide +kernel, by decide +kernel, inWG 794 (by decide +kernel) (by decide +kernel), inWG 105 (by decide +kernel) (by decide +kernel), by decide +kernel⟩
theorem fl_Meth_21 : fldOK "MethodWarden$Method" 21 9 3 false := ⟨_, _, _, cls_Meth, by decide, by decide, rfl, Or.inl (inWG 345 (by decide +kernel) (by decide +kernel))⟩
theorem fl_Meth_28 : fldOK "MethodWarden$Method" 28 9 4 false := ⟨_, _, _, cls_Meth, by decide, by decide, rfl, Or.inl (inWG 347 (by decide +kernel) (by decide +kernel))⟩
theorem fl_Meth_31 : fldOK "MethodWarden$Method" 31 9 5 false := ⟨_, _, _, cls_Meth, by decide, by decide, rfl, Or.inl (inWG 349 (by decide +kernel) (by decide +kernel))⟩
def f_Meth_setTarget (t0 : Nat) (a1 : Int32) (a2 : Int32) (a3 : Int32) (M : ax_M) : Option (Unit × ax_M) :=
  gk t0 9 (kM (mI M t0 3 a1) (fun M2 => kM (mI M2 t0 4 a2) (fun M3 => kM (mI M3 t0 5 a3) (fun M4 => some ((), M4)))))
set_option maxHeartbeats 4000000 in
set_option maxRecDepth 100000 in
theorem c_Meth_setTarget {l : Launch} {g : ax_G} {t0 : Nat} {a1 : Int32} {a2 : Int32} {a3 : Int32} {M : ax_M} {r : Unit} {M' : ax_M} (h : f_Meth_setTarget t0 a1 a2 a3 M = some (r, M')) : Ctr l g true Y_Meth_setTarget 1 [vA t0, vI a1, vI a2, vI a3] M (none, M') := by
  refine Ctr.ofAW yok_Meth_setTarget (Nat.le_of_ble_eq_true rfl) (Or.inl rfl) ?_
  show AW l g true Y_Meth_setTarget 1 (none, M') 0 [(0, vA t0), (1, vI a1), (2, vI a2), (3, vI a3)] [] M
  unfold f_Meth_setTarget at h
  refine A_aload_n 0 rfl rfl rfl ?_
  refine A_iload_n 1 rfl rfl rfl ?_
  obtain ⟨hg1, h⟩ := gk_out h
  refine A_putI rfl (Or.inl fl_Meth_21) rfl hg1 (Or.inl rfl) rfl ?_
  obtain ⟨M2, hM2, h⟩ := kM_out h
  refine A_mem hM2 ?_
  refine A_aload_n 0 rfl rfl rfl ?_
  refine A_iload_n 2 rfl rfl rfl ?_
  refine A_pc (pc' := 7) rfl ?_
  refine A_putI rfl (Or.inl fl_Meth_28) rfl hg1 (Or.inl rfl) rfl ?_
  obtain ⟨M3, hM3, h⟩ := kM_out h
  refine A_mem hM3 ?_
  refine A_aload_n 0 rfl rfl rfl ?_
  refine A_iload_n 3 rfl rfl rfl ?_
  refine A_putI rfl (Or.inl fl_Meth_31) rfl hg1 (Or.inl rfl) rfl ?_
  obtain ⟨M4, hM4, h⟩ := kM_out h
  refine A_mem hM4 ?_
  obtain ⟨rfl, rfl⟩ := leaf h
  exact A_vret rfl rfl
def tb_Meth_note : List (Nat × Instr × Nat) := [(0, .iload_n 1, 1), (1, .ifCond .lt 19, 3), (4, .iload_n 1, 1), (5, .bipush 6, 2), (7, .if_icmp .ge 13, 3), (10, .aload_n 0, 1), (11, .getfield 24, 3), (14, .iload_n 1, 1), (15, .dup2, 1), (16, .iaload, 1), (17, .iconst 1, 1), (18, .iadd, 1), (19, .iastore, 1), (20, .return_, 1)]
def Y_Meth_note : ax_Y := (⟨"MethodWarden$Method", "note", "(I)V"⟩, prog_7_method_5_code, 2, none, tb_Meth_note)
theorem yok_Meth_note : yOK Y_Meth_note := ⟨by decide +kernel, by decide +kernel, inWG 997 (by decide +kernel) (by decide +kernel), inWG 105 (by decide +kernel) (by decide +kernel), by decide +kernel⟩
theorem fl_Meth_24 : fldOK "MethodWarden$Method" 24 9 6 true := ⟨_, _, _, cls_Meth, by decide, by decide, rfl, Or.inl (inWG 351 (by decide +kernel) (by decide +kernel))⟩
def f_Meth_note (t0 : Nat) (a1 : Int32) (M : ax_M) : Option (Unit × ax_M) :=
  if a1 < 0 then (some ((), M)) else (if 6 ≤ a1 then (some ((), M)) else (gk t0 9 (gi a1 6 (kM (mI M (t0 + 1) a1.toNatClampNeg ((gI M (t0 + 1) a1.toNatClampNeg) + 1)) (fun M5 => some ((), M5))))))
set_option maxHeartbeats 4000000 in
set_option maxRecDepth 100000 in
theorem c_Meth_note {l : Launch} {g : ax_G} {t0 : Nat} {a1 : Int32} {M : ax_M} {r : Unit} {M' : ax_M} (h : f_Meth_note t0 a1 M = some (r, M')) : Ctr l g true Y_Meth_note 1 [vA t0, vI a1] M (none, M') := by
  refine Ctr.ofAW yok_Meth_note (Nat.le_of_ble_eq_true rfl) (Or.inl rfl) ?_
  show AW l g true Y_Meth_note 1 (none, M') 0 [(0, vA t0), (1, vI a1)] [] M
  unfold f_Meth_note at h
  refine A_iload_n 1 rfl rfl rfl ?_
  refine A_if_lt (tgt := 20) rfl (by decide) (fun hc1 => ?_) (fun hc1 => ?_)
  · rw [if_pos hc1] at h
    obtain ⟨rfl, rfl⟩ := leaf h
    exact A_vret rfl rfl
  · rw [if_neg hc1] at h
    refine A_pc (pc' := 4) rfl ?_
    refine A_iload_n 1 rfl rfl rfl ?_
    refine A_bipush (v := 6) rfl (by decide) ?_
    refine A_icmp_ge (tgt := 20) rfl (by decide) (fun hc2 => ?_) (fun hc2 => ?_)
    · rw [if_pos hc2] at h
      obtain ⟨rfl, rfl⟩ := leaf h
      exact A_vret rfl rfl
    · rw [if_neg hc2] at h
      refine A_pc (pc' := 10) rfl ?_
      refine A_aload_n 0 rfl rfl rfl ?_
      obtain ⟨hg3, h⟩ := gk_out h
      refine A_getL (r := t0 + 1) rfl fl_Meth_24 rfl hg3 rfl rfl ?_
      refine A_iload_n 1 rfl rfl rfl ?_
      refine A_dup2 rfl rfl rfl ?_
      obtain ⟨hg4, h⟩ := gi_out h
      refine A_iald (n := 6) rfl (lf_Meth_1 hg3).1 (lf_Meth_1 hg3).2 (Or.inl rfl) hg4 ?_
      refine A_pc (pc' := 17) rfl ?_
      refine A_iconst (v := 1) rfl (by decide) ?_
      refine A_iadd rfl ?_
      refine A_iast (n := 6) rfl (lf_Meth_1 hg3).1 (lf_Meth_1 hg3).2 (Or.inl rfl) hg4 ?_
      obtain ⟨M5, hM5, h⟩ := kM_out h
      refine A_mem hM5 ?_
      obtain ⟨rfl, rfl⟩ := leaf h
      exact A_vret rfl rfl
def tb_Meth_timesOf : List (Nat × Instr × Nat) := [(0, .iload_n 1, 1), (1, .ifCond .lt 18, 3), (4, .iload_n 1, 1), (5, .bipush 6, 2), (7, .if_icmp .ge 12, 3), (10, .aload_n 0, 1), (11, .getfield 24, 3), (14, .iload_n 1, 1), (15, .iaload, 1), (16, .goto 4, 3), (19, .iconst 0, 1), (20, .ireturn, 1)]
def Y_Meth_timesOf : ax_Y := (⟨"MethodWarden$Method", "timesOf", "(I)I"⟩, prog_7_method_6_code, 2, some .int, tb_Meth_timesOf)
theorem yok_Meth_timesOf : yOK Y_Meth_timesOf := ⟨by decide +kernel, by decide +kernel, inWG 1068 (by decide +kernel) (by decide +kernel), inWG 105 (by decide +kernel) (by decide +kernel), by decide +kernel⟩
def f_Meth_timesOf (t0 : Nat) (a1 : Int32) (M : ax_M) : Option (Int32 × ax_M) :=
  if a1 < 0 then (some (0, M)) else (if 6 ≤ a1 then (some (0, M)) else (gk t0 9 (gi a1 6 (some (gI M (t0 + 1) a1.toNatClampNeg, M)))))
set_option maxHeartbeats 4000000 in
set_option maxRecDepth 100000 in
theorem c_Meth_timesOf {l : Launch} {g : ax_G} {t0 : Nat} {a1 : Int32} {M : ax_M} {r : Int32} {M' : ax_M} (h : f_Meth_timesOf t0 a1 M = some (r, M')) : Ctr l g true Y_Meth_timesOf 1 [vA t0, vI a1] M (some (vI r), M') := by
  refine Ctr.ofAW yok_Meth_timesOf (Nat.le_of_ble_eq_true rfl) (Or.inl rfl) ?_
  show AW l g true Y_Meth_timesOf 1 (some (vI r), M') 0 [(0, vA t0), (1, vI a1)] [] M
  unfold f_Meth_timesOf at h
  refine A_iload_n 1 rfl rfl rfl ?_
  refine A_if_lt (tgt := 19) rfl (by decide) (fun hc1 => ?_) (fun hc1 => ?_)
  · rw [if_pos hc1] at h
    refine A_iconst (v := 0) rfl (by decide) ?_
    obtain ⟨rfl, rfl⟩ := leaf h
    exact A_iret rfl rfl
  · rw [if_neg hc1] at h
    refine A_pc (pc' := 4) rfl ?_
    refine A_iload_n 1 rfl rfl rfl ?_
    refine A_bipush (v := 6) rfl (by decide) ?_
    refine A_icmp_ge (tgt := 19) rfl (by decide) (fun hc2 => ?_) (fun hc2 => ?_)
    · rw [if_pos hc2] at h
      refine A_iconst (v := 0) rfl (by decide) ?_
      obtain ⟨rfl, rfl⟩ := leaf h
      exact A_iret rfl rfl
    · rw [if_neg hc2] at h
      refine A_pc (pc' := 10) rfl ?_
      refine A_aload_n 0 rfl rfl rfl ?_
      obtain ⟨hg3, h⟩ := gk_out h
      refine A_getL (r := t0 + 1) rfl fl_Meth_24 rfl hg3 rfl rfl ?_
      refine A_iload_n 1 rfl rfl rfl ?_
      obtain ⟨hg4, h⟩ := gi_out h
      refine A_iald (n := 6) rfl (lf_Meth_1 hg3).1 (lf_Meth_1 hg3).2 (Or.inl rfl) hg4 ?_
      refine A_goto (tgt := 20) rfl (by decide) ?_
      refine A_pc (pc' := 20) rfl ?_
      obtain ⟨rfl, rfl⟩ := leaf h
      exact A_iret rfl rfl
