/-! Items. Printed by gen_methods.py. -/
def tb_Items_append : List (Nat × Instr × Nat) := [(0, .aload_n 0, 1), (1, .getfield 15, 3), (4, .iconst 5, 1), (5, .if_icmp .lt 5, 3), (8, .iconst 0, 1), (9, .ireturn, 1), (10, .aload_n 0, 1), (11, .getfield 9, 3), (14, .aload_n 0, 1), (15, .getfield 15, 3), (18, .iload_n 1, 1), (19, .iastore, 1), (20, .aload_n 0, 1), (21, .dup, 1), (22, .getfield 15, 3), (25, .iconst 1, 1), (26, .iadd, 1), (27, .putfield 15, 3), (30, .iconst 1, 1), (31, .ireturn, 1)]
def Y_Items_append : ax_Y := (⟨"MethodWarden$Items", "append", "(I)Z"⟩, prog_6_method_2_code, 2, some .boolean, tb_Items_append)
theorem yok_Items_append : yOK Y_Items_append := ⟨by decide +kernel, by decide +kernel, inWG 736 (by decide +kernel) (by decide +kernel), inWG 101 (by decide +kernel) (by decide +kernel), by decide +kernel⟩
theorem fl_Items_15 : fldOK "MethodWarden$Items" 15 5 1 false := ⟨_, _, _, cls_Items, by decide, by decide, rfl, Or.inl (inWG 246 (by decide +kernel) (by decide +kernel))⟩
theorem fl_Items_9 : fldOK "MethodWarden$Items" 9 5 0 true := ⟨_, _, _, cls_Items, by decide, by decide, rfl, Or.inl (inWG 245 (by decide +kernel) (by decide +kernel))⟩
def f_Items_append (t0 : Nat) (a1 : Int32) (M : ax_M) : Option (Int32 × ax_M) :=
  gk t0 5 (if (gI M t0 1) < 5 then (gi (gI M t0 1) 5 (kM (mI M (t0 + 1) (gI M t0 1).toNatClampNeg a1) (fun M4 => kM (mI M4 t0 1 ((gI M4 t0 1) + 1)) (fun M5 => some (1, M5))))) else (some (0, M)))
set_option maxHeartbeats 4000000 in
set_option maxRecDepth 100000 in
theorem c_Items_append {l : Launch} {g : ax_G} {t0 : Nat} {a1 : Int32} {M : ax_M} {r : Int32} {M' : ax_M} (h : f_Items_append t0 a1 M = some (r, M')) : Ctr l g true Y_Items_append 1 [vA t0, vI a1] M (some (vI r), M') := by
  refine Ctr.ofAW yok_Items_append (Nat.le_of_ble_eq_true rfl) (Or.inl rfl) ?_
  show AW l g true Y_Items_append 1 (some (vI r), M') 0 [(0, vA t0), (1, vI a1)] [] M
  unfold f_Items_append at h
  refine A_aload_n 0 rfl rfl rfl ?_
  obtain ⟨hg1, h⟩ := gk_out h
  refine A_getI rfl fl_Items_15 rfl hg1 (Or.inl rfl) ?_
  refine A_iconst (v := 5) rfl (by decide) ?_
  refine A_icmp_lt (tgt := 10) rfl (by decide) (fun hc2 => ?_) (fun hc2 => ?_)
  · rw [if_pos hc2] at h
    refine A_aload_n 0 rfl rfl rfl ?_
    refine A_getL (r := t0 + 1) rfl fl_Items_9 rfl hg1 rfl rfl ?_
    refine A_aload_n 0 rfl rfl rfl ?_
    refine A_getI rfl fl_Items_15 rfl hg1 (Or.inl rfl) ?_
    refine A_iload_n 1 rfl rfl rfl ?_
    refine A_pc (pc' := 19) rfl ?_
    obtain ⟨hg3, h⟩ := gi_out h
    refine A_iast (n := 5) rfl (lf_Items_1 hg1).1 (lf_Items_1 hg1).2 (Or.inl rfl) hg3 ?_
    obtain ⟨M4, hM4, h⟩ := kM_out h
    refine A_mem hM4 ?_
    refine A_aload_n 0 rfl rfl rfl ?_
    refine A_dup rfl rfl ?_
    refine A_getI rfl fl_Items_15 rfl hg1 (Or.inl rfl) ?_
    refine A_iconst (v := 1) rfl (by decide) ?_
    refine A_iadd rfl ?_
    refine A_pc (pc' := 27) rfl ?_
    refine A_putI rfl (Or.inl fl_Items_15) rfl hg1 (Or.inl rfl) rfl ?_
    obtain ⟨M5, hM5, h⟩ := kM_out h
    refine A_mem hM5 ?_
    refine A_iconst (v := 1) rfl (by decide) ?_
    obtain ⟨rfl, rfl⟩ := leaf h
    exact A_zret rfl rfl (Or.inr rfl)
  · rw [if_neg hc2] at h
    refine A_pc (pc' := 8) rfl ?_
    refine A_iconst (v := 0) rfl (by decide) ?_
    obtain ⟨rfl, rfl⟩ := leaf h
    exact A_zret rfl rfl (Or.inl rfl)
def tb_Items_clear : List (Nat × Instr × Nat) := [(0, .aload_n 0, 1), (1, .iconst 0, 1), (2, .putfield 15, 3), (5, .return_, 1)]
def Y_Items_clear : ax_Y := (⟨"MethodWarden$Items", "clear", "()V"⟩, prog_6_method_3_code, 1, none, tb_Items_clear)
theorem yok_Items_clear : yOK Y_Items_clear := ⟨by decide +kernel, by decide +kernel, inWG 744 (by decide +kernel) (by decide +kernel), inWG 101 (by decide +kernel) (by decide +kernel), by decide +kernel⟩
def f_Items_clear (t0 : Nat) (M : ax_M) : Option (Unit × ax_M) :=
  gk t0 5 (kM (mI M t0 1 0) (fun M2 => some ((), M2)))
set_option maxHeartbeats 4000000 in
set_option maxRecDepth 100000 in
theorem c_Items_clear {l : Launch} {g : ax_G} {t0 : Nat} {M : ax_M} {r : Unit} {M' : ax_M} (h : f_Items_clear t0 M = some (r, M')) : Ctr l g true Y_Items_clear 1 [vA t0] M (none, M') := by
  refine Ctr.ofAW yok_Items_clear (Nat.le_of_ble_eq_true rfl) (Or.inl rfl) ?_
  show AW l g true Y_Items_clear 1 (none, M') 0 [(0, vA t0)] [] M
  unfold f_Items_clear at h
  refine A_aload_n 0 rfl rfl rfl ?_
  refine A_iconst (v := 0) rfl (by decide) ?_
  obtain ⟨hg1, h⟩ := gk_out h
  refine A_putI rfl (Or.inl fl_Items_15) rfl hg1 (Or.inl rfl) rfl ?_
  obtain ⟨M2, hM2, h⟩ := kM_out h
  refine A_mem hM2 ?_
  obtain ⟨rfl, rfl⟩ := leaf h
  exact A_vret rfl rfl
def tb_Items_copyFrom : List (Nat × Instr × Nat) := [(0, .aload_n 0, 1), (1, .aload_n 1, 1), (2, .getfield 15, 3), (5, .putfield 15, 3), (8, .iconst 0, 1), (9, .istore_n 2, 1), (10, .iload_n 2, 1), (11, .aload_n 0, 1), (12, .getfield 15, 3), (15, .if_icmp .ge 21, 3), (18, .aload_n 0, 1), (19, .getfield 9, 3), (22, .iload_n 2, 1), (23, .aload_n 1, 1), (24, .getfield 9, 3), (27, .iload_n 2, 1), (28, .iaload, 1), (29, .iastore, 1), (30, .iinc 2 1, 3), (33, .goto (-23), 3), (36, .return_, 1)]
def Y_Items_copyFrom : ax_Y := (⟨"MethodWarden$Items", "copyFrom", "(LMethodWarden$Items;)V"⟩, prog_6_method_4_code, 3, none, tb_Items_copyFrom)
theorem yok_Items_copyFrom : yOK Y_Items_copyFrom := ⟨by decide +kernel, by decide +kernel, inWG 810 (by decide +kernel) (by decide +kernel), inWG 101 (by decide +kernel) (by decide +kernel), by decide +kernel⟩
def f_Items_copyFrom_10_b (K10 : Nat → Nat → Int32 → ax_M → Option (Unit × ax_M)) (l0 : Nat) (l1 : Nat) (l2 : Int32) (M : ax_M) : Option (Unit × ax_M) :=
  gk l0 5 (if (gI M l0 1) ≤ l2 then (some ((), M)) else (gk l1 5 (gi l2 5 (kM (mI M (l0 + 1) l2.toNatClampNeg (gI M (l1 + 1) l2.toNatClampNeg)) (fun M8 => kM (l2 + 1) (fun x9 => K10 l0 l1 x9 M8))))))
def f_Items_copyFrom_10 : Nat → Nat → Nat → Int32 → ax_M → Option (Unit × ax_M)
  | 0, _, _, _, _ => none
  | n + 1, l0, l1, l2, M => f_Items_copyFrom_10_b  (f_Items_copyFrom_10 n) l0 l1 l2 M
set_option maxHeartbeats 4000000 in
set_option maxRecDepth 100000 in
theorem o_Items_copyFrom_10_b {l : Launch} {g : ax_G} (K10 : Nat → Nat → Int32 → ax_M → Option (Unit × ax_M)) (hK10 : ∀ (l0 : Nat) (l1 : Nat) (l2 : Int32) (M : ax_M) (r : Unit) (M' : ax_M), K10 l0 l1 l2 M = some (r, M') → AW l g true Y_Items_copyFrom 1 (none, M') 10 [(0, vA l0), (1, vA l1), (2, vI l2)] [] M) (l0 : Nat) (l1 : Nat) (l2 : Int32) (M : ax_M) (r : Unit) (M' : ax_M) (h : f_Items_copyFrom_10_b  K10 l0 l1 l2 M = some (r, M')) : AW l g true Y_Items_copyFrom 1 (none, M') 10 [(0, vA l0), (1, vA l1), (2, vI l2)] [] M := by
  unfold f_Items_copyFrom_10_b at h
  refine A_iload_n 2 rfl rfl rfl ?_
  refine A_aload_n 0 rfl rfl rfl ?_
  obtain ⟨hg4, h⟩ := gk_out h
  refine A_getI rfl fl_Items_15 rfl hg4 (Or.inl rfl) ?_
  refine A_icmp_ge (tgt := 36) rfl (by decide) (fun hc5 => ?_) (fun hc5 => ?_)
  · rw [if_pos hc5] at h
    obtain ⟨rfl, rfl⟩ := leaf h
    exact A_vret rfl rfl
  · rw [if_neg hc5] at h
    refine A_pc (pc' := 18) rfl ?_
    refine A_aload_n 0 rfl rfl rfl ?_
    refine A_getL (r := l0 + 1) rfl fl_Items_9 rfl hg4 rfl rfl ?_
    refine A_iload_n 2 rfl rfl rfl ?_
    refine A_aload_n 1 rfl rfl rfl ?_
    obtain ⟨hg6, h⟩ := gk_out h
    refine A_getL (r := l1 + 1) rfl fl_Items_9 rfl hg6 rfl rfl ?_
    refine A_pc (pc' := 27) rfl ?_
    refine A_iload_n 2 rfl rfl rfl ?_
    obtain ⟨hg7, h⟩ := gi_out h
    refine A_iald (n := 5) rfl (lf_Items_1 hg6).1 (lf_Items_1 hg6).2 (Or.inl rfl) hg7 ?_
    refine A_iast (n := 5) rfl (lf_Items_1 hg4).1 (lf_Items_1 hg4).2 (Or.inl rfl) hg7 ?_
    obtain ⟨M8, hM8, h⟩ := kM_out h
    refine A_mem hM8 ?_
    obtain ⟨x9, hx9, h⟩ := kM_out h
    refine A_iinc 2 (v := x9) (Ls' := [(2, vI x9), (0, vA l0), (1, vA l1)]) rfl rfl ((iiN (k := 1) (by decide) _).trans hx9) (by decide) rfl ?_
    refine A_goto (tgt := 10) rfl (by decide) ?_
    refine A_pc (pc' := 10) rfl ?_
    refine A_sub (Ls' := [(0, vA l0), (1, vA l1), (2, vI x9)]) [1, 2, 0] rfl ?_
    exact hK10 _ _ _ _ _ _ h
theorem o_Items_copyFrom_10 {l : Launch} {g : ax_G} : ∀ (n : Nat) (l0 : Nat) (l1 : Nat) (l2 : Int32) (M : ax_M) (r : Unit) (M' : ax_M), f_Items_copyFrom_10  n l0 l1 l2 M = some (r, M') → AW l g true Y_Items_copyFrom 1 (none, M') 10 [(0, vA l0), (1, vA l1), (2, vI l2)] [] M := by
  intro n
  induction n with
  | zero =>
    intro l0 l1 l2 M r M' h
    cases h
  | succ n ih =>
    intro l0 l1 l2 M r M' h
    exact o_Items_copyFrom_10_b  _ ih _ _ _ _ _ _ h
def f_Items_copyFrom (t0 : Nat) (a1 : Nat) (M : ax_M) : Option (Unit × ax_M) :=
  gk a1 5 (gk t0 5 (kM (mI M t0 1 (gI M a1 1)) (fun M3 => f_Items_copyFrom_10 64 t0 a1 0 M3)))
set_option maxHeartbeats 4000000 in
set_option maxRecDepth 100000 in
theorem c_Items_copyFrom {l : Launch} {g : ax_G} {t0 : Nat} {a1 : Nat} {M : ax_M} {r : Unit} {M' : ax_M} (h : f_Items_copyFrom t0 a1 M = some (r, M')) : Ctr l g true Y_Items_copyFrom 1 [vA t0, vA a1] M (none, M') := by
  refine Ctr.ofAW yok_Items_copyFrom (Nat.le_of_ble_eq_true rfl) (Or.inl rfl) ?_
  show AW l g true Y_Items_copyFrom 1 (none, M') 0 [(0, vA t0), (1, vA a1)] [] M
  unfold f_Items_copyFrom at h
  refine A_aload_n 0 rfl rfl rfl ?_
  refine A_aload_n 1 rfl rfl rfl ?_
  obtain ⟨hg1, h⟩ := gk_out h
  refine A_getI rfl fl_Items_15 rfl hg1 (Or.inl rfl) ?_
  obtain ⟨hg2, h⟩ := gk_out h
  refine A_putI rfl (Or.inl fl_Items_15) rfl hg2 (Or.inl rfl) rfl ?_
  obtain ⟨M3, hM3, h⟩ := kM_out h
  refine A_mem hM3 ?_
  refine A_iconst (v := 0) rfl (by decide) ?_
  refine A_pc (pc' := 9) rfl ?_
  refine A_istore_n (Ls' := [(2, vI 0), (0, vA t0), (1, vA a1)]) rfl rfl (by decide) rfl ?_
  refine A_pc (pc' := 10) rfl ?_
  refine A_sub (Ls' := [(0, vA t0), (1, vA a1), (2, vI 0)]) [1, 2, 0] rfl ?_
  exact o_Items_copyFrom_10  _ _ _ _ _ _ _ h
def tb_Items_has : List (Nat × Instr × Nat) := [(0, .lload_n 1, 1), (1, .lconst 0, 1), (2, .lcmp, 1), (3, .ifCond .lt 17, 3), (6, .lload_n 1, 1), (7, .aload_n 0, 1), (8, .getfield 15, 3), (11, .i2l, 1), (12, .lcmp, 1), (13, .ifCond .ge 7, 3), (16, .iconst 1, 1), (17, .goto 4, 3), (20, .iconst 0, 1), (21, .ireturn, 1)]
def Y_Items_has : ax_Y := (⟨"MethodWarden$Items", "has", "(J)Z"⟩, prog_6_method_5_code, 3, some .boolean, tb_Items_has)
theorem yok_Items_has : yOK Y_Items_has := ⟨by decide +kernel, by decide +kernel, inWG 974 (by decide +kernel) (by decide +kernel), inWG 101 (by decide +kernel) (by decide +kernel), by decide +kernel⟩
def f_Items_has (t0 : Nat) (a1 : Int64) (M : ax_M) : Option (Int32 × ax_M) :=
  if (lg_cmp a1 0) < 0 then (some (0, M)) else (gk t0 5 (if 0 ≤ (lg_cmp a1 (Int32.toInt64 (gI M t0 1))) then (some (0, M)) else (some (1, M))))
set_option maxHeartbeats 4000000 in
set_option maxRecDepth 100000 in
theorem c_Items_has {l : Launch} {g : ax_G} {t0 : Nat} {a1 : Int64} {M : ax_M} {r : Int32} {M' : ax_M} (h : f_Items_has t0 a1 M = some (r, M')) : Ctr l g true Y_Items_has 1 [vA t0, vJ a1] M (some (vI r), M') := by
  refine Ctr.ofAW yok_Items_has (Nat.le_of_ble_eq_true rfl) (Or.inl rfl) ?_
  show AW l g true Y_Items_has 1 (some (vI r), M') 0 [(0, vA t0), (1, vJ a1)] [] M
  unfold f_Items_has at h
  refine A_lload_n 1 rfl rfl rfl ?_
  refine A_lconst (v := 0) rfl (by decide) ?_
  refine A_lcmp rfl ?_
  refine A_if_lt (tgt := 20) rfl (by decide) (fun hc1 => ?_) (fun hc1 => ?_)
  · rw [if_pos hc1] at h
    refine A_iconst (v := 0) rfl (by decide) ?_
    obtain ⟨rfl, rfl⟩ := leaf h
    exact A_zret rfl rfl (Or.inl rfl)
  · rw [if_neg hc1] at h
    refine A_pc (pc' := 6) rfl ?_
    refine A_lload_n 1 rfl rfl rfl ?_
    refine A_aload_n 0 rfl rfl rfl ?_
    obtain ⟨hg2, h⟩ := gk_out h
    refine A_getI rfl fl_Items_15 rfl hg2 (Or.inl rfl) ?_
    refine A_i2l rfl ?_
    refine A_lcmp rfl ?_
    refine A_pc (pc' := 13) rfl ?_
    refine A_if_ge (tgt := 20) rfl (by decide) (fun hc3 => ?_) (fun hc3 => ?_)
    · rw [if_pos hc3] at h
      refine A_iconst (v := 0) rfl (by decide) ?_
      obtain ⟨rfl, rfl⟩ := leaf h
      exact A_zret rfl rfl (Or.inl rfl)
    · rw [if_neg hc3] at h
      refine A_pc (pc' := 16) rfl ?_
      refine A_iconst (v := 1) rfl (by decide) ?_
      refine A_goto (tgt := 21) rfl (by decide) ?_
      obtain ⟨rfl, rfl⟩ := leaf h
      exact A_zret rfl rfl (Or.inr rfl)
def tb_Items_get : List (Nat × Instr × Nat) := [(0, .iload_n 1, 1), (1, .ifCond .lt 20, 3), (4, .iload_n 1, 1), (5, .aload_n 0, 1), (6, .getfield 15, 3), (9, .if_icmp .ge 12, 3), (12, .aload_n 0, 1), (13, .getfield 9, 3), (16, .iload_n 1, 1), (17, .iaload, 1), (18, .goto 4, 3), (21, .iconst 0, 1), (22, .ireturn, 1)]
def Y_Items_get : ax_Y := (⟨"MethodWarden$Items", "get", "(I)I"⟩, prog_6_method_6_code, 2, some .int, tb_Items_get)
theorem yok_Items_get : yOK Y_Items_get := ⟨by decide +kernel, by decide +kernel, inWG 849 (by decide +kernel) (by decide +kernel), inWG 101 (by decide +kernel) (by decide +kernel), by decide +kernel⟩
def f_Items_get (t0 : Nat) (a1 : Int32) (M : ax_M) : Option (Int32 × ax_M) :=
  if a1 < 0 then (some (0, M)) else (gk t0 5 (if (gI M t0 1) ≤ a1 then (some (0, M)) else (gi a1 5 (some (gI M (t0 + 1) a1.toNatClampNeg, M)))))
set_option maxHeartbeats 4000000 in
set_option maxRecDepth 100000 in
theorem c_Items_get {l : Launch} {g : ax_G} {t0 : Nat} {a1 : Int32} {M : ax_M} {r : Int32} {M' : ax_M} (h : f_Items_get t0 a1 M = some (r, M')) : Ctr l g true Y_Items_get 1 [vA t0, vI a1] M (some (vI r), M') := by
  refine Ctr.ofAW yok_Items_get (Nat.le_of_ble_eq_true rfl) (Or.inl rfl) ?_
  show AW l g true Y_Items_get 1 (some (vI r), M') 0 [(0, vA t0), (1, vI a1)] [] M
  unfold f_Items_get at h
  refine A_iload_n 1 rfl rfl rfl ?_
  refine A_if_lt (tgt := 21) rfl (by decide) (fun hc1 => ?_) (fun hc1 => ?_)
  · rw [if_pos hc1] at h
    refine A_iconst (v := 0) rfl (by decide) ?_
    obtain ⟨rfl, rfl⟩ := leaf h
    exact A_iret rfl rfl
  · rw [if_neg hc1] at h
    refine A_pc (pc' := 4) rfl ?_
    refine A_iload_n 1 rfl rfl rfl ?_
    refine A_aload_n 0 rfl rfl rfl ?_
    obtain ⟨hg2, h⟩ := gk_out h
    refine A_getI rfl fl_Items_15 rfl hg2 (Or.inl rfl) ?_
    refine A_icmp_ge (tgt := 21) rfl (by decide) (fun hc3 => ?_) (fun hc3 => ?_)
    · rw [if_pos hc3] at h
      refine A_iconst (v := 0) rfl (by decide) ?_
      obtain ⟨rfl, rfl⟩ := leaf h
      exact A_iret rfl rfl
    · rw [if_neg hc3] at h
      refine A_pc (pc' := 12) rfl ?_
      refine A_aload_n 0 rfl rfl rfl ?_
      refine A_getL (r := t0 + 1) rfl fl_Items_9 rfl hg2 rfl rfl ?_
      refine A_iload_n 1 rfl rfl rfl ?_
      obtain ⟨hg4, h⟩ := gi_out h
      refine A_iald (n := 5) rfl (lf_Items_1 hg2).1 (lf_Items_1 hg2).2 (Or.inl rfl) hg4 ?_
      refine A_goto (tgt := 22) rfl (by decide) ?_
      refine A_pc (pc' := 22) rfl ?_
      obtain ⟨rfl, rfl⟩ := leaf h
      exact A_iret rfl rfl
def tb_Items_raiseEach : List (Nat × Instr × Nat) := [(0, .iconst 0, 1), (1, .istore_n 2, 1), (2, .iload_n 2, 1), (3, .aload_n 0, 1), (4, .getfield 15, 3), (7, .if_icmp .ge 19, 3), (10, .aload_n 0, 1), (11, .getfield 9, 3), (14, .iload_n 2, 1), (15, .dup2, 1), (16, .iaload, 1), (17, .iload_n 1, 1), (18, .iadd, 1), (19, .iastore, 1), (20, .iinc 2 1, 3), (23, .goto (-21), 3), (26, .return_, 1)]
def Y_Items_raiseEach : ax_Y := (⟨"MethodWarden$Items", "raiseEach", "(I)V"⟩, prog_6_method_7_code, 3, none, tb_Items_raiseEach)
theorem yok_Items_raiseEach : yOK Y_Items_raiseEach := ⟨by decide +kernel, by decide +kernel, inWG 1012 (by decide +kernel) (by decide +kernel), inWG 101 (by decide +kernel) (by decide +kernel), by decide +kernel⟩
def f_Items_raiseEach_2_b (K2 : Nat → Int32 → Int32 → ax_M → Option (Unit × ax_M)) (l0 : Nat) (l1 : Int32) (l2 : Int32) (M : ax_M) : Option (Unit × ax_M) :=
  gk l0 5 (if (gI M l0 1) ≤ l2 then (some ((), M)) else (gi l2 5 (kM (mI M (l0 + 1) l2.toNatClampNeg ((gI M (l0 + 1) l2.toNatClampNeg) + l1)) (fun M4 => kM (l2 + 1) (fun x5 => K2 l0 l1 x5 M4)))))
def f_Items_raiseEach_2 : Nat → Nat → Int32 → Int32 → ax_M → Option (Unit × ax_M)
  | 0, _, _, _, _ => none
  | n + 1, l0, l1, l2, M => f_Items_raiseEach_2_b  (f_Items_raiseEach_2 n) l0 l1 l2 M
set_option maxHeartbeats 4000000 in
set_option maxRecDepth 100000 in
theorem o_Items_raiseEach_2_b {l : Launch} {g : ax_G} (K2 : Nat → Int32 → Int32 → ax_M → Option (Unit × ax_M)) (hK2 : ∀ (l0 : Nat) (l1 : Int32) (l2 : Int32) (M : ax_M) (r : Unit) (M' : ax_M), K2 l0 l1 l2 M = some (r, M') → AW l g true Y_Items_raiseEach 1 (none, M') 2 [(0, vA l0), (1, vI l1), (2, vI l2)] [] M) (l0 : Nat) (l1 : Int32) (l2 : Int32) (M : ax_M) (r : Unit) (M' : ax_M) (h : f_Items_raiseEach_2_b  K2 l0 l1 l2 M = some (r, M')) : AW l g true Y_Items_raiseEach 1 (none, M') 2 [(0, vA l0), (1, vI l1), (2, vI l2)] [] M := by
  unfold f_Items_raiseEach_2_b at h
  refine A_iload_n 2 rfl rfl rfl ?_
  refine A_aload_n 0 rfl rfl rfl ?_
  obtain ⟨hg1, h⟩ := gk_out h
  refine A_getI rfl fl_Items_15 rfl hg1 (Or.inl rfl) ?_
  refine A_icmp_ge (tgt := 26) rfl (by decide) (fun hc2 => ?_) (fun hc2 => ?_)
  · rw [if_pos hc2] at h
    obtain ⟨rfl, rfl⟩ := leaf h
    exact A_vret rfl rfl
  · rw [if_neg hc2] at h
    refine A_pc (pc' := 10) rfl ?_
    refine A_aload_n 0 rfl rfl rfl ?_
    refine A_getL (r := l0 + 1) rfl fl_Items_9 rfl hg1 rfl rfl ?_
    refine A_iload_n 2 rfl rfl rfl ?_
    refine A_dup2 rfl rfl rfl ?_
    obtain ⟨hg3, h⟩ := gi_out h
    refine A_iald (n := 5) rfl (lf_Items_1 hg1).1 (lf_Items_1 hg1).2 (Or.inl rfl) hg3 ?_
    refine A_pc (pc' := 17) rfl ?_
    refine A_iload_n 1 rfl rfl rfl ?_
    refine A_iadd rfl ?_
    refine A_iast (n := 5) rfl (lf_Items_1 hg1).1 (lf_Items_1 hg1).2 (Or.inl rfl) hg3 ?_
    obtain ⟨M4, hM4, h⟩ := kM_out h
    refine A_mem hM4 ?_
    obtain ⟨x5, hx5, h⟩ := kM_out h
    refine A_iinc 2 (v := x5) (Ls' := [(2, vI x5), (0, vA l0), (1, vI l1)]) rfl rfl ((iiN (k := 1) (by decide) _).trans hx5) (by decide) rfl ?_
    refine A_goto (tgt := 2) rfl (by decide) ?_
    refine A_pc (pc' := 2) rfl ?_
    refine A_sub (Ls' := [(0, vA l0), (1, vI l1), (2, vI x5)]) [1, 2, 0] rfl ?_
    exact hK2 _ _ _ _ _ _ h
theorem o_Items_raiseEach_2 {l : Launch} {g : ax_G} : ∀ (n : Nat) (l0 : Nat) (l1 : Int32) (l2 : Int32) (M : ax_M) (r : Unit) (M' : ax_M), f_Items_raiseEach_2  n l0 l1 l2 M = some (r, M') → AW l g true Y_Items_raiseEach 1 (none, M') 2 [(0, vA l0), (1, vI l1), (2, vI l2)] [] M := by
  intro n
  induction n with
  | zero =>
    intro l0 l1 l2 M r M' h
    cases h
  | succ n ih =>
    intro l0 l1 l2 M r M' h
    exact o_Items_raiseEach_2_b  _ ih _ _ _ _ _ _ h
def f_Items_raiseEach (t0 : Nat) (a1 : Int32) (M : ax_M) : Option (Unit × ax_M) :=
  f_Items_raiseEach_2 64 t0 a1 0 M
set_option maxHeartbeats 4000000 in
set_option maxRecDepth 100000 in
theorem c_Items_raiseEach {l : Launch} {g : ax_G} {t0 : Nat} {a1 : Int32} {M : ax_M} {r : Unit} {M' : ax_M} (h : f_Items_raiseEach t0 a1 M = some (r, M')) : Ctr l g true Y_Items_raiseEach 1 [vA t0, vI a1] M (none, M') := by
  refine Ctr.ofAW yok_Items_raiseEach (Nat.le_of_ble_eq_true rfl) (Or.inl rfl) ?_
  show AW l g true Y_Items_raiseEach 1 (none, M') 0 [(0, vA t0), (1, vI a1)] [] M
  unfold f_Items_raiseEach at h
  refine A_iconst (v := 0) rfl (by decide) ?_
  refine A_istore_n (Ls' := [(2, vI 0), (0, vA t0), (1, vI a1)]) rfl rfl (by decide) rfl ?_
  refine A_pc (pc' := 2) rfl ?_
  refine A_sub (Ls' := [(0, vA t0), (1, vI a1), (2, vI 0)]) [1, 2, 0] rfl ?_
  exact o_Items_raiseEach_2  _ _ _ _ _ _ _ h
def tb_Items_sameAs : List (Nat × Instr × Nat) := [(0, .aload_n 0, 1), (1, .getfield 15, 3), (4, .aload_n 1, 1), (5, .getfield 15, 3), (8, .if_icmp .eq 5, 3), (11, .iconst 0, 1), (12, .ireturn, 1), (13, .iconst 0, 1), (14, .istore_n 2, 1), (15, .iload_n 2, 1), (16, .aload_n 0, 1), (17, .getfield 15, 3), (20, .if_icmp .ge 26, 3), (23, .aload_n 0, 1), (24, .getfield 9, 3), (27, .iload_n 2, 1), (28, .iaload, 1), (29, .aload_n 1, 1), (30, .getfield 9, 3), (33, .iload_n 2, 1), (34, .iaload, 1), (35, .if_icmp .eq 5, 3), (38, .iconst 0, 1), (39, .ireturn, 1), (40, .iinc 2 1, 3), (43, .goto (-28), 3), (46, .iconst 1, 1), (47, .ireturn, 1)]
def Y_Items_sameAs : ax_Y := (⟨"MethodWarden$Items", "sameAs", "(LMethodWarden$Items;)Z"⟩, prog_6_method_8_code, 3, some .boolean, tb_Items_sameAs)
theorem yok_Items_sameAs : yOK Y_Items_sameAs := ⟨by decide +kernel, by decide +kernel, inWG 966 (by decide +kernel) (by decide +kernel), inWG 101 (by decide +kernel) (by decide +kernel), by decide +kernel⟩
def f_Items_sameAs_15_b (K15 : Nat → Nat → Int32 → ax_M → Option (Int32 × ax_M)) (l0 : Nat) (l1 : Nat) (l2 : Int32) (M : ax_M) : Option (Int32 × ax_M) :=
  gk l0 5 (if (gI M l0 1) ≤ l2 then (some (1, M)) else (gi l2 5 (gk l1 5 (if (gI M (l0 + 1) l2.toNatClampNeg) = (gI M (l1 + 1) l2.toNatClampNeg) then (kM (l2 + 1) (fun x9 => K15 l0 l1 x9 M)) else (some (0, M))))))
def f_Items_sameAs_15 : Nat → Nat → Nat → Int32 → ax_M → Option (Int32 × ax_M)
  | 0, _, _, _, _ => none
  | n + 1, l0, l1, l2, M => f_Items_sameAs_15_b  (f_Items_sameAs_15 n) l0 l1 l2 M
set_option maxHeartbeats 4000000 in
set_option maxRecDepth 100000 in
theorem o_Items_sameAs_15_b {l : Launch} {g : ax_G} (K15 : Nat → Nat → Int32 → ax_M → Option (Int32 × ax_M)) (hK15 : ∀ (l0 : Nat) (l1 : Nat) (l2 : Int32) (M : ax_M) (r : Int32) (M' : ax_M), K15 l0 l1 l2 M = some (r, M') → AW l g true Y_Items_sameAs 1 (some (vI r), M') 15 [(0, vA l0), (1, vA l1), (2, vI l2)] [] M) (l0 : Nat) (l1 : Nat) (l2 : Int32) (M : ax_M) (r : Int32) (M' : ax_M) (h : f_Items_sameAs_15_b  K15 l0 l1 l2 M = some (r, M')) : AW l g true Y_Items_sameAs 1 (some (vI r), M') 15 [(0, vA l0), (1, vA l1), (2, vI l2)] [] M := by
  unfold f_Items_sameAs_15_b at h
  refine A_iload_n 2 rfl rfl rfl ?_
  refine A_aload_n 0 rfl rfl rfl ?_
  obtain ⟨hg4, h⟩ := gk_out h
  refine A_getI rfl fl_Items_15 rfl hg4 (Or.inl rfl) ?_
  refine A_icmp_ge (tgt := 46) rfl (by decide) (fun hc5 => ?_) (fun hc5 => ?_)
  · rw [if_pos hc5] at h
    refine A_iconst (v := 1) rfl (by decide) ?_
    obtain ⟨rfl, rfl⟩ := leaf h
    exact A_zret rfl rfl (Or.inr rfl)
  · rw [if_neg hc5] at h
    refine A_pc (pc' := 23) rfl ?_
    refine A_aload_n 0 rfl rfl rfl ?_
    refine A_getL (r := l0 + 1) rfl fl_Items_9 rfl hg4 rfl rfl ?_
    refine A_iload_n 2 rfl rfl rfl ?_
    obtain ⟨hg6, h⟩ := gi_out h
    refine A_iald (n := 5) rfl (lf_Items_1 hg4).1 (lf_Items_1 hg4).2 (Or.inl rfl) hg6 ?_
    refine A_aload_n 1 rfl rfl rfl ?_
    refine A_pc (pc' := 30) rfl ?_
    obtain ⟨hg7, h⟩ := gk_out h
    refine A_getL (r := l1 + 1) rfl fl_Items_9 rfl hg7 rfl rfl ?_
    refine A_iload_n 2 rfl rfl rfl ?_
    refine A_iald (n := 5) rfl (lf_Items_1 hg7).1 (lf_Items_1 hg7).2 (Or.inl rfl) hg6 ?_
    refine A_icmp_eq (tgt := 40) rfl (by decide) (fun hc8 => ?_) (fun hc8 => ?_)
    · rw [if_pos hc8] at h
      obtain ⟨x9, hx9, h⟩ := kM_out h
      refine A_iinc 2 (v := x9) (Ls' := [(2, vI x9), (0, vA l0), (1, vA l1)]) rfl rfl ((iiN (k := 1) (by decide) _).trans hx9) (by decide) rfl ?_
      refine A_goto (tgt := 15) rfl (by decide) ?_
      refine A_pc (pc' := 15) rfl ?_
      refine A_sub (Ls' := [(0, vA l0), (1, vA l1), (2, vI x9)]) [1, 2, 0] rfl ?_
      exact hK15 _ _ _ _ _ _ h
    · rw [if_neg hc8] at h
      refine A_pc (pc' := 38) rfl ?_
      refine A_iconst (v := 0) rfl (by decide) ?_
      obtain ⟨rfl, rfl⟩ := leaf h
      exact A_zret rfl rfl (Or.inl rfl)
theorem o_Items_sameAs_15 {l : Launch} {g : ax_G} : ∀ (n : Nat) (l0 : Nat) (l1 : Nat) (l2 : Int32) (M : ax_M) (r : Int32) (M' : ax_M), f_Items_sameAs_15  n l0 l1 l2 M = some (r, M') → AW l g true Y_Items_sameAs 1 (some (vI r), M') 15 [(0, vA l0), (1, vA l1), (2, vI l2)] [] M := by
  intro n
  induction n with
  | zero =>
    intro l0 l1 l2 M r M' h
    cases h
  | succ n ih =>
    intro l0 l1 l2 M r M' h
    exact o_Items_sameAs_15_b  _ ih _ _ _ _ _ _ h
def f_Items_sameAs (t0 : Nat) (a1 : Nat) (M : ax_M) : Option (Int32 × ax_M) :=
  gk t0 5 (gk a1 5 (if (gI M t0 1) = (gI M a1 1) then (f_Items_sameAs_15 64 t0 a1 0 M) else (some (0, M))))
set_option maxHeartbeats 4000000 in
set_option maxRecDepth 100000 in
theorem c_Items_sameAs {l : Launch} {g : ax_G} {t0 : Nat} {a1 : Nat} {M : ax_M} {r : Int32} {M' : ax_M} (h : f_Items_sameAs t0 a1 M = some (r, M')) : Ctr l g true Y_Items_sameAs 1 [vA t0, vA a1] M (some (vI r), M') := by
  refine Ctr.ofAW yok_Items_sameAs (Nat.le_of_ble_eq_true rfl) (Or.inl rfl) ?_
  show AW l g true Y_Items_sameAs 1 (some (vI r), M') 0 [(0, vA t0), (1, vA a1)] [] M
  unfold f_Items_sameAs at h
  refine A_aload_n 0 rfl rfl rfl ?_
  obtain ⟨hg1, h⟩ := gk_out h
  refine A_getI rfl fl_Items_15 rfl hg1 (Or.inl rfl) ?_
  refine A_aload_n 1 rfl rfl rfl ?_
  obtain ⟨hg2, h⟩ := gk_out h
  refine A_getI rfl fl_Items_15 rfl hg2 (Or.inl rfl) ?_
  refine A_icmp_eq (tgt := 13) rfl (by decide) (fun hc3 => ?_) (fun hc3 => ?_)
  · rw [if_pos hc3] at h
    refine A_iconst (v := 0) rfl (by decide) ?_
    refine A_istore_n (Ls' := [(2, vI 0), (0, vA t0), (1, vA a1)]) rfl rfl (by decide) rfl ?_
    refine A_pc (pc' := 15) rfl ?_
    refine A_sub (Ls' := [(0, vA t0), (1, vA a1), (2, vI 0)]) [1, 2, 0] rfl ?_
    exact o_Items_sameAs_15  _ _ _ _ _ _ _ h
  · rw [if_neg hc3] at h
    refine A_pc (pc' := 11) rfl ?_
    refine A_iconst (v := 0) rfl (by decide) ?_
    obtain ⟨rfl, rfl⟩ := leaf h
    exact A_zret rfl rfl (Or.inl rfl)
