/-! String constants: length and charAt -/
def f_Str_length (w : Nat) (M : ax_M) : Option (Int32 × ax_M) := if 1000 ≤ w ∧ w < 1000 + NST then some (nI (STLEN.getD (w - 1000) 0), M) else none
def f_Str_charAt (w : Nat) (i : Int32) (M : ax_M) : Option (Int32 × ax_M) := if (1000 ≤ w ∧ w < 1000 + NST) ∧ ¬ (i < 0 ∨ STLEN.getD (w - 1000) 0 ≤ i.toNatClampNeg) then some ((STBYT.getD (w - 1000) []).getD i.toNatClampNeg 0, M) else none
theorem st_small : NST = 11 := rfl
def tb_Str_length : List (Nat × Instr × Nat) := [(0, .aload_n 0, 1), (1, .getfield 9, 3), (4, .arraylength, 1), (5, .aload_n 0, 1), (6, .invokevirtual 335, 3), (9, .ishr, 1), (10, .ireturn, 1)]
def Y_Str_length : ax_Y := (⟨"java/lang/String", "length", "()I"⟩, prog_15_method_54_code, 1, some .int, tb_Str_length)
theorem yok_Str_length : yOK Y_Str_length := ⟨by decide +kernel, by decide +kernel, inWG 507 (by decide +kernel) (by decide +kernel), inWG 108 (by decide +kernel) (by decide +kernel), by decide +kernel⟩
def tb_Str_coder : List (Nat × Instr × Nat) := [(0, .getstatic 38, 3), (3, .ifCond .eq 10, 3), (6, .aload_n 0, 1), (7, .getfield 15, 3), (10, .goto 4, 3), (13, .iconst 1, 1), (14, .ireturn, 1)]
def Y_Str_coder : ax_Y := (⟨"java/lang/String", "coder", "()B"⟩, prog_15_method_152_code, 1, some .byte, tb_Str_coder)
theorem yok_Str_coder : yOK Y_Str_coder := ⟨by decide +kernel, by decide +kernel, inWG 511 (by decide +kernel) (by decide +kernel), inWG 108 (by decide +kernel) (by decide +kernel), by decide +kernel⟩
def tb_Str_charAt : List (Nat × Instr × Nat) := [(0, .aload_n 0, 1), (1, .invokevirtual 492, 3), (4, .ifCond .eq 12, 3), (7, .aload_n 0, 1), (8, .getfield 9, 3), (11, .iload_n 1, 1), (12, .invokestatic 495, 3), (15, .ireturn, 1)]
def Y_Str_charAt : ax_Y := (⟨"java/lang/String", "charAt", "(I)C"⟩, prog_15_method_56_code, 2, some .char, tb_Str_charAt)
theorem yok_Str_charAt : yOK Y_Str_charAt := ⟨by decide +kernel, by decide +kernel, inWG 517 (by decide +kernel) (by decide +kernel), inWG 108 (by decide +kernel) (by decide +kernel), by decide +kernel⟩
def tb_Str_isLatin1 : List (Nat × Instr × Nat) := [(0, .getstatic 38, 3), (3, .ifCond .eq 14, 3), (6, .aload_n 0, 1), (7, .getfield 15, 3), (10, .ifCond .ne 7, 3), (13, .iconst 1, 1), (14, .goto 4, 3), (17, .iconst 0, 1), (18, .ireturn, 1)]
def Y_Str_isLatin1 : ax_Y := (⟨"java/lang/String", "isLatin1", "()Z"⟩, prog_15_method_154_code, 1, some .boolean, tb_Str_isLatin1)
theorem yok_Str_isLatin1 : yOK Y_Str_isLatin1 := ⟨by decide +kernel, by decide +kernel, inWG 521 (by decide +kernel) (by decide +kernel), inWG 108 (by decide +kernel) (by decide +kernel), by decide +kernel⟩
def tb_Lat_charAt : List (Nat × Instr × Nat) := [(0, .iload_n 1, 1), (1, .aload_n 0, 1), (2, .arraylength, 1), (3, .invokestatic 9, 3), (6, .aload_n 0, 1), (7, .iload_n 1, 1), (8, .baload, 1), (9, .sipush 255, 3), (12, .iand, 1), (13, .i2c, 1), (14, .ireturn, 1)]
def Y_Lat_charAt : ax_Y := (⟨"java/lang/StringLatin1", "charAt", "([BI)C"⟩, prog_16_method_2_code, 2, some .char, tb_Lat_charAt)
theorem yok_Lat_charAt : yOK Y_Lat_charAt := ⟨by decide +kernel, by decide +kernel, inWG 524 (by decide +kernel) (by decide +kernel), inWG 109 (by decide +kernel) (by decide +kernel), by decide +kernel⟩
def tb_Str_checkIndex : List (Nat × Instr × Nat) := [(0, .iload_n 0, 1), (1, .iload_n 1, 1), (2, .getstatic 1053, 3), (5, .invokestatic 1059, 3), (8, .pop, 1), (9, .return_, 1)]
def Y_Str_checkIndex : ax_Y := (⟨"java/lang/String", "checkIndex", "(II)V"⟩, prog_15_method_155_code, 2, none, tb_Str_checkIndex)
theorem yok_Str_checkIndex : yOK Y_Str_checkIndex := ⟨by decide +kernel, by decide +kernel, inWG 527 (by decide +kernel) (by decide +kernel), inWG 108 (by decide +kernel) (by decide +kernel), by decide +kernel⟩
def tb_Pre_checkIndex : List (Nat × Instr × Nat) := [(0, .iload_n 0, 1), (1, .ifCond .lt 8, 3), (4, .iload_n 0, 1), (5, .iload_n 1, 1), (6, .if_icmp .lt 10, 3), (16, .iload_n 0, 1), (17, .ireturn, 1)]
def Y_Pre_checkIndex : ax_Y := (⟨"jdk/internal/util/Preconditions", "checkIndex", "(IILjava/util/function/BiFunction;)I"⟩, prog_18_method_11_code, 3, some .int, tb_Pre_checkIndex)
theorem yok_Pre_checkIndex : yOK Y_Pre_checkIndex := ⟨by decide +kernel, by decide +kernel, inWG 532 (by decide +kernel) (by decide +kernel), inWG 110 (by decide +kernel) (by decide +kernel), by decide +kernel⟩
theorem ml_Str_335 : mlV "java/lang/String" 335 Y_Str_coder 0 := ⟨⟨yok_Str_coder, by decide +kernel, by decide⟩, Or.inl (inWG 508 (by decide +kernel) (by decide +kernel)), (inWG 509 (by decide +kernel) (by decide +kernel)), (inWG 510 (by decide +kernel) (by decide +kernel))⟩
theorem ml_Str_492 : mlV "java/lang/String" 492 Y_Str_isLatin1 0 := ⟨⟨yok_Str_isLatin1, by decide +kernel, by decide⟩, Or.inl (inWG 518 (by decide +kernel) (by decide +kernel)), (inWG 519 (by decide +kernel) (by decide +kernel)), (inWG 520 (by decide +kernel) (by decide +kernel))⟩
theorem ml_Str_495 : mlS "java/lang/String" 495 Y_Lat_charAt 2 := ⟨⟨yok_Lat_charAt, by decide +kernel, by decide⟩, Or.inl (inWG 522 (by decide +kernel) (by decide +kernel)), (inWG 523 (by decide +kernel) (by decide +kernel))⟩
theorem ml_Lat_9 : mlS "java/lang/StringLatin1" 9 Y_Str_checkIndex 2 := ⟨⟨yok_Str_checkIndex, by decide +kernel, by decide⟩, Or.inl (inWG 525 (by decide +kernel) (by decide +kernel)), (inWG 526 (by decide +kernel) (by decide +kernel))⟩
theorem ml_Str_1059 : mlS "java/lang/String" 1059 Y_Pre_checkIndex 3 := ⟨⟨yok_Pre_checkIndex, by decide +kernel, by decide⟩, Or.inl (inWG 530 (by decide +kernel) (by decide +kernel)), (inWG 531 (by decide +kernel) (by decide +kernel))⟩
section AXT
variable {l : Launch} {g : ax_G} {ly : Bool} {Y : ax_Y} {d : Nat} {res : ax_R} {pc : Nat} {Ls : List (Nat × ax_V)} {st : List ax_V} {M : ax_M}
theorem cv_st {i : Nat} (hi : i < NST) : cv g (vA (1000 + i)) = .ref (gK g i) := by
  have h0 := st_small
  rw [cv_A, rv_pos (by omega)]
  unfold am
  rw [if_neg (by omega), if_neg (by omega), if_pos (by omega), show 1000 + i - 1000 = i by omega]
theorem cv_sv (i : Nat) : cv g (vA (2000 + i)) = .ref (gV g i) := by
  rw [cv_A, rv_pos (by omega)]
  unfold am
  rw [if_neg (by omega), if_neg (by omega), if_neg (by omega), show 2000 + i - 2000 = i by omega]
theorem A_ldcS {idx i : Nat} (hd : codeAt Y pc = some (.ldc idx, 2)) (h1 : STO i = (yn Y).cls) (h2 : STI i = idx) (hi : i < NST) (K : AW l g ly Y d res (pc + 2) Ls (vA (1000 + i) :: st) M) : AW l g ly Y d res pc Ls st M := by
  intro p e R s m args below meth c0 Q n0 kc ks F hR hN hret H locs ls hH hS hl
  have hs := F.2.2.2.2.2.1
  have h3 := hs.2.2.1 i hi
  rw [h1, h2] at h3
  have h9 := K p e R s m args below meth c0 Q n0 kc ks F hR hN hret H locs ls hH hS hl
  rw [List.map_cons, cv_st hi] at h9
  exact va_ldcS F.1 F.2.1 F.2.2.2.1 h3 (cd hd F.2.2.2.2.2.2.2) h9
theorem A_strVal {i : Nat} (hd : codeAt Y pc = some (.getfield 9, 3)) (hy : (yn Y).cls = "java/lang/String") (hi : i < NST) (K : AW l g ly Y d res (pc + 3) Ls (vA (2000 + i) :: st) M) : AW l g ly Y d res pc Ls (vA (1000 + i) :: st) M := by
  intro p e R s m args below meth c0 Q n0 kc ks F hR hN hret H locs ls hH hS hl
  have hs := F.2.2.2.2.2.1
  have h9 := K p e R s m args below meth c0 Q n0 kc ks F hR hN hret H locs ls hH hS hl
  rw [List.map_cons, cv_sv] at h9
  rw [List.map_cons, cv_st hi]
  have ho := F.2.2.2.1
  rw [hy] at ho
  exact vk_getf F.1 F.2.1 (hs.2.2.2.2.2.2.1.1 i hi).2.2.1 hS ho (F.2.2.2.2.1 _ (inWG 1519 (by decide +kernel) (by decide +kernel))) (fun _ h => h) (cd hd F.2.2.2.2.2.2.2) h9
theorem A_strCod {i : Nat} (hd : codeAt Y pc = some (.getfield 15, 3)) (hy : (yn Y).cls = "java/lang/String") (hi : i < NST) (K : AW l g ly Y d res (pc + 3) Ls (vI 0 :: st) M) : AW l g ly Y d res pc Ls (vA (1000 + i) :: st) M := by
  intro p e R s m args below meth c0 Q n0 kc ks F hR hN hret H locs ls hH hS hl
  have hs := F.2.2.2.2.2.1
  have h9 := K p e R s m args below meth c0 Q n0 kc ks F hR hN hret H locs ls hH hS hl
  rw [List.map_cons, cv_st hi]
  have ho := F.2.2.2.1
  rw [hy] at ho
  exact vk_getf F.1 F.2.1 (hs.2.2.2.2.2.2.1.1 i hi).2.1 hS ho (F.2.2.2.2.1 _ (inWG 1520 (by decide +kernel) (by decide +kernel))) (fun _ h => h) (cd hd F.2.2.2.2.2.2.2) h9
theorem A_strLen {i : Nat} (hd : codeAt Y pc = some (.arraylength, 1)) (hi : i < NST) (K : AW l g ly Y d res (pc + 1) Ls (vI (nI (STLEN.getD i 0)) :: st) M) : AW l g ly Y d res pc Ls (vA (2000 + i) :: st) M := by
  intro p e R s m args below meth c0 Q n0 kc ks F hR hN hret H locs ls hH hS hl
  have hs := F.2.2.2.2.2.1
  have h9 := K p e R s m args below meth c0 Q n0 kc ks F hR hN hret H locs ls hH hS hl
  rw [List.map_cons, cv_sv]
  exact va_tlen F.1 F.2.1 (hs.2.2.2.2.2.2.1.1 i hi).2.2.2 hS rfl (cd hd F.2.2.2.2.2.2.2) h9
theorem A_strByt {i : Nat} {j : Int32} (hd : codeAt Y pc = some (.baload, 1)) (hi : i < NST) (hj : vp_in j (STLEN.getD i 0)) (K : AW l g ly Y d res (pc + 1) Ls (vI ((STBYT.getD i []).getD j.toNatClampNeg 0) :: st) M) : AW l g ly Y d res pc Ls (vI j :: vA (2000 + i) :: st) M := by
  intro p e R s m args below meth c0 Q n0 kc ks F hR hN hret H locs ls hH hS hl
  have hs := F.2.2.2.2.2.1
  have h9 := K p e R s m args below meth c0 Q n0 kc ks F hR hN hret H locs ls hH hS hl
  rw [List.map_cons, List.map_cons, cv_sv]
  exact va_tb F.1 F.2.1 (hs.2.2.2.2.2.2.1.1 i hi).2.2.2 hS hj rfl (cd hd F.2.2.2.2.2.2.2) h9
theorem A_getCS (hd : codeAt Y pc = some (.getstatic 38, 3)) (hy : (yn Y).cls = "java/lang/String") (K : AW l g ly Y d res (pc + 3) Ls (vI 1 :: st) M) : AW l g ly Y d res pc Ls st M := by
  intro p e R s m args below meth c0 Q n0 kc ks F hR hN hret H locs ls hH hS hl
  have hs := F.2.2.2.2.2.1
  have h9 := K p e R s m args below meth c0 Q n0 kc ks F hR hN hret H locs ls hH hS hl
  have ho := F.2.2.2.1
  rw [hy] at ho
  exact va_gets F.1 F.2.1 hs.2.2.2.2.2.2.2.2.1 hS ho (F.2.2.2.2.1 _ (inWG 512 (by decide +kernel) (by decide +kernel))) (fun _ h => h) (cd hd F.2.2.2.2.2.2.2) h9
theorem A_getSF (hd : codeAt Y pc = some (.getstatic 1053, 3)) (hy : (yn Y).cls = "java/lang/String") (K : ∀ r, AW l g ly Y d res (pc + 3) Ls (vA r :: st) M) : AW l g ly Y d res pc Ls st M := by
  intro p e R s m args below meth c0 Q n0 kc ks F hR hN hret H locs ls hH hS hl
  have hs := F.2.2.2.2.2.1
  have ho := F.2.2.2.1
  rw [hy] at ho
  rcases hs.2.2.2.2.2.2.2.2.2 with hz | hz
  · have h9 := K 0 p e R s m args below meth c0 Q n0 kc ks F hR hN hret H locs ls hH hS hl
    exact va_gets F.1 F.2.1 hz hS ho (F.2.2.2.2.1 _ (inWG 528 (by decide +kernel) (by decide +kernel))) (fun _ h => h) (cd hd F.2.2.2.2.2.2.2) h9
  · have h9 := K (2000 + 1000) p e R s m args below meth c0 Q n0 kc ks F hR hN hret H locs ls hH hS hl
    rw [List.map_cons, cv_sv] at h9
    exact va_gets F.1 F.2.1 hz hS ho (F.2.2.2.2.1 _ (inWG 528 (by decide +kernel) (by decide +kernel))) (fun _ h => h) (cd hd F.2.2.2.2.2.2.2) h9
theorem A_callW {idx n i0 r d' : Nat} {Z : ax_Y} {as st' : List ax_V} {r1 : ax_R} (hd : codeAt Y pc = some (.invokevirtual idx, 3)) (hm : mlV (yn Y).cls idx Z n) (hc : (yn Z).cls = "java/lang/String") (hi0 : i0 < NST) (hr0 : r = 1000 + i0) (hlen : as.length = n) (hst : st = as.reverse ++ vA r :: st') (hcat : ax_wd st' ≤ 8) (hd' : d' + 1 ≤ d)
    (hC : Ctr l g ly Z d' (vA r :: as) M r1) (hge : ly = true ∨ gn r1.2 ≤ gn res.2) (K : AW l g ly Y d res (pc + 3) Ls (r1.1.toList ++ st') r1.2) : AW l g ly Y d res pc Ls st M := by
  intro p e R s m args below meth c0 Q n0 kc ks F hR hN hret H locs ls hH hS hl
  obtain ⟨⟨hZ, hdesc, hyl⟩, hlk, hin, hsel⟩ := hm
  obtain ⟨hC1, hM⟩ := hC
  have hs := F.2.2.2.2.2.1
  have hts := F.2.2.2.2.1
  have hrv : rv g r = .ref (am g r) := rv_pos (by omega)
  have hrecv : ∃ cell : Cell, H[am g r]? = some cell ∧ cell.vm.isStatics = false ∧ s.vm.findClass (yn Z).cls = some cell.cls := by
    have h1 : rv g r = .ref (gK g i0) := by rw [hr0]; exact cv_st hi0
    have h2 : am g r = gK g i0 := Value.ref.inj (hrv.symm.trans h1)
    rw [h2, hc]
    exact vk_recv hs.2.2.2.2.2.2.1 hi0 hS
  have hpre := ax_pre (as := (vA r :: as).map (cv g)) hs hS hH
  have hrm := ax_rm (a := al ly (gn M) (gn r1.2)) (b := al ly (SZ (gn M)) (SZ (gn r1.2))) hR hd' hyl
  have hf := ax_room (r1 := r1) hN hC1 hge
  subst hst
  have hstk : (as.reverse ++ vA r :: st').map (cv g) = (as.map (cv g)).reverse ++ .ref (am g r) :: st'.map (cv g) := by
    rw [List.map_append, List.map_reverse, List.map_cons, cv_A, hrv]
  have hargs : (vA r :: as).map (cv g) = .ref (am g r) :: as.map (cv g) := by rw [List.map_cons, cv_A, hrv]
  rw [hargs] at hM hpre
  have hpv : PreV s H (yn Z).cls (am g r) (va_Pc (.ref (am g r) :: as.map (cv g)) (fun U => sok g U ∧ hok g ly M U.heap)) (as.map (cv g)) := ⟨hpre.1, hrecv, hpre.2⟩
  have hdd : (yn Z).cls ≠ "java/lang/invoke/MethodHandle" ∧ (yn Z).cls ≠ "java/lang/invoke/VarHandle" ∧ (parseMethodDescriptor (yn Z).desc).map (fun d => d.parameters.length) = some n := ⟨hZ.2.2.2.2.1, hZ.2.2.2.2.2, hdesc⟩
  have hrun : va_Run p l e R s m args below meth c0 H locs (kc + al ly n0 (gn M)) (ks + al ly (SZ n0) (SZ (gn M))) (al ly (gn M) (gn r1.2)) (al ly (SZ (gn M)) (SZ (gn r1.2))) (F0 m pc ls ((as.reverse ++ vA r :: st').map (cv g))) (st'.map (cv g)) (Qx g ly r1 (Value.ref (am g r) :: as.map (cv g)).toArray) (ax_A g) := by
    rcases hlk with hlk | ⟨host, hlk⟩
    · exact va_runV (As := as.map (cv g)) (rest := st'.map (cv g)) ⟨F.1, F.2.1, F.2.2.1, F.2.2.2.1, hts⟩ hM ⟨callB_of n hts (ax_good hZ) rfl rfl rfl (hts _ hZ.2.2.2.1) (hts _ hlk) hdd hrm, hts _ hin, hts _ hsel⟩ hpv rfl (by rw [List.length_map]; exact hlen) hl.1 hstk (mono0 (by rw [ax_cats]; exact hcat)) (cd hd F.2.2.2.2.2.2.2) hf
    · exact va_runVN (As := as.map (cv g)) (rest := st'.map (cv g)) ⟨F.1, F.2.1, F.2.2.1, F.2.2.2.1, hts⟩ hM ⟨va_cnB n hts (ax_good hZ) rfl rfl rfl (hs.2.1 _ hlk) (hts _ hZ.2.2.2.1) hdd hrm, hts _ hin, hts _ hsel⟩ hpv rfl (by rw [List.length_map]; exact hlen) hl.1 hstk (mono0 (by rw [ax_cats]; exact hcat)) (cd hd F.2.2.2.2.2.2.2) hf
  exact ax_after hrun hS (fun H1 locs1 hH1 hS1 => ax_K F hR hN hret hC1 hge K hH1 hS1 hl)
theorem c_Pre_checkIndex {i n : Int32} {r : Nat} (h1 : ¬ i < 0) (h2 : i < n) : Ctr l g ly Y_Pre_checkIndex 1 [vI i, vI n, vA r] M (some (vI i), M) := by
  refine Ctr.ofAW yok_Pre_checkIndex (Nat.le_of_ble_eq_true rfl) (Or.inr (Nat.le_refl _)) ?_
  show AW l g ly Y_Pre_checkIndex 1 (some (vI i), M) 0 [(0, vI i), (1, vI n), (2, vA r)] [] M
  refine A_iload_n 0 rfl rfl rfl ?_
  refine A_if_lt (tgt := 9) rfl (by decide) (fun h => absurd h h1) (fun _ => ?_)
  refine A_iload_n 0 rfl rfl rfl ?_
  refine A_iload_n 1 rfl rfl rfl ?_
  refine A_icmp_lt (tgt := 16) rfl (by decide) (fun _ => ?_) (fun h => absurd h2 h)
  refine A_iload_n 0 rfl rfl rfl ?_
  exact A_iret rfl rfl
theorem c_Str_checkIndex {i n : Int32} (h1 : ¬ i < 0) (h2 : i < n) : Ctr l g ly Y_Str_checkIndex 2 [vI i, vI n] M (none, M) := by
  refine Ctr.ofAW yok_Str_checkIndex (Nat.le_of_ble_eq_true rfl) (Or.inr (Nat.le_refl _)) ?_
  show AW l g ly Y_Str_checkIndex 2 (none, M) 0 [(0, vI i), (1, vI n)] [] M
  refine A_iload_n 0 rfl rfl rfl ?_
  refine A_iload_n 1 rfl rfl rfl ?_
  refine A_getSF rfl rfl (fun r => ?_)
  refine A_callS (as := [vI i, vI n, vA r]) (st' := []) (r1 := (some (vI i), M)) rfl ml_Str_1059 rfl rfl (Nat.le_of_ble_eq_true rfl) (by decide) (c_Pre_checkIndex h1 h2) (Or.inr (Nat.le_refl _)) ?_
  refine A_stk (st' := [vI i]) rfl ?_
  refine A_pop rfl rfl ?_
  exact A_vret rfl rfl
theorem c_Str_coder {i : Nat} (hi : i < NST) : Ctr l g ly Y_Str_coder 1 [vA (1000 + i)] M (some (vI 0), M) := by
  refine Ctr.ofAW yok_Str_coder (Nat.le_of_ble_eq_true rfl) (Or.inr (Nat.le_refl _)) ?_
  show AW l g ly Y_Str_coder 1 (some (vI 0), M) 0 [(0, vA (1000 + i))] [] M
  refine A_getCS rfl rfl ?_
  refine A_if_eq (tgt := 13) rfl (by decide) (fun h => absurd h (by decide)) (fun _ => ?_)
  refine A_aload_n 0 rfl rfl rfl ?_
  refine A_strCod rfl rfl hi ?_
  refine A_goto (tgt := 14) rfl (by decide) ?_
  exact A_nret rfl rfl (by decide)
theorem c_Str_isLatin1 {i : Nat} (hi : i < NST) : Ctr l g ly Y_Str_isLatin1 1 [vA (1000 + i)] M (some (vI 1), M) := by
  refine Ctr.ofAW yok_Str_isLatin1 (Nat.le_of_ble_eq_true rfl) (Or.inr (Nat.le_refl _)) ?_
  show AW l g ly Y_Str_isLatin1 1 (some (vI 1), M) 0 [(0, vA (1000 + i))] [] M
  refine A_getCS rfl rfl ?_
  refine A_if_eq (tgt := 17) rfl (by decide) (fun h => absurd h (by decide)) (fun _ => ?_)
  refine A_aload_n 0 rfl rfl rfl ?_
  refine A_strCod rfl rfl hi ?_
  refine A_if_ne (tgt := 17) rfl (by decide) (fun h => absurd rfl h) (fun _ => ?_)
  refine A_iconst (v := 1) rfl (by decide) ?_
  refine A_goto (tgt := 18) rfl (by decide) ?_
  exact A_zret rfl rfl (Or.inr rfl)
theorem st_bytes : ∀ i, i < NST → ∀ j, j < STLEN.getD i 0 → ((((STBYT.getD i []).getD j 0 &&& 255).toUInt32 % 65536).toInt32 = (STBYT.getD i []).getD j 0) ∧ narrow .char (.int ((STBYT.getD i []).getD j 0)) = .int ((STBYT.getD i []).getD j 0) := by decide +kernel
theorem st_len31 : ∀ i, i < NST → STLEN.getD i 0 < 10 := by decide +kernel
theorem vin_ni {j : Int32} {n : Nat} (h : vp_in j n) (hn : n < 2 ^ 31) : ¬ j < 0 ∧ j < nI n := by
  obtain ⟨k, hk, rfl⟩ := vp_in_of h hn
  exact ⟨nI_pos (by omega), nI_lt hk hn⟩
theorem c_Lat_charAt {i : Nat} {j : Int32} (hi : i < NST) (hj : vp_in j (STLEN.getD i 0)) : Ctr l g ly Y_Lat_charAt 3 [vA (2000 + i), vI j] M (some (vI ((STBYT.getD i []).getD j.toNatClampNeg 0)), M) := by
  obtain ⟨h1, h2⟩ := vin_ni hj (by have := st_len31 i hi; omega)
  obtain ⟨h3, h4⟩ := st_bytes i hi _ (vin_lt hj)
  refine Ctr.ofAW yok_Lat_charAt (Nat.le_of_ble_eq_true rfl) (Or.inr (Nat.le_refl _)) ?_
  show AW l g ly Y_Lat_charAt 3 (some (vI ((STBYT.getD i []).getD j.toNatClampNeg 0)), M) 0 [(0, vA (2000 + i)), (1, vI j)] [] M
  refine A_iload_n 1 rfl rfl rfl ?_
  refine A_aload_n 0 rfl rfl rfl ?_
  refine A_strLen rfl hi ?_
  refine A_callS (as := [vI j, vI (nI (STLEN.getD i 0))]) (st' := []) (r1 := (none, M)) rfl ml_Lat_9 rfl rfl (Nat.le_of_ble_eq_true rfl) (by decide) (c_Str_checkIndex h1 h2) (Or.inr (Nat.le_refl _)) ?_
  refine A_stk (st' := []) rfl ?_
  refine A_aload_n 0 rfl rfl rfl ?_
  refine A_iload_n 1 rfl rfl rfl ?_
  refine A_strByt rfl hi hj ?_
  refine A_sipush (v := 255) rfl (by decide) ?_
  refine A_iand rfl ?_
  refine A_i2c rfl ?_
  refine A_nI h3 ?_
  exact A_nret rfl rfl h4
theorem c_Str_length {i : Nat} (hi : i < NST) : Ctr l g ly Y_Str_length 3 [vA (1000 + i)] M (some (vI (nI (STLEN.getD i 0))), M) := by
  refine Ctr.ofAW yok_Str_length (Nat.le_of_ble_eq_true rfl) (Or.inr (Nat.le_refl _)) ?_
  show AW l g ly Y_Str_length 3 (some (vI (nI (STLEN.getD i 0))), M) 0 [(0, vA (1000 + i))] [] M
  refine A_aload_n 0 rfl rfl rfl ?_
  refine A_strVal rfl rfl hi ?_
  refine A_strLen rfl hi ?_
  refine A_aload_n 0 rfl rfl rfl ?_
  refine A_callW (i0 := i) (as := []) (st' := [vI (nI (STLEN.getD i 0))]) (r1 := (some (vI 0), M)) rfl ml_Str_335 rfl hi rfl rfl rfl (Nat.le_of_ble_eq_true rfl) (by decide) (c_Str_coder hi) (Or.inr (Nat.le_refl _)) ?_
  refine A_stk (st' := [vI 0, vI (nI (STLEN.getD i 0))]) rfl ?_
  refine A_ishr rfl ?_
  refine A_nI (sb_shr0 _) ?_
  exact A_iret rfl rfl
theorem c_Str_charAt {i : Nat} {j : Int32} (hi : i < NST) (hj : vp_in j (STLEN.getD i 0)) : Ctr l g ly Y_Str_charAt 4 [vA (1000 + i), vI j] M (some (vI ((STBYT.getD i []).getD j.toNatClampNeg 0)), M) := by
  obtain ⟨h3, h4⟩ := st_bytes i hi _ (vin_lt hj)
  refine Ctr.ofAW yok_Str_charAt (Nat.le_of_ble_eq_true rfl) (Or.inr (Nat.le_refl _)) ?_
  show AW l g ly Y_Str_charAt 4 (some (vI ((STBYT.getD i []).getD j.toNatClampNeg 0)), M) 0 [(0, vA (1000 + i)), (1, vI j)] [] M
  refine A_aload_n 0 rfl rfl rfl ?_
  refine A_callW (i0 := i) (as := []) (st' := []) (r1 := (some (vI 1), M)) rfl ml_Str_492 rfl hi rfl rfl rfl (Nat.le_of_ble_eq_true rfl) (by decide) (c_Str_isLatin1 hi) (Or.inr (Nat.le_refl _)) ?_
  refine A_stk (st' := [vI 1]) rfl ?_
  refine A_if_eq (tgt := 16) rfl (by decide) (fun h => absurd h (by decide)) (fun _ => ?_)
  refine A_aload_n 0 rfl rfl rfl ?_
  refine A_strVal rfl rfl hi ?_
  refine A_iload_n 1 rfl rfl rfl ?_
  refine A_callS (as := [vA (2000 + i), vI j]) (st' := []) (r1 := (some (vI ((STBYT.getD i []).getD j.toNatClampNeg 0)), M)) rfl ml_Str_495 rfl rfl (Nat.le_of_ble_eq_true rfl) (by decide) (c_Lat_charAt hi hj) (Or.inr (Nat.le_refl _)) ?_
  refine A_stk (st' := [vI ((STBYT.getD i []).getD j.toNatClampNeg 0)]) rfl ?_
  exact A_nret rfl rfl h4
theorem A_strLength {idx w : Nat} {x : Int32} {M' : ax_M} {st' : List ax_V} (hd : codeAt Y pc = some (.invokevirtual idx, 3)) (hl : Cond.methodLink (yn Y).cls idx ⟨"java/lang/String", "length", "()I"⟩ ∈ WG) (hcat : ax_wd st' ≤ 8) (hd' : 6 ≤ d) (h : f_Str_length w M = some (x, M')) (K : AW l g ly Y d res (pc + 3) Ls (vI x :: st') M') : AW l g ly Y d res pc Ls (vA w :: st') M := by
  unfold f_Str_length at h
  split at h
  next hw =>
    obtain ⟨rfl, rfl⟩ := leaf h
    obtain ⟨i, rfl⟩ : ∃ i, w = 1000 + i := ⟨w - 1000, by omega⟩
    have hi : i < NST := by omega
    rw [show 1000 + i - 1000 = i by omega] at K
    intro p e R s m args below meth c0 Q n0 kc ks F hR hN hret H locs ls hH hS hl2
    exact A_callW (i0 := i) (as := []) (st' := st') (r1 := (some (vI (nI (STLEN.getD i 0))), M)) hd ⟨⟨yok_Str_length, by decide +kernel, by decide⟩, Or.inl hl, (inWG 505 (by decide +kernel) (by decide +kernel)), (inWG 506 (by decide +kernel) (by decide +kernel))⟩ rfl hi rfl rfl rfl hcat (by omega) (c_Str_length hi) (hN.1.imp id (fun z => z.2)) K p e R s m args below meth c0 Q n0 kc ks F hR hN hret H locs ls hH hS hl2
  next => cases h
theorem A_strCharAt {idx w : Nat} {i x : Int32} {M' : ax_M} {st' : List ax_V} (hd : codeAt Y pc = some (.invokevirtual idx, 3)) (hl : Cond.methodLink (yn Y).cls idx ⟨"java/lang/String", "charAt", "(I)C"⟩ ∈ WG) (hcat : ax_wd st' ≤ 8) (hd' : 6 ≤ d) (h : f_Str_charAt w i M = some (x, M')) (K : AW l g ly Y d res (pc + 3) Ls (vI x :: st') M') : AW l g ly Y d res pc Ls (vI i :: vA w :: st') M := by
  unfold f_Str_charAt at h
  split at h
  next hw =>
    obtain ⟨rfl, rfl⟩ := leaf h
    obtain ⟨hw, hj⟩ := hw
    obtain ⟨k, rfl⟩ : ∃ k, w = 1000 + k := ⟨w - 1000, by omega⟩
    have hi : k < NST := by omega
    rw [show 1000 + k - 1000 = k by omega] at K hj
    intro p e R s m args below meth c0 Q n0 kc ks F hR hN hret H locs ls hH hS hl2
    exact A_callW (n := 1) (i0 := k) (as := [vI i]) (st' := st') (r1 := (some (vI ((STBYT.getD k []).getD i.toNatClampNeg 0)), M)) hd ⟨⟨yok_Str_charAt, by decide +kernel, by decide⟩, Or.inl hl, (inWG 515 (by decide +kernel) (by decide +kernel)), (inWG 516 (by decide +kernel) (by decide +kernel))⟩ rfl hi rfl rfl rfl hcat (by omega) (c_Str_charAt hi hj) (hN.1.imp id (fun z => z.2)) K p e R s m args below meth c0 Q n0 kc ks F hR hN hret H locs ls hH hS hl2
  next => cases h
end AXT
