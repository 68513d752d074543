section AXR
variable {l : Launch} {g : ax_G} {ly : Bool} {Y : ax_Y} {d : Nat} {res : ax_R} {pc : Nat} {Ls : List (Nat × ax_V)} {st : List ax_V} {M : ax_M}
theorem lx_at {ls : Array Slot} {n j i : Nat} {v : ax_V} (h : lv_has ls n (Ls.map (ax_cl g))) (hj : Ls[j]? = some (i, v)) : ls[i]? = some (.val (cv g v)) := by
  refine lv_at h j ?_
  rw [List.getElem?_map, hj]
  rfl
def ax_st1 (Ls : List (Nat × ax_V)) (i : Nat) (v : ax_V) : List (Nat × ax_V) := (i, v) :: Ls.filter (fun q => !(q.1 == i) && !(q.1 + 1 == i && ct q.2 == 2))
def ax_st2 (Ls : List (Nat × ax_V)) (i : Nat) (v : ax_V) : List (Nat × ax_V) := (i, v) :: Ls.filter (fun q => !(q.1 == i) && (!(q.1 == i + 1) && !(q.1 + 1 == i && ct q.2 == 2)))
theorem ax_st1_map (i : Nat) (v : ax_V) : (i, cv g v) :: (Ls.map (ax_cl g)).filter (fun q => !(q.1 == i) && !(q.1 + 1 == i && q.2.category == 2)) = (ax_st1 Ls i v).map (ax_cl g) := by
  unfold ax_st1
  rw [List.filter_map, List.map_cons]
  congr 2
  apply List.filter_congr
  intro q _
  show (!(q.1 == i) && !(q.1 + 1 == i && (cv g q.2).category == 2)) = _
  rw [cv_cat]
theorem ax_st2_map (i : Nat) (v : ax_V) : (i, cv g v) :: (Ls.map (ax_cl g)).filter (fun q => !(q.1 == i) && (!(q.1 == i + 1) && !(q.1 + 1 == i && q.2.category == 2))) = (ax_st2 Ls i v).map (ax_cl g) := by
  unfold ax_st2
  rw [List.filter_map, List.map_cons]
  congr 2
  apply List.filter_congr
  intro q _
  show (!(q.1 == i) && (!(q.1 == i + 1) && !(q.1 + 1 == i && (cv g q.2).category == 2))) = _
  rw [cv_cat]
theorem A_sub {Ls' : List (Nat × ax_V)} (ks : List Nat) (hs : ks.filterMap (fun k => Ls[k]?) = Ls') (K : AW l g ly Y d res pc Ls' st M) : AW l g ly Y d res pc Ls st M := by
  intro p e R s m args below meth c Q n0 kc ks F hR hN hret H locs ls hH hS hl
  refine K p e R s m args below meth c Q n0 kc ks F hR hN hret H locs ls hH hS ⟨hl.1, hl.2.1, fun q hq => hl.2.2 q ?_⟩
  obtain ⟨z, hz, rfl⟩ := List.mem_map.mp hq
  rw [← hs] at hz
  obtain ⟨k, -, hk⟩ := List.mem_filterMap.mp hz
  exact List.mem_map.mpr ⟨z, List.mem_of_getElem? hk, rfl⟩
theorem A_pc {pc' : Nat} (h : pc = pc') (K : AW l g ly Y d res pc' Ls st M) : AW l g ly Y d res pc Ls st M := h ▸ K
theorem A_stk {st' : List ax_V} (h : st = st') (K : AW l g ly Y d res pc Ls st' M) : AW l g ly Y d res pc Ls st M := h ▸ K
theorem A_mem {M' : ax_M} (h : M = M') (K : AW l g ly Y d res pc Ls st M') : AW l g ly Y d res pc Ls st M := h ▸ K
theorem A_iadd {x y : Int32} (hd : codeAt Y pc = some (.iadd, 1)) (K : AW l g ly Y d res (pc + 1) Ls (vI (x + y) :: st) M) : AW l g ly Y d res pc Ls (vI y :: vI x :: st) M := by
  intro p e R s m args below meth c Q n0 kc ks F hR hN hret H locs ls hH hS hl
  exact lv_iadd F.1 F.2.1 (cd hd F.2.2.2.2.2.2.2) (K p e R s m args below meth c Q n0 kc ks F hR hN hret H locs ls hH hS hl)
theorem A_isub {x y : Int32} (hd : codeAt Y pc = some (.isub, 1)) (K : AW l g ly Y d res (pc + 1) Ls (vI (x - y) :: st) M) : AW l g ly Y d res pc Ls (vI y :: vI x :: st) M := by
  intro p e R s m args below meth c Q n0 kc ks F hR hN hret H locs ls hH hS hl
  exact lv_isub F.1 F.2.1 (cd hd F.2.2.2.2.2.2.2) (K p e R s m args below meth c Q n0 kc ks F hR hN hret H locs ls hH hS hl)
theorem A_imul {x y : Int32} (hd : codeAt Y pc = some (.imul, 1)) (K : AW l g ly Y d res (pc + 1) Ls (vI (x * y) :: st) M) : AW l g ly Y d res pc Ls (vI y :: vI x :: st) M := by
  intro p e R s m args below meth c Q n0 kc ks F hR hN hret H locs ls hH hS hl
  exact lv_imul F.1 F.2.1 (cd hd F.2.2.2.2.2.2.2) (K p e R s m args below meth c Q n0 kc ks F hR hN hret H locs ls hH hS hl)
theorem A_iand {x y : Int32} (hd : codeAt Y pc = some (.iand, 1)) (K : AW l g ly Y d res (pc + 1) Ls (vI (x &&& y) :: st) M) : AW l g ly Y d res pc Ls (vI y :: vI x :: st) M := by
  intro p e R s m args below meth c Q n0 kc ks F hR hN hret H locs ls hH hS hl
  exact lv_iand F.1 F.2.1 (cd hd F.2.2.2.2.2.2.2) (K p e R s m args below meth c Q n0 kc ks F hR hN hret H locs ls hH hS hl)
theorem A_ior {x y : Int32} (hd : codeAt Y pc = some (.ior, 1)) (K : AW l g ly Y d res (pc + 1) Ls (vI (x ||| y) :: st) M) : AW l g ly Y d res pc Ls (vI y :: vI x :: st) M := by
  intro p e R s m args below meth c Q n0 kc ks F hR hN hret H locs ls hH hS hl
  exact lv_ior F.1 F.2.1 (cd hd F.2.2.2.2.2.2.2) (K p e R s m args below meth c Q n0 kc ks F hR hN hret H locs ls hH hS hl)
theorem A_ixor {x y : Int32} (hd : codeAt Y pc = some (.ixor, 1)) (K : AW l g ly Y d res (pc + 1) Ls (vI (x ^^^ y) :: st) M) : AW l g ly Y d res pc Ls (vI y :: vI x :: st) M := by
  intro p e R s m args below meth c Q n0 kc ks F hR hN hret H locs ls hH hS hl
  exact lv_ixor F.1 F.2.1 (cd hd F.2.2.2.2.2.2.2) (K p e R s m args below meth c Q n0 kc ks F hR hN hret H locs ls hH hS hl)
theorem A_ishl {x y : Int32} (hd : codeAt Y pc = some (.ishl, 1)) (K : AW l g ly Y d res (pc + 1) Ls (vI (x <<< (y &&& 31)) :: st) M) : AW l g ly Y d res pc Ls (vI y :: vI x :: st) M := by
  intro p e R s m args below meth c Q n0 kc ks F hR hN hret H locs ls hH hS hl
  exact lv_ishl F.1 F.2.1 (cd hd F.2.2.2.2.2.2.2) (K p e R s m args below meth c Q n0 kc ks F hR hN hret H locs ls hH hS hl)
theorem A_ishr {x y : Int32} (hd : codeAt Y pc = some (.ishr, 1)) (K : AW l g ly Y d res (pc + 1) Ls (vI (x >>> (y &&& 31)) :: st) M) : AW l g ly Y d res pc Ls (vI y :: vI x :: st) M := by
  intro p e R s m args below meth c Q n0 kc ks F hR hN hret H locs ls hH hS hl
  exact lv_ishr F.1 F.2.1 (cd hd F.2.2.2.2.2.2.2) (K p e R s m args below meth c Q n0 kc ks F hR hN hret H locs ls hH hS hl)
theorem A_ladd {x y : Int64} (hd : codeAt Y pc = some (.ladd, 1)) (K : AW l g ly Y d res (pc + 1) Ls (vJ (x + y) :: st) M) : AW l g ly Y d res pc Ls (vJ y :: vJ x :: st) M := by
  intro p e R s m args below meth c Q n0 kc ks F hR hN hret H locs ls hH hS hl
  exact lv_ladd F.1 F.2.1 (cd hd F.2.2.2.2.2.2.2) (K p e R s m args below meth c Q n0 kc ks F hR hN hret H locs ls hH hS hl)
theorem A_lsub {x y : Int64} (hd : codeAt Y pc = some (.lsub, 1)) (K : AW l g ly Y d res (pc + 1) Ls (vJ (x - y) :: st) M) : AW l g ly Y d res pc Ls (vJ y :: vJ x :: st) M := by
  intro p e R s m args below meth c Q n0 kc ks F hR hN hret H locs ls hH hS hl
  exact lv_lsub F.1 F.2.1 (cd hd F.2.2.2.2.2.2.2) (K p e R s m args below meth c Q n0 kc ks F hR hN hret H locs ls hH hS hl)
theorem A_lmul {x y : Int64} (hd : codeAt Y pc = some (.lmul, 1)) (K : AW l g ly Y d res (pc + 1) Ls (vJ (x * y) :: st) M) : AW l g ly Y d res pc Ls (vJ y :: vJ x :: st) M := by
  intro p e R s m args below meth c Q n0 kc ks F hR hN hret H locs ls hH hS hl
  exact lv_lmul F.1 F.2.1 (cd hd F.2.2.2.2.2.2.2) (K p e R s m args below meth c Q n0 kc ks F hR hN hret H locs ls hH hS hl)
theorem A_land {x y : Int64} (hd : codeAt Y pc = some (.land, 1)) (K : AW l g ly Y d res (pc + 1) Ls (vJ (x &&& y) :: st) M) : AW l g ly Y d res pc Ls (vJ y :: vJ x :: st) M := by
  intro p e R s m args below meth c Q n0 kc ks F hR hN hret H locs ls hH hS hl
  exact lv_land F.1 F.2.1 (cd hd F.2.2.2.2.2.2.2) (K p e R s m args below meth c Q n0 kc ks F hR hN hret H locs ls hH hS hl)
theorem A_lor {x y : Int64} (hd : codeAt Y pc = some (.lor, 1)) (K : AW l g ly Y d res (pc + 1) Ls (vJ (x ||| y) :: st) M) : AW l g ly Y d res pc Ls (vJ y :: vJ x :: st) M := by
  intro p e R s m args below meth c Q n0 kc ks F hR hN hret H locs ls hH hS hl
  exact lv_lor F.1 F.2.1 (cd hd F.2.2.2.2.2.2.2) (K p e R s m args below meth c Q n0 kc ks F hR hN hret H locs ls hH hS hl)
theorem A_ineg {x : Int32} (hd : codeAt Y pc = some (.ineg, 1)) (K : AW l g ly Y d res (pc + 1) Ls (vI (-x) :: st) M) : AW l g ly Y d res pc Ls (vI x :: st) M := by
  intro p e R s m args below meth c Q n0 kc ks F hR hN hret H locs ls hH hS hl
  exact lv_ineg F.1 F.2.1 (cd hd F.2.2.2.2.2.2.2) (K p e R s m args below meth c Q n0 kc ks F hR hN hret H locs ls hH hS hl)
theorem A_lneg {x : Int64} (hd : codeAt Y pc = some (.lneg, 1)) (K : AW l g ly Y d res (pc + 1) Ls (vJ (-x) :: st) M) : AW l g ly Y d res pc Ls (vJ x :: st) M := by
  intro p e R s m args below meth c Q n0 kc ks F hR hN hret H locs ls hH hS hl
  exact lv_lneg F.1 F.2.1 (cd hd F.2.2.2.2.2.2.2) (K p e R s m args below meth c Q n0 kc ks F hR hN hret H locs ls hH hS hl)
theorem A_ldiv {x y : Int64} (hd : codeAt Y pc = some (.ldiv, 1)) (hne : ¬ y = 0) (K : AW l g ly Y d res (pc + 1) Ls (vJ (x / y) :: st) M) : AW l g ly Y d res pc Ls (vJ y :: vJ x :: st) M := by
  intro p e R s m args below meth c Q n0 kc ks F hR hN hret H locs ls hH hS hl
  exact lv_ldiv F.1 F.2.1 (cd hd F.2.2.2.2.2.2.2) hne (K p e R s m args below meth c Q n0 kc ks F hR hN hret H locs ls hH hS hl)
theorem A_lrem {x y : Int64} (hd : codeAt Y pc = some (.lrem, 1)) (hne : ¬ y = 0) (K : AW l g ly Y d res (pc + 1) Ls (vJ (x - x / y * y) :: st) M) : AW l g ly Y d res pc Ls (vJ y :: vJ x :: st) M := by
  intro p e R s m args below meth c Q n0 kc ks F hR hN hret H locs ls hH hS hl
  exact lv_lrem F.1 F.2.1 (cd hd F.2.2.2.2.2.2.2) hne (K p e R s m args below meth c Q n0 kc ks F hR hN hret H locs ls hH hS hl)
theorem A_idiv {x y : Int32} (hd : codeAt Y pc = some (.idiv, 1)) (hne : ¬ y = 0) (K : AW l g ly Y d res (pc + 1) Ls (vI (x / y) :: st) M) : AW l g ly Y d res pc Ls (vI y :: vI x :: st) M := by
  intro p e R s m args below meth c Q n0 kc ks F hR hN hret H locs ls hH hS hl
  exact lv_idiv F.1 F.2.1 (cd hd F.2.2.2.2.2.2.2) hne (K p e R s m args below meth c Q n0 kc ks F hR hN hret H locs ls hH hS hl)
theorem A_irem {x y : Int32} (hd : codeAt Y pc = some (.irem, 1)) (hne : ¬ y = 0) (K : AW l g ly Y d res (pc + 1) Ls (vI (x - x / y * y) :: st) M) : AW l g ly Y d res pc Ls (vI y :: vI x :: st) M := by
  intro p e R s m args below meth c Q n0 kc ks F hR hN hret H locs ls hH hS hl
  exact lv_irem F.1 F.2.1 (cd hd F.2.2.2.2.2.2.2) hne (K p e R s m args below meth c Q n0 kc ks F hR hN hret H locs ls hH hS hl)
theorem A_lshl {x : Int64} {y : Int32} (hd : codeAt Y pc = some (.lshl, 1))  (K : AW l g ly Y d res (pc + 1) Ls (vJ (x <<< (y.toInt64 &&& 63)) :: st) M) : AW l g ly Y d res pc Ls (vI y :: vJ x :: st) M := by
  intro p e R s m args below meth c Q n0 kc ks F hR hN hret H locs ls hH hS hl
  exact lv_lshl F.1 F.2.1 (cd hd F.2.2.2.2.2.2.2) rfl (K p e R s m args below meth c Q n0 kc ks F hR hN hret H locs ls hH hS hl)
theorem A_i2l {x : Int32} (hd : codeAt Y pc = some (.i2l, 1))  (K : AW l g ly Y d res (pc + 1) Ls (vJ (x.toInt64) :: st) M) : AW l g ly Y d res pc Ls (vI x :: st) M := by
  intro p e R s m args below meth c Q n0 kc ks F hR hN hret H locs ls hH hS hl
  exact lv_i2l F.1 F.2.1 (cd hd F.2.2.2.2.2.2.2) rfl (K p e R s m args below meth c Q n0 kc ks F hR hN hret H locs ls hH hS hl)
theorem A_l2i {x : Int64} (hd : codeAt Y pc = some (.l2i, 1))  (K : AW l g ly Y d res (pc + 1) Ls (vI (x.toInt32) :: st) M) : AW l g ly Y d res pc Ls (vJ x :: st) M := by
  intro p e R s m args below meth c Q n0 kc ks F hR hN hret H locs ls hH hS hl
  exact lv_l2i F.1 F.2.1 (cd hd F.2.2.2.2.2.2.2) rfl (K p e R s m args below meth c Q n0 kc ks F hR hN hret H locs ls hH hS hl)
theorem A_i2c {x : Int32} (hd : codeAt Y pc = some (.i2c, 1))  (K : AW l g ly Y d res (pc + 1) Ls (vI ((x.toUInt32 % 65536).toInt32) :: st) M) : AW l g ly Y d res pc Ls (vI x :: st) M := by
  intro p e R s m args below meth c Q n0 kc ks F hR hN hret H locs ls hH hS hl
  exact lv_i2c F.1 F.2.1 (cd hd F.2.2.2.2.2.2.2) rfl (K p e R s m args below meth c Q n0 kc ks F hR hN hret H locs ls hH hS hl)
theorem A_lcmp {x y : Int64} (hd : codeAt Y pc = some (.lcmp, 1)) (K : AW l g ly Y d res (pc + 1) Ls (vI (lg_cmp x y) :: st) M) : AW l g ly Y d res pc Ls (vJ y :: vJ x :: st) M := by
  intro p e R s m args below meth c Q n0 kc ks F hR hN hret H locs ls hH hS hl
  exact W.lcmp F.1 F.2.1 (cd hd F.2.2.2.2.2.2.2) (K p e R s m args below meth c Q n0 kc ks F hR hN hret H locs ls hH hS hl)
theorem A_iconst {n : Int} {v : Int32} (hd : codeAt Y pc = some (.iconst n, 1)) (hv : Int32.ofInt n = v) (K : AW l g ly Y d res (pc + 1) Ls (vI v :: st) M) : AW l g ly Y d res pc Ls (st) M := by
  intro p e R s m args below meth c Q n0 kc ks F hR hN hret H locs ls hH hS hl
  exact lv_iconst F.1 F.2.1 (cd hd F.2.2.2.2.2.2.2) hv (K p e R s m args below meth c Q n0 kc ks F hR hN hret H locs ls hH hS hl)
theorem A_bipush {n : Int} {v : Int32} (hd : codeAt Y pc = some (.bipush n, 2)) (hv : (Int8.ofInt n).toInt32 = v) (K : AW l g ly Y d res (pc + 2) Ls (vI v :: st) M) : AW l g ly Y d res pc Ls (st) M := by
  intro p e R s m args below meth c Q n0 kc ks F hR hN hret H locs ls hH hS hl
  exact lv_bipush F.1 F.2.1 (cd hd F.2.2.2.2.2.2.2) hv (K p e R s m args below meth c Q n0 kc ks F hR hN hret H locs ls hH hS hl)
theorem A_sipush {n : Int} {v : Int32} (hd : codeAt Y pc = some (.sipush n, 3)) (hv : (Int16.ofInt n).toInt32 = v) (K : AW l g ly Y d res (pc + 3) Ls (vI v :: st) M) : AW l g ly Y d res pc Ls (st) M := by
  intro p e R s m args below meth c Q n0 kc ks F hR hN hret H locs ls hH hS hl
  exact lv_sipush F.1 F.2.1 (cd hd F.2.2.2.2.2.2.2) hv (K p e R s m args below meth c Q n0 kc ks F hR hN hret H locs ls hH hS hl)
theorem A_lconst {n : Fin 2} {v : Int64} (hd : codeAt Y pc = some (.lconst n, 1)) (hv : Int64.ofNat (n : Nat) = v) (K : AW l g ly Y d res (pc + 1) Ls (vJ v :: st) M) : AW l g ly Y d res pc Ls (st) M := by
  intro p e R s m args below meth c Q n0 kc ks F hR hN hret H locs ls hH hS hl
  exact lv_lconst F.1 F.2.1 (cd hd F.2.2.2.2.2.2.2) hv (K p e R s m args below meth c Q n0 kc ks F hR hN hret H locs ls hH hS hl)
theorem A_null (hd : codeAt Y pc = some (.aconst_null, 1)) (K : AW l g ly Y d res (pc + 1) Ls (vA 0 :: st) M) : AW l g ly Y d res pc Ls (st) M := by
  intro p e R s m args below meth c Q n0 kc ks F hR hN hret H locs ls hH hS hl
  exact lv_null F.1 F.2.1 (cd hd F.2.2.2.2.2.2.2) (K p e R s m args below meth c Q n0 kc ks F hR hN hret H locs ls hH hS hl)
theorem A_dup {a : ax_V} (hd : codeAt Y pc = some (.dup, 1)) (ha : ct a = 1) (K : AW l g ly Y d res (pc + 1) Ls (a :: a :: st) M) : AW l g ly Y d res pc Ls (a :: st) M := by
  intro p e R s m args below meth c Q n0 kc ks F hR hN hret H locs ls hH hS hl
  exact lv_dup F.1 F.2.1 (cd hd F.2.2.2.2.2.2.2) (by rw [cv_cat]; exact ha) (K p e R s m args below meth c Q n0 kc ks F hR hN hret H locs ls hH hS hl)
theorem A_pop {a : ax_V} (hd : codeAt Y pc = some (.pop, 1)) (ha : ct a = 1) (K : AW l g ly Y d res (pc + 1) Ls (st) M) : AW l g ly Y d res pc Ls (a :: st) M := by
  intro p e R s m args below meth c Q n0 kc ks F hR hN hret H locs ls hH hS hl
  exact lv_pop F.1 F.2.1 (cd hd F.2.2.2.2.2.2.2) (by rw [cv_cat]; exact ha) (K p e R s m args below meth c Q n0 kc ks F hR hN hret H locs ls hH hS hl)
theorem A_dup_x1 {a b : ax_V} (hd : codeAt Y pc = some (.dup_x1, 1)) (ha : ct a = 1) (hb : ct b = 1) (K : AW l g ly Y d res (pc + 1) Ls (a :: b :: a :: st) M) : AW l g ly Y d res pc Ls (a :: b :: st) M := by
  intro p e R s m args below meth c Q n0 kc ks F hR hN hret H locs ls hH hS hl
  exact lv_dup_x1 F.1 F.2.1 (cd hd F.2.2.2.2.2.2.2) (by rw [cv_cat]; exact ha) (by rw [cv_cat]; exact hb) (K p e R s m args below meth c Q n0 kc ks F hR hN hret H locs ls hH hS hl)
theorem A_dup_x2 {a b f : ax_V} (hd : codeAt Y pc = some (.dup_x2, 1)) (ha : ct a = 1) (hb : ct b = 1) (hf : ct f = 1) (K : AW l g ly Y d res (pc + 1) Ls (a :: b :: f :: a :: st) M) : AW l g ly Y d res pc Ls (a :: b :: f :: st) M := by
  intro p e R s m args below meth c Q n0 kc ks F hR hN hret H locs ls hH hS hl
  exact lv_dup_x2 F.1 F.2.1 (cd hd F.2.2.2.2.2.2.2) (by rw [cv_cat]; exact ha) (by rw [cv_cat]; exact hb) (by rw [cv_cat]; exact hf) (K p e R s m args below meth c Q n0 kc ks F hR hN hret H locs ls hH hS hl)
theorem A_dup2 {a b : ax_V} (hd : codeAt Y pc = some (.dup2, 1)) (ha : ct a = 1) (hb : ct b = 1) (K : AW l g ly Y d res (pc + 1) Ls (a :: b :: a :: b :: st) M) : AW l g ly Y d res pc Ls (a :: b :: st) M := by
  intro p e R s m args below meth c Q n0 kc ks F hR hN hret H locs ls hH hS hl
  exact lv_dup2_11 F.1 F.2.1 (cd hd F.2.2.2.2.2.2.2) (by rw [cv_cat]; exact ha) (by rw [cv_cat]; exact hb) (K p e R s m args below meth c Q n0 kc ks F hR hN hret H locs ls hH hS hl)
theorem A_dup2l {a : ax_V} (hd : codeAt Y pc = some (.dup2, 1)) (ha : ct a = 2) (K : AW l g ly Y d res (pc + 1) Ls (a :: a :: st) M) : AW l g ly Y d res pc Ls (a :: st) M := by
  intro p e R s m args below meth c Q n0 kc ks F hR hN hret H locs ls hH hS hl
  exact lv_dup2_2 F.1 F.2.1 (cd hd F.2.2.2.2.2.2.2) (by rw [cv_cat]; exact ha) (K p e R s m args below meth c Q n0 kc ks F hR hN hret H locs ls hH hS hl)
theorem A_iload {i : Nat} {x : Int32} (j : Nat) (hd : codeAt Y pc = some (.iload i, 2)) (hj : Ls[j]? = some (i, vI x)) (K : AW l g ly Y d res (pc + 2) Ls (vI x :: st) M) : AW l g ly Y d res pc Ls st M := by
  intro p e R s m args below meth c Q n0 kc ks F hR hN hret H locs ls hH hS hl
  exact lv_iload F.1 F.2.1 (cd hd F.2.2.2.2.2.2.2) (lx_at hl hj) (K p e R s m args below meth c Q n0 kc ks F hR hN hret H locs ls hH hS hl)
theorem A_iload_n {k : Fin 4} {i : Nat} {x : Int32} (j : Nat) (hd : codeAt Y pc = some (.iload_n k, 1)) (hi : (k : Nat) = i) (hj : Ls[j]? = some (i, vI x)) (K : AW l g ly Y d res (pc + 1) Ls (vI x :: st) M) : AW l g ly Y d res pc Ls st M := by
  intro p e R s m args below meth c Q n0 kc ks F hR hN hret H locs ls hH hS hl
  exact lv_iload_n F.1 F.2.1 (cd hd F.2.2.2.2.2.2.2) hi (lx_at hl hj) (K p e R s m args below meth c Q n0 kc ks F hR hN hret H locs ls hH hS hl)
theorem A_lload {i : Nat} {x : Int64} (j : Nat) (hd : codeAt Y pc = some (.lload i, 2)) (hj : Ls[j]? = some (i, vJ x)) (K : AW l g ly Y d res (pc + 2) Ls (vJ x :: st) M) : AW l g ly Y d res pc Ls st M := by
  intro p e R s m args below meth c Q n0 kc ks F hR hN hret H locs ls hH hS hl
  exact lv_lload F.1 F.2.1 (cd hd F.2.2.2.2.2.2.2) (lx_at hl hj) (K p e R s m args below meth c Q n0 kc ks F hR hN hret H locs ls hH hS hl)
theorem A_lload_n {k : Fin 4} {i : Nat} {x : Int64} (j : Nat) (hd : codeAt Y pc = some (.lload_n k, 1)) (hi : (k : Nat) = i) (hj : Ls[j]? = some (i, vJ x)) (K : AW l g ly Y d res (pc + 1) Ls (vJ x :: st) M) : AW l g ly Y d res pc Ls st M := by
  intro p e R s m args below meth c Q n0 kc ks F hR hN hret H locs ls hH hS hl
  exact lv_lload_n F.1 F.2.1 (cd hd F.2.2.2.2.2.2.2) hi (lx_at hl hj) (K p e R s m args below meth c Q n0 kc ks F hR hN hret H locs ls hH hS hl)
theorem A_aload {i r : Nat} (j : Nat) (hd : codeAt Y pc = some (.aload i, 2)) (hj : Ls[j]? = some (i, vA r)) (K : AW l g ly Y d res (pc + 2) Ls (vA r :: st) M) : AW l g ly Y d res pc Ls st M := by
  intro p e R s m args below meth c Q n0 kc ks F hR hN hret H locs ls hH hS hl
  have h1 := lx_at hl hj
  have h2 := (K p e R s m args below meth c Q n0 kc ks F hR hN hret H locs ls hH hS hl)
  rw [cv_A] at h1
  rw [List.map_cons, cv_A] at h2
  by_cases hr : r = 0
  · subst hr
    rw [rv_0] at h1 h2
    exact lv_aloadN F.1 F.2.1 (cd hd F.2.2.2.2.2.2.2) h1 h2
  · rw [rv_pos hr] at h1 h2
    exact lv_aload F.1 F.2.1 (cd hd F.2.2.2.2.2.2.2) h1 h2
theorem A_aload_n {k : Fin 4} {i r : Nat} (j : Nat) (hd : codeAt Y pc = some (.aload_n k, 1)) (hi : (k : Nat) = i) (hj : Ls[j]? = some (i, vA r)) (K : AW l g ly Y d res (pc + 1) Ls (vA r :: st) M) : AW l g ly Y d res pc Ls st M := by
  intro p e R s m args below meth c Q n0 kc ks F hR hN hret H locs ls hH hS hl
  have h1 := lx_at hl hj
  have h2 := (K p e R s m args below meth c Q n0 kc ks F hR hN hret H locs ls hH hS hl)
  rw [cv_A] at h1
  rw [List.map_cons, cv_A] at h2
  by_cases hr : r = 0
  · subst hr
    rw [rv_0] at h1 h2
    exact lv_aload_nN F.1 F.2.1 (cd hd F.2.2.2.2.2.2.2) hi h1 h2
  · rw [rv_pos hr] at h1 h2
    exact lv_aload_n F.1 F.2.1 (cd hd F.2.2.2.2.2.2.2) hi h1 h2
theorem A_istore {i : Nat} {x : Int32} {Ls' : List (Nat × ax_V)} (hd : codeAt Y pc = some (.istore i, 2)) (hn : i < yl Y) (hL : ax_st1 Ls i (vI x) = Ls') (K : AW l g ly Y d res (pc + 2) Ls' st M) : AW l g ly Y d res pc Ls (vI x :: st) M := by
  intro p e R s m args below meth c Q n0 kc ks F hR hN hret H locs ls hH hS hl
  subst hL
  exact lv_istore F.1 F.2.1 (cd hd F.2.2.2.2.2.2.2) hl hn (ax_st1_map i (vI x)) (fun ls2 hl2 => K p e R s m args below meth c Q n0 kc ks F hR hN hret H locs ls2 hH hS hl2)
theorem A_istore_n {k : Fin 4} {i : Nat} {x : Int32} {Ls' : List (Nat × ax_V)} (hd : codeAt Y pc = some (.istore_n k, 1)) (hi : (k : Nat) = i) (hn : i < yl Y) (hL : ax_st1 Ls i (vI x) = Ls') (K : AW l g ly Y d res (pc + 1) Ls' st M) : AW l g ly Y d res pc Ls (vI x :: st) M := by
  intro p e R s m args below meth c Q n0 kc ks F hR hN hret H locs ls hH hS hl
  subst hL
  exact lv_istore_n F.1 F.2.1 (cd hd F.2.2.2.2.2.2.2) hi hl hn (ax_st1_map i (vI x)) (fun ls2 hl2 => K p e R s m args below meth c Q n0 kc ks F hR hN hret H locs ls2 hH hS hl2)
theorem A_lstore {i : Nat} {x : Int64} {Ls' : List (Nat × ax_V)} (hd : codeAt Y pc = some (.lstore i, 2)) (hn : i + 1 < yl Y) (hL : ax_st2 Ls i (vJ x) = Ls') (K : AW l g ly Y d res (pc + 2) Ls' st M) : AW l g ly Y d res pc Ls (vJ x :: st) M := by
  intro p e R s m args below meth c Q n0 kc ks F hR hN hret H locs ls hH hS hl
  subst hL
  exact lv_lstore F.1 F.2.1 (cd hd F.2.2.2.2.2.2.2) hl hn (ax_st2_map i (vJ x)) (fun ls2 hl2 => K p e R s m args below meth c Q n0 kc ks F hR hN hret H locs ls2 hH hS hl2)
theorem A_lstore_n {k : Fin 4} {i : Nat} {x : Int64} {Ls' : List (Nat × ax_V)} (hd : codeAt Y pc = some (.lstore_n k, 1)) (hi : (k : Nat) = i) (hn : i + 1 < yl Y) (hL : ax_st2 Ls i (vJ x) = Ls') (K : AW l g ly Y d res (pc + 1) Ls' st M) : AW l g ly Y d res pc Ls (vJ x :: st) M := by
  intro p e R s m args below meth c Q n0 kc ks F hR hN hret H locs ls hH hS hl
  subst hL
  exact lv_lstore_n F.1 F.2.1 (cd hd F.2.2.2.2.2.2.2) hi hl hn (ax_st2_map i (vJ x)) (fun ls2 hl2 => K p e R s m args below meth c Q n0 kc ks F hR hN hret H locs ls2 hH hS hl2)
theorem A_astore {i r : Nat} {Ls' : List (Nat × ax_V)} (hd : codeAt Y pc = some (.astore i, 2)) (hn : i < yl Y) (hL : ax_st1 Ls i (vA r) = Ls') (K : AW l g ly Y d res (pc + 2) Ls' st M) : AW l g ly Y d res pc Ls (vA r :: st) M := by
  intro p e R s m args below meth c Q n0 kc ks F hR hN hret H locs ls hH hS hl
  subst hL
  have h1 := ax_st1_map (g := g) (Ls := Ls) i (vA r)
  rw [List.map_cons]
  rw [cv_A] at h1 ⊢
  by_cases hr : r = 0
  · rw [hr, rv_0] at h1 ⊢
    exact lv_astoreN F.1 F.2.1 (cd hd F.2.2.2.2.2.2.2) hl hn h1 (fun ls2 hl2 => K p e R s m args below meth c Q n0 kc ks F hR hN hret H locs ls2 hH hS (hr ▸ hl2))
  · rw [rv_pos hr] at h1 ⊢
    exact lv_astore F.1 F.2.1 (cd hd F.2.2.2.2.2.2.2) hl hn h1 (fun ls2 hl2 => K p e R s m args below meth c Q n0 kc ks F hR hN hret H locs ls2 hH hS hl2)
theorem A_astore_n {k : Fin 4} {i r : Nat} {Ls' : List (Nat × ax_V)} (hd : codeAt Y pc = some (.astore_n k, 1)) (hi : (k : Nat) = i) (hn : i < yl Y) (hL : ax_st1 Ls i (vA r) = Ls') (K : AW l g ly Y d res (pc + 1) Ls' st M) : AW l g ly Y d res pc Ls (vA r :: st) M := by
  intro p e R s m args below meth c Q n0 kc ks F hR hN hret H locs ls hH hS hl
  subst hL
  have h1 := ax_st1_map (g := g) (Ls := Ls) i (vA r)
  rw [List.map_cons]
  rw [cv_A] at h1 ⊢
  by_cases hr : r = 0
  · rw [hr, rv_0] at h1 ⊢
    exact lv_astore_nN F.1 F.2.1 (cd hd F.2.2.2.2.2.2.2) hi hl hn h1 (fun ls2 hl2 => K p e R s m args below meth c Q n0 kc ks F hR hN hret H locs ls2 hH hS (hr ▸ hl2))
  · rw [rv_pos hr] at h1 ⊢
    exact lv_astore_n F.1 F.2.1 (cd hd F.2.2.2.2.2.2.2) hi hl hn h1 (fun ls2 hl2 => K p e R s m args below meth c Q n0 kc ks F hR hN hret H locs ls2 hH hS hl2)
theorem A_iinc {i : Nat} {n : Int} {x v : Int32} {Ls' : List (Nat × ax_V)} (j : Nat) (hd : codeAt Y pc = some (.iinc i n, 3)) (hj : Ls[j]? = some (i, vI x)) (hv : x + Int32.ofInt n = v) (hn : i < yl Y) (hL : ax_st1 Ls i (vI v) = Ls') (K : AW l g ly Y d res (pc + 3) Ls' st M) : AW l g ly Y d res pc Ls st M := by
  intro p e R s m args below meth c Q n0 kc ks F hR hN hret H locs ls hH hS hl
  subst hL
  exact lv_iinc (k := j) F.1 F.2.1 (cd hd F.2.2.2.2.2.2.2) hl (by rw [List.getElem?_map, hj]; rfl) hv hn (ax_st1_map i (vI v)) (fun ls2 hl2 => K p e R s m args below meth c Q n0 kc ks F hR hN hret H locs ls2 hH hS hl2)
theorem A_if_eq {x : Int32} {off : Int} {tgt : Nat} (hd : codeAt Y pc = some (.ifCond .eq off, 3)) (ht : (pc : Int) + off = (tgt : Int)) (kt : x = 0 → AW l g ly Y d res tgt Ls st M) (kf : ¬ x = 0 → AW l g ly Y d res (pc + 3) Ls st M) : AW l g ly Y d res pc Ls (vI x :: st) M := by
  intro p e R s m args below meth c Q n0 kc ks F hR hN hret H locs ls hH hS hl
  exact lv_if_eq F.1 F.2.1 (cd hd F.2.2.2.2.2.2.2) ht (fun h => kt h p e R s m args below meth c Q n0 kc ks F hR hN hret H locs ls hH hS hl) (fun h => kf h p e R s m args below meth c Q n0 kc ks F hR hN hret H locs ls hH hS hl)
theorem A_if_ne {x : Int32} {off : Int} {tgt : Nat} (hd : codeAt Y pc = some (.ifCond .ne off, 3)) (ht : (pc : Int) + off = (tgt : Int)) (kt : ¬ x = 0 → AW l g ly Y d res tgt Ls st M) (kf : x = 0 → AW l g ly Y d res (pc + 3) Ls st M) : AW l g ly Y d res pc Ls (vI x :: st) M := by
  intro p e R s m args below meth c Q n0 kc ks F hR hN hret H locs ls hH hS hl
  exact lv_if_ne F.1 F.2.1 (cd hd F.2.2.2.2.2.2.2) ht (fun h => kt h p e R s m args below meth c Q n0 kc ks F hR hN hret H locs ls hH hS hl) (fun h => kf h p e R s m args below meth c Q n0 kc ks F hR hN hret H locs ls hH hS hl)
theorem A_if_lt {x : Int32} {off : Int} {tgt : Nat} (hd : codeAt Y pc = some (.ifCond .lt off, 3)) (ht : (pc : Int) + off = (tgt : Int)) (kt : x < 0 → AW l g ly Y d res tgt Ls st M) (kf : ¬ x < 0 → AW l g ly Y d res (pc + 3) Ls st M) : AW l g ly Y d res pc Ls (vI x :: st) M := by
  intro p e R s m args below meth c Q n0 kc ks F hR hN hret H locs ls hH hS hl
  exact lv_if_lt F.1 F.2.1 (cd hd F.2.2.2.2.2.2.2) ht (fun h => kt h p e R s m args below meth c Q n0 kc ks F hR hN hret H locs ls hH hS hl) (fun h => kf h p e R s m args below meth c Q n0 kc ks F hR hN hret H locs ls hH hS hl)
theorem A_if_ge {x : Int32} {off : Int} {tgt : Nat} (hd : codeAt Y pc = some (.ifCond .ge off, 3)) (ht : (pc : Int) + off = (tgt : Int)) (kt : 0 ≤ x → AW l g ly Y d res tgt Ls st M) (kf : ¬ 0 ≤ x → AW l g ly Y d res (pc + 3) Ls st M) : AW l g ly Y d res pc Ls (vI x :: st) M := by
  intro p e R s m args below meth c Q n0 kc ks F hR hN hret H locs ls hH hS hl
  exact lv_if_ge F.1 F.2.1 (cd hd F.2.2.2.2.2.2.2) ht (fun h => kt h p e R s m args below meth c Q n0 kc ks F hR hN hret H locs ls hH hS hl) (fun h => kf h p e R s m args below meth c Q n0 kc ks F hR hN hret H locs ls hH hS hl)
theorem A_if_gt {x : Int32} {off : Int} {tgt : Nat} (hd : codeAt Y pc = some (.ifCond .gt off, 3)) (ht : (pc : Int) + off = (tgt : Int)) (kt : 0 < x → AW l g ly Y d res tgt Ls st M) (kf : ¬ 0 < x → AW l g ly Y d res (pc + 3) Ls st M) : AW l g ly Y d res pc Ls (vI x :: st) M := by
  intro p e R s m args below meth c Q n0 kc ks F hR hN hret H locs ls hH hS hl
  exact lv_if_gt F.1 F.2.1 (cd hd F.2.2.2.2.2.2.2) ht (fun h => kt h p e R s m args below meth c Q n0 kc ks F hR hN hret H locs ls hH hS hl) (fun h => kf h p e R s m args below meth c Q n0 kc ks F hR hN hret H locs ls hH hS hl)
theorem A_if_le {x : Int32} {off : Int} {tgt : Nat} (hd : codeAt Y pc = some (.ifCond .le off, 3)) (ht : (pc : Int) + off = (tgt : Int)) (kt : x ≤ 0 → AW l g ly Y d res tgt Ls st M) (kf : ¬ x ≤ 0 → AW l g ly Y d res (pc + 3) Ls st M) : AW l g ly Y d res pc Ls (vI x :: st) M := by
  intro p e R s m args below meth c Q n0 kc ks F hR hN hret H locs ls hH hS hl
  exact lv_if_le F.1 F.2.1 (cd hd F.2.2.2.2.2.2.2) ht (fun h => kt h p e R s m args below meth c Q n0 kc ks F hR hN hret H locs ls hH hS hl) (fun h => kf h p e R s m args below meth c Q n0 kc ks F hR hN hret H locs ls hH hS hl)
theorem A_icmp_eq {x y : Int32} {off : Int} {tgt : Nat} (hd : codeAt Y pc = some (.if_icmp .eq off, 3)) (ht : (pc : Int) + off = (tgt : Int)) (kt : x = y → AW l g ly Y d res tgt Ls st M) (kf : ¬ x = y → AW l g ly Y d res (pc + 3) Ls st M) : AW l g ly Y d res pc Ls (vI y :: vI x :: st) M := by
  intro p e R s m args below meth c Q n0 kc ks F hR hN hret H locs ls hH hS hl
  exact lv_icmp_eq F.1 F.2.1 (cd hd F.2.2.2.2.2.2.2) ht (fun h => kt h p e R s m args below meth c Q n0 kc ks F hR hN hret H locs ls hH hS hl) (fun h => kf h p e R s m args below meth c Q n0 kc ks F hR hN hret H locs ls hH hS hl)
theorem A_icmp_ne {x y : Int32} {off : Int} {tgt : Nat} (hd : codeAt Y pc = some (.if_icmp .ne off, 3)) (ht : (pc : Int) + off = (tgt : Int)) (kt : ¬ x = y → AW l g ly Y d res tgt Ls st M) (kf : x = y → AW l g ly Y d res (pc + 3) Ls st M) : AW l g ly Y d res pc Ls (vI y :: vI x :: st) M := by
  intro p e R s m args below meth c Q n0 kc ks F hR hN hret H locs ls hH hS hl
  exact lv_icmp_ne F.1 F.2.1 (cd hd F.2.2.2.2.2.2.2) ht (fun h => kt h p e R s m args below meth c Q n0 kc ks F hR hN hret H locs ls hH hS hl) (fun h => kf h p e R s m args below meth c Q n0 kc ks F hR hN hret H locs ls hH hS hl)
theorem A_icmp_lt {x y : Int32} {off : Int} {tgt : Nat} (hd : codeAt Y pc = some (.if_icmp .lt off, 3)) (ht : (pc : Int) + off = (tgt : Int)) (kt : x < y → AW l g ly Y d res tgt Ls st M) (kf : ¬ x < y → AW l g ly Y d res (pc + 3) Ls st M) : AW l g ly Y d res pc Ls (vI y :: vI x :: st) M := by
  intro p e R s m args below meth c Q n0 kc ks F hR hN hret H locs ls hH hS hl
  exact lv_icmp_lt F.1 F.2.1 (cd hd F.2.2.2.2.2.2.2) ht (fun h => kt h p e R s m args below meth c Q n0 kc ks F hR hN hret H locs ls hH hS hl) (fun h => kf h p e R s m args below meth c Q n0 kc ks F hR hN hret H locs ls hH hS hl)
theorem A_icmp_ge {x y : Int32} {off : Int} {tgt : Nat} (hd : codeAt Y pc = some (.if_icmp .ge off, 3)) (ht : (pc : Int) + off = (tgt : Int)) (kt : y ≤ x → AW l g ly Y d res tgt Ls st M) (kf : ¬ y ≤ x → AW l g ly Y d res (pc + 3) Ls st M) : AW l g ly Y d res pc Ls (vI y :: vI x :: st) M := by
  intro p e R s m args below meth c Q n0 kc ks F hR hN hret H locs ls hH hS hl
  exact lv_icmp_ge F.1 F.2.1 (cd hd F.2.2.2.2.2.2.2) ht (fun h => kt h p e R s m args below meth c Q n0 kc ks F hR hN hret H locs ls hH hS hl) (fun h => kf h p e R s m args below meth c Q n0 kc ks F hR hN hret H locs ls hH hS hl)
theorem A_icmp_gt {x y : Int32} {off : Int} {tgt : Nat} (hd : codeAt Y pc = some (.if_icmp .gt off, 3)) (ht : (pc : Int) + off = (tgt : Int)) (kt : y < x → AW l g ly Y d res tgt Ls st M) (kf : ¬ y < x → AW l g ly Y d res (pc + 3) Ls st M) : AW l g ly Y d res pc Ls (vI y :: vI x :: st) M := by
  intro p e R s m args below meth c Q n0 kc ks F hR hN hret H locs ls hH hS hl
  exact lv_icmp_gt F.1 F.2.1 (cd hd F.2.2.2.2.2.2.2) ht (fun h => kt h p e R s m args below meth c Q n0 kc ks F hR hN hret H locs ls hH hS hl) (fun h => kf h p e R s m args below meth c Q n0 kc ks F hR hN hret H locs ls hH hS hl)
theorem A_icmp_le {x y : Int32} {off : Int} {tgt : Nat} (hd : codeAt Y pc = some (.if_icmp .le off, 3)) (ht : (pc : Int) + off = (tgt : Int)) (kt : x ≤ y → AW l g ly Y d res tgt Ls st M) (kf : ¬ x ≤ y → AW l g ly Y d res (pc + 3) Ls st M) : AW l g ly Y d res pc Ls (vI y :: vI x :: st) M := by
  intro p e R s m args below meth c Q n0 kc ks F hR hN hret H locs ls hH hS hl
  exact lv_icmp_le F.1 F.2.1 (cd hd F.2.2.2.2.2.2.2) ht (fun h => kt h p e R s m args below meth c Q n0 kc ks F hR hN hret H locs ls hH hS hl) (fun h => kf h p e R s m args below meth c Q n0 kc ks F hR hN hret H locs ls hH hS hl)
theorem A_ifnull {r : Nat} {off : Int} {tgt : Nat} (hd : codeAt Y pc = some (.ifnull off, 3)) (ht : (pc : Int) + off = (tgt : Int)) (kt : r = 0 → AW l g ly Y d res tgt Ls st M) (kf : ¬ r = 0 → AW l g ly Y d res (pc + 3) Ls st M) : AW l g ly Y d res pc Ls (vA r :: st) M := by
  intro p e R s m args below meth c Q n0 kc ks F hR hN hret H locs ls hH hS hl
  rw [List.map_cons, cv_A]
  by_cases hr : r = 0
  · rw [hr, rv_0]
    exact lv_ifnullN F.1 F.2.1 (cd hd F.2.2.2.2.2.2.2) ht (kt hr p e R s m args below meth c Q n0 kc ks F hR hN hret H locs ls hH hS hl)
  · rw [rv_pos hr]
    exact lv_ifnull F.1 F.2.1 (cd hd F.2.2.2.2.2.2.2) (kf hr p e R s m args below meth c Q n0 kc ks F hR hN hret H locs ls hH hS hl)
theorem A_ifnonnull {r : Nat} {off : Int} {tgt : Nat} (hd : codeAt Y pc = some (.ifnonnull off, 3)) (ht : (pc : Int) + off = (tgt : Int)) (kt : ¬ r = 0 → AW l g ly Y d res tgt Ls st M) (kf : r = 0 → AW l g ly Y d res (pc + 3) Ls st M) : AW l g ly Y d res pc Ls (vA r :: st) M := by
  intro p e R s m args below meth c Q n0 kc ks F hR hN hret H locs ls hH hS hl
  rw [List.map_cons, cv_A]
  by_cases hr : r = 0
  · rw [hr, rv_0]
    exact lv_ifnonnullN F.1 F.2.1 (cd hd F.2.2.2.2.2.2.2) (kf hr p e R s m args below meth c Q n0 kc ks F hR hN hret H locs ls hH hS hl)
  · rw [rv_pos hr]
    exact lv_ifnonnull F.1 F.2.1 (cd hd F.2.2.2.2.2.2.2) ht (kt hr p e R s m args below meth c Q n0 kc ks F hR hN hret H locs ls hH hS hl)
theorem A_goto {off : Int} {tgt : Nat} (hd : codeAt Y pc = some (.goto off, 3)) (ht : (pc : Int) + off = (tgt : Int)) (K : AW l g ly Y d res tgt Ls st M) : AW l g ly Y d res pc Ls st M := by
  intro p e R s m args below meth c Q n0 kc ks F hR hN hret H locs ls hH hS hl
  exact lv_goto F.1 F.2.1 (cd hd F.2.2.2.2.2.2.2) ht (K p e R s m args below meth c Q n0 kc ks F hR hN hret H locs ls hH hS hl)
theorem A_lookup {dflt : Int} {ps : Array (Int × Int)} {n : Nat} {x : Int32} {off : Int} {tgt : Nat} (hd : codeAt Y pc = some (.lookupswitch dflt ps, n)) (hp : (ps.toList.zip (ps.toList.drop 1)).all (fun (a, next) => a.1 < next.1) = true) (ho : Op.lookupswitch.offset ps.toList dflt x.toInt = off) (ht : (pc : Int) + off = (tgt : Int)) (K : AW l g ly Y d res tgt Ls st M) : AW l g ly Y d res pc Ls (vI x :: st) M := by
  intro p e R s m args below meth c Q n0 kc ks F hR hN hret H locs ls hH hS hl
  exact lv_lookup F.1 F.2.1 (cd hd F.2.2.2.2.2.2.2) hp ho ht (K p e R s m args below meth c Q n0 kc ks F hR hN hret H locs ls hH hS hl)
theorem A_tableIn {dflt lo hi : Int} {offs : Array Int} {n : Nat} {x : Int32} {off : Int} {tgt : Nat} (hd : codeAt Y pc = some (.tableswitch dflt lo hi offs, n)) (h1 : ¬ x.toInt < lo) (h2 : ¬ hi < x.toInt) (ho : offs[(x.toInt - lo).toNat]? = some off) (ht : (pc : Int) + off = (tgt : Int)) (K : AW l g ly Y d res tgt Ls st M) : AW l g ly Y d res pc Ls (vI x :: st) M := by
  intro p e R s m args below meth c Q n0 kc ks F hR hN hret H locs ls hH hS hl
  exact lv_tableIn F.1 F.2.1 (cd hd F.2.2.2.2.2.2.2) h1 h2 ho ht (K p e R s m args below meth c Q n0 kc ks F hR hN hret H locs ls hH hS hl)
theorem A_tableOut {dflt lo hi : Int} {offs : Array Int} {n : Nat} {x : Int32} {tgt : Nat} (hd : codeAt Y pc = some (.tableswitch dflt lo hi offs, n)) (h : x.toInt < lo ∨ hi < x.toInt) (ht : (pc : Int) + dflt = (tgt : Int)) (K : AW l g ly Y d res tgt Ls st M) : AW l g ly Y d res pc Ls (vI x :: st) M := by
  intro p e R s m args below meth c Q n0 kc ks F hR hN hret H locs ls hH hS hl
  exact lv_tableOut F.1 F.2.1 (cd hd F.2.2.2.2.2.2.2) h ht (K p e R s m args below meth c Q n0 kc ks F hR hN hret H locs ls hH hS hl)
theorem A_ret {i : Instr} {r : Option ax_V} (hd : codeAt Y pc = some (i, 1)) (hr : rtOK Y i r) (hs : st = r.toList) : AW l g ly Y d (r, M) pc Ls st M := by
  intro p e R s m args below meth c Q n0 kc ks F hR hN hret H locs ls hH hS hl
  subst hs
  have h1 := hret H locs ls pc ⟨i, hd, hr⟩ hH hS
  have h2 : (r.toList).map (cv g) = (r.map (cv g)).toList := by cases r <;> rfl
  rw [h2]
  exact h1
theorem A_iret {x : Int32} (hd : codeAt Y pc = some (.ireturn, 1)) (hr : yr Y = some .int) : AW l g ly Y d (some (vI x), M) pc Ls [vI x] M := A_ret hd (Or.inl ⟨rfl, hr, x, rfl⟩) rfl
theorem A_zret {x : Int32} (hd : codeAt Y pc = some (.ireturn, 1)) (hr : yr Y = some .boolean) (hx : x = 0 ∨ x = 1) : AW l g ly Y d (some (vI x), M) pc Ls [vI x] M := A_ret hd (Or.inr (Or.inl ⟨rfl, hr, by rcases hx with rfl | rfl <;> simp⟩)) rfl
theorem A_lret {x : Int64} (hd : codeAt Y pc = some (.lreturn, 1)) (hr : yr Y = some .long) : AW l g ly Y d (some (vJ x), M) pc Ls [vJ x] M := A_ret hd (Or.inr (Or.inr (Or.inl ⟨rfl, hr, x, rfl⟩))) rfl
theorem A_aret {a : Nat} {n : String} (hd : codeAt Y pc = some (.areturn, 1)) (hr : yr Y = some (.object n)) : AW l g ly Y d (some (vA a), M) pc Ls [vA a] M := A_ret hd (Or.inr (Or.inr (Or.inr (Or.inl ⟨rfl, ⟨n, hr⟩, a, rfl⟩)))) rfl
theorem A_vret (hd : codeAt Y pc = some (.return_, 1)) (hr : yr Y = none) : AW l g ly Y d (none, M) pc Ls [] M := A_ret hd (Or.inr (Or.inr (Or.inr (Or.inr (Or.inl ⟨rfl, hr, rfl⟩))))) rfl
theorem A_nret {x : Int32} {ty : FieldType} (hd : codeAt Y pc = some (.ireturn, 1)) (hr : yr Y = some ty) (hx : narrow ty (.int x) = .int x) : AW l g ly Y d (some (vI x), M) pc Ls [vI x] M := A_ret hd (Or.inr (Or.inr (Or.inr (Or.inr (Or.inr ⟨rfl, ty, x, hr, rfl, hx⟩))))) rfl
theorem A_ldc {idx : Nat} {v : Int32} (hd : codeAt Y pc = some (.ldc idx, 2)) (hw : Cond.constant (yn Y).cls idx v ∈ WG) (K : AW l g ly Y d res (pc + 2) Ls (vI v :: st) M) : AW l g ly Y d res pc Ls st M := by
  intro p e R s m args below meth c Q n0 kc ks F hR hN hret H locs ls hH hS hl
  exact lv_ldc F.1 F.2.1 F.2.2.2.1 (F.2.2.2.2.1 _ hw) (cd hd F.2.2.2.2.2.2.2) (K p e R s m args below meth c Q n0 kc ks F hR hN hret H locs ls hH hS hl)
theorem A_ldc2 {idx : Nat} {v : Int64} (hd : codeAt Y pc = some (.ldc2_w idx, 3)) (hw : Cond.constantLong (yn Y).cls idx v ∈ WG) (K : AW l g ly Y d res (pc + 3) Ls (vJ v :: st) M) : AW l g ly Y d res pc Ls st M := by
  intro p e R s m args below meth c Q n0 kc ks F hR hN hret H locs ls hH hS hl
  exact lv_ldc2 F.1 F.2.1 F.2.2.2.1 (F.2.2.2.2.1 _ hw) (cd hd F.2.2.2.2.2.2.2) (K p e R s m args below meth c Q n0 kc ks F hR hN hret H locs ls hH hS hl)
theorem A_sld {i : Int32} (hd : codeAt Y pc = some (.iaload, 1)) (hi : vp_in i (gL g)) (K : AW l g ly Y d res (pc + 1) Ls (vI (gx g i.toNatClampNeg) :: st) M) : AW l g ly Y d res pc Ls (vI i :: vA 1 :: st) M := by
  intro p e R s m args below meth c Q n0 kc ks F hR hN hret H locs ls hH hS hl
  have hs := F.2.2.2.2.2.1
  exact va_sld F.1 F.2.1 hs.2.2.2.1 (Nat.lt_of_lt_of_le hs.2.2.2.2.1 hs.2.2.2.2.2.1) (fun h => absurd hs.2.2.2.2.1 (Nat.not_lt.mpr h)) hS hi (cd hd F.2.2.2.2.2.2.2) (K p e R s m args below meth c Q n0 kc ks F hR hN hret H locs ls hH hS hl)
theorem A_slen (hd : codeAt Y pc = some (.arraylength, 1)) (K : AW l g ly Y d res (pc + 1) Ls (vI (Int32.ofNat (gL g)) :: st) M) : AW l g ly Y d res pc Ls (vA 1 :: st) M := by
  intro p e R s m args below meth c Q n0 kc ks F hR hN hret H locs ls hH hS hl
  have hs := F.2.2.2.2.2.1
  exact va_slen F.1 F.2.1 hs.2.2.2.1 (Nat.lt_of_lt_of_le hs.2.2.2.2.1 hs.2.2.2.2.2.1) (fun h => absurd hs.2.2.2.2.1 (Nat.not_lt.mpr h)) hS (cd hd F.2.2.2.2.2.2.2) (K p e R s m args below meth c Q n0 kc ks F hR hN hret H locs ls hH hS hl)
end AXR
