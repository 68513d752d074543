/-! From the law's entry to its loop: the constructors are run, and the law's own claim comes out of the function of its loop. Printed by gen_start.py. -/
def M0 : ax_M := (fun _ _ => 0, fun _ _ => 0, fun _ _ => 0, 0)
/-- what the constructors leave, as far as it is asked for -/
def ILS : List (Nat × Nat × Int32) := [(3, 1, 0), (184, 1, 0), (66, 1, 0), (184, 16, 0), (63, 2, (-1)), (63, 3, 0), (184, 13, (-1)), (184, 14, 0), (135, 8, 0), (135, 9, (-1)), (139, 0, (-1)), (140, 1, 0), (184, 57, (-1)), (184, 58, 0), (68, 8, 0), (70, 0, (-1)), (64, 0, 0), (65, 0, 1), (191, 0, 0), (64, 1, 0), (65, 1, 2), (191, 1, 0), (64, 2, 0), (65, 2, 4), (191, 2, 0), (64, 3, 0), (65, 3, 8), (191, 3, 0), (64, 4, 0), (65, 4, 16), (191, 4, 0), (64, 5, 0), (65, 5, 32), (191, 5, 0), (64, 6, 0), (65, 6, 64), (191, 6, 0), (64, 7, 0), (65, 7, 128), (191, 7, 0), (64, 8, 0), (65, 8, 256), (191, 8, 0), (64, 9, 0), (65, 9, 512), (191, 9, 0), (64, 10, 0), (65, 10, 1024), (191, 10, 0), (64, 11, 0), (65, 11, 2048), (191, 11, 0), (64, 12, 0), (65, 12, 4096), (191, 12, 0), (64, 13, 0), (65, 13, 8192), (191, 13, 0), (64, 14, 0), (65, 14, 16384), (191, 14, 0), (64, 15, 0), (65, 15, 32768), (191, 15, 0), (158, 0, 0), (158, 1, 0), (193, 0, 0), (194, 0, 0), (159, 0, 0), (159, 1, 0), (193, 1, 0), (194, 1, 0), (160, 0, 0), (160, 1, 0), (193, 2, 0), (194, 2, 0), (161, 0, 0), (161, 1, 0), (193, 3, 0), (194, 3, 0), (162, 0, 0), (162, 1, 0), (193, 4, 0), (194, 4, 0), (163, 0, 0), (163, 1, 0), (193, 5, 0), (194, 5, 0), (164, 0, 0), (164, 1, 0), (193, 6, 0), (194, 6, 0), (165, 0, 0), (165, 1, 0), (193, 7, 0), (194, 7, 0), (166, 0, 0), (166, 1, 0), (193, 8, 0), (194, 8, 0), (167, 0, 0), (167, 1, 0), (193, 9, 0), (194, 9, 0), (142, 0, (-1)), (195, 0, (-1)), (142, 1, (-1)), (196, 0, (-1)), (142, 2, (-1)), (197, 0, (-1)), (142, 3, 0), (198, 0, 0), (142, 4, 0), (199, 0, 0), (142, 5, 0), (200, 0, 0), (143, 0, 0), (201, 0, 0), (143, 1, 0), (201, 1, 0), (143, 2, 0), (201, 2, 0), (143, 3, 0), (201, 3, 0), (143, 4, 0), (201, 4, 0), (143, 5, 0), (201, 5, 0), (144, 0, (-1)), (195, 1, (-1)), (144, 1, (-1)), (196, 1, (-1)), (144, 2, (-1)), (197, 1, (-1)), (144, 3, 0), (198, 1, 0), (144, 4, 0), (199, 1, 0), (144, 5, 0), (200, 1, 0), (145, 0, 0), (201, 6, 0), (145, 1, 0), (201, 7, 0), (145, 2, 0), (201, 8, 0), (145, 3, 0), (201, 9, 0), (145, 4, 0), (201, 10, 0), (145, 5, 0), (201, 11, 0), (146, 0, (-1)), (195, 2, (-1)), (146, 1, (-1)), (196, 2, (-1)), (146, 2, (-1)), (197, 2, (-1)), (146, 3, 0), (198, 2, 0), (146, 4, 0), (199, 2, 0), (146, 5, 0), (200, 2, 0), (147, 0, 0), (201, 12, 0), (147, 1, 0), (201, 13, 0), (147, 2, 0), (201, 14, 0), (147, 3, 0), (201, 15, 0), (147, 4, 0), (201, 16, 0), (147, 5, 0), (201, 17, 0), (148, 0, (-1)), (195, 3, (-1)), (148, 1, (-1)), (196, 3, (-1)), (148, 2, (-1)), (197, 3, (-1)), (148, 3, 0), (198, 3, 0), (148, 4, 0), (199, 3, 0), (148, 5, 0), (200, 3, 0), (149, 0, 0), (201, 18, 0), (149, 1, 0), (201, 19, 0), (149, 2, 0), (201, 20, 0), (149, 3, 0), (201, 21, 0), (149, 4, 0), (201, 22, 0), (149, 5, 0), (201, 23, 0), (150, 0, (-1)), (195, 4, (-1)), (150, 1, (-1)), (196, 4, (-1)), (150, 2, (-1)), (197, 4, (-1)), (150, 3, 0), (198, 4, 0), (150, 4, 0), (199, 4, 0), (150, 5, 0), (200, 4, 0), (151, 0, 0), (201, 24, 0), (151, 1, 0), (201, 25, 0), (151, 2, 0), (201, 26, 0), (151, 3, 0), (201, 27, 0), (151, 4, 0), (201, 28, 0), (151, 5, 0), (201, 29, 0), (152, 0, (-1)), (195, 5, (-1)), (152, 1, (-1)), (196, 5, (-1)), (152, 2, (-1)), (197, 5, (-1)), (152, 3, 0), (198, 5, 0), (152, 4, 0), (199, 5, 0), (152, 5, 0), (200, 5, 0), (153, 0, 0), (201, 30, 0), (153, 1, 0), (201, 31, 0), (153, 2, 0), (201, 32, 0), (153, 3, 0), (201, 33, 0), (153, 4, 0), (201, 34, 0), (153, 5, 0), (201, 35, 0), (154, 0, (-1)), (195, 6, (-1)), (154, 1, (-1)), (196, 6, (-1)), (154, 2, (-1)), (197, 6, (-1)), (154, 3, 0), (198, 6, 0), (154, 4, 0), (199, 6, 0), (154, 5, 0), (200, 6, 0), (155, 0, 0), (201, 36, 0), (155, 1, 0), (201, 37, 0), (155, 2, 0), (201, 38, 0), (155, 3, 0), (201, 39, 0), (155, 4, 0), (201, 40, 0), (155, 5, 0), (201, 41, 0), (156, 0, (-1)), (195, 7, (-1)), (156, 1, (-1)), (196, 7, (-1)), (156, 2, (-1)), (197, 7, (-1)), (156, 3, 0), (198, 7, 0), (156, 4, 0), (199, 7, 0), (156, 5, 0), (200, 7, 0), (157, 0, 0), (201, 42, 0), (157, 1, 0), (201, 43, 0), (157, 2, 0), (201, 44, 0), (157, 3, 0), (201, 45, 0), (157, 4, 0), (201, 46, 0), (157, 5, 0), (201, 47, 0), (9, 5, 0), (15, 5, 0), (21, 5, 0), (27, 5, 0), (33, 5, 0), (39, 5, 0), (45, 5, 0), (51, 5, 0), (57, 5, 0), (188, 0, 0), (188, 1, 0), (188, 2, 0), (188, 3, 0), (188, 4, 0), (188, 5, 0), (188, 6, 0), (188, 7, 0)]
def ALS : List (Nat × Nat × Nat) := [(8, 0, 9), (8, 1, 15), (8, 2, 21), (8, 3, 27), (8, 4, 33), (8, 5, 39), (8, 6, 45), (8, 7, 51), (2, 3, 57)]
def layOK (M : ax_M) (c : Nat) : Bool := (List.range (ln c)).all fun k => !(LYS (kd c) k) || decide (gA M c k = LYO (kd c) k c)
def initM : Option ax_M := match f_MW_init 182 2 (mS M0) with
  | some q => (match f_Mod_init 220 184 (mS q.2) with
    | some q2 => some q2.2
    | none => none)
  | none => none
def initC (M : ax_M) : Bool := decide (gn M = NT) && ((List.range (NT + 2)).all (layOK M) && ((ILS.all fun q => decide (gI M q.1 q.2.1 = q.2.2)) && ((ALS.all fun q => decide (gA M q.1 q.2.1 = q.2.2)) && (decide (gJ M 139 1 = 0) && (decide (gJ M 2 8 = 0) && (decide (gJ M 184 60 = 0) && decide (gJ M 70 1 = 0)))))))
def initOK : Bool := match initM with
  | some M => initC M
  | none => false
set_option maxRecDepth 100000 in
set_option maxHeartbeats 40000000 in
theorem init_ok : initOK = true := by decide +kernel
/-- the memory with which the loop begins -/
def Init (M : ax_M) : Prop := initC M = true
theorem Init.n {M : ax_M} (h : Init M) : gn M = NT := by
  unfold Init initC at h
  rw [Bool.and_eq_true] at h
  exact of_decide_eq_true h.1
theorem Init.lay {M : ax_M} (h : Init M) : Lay M := by
  unfold Init initC at h
  rw [Bool.and_eq_true, Bool.and_eq_true] at h
  intro c k h1 h2 h3
  have h4 := List.all_eq_true.mp (List.all_eq_true.mp h.2.1 c (List.mem_range.mpr h1)) k (List.mem_range.mpr h2)
  rw [h3] at h4
  exact of_decide_eq_true h4
theorem Init.i {M : ax_M} (h : Init M) {c k : Nat} {v : Int32} (hm : (c, k, v) ∈ ILS) : gI M c k = v := by
  unfold Init initC at h
  rw [Bool.and_eq_true, Bool.and_eq_true, Bool.and_eq_true] at h
  exact of_decide_eq_true (List.all_eq_true.mp h.2.2.1 _ hm)
theorem Init.a {M : ax_M} (h : Init M) {c k v : Nat} (hm : (c, k, v) ∈ ALS) : gA M c k = v := by
  unfold Init initC at h
  rw [Bool.and_eq_true, Bool.and_eq_true, Bool.and_eq_true, Bool.and_eq_true] at h
  exact of_decide_eq_true (List.all_eq_true.mp h.2.2.2.1 _ hm)
theorem Init.j {M : ax_M} (h : Init M) : gJ M 139 1 = 0 ∧ gJ M 2 8 = 0 ∧ gJ M 184 60 = 0 ∧ gJ M 70 1 = 0 := by
  unfold Init initC at h
  simp only [Bool.and_eq_true] at h
  obtain ⟨-, -, -, -, h1, h2, h3, h4⟩ := h
  exact ⟨of_decide_eq_true h1, of_decide_eq_true h2, of_decide_eq_true h3, of_decide_eq_true h4⟩
theorem init_run : ∃ (M1 M2 : ax_M), f_MW_init 182 2 (mS M0) = some ((), M1) ∧ f_Mod_init 220 184 (mS M1) = some ((), M2) ∧ Init M2 := by
  have h := init_ok
  unfold initOK initM at h
  cases h1 : f_MW_init 182 2 (mS M0) with
  | none => rw [h1] at h; cases h
  | some q1 =>
    rw [h1] at h
    cases h2 : f_Mod_init 220 184 (mS q1.2) with
    | none => simp only [h2] at h; cases h
    | some q2 =>
      simp only [h2] at h
      exact ⟨q1.2, q2.2, rfl, h2, h⟩
def setn (M : ax_M) (n : Nat) : ax_M := (M.1, M.2.1, M.2.2.1, n)
section AXW
variable {l : Launch} {g : ax_G} {Y : ax_Y} {d : Nat} {res : ax_R} {pc : Nat} {Ls : List (Nat × ax_V)} {st : List ax_V} {M : ax_M}
theorem al_true (a b : Nat) : al true a b = 0 := rfl
theorem A_setn {r : Option ax_V} {M' : ax_M} (h : AW l g true Y d (r, M') pc Ls st M) : AW l g true Y d (r, setn M' NT) pc Ls st M := by
  intro p e R s m args below meth c Q n0 kc ks F hR hN hret H locs ls hH hS hl
  have hN2 := hN.2
  simp only [al_true] at hN2
  refine h p e R s m args below meth c Q n0 kc ks F hR ⟨Or.inl rfl, by simp only [al_true]; exact hN2⟩ ?_ H locs ls hH hS hl
  intro H' locs' ls' pc' hx hok' hS'
  have e0 : gn M' = NT := (hok'.2.2.2.2 rfl).1
  have e1 : setn M' NT = M' := by
    unfold setn
    rw [← e0]
    rfl
  have hok2 : hok g true (setn M' NT) H' := by rw [e1]; exact hok'
  have h2 := hret H' locs' ls' pc' hx hok2 hS'
  simp only [al_true] at h2 ⊢
  exact h2
theorem A_switch (hL : Lay M) (hn : gn M = NT) (K : AW l g true Y d res pc Ls st M) : AW l g false Y d res pc Ls st M := by
  intro p e R s m args below meth c Q n0 kc ks F hR hN hret H locs ls hH hS hl
  rcases hN.1 with hb | hb
  · cases hb
  have a1 : al false n0 (gn M) ≤ al false n0 (gn res.2) := al_le (Or.inr hb.2)
  have a2 : al false (SZ n0) (SZ (gn M)) ≤ al false (SZ n0) (SZ (gn res.2)) := al_le (Or.inr (SZ_mono hb.2))
  have hN2 := hN.2
  refine K p e R s m args below meth c Q n0 (kc + al false n0 (gn M)) (ks + al false (SZ n0) (SZ (gn M))) F hR ⟨Or.inl rfl, ?_, ?_⟩ ?_ H locs ls ⟨hH.1, hH.2.1, hH.2.2.1, hH.2.2.2.1, fun _ => ⟨hn, hL⟩⟩ hS hl
  · show kc + al false n0 (gn M) + 0 ≤ R.cells
    omega
  · show ks + al false (SZ n0) (SZ (gn M)) + 0 ≤ R.slots
    omega
  · intro H' locs' ls' pc' hx hok' hS'
    have e1 : gn res.2 = gn M := (hok'.2.2.2.2 rfl).1.trans hn.symm
    have h2 := hret H' locs' ls' pc' hx ⟨hok'.1, hok'.2.1, hok'.2.2.1, hok'.2.2.2.1, fun q => by cases q⟩ hS'
    rw [e1] at h2
    exact h2
end AXW
theorem ml_Law_9 : mlI "MethodWardenLaw" 9 Y_MW_init 0 := ⟨⟨yok_MW_init, by decide +kernel, by decide⟩, Or.inl (inWG 115 (by decide +kernel) (by decide +kernel)), (inWG 116 (by decide +kernel) (by decide +kernel)), rfl⟩
theorem ml_Law_12 : mlI "MethodWardenLaw" 12 Y_Mod_init 0 := ⟨⟨yok_Mod_init, by decide +kernel, by decide⟩, Or.inl (inWG 1083 (by decide +kernel) (by decide +kernel)), (inWG 1084 (by decide +kernel) (by decide +kernel)), rfl⟩
theorem law_aw {l : Launch} {g : ax_G} {M1 M2 M' : ax_M} (h1 : f_MW_init 182 2 (mS M0) = some ((), M1)) (h2 : f_Mod_init 220 184 (mS M1) = some ((), M2)) (h3 : Init M2) (hf : f_Law_law (gL g) (gx g) M2 = some (1, M')) : AW l g false Y_Law_law 139 (some (vI 1), setn M' NT) 0 [(0, vA 1)] [] M0 := by
  have c1 : gn M1 = 182 := cnt_MW_init h1
  have c2 : gn M2 = 220 := cnt_Mod_init h2
  refine A_new (ci := 0) rfl cls_MW (inWG 113 (by decide +kernel) (by decide +kernel)) (inWG 114 (by decide +kernel) (by decide +kernel)) (inWG 96 (by decide +kernel) (by decide +kernel)) (by decide) (by decide) (show gn M0 + 1 ≤ NT by decide) ?_
  refine A_nA (show gn M0 + 2 = 2 from rfl) ?_
  refine A_dup rfl rfl ?_
  refine A_callI (as := []) (st' := [vA 2]) (r1 := (none, M1)) rfl ml_Law_9 (by decide) rfl rfl rfl (Nat.le_of_ble_eq_true rfl) (by decide) (c_MW_init h1) (Or.inr (by show gn M1 ≤ NT; rw [c1]; decide)) ?_
  refine A_stk (st' := [vA 2]) rfl ?_
  refine A_astore_n (Ls' := [(1, vA 2), (0, vA 1)]) rfl rfl (by decide) rfl ?_
  refine A_pc (pc' := 8) rfl ?_
  refine A_new (ci := 11) rfl cls_Mod (inWG 1081 (by decide +kernel) (by decide +kernel)) (inWG 1082 (by decide +kernel) (by decide +kernel)) (inWG 107 (by decide +kernel) (by decide +kernel)) (by decide) (by rw [c1]; decide) (show gn M1 + 1 ≤ NT by rw [c1]; decide) ?_
  refine A_nA (show gn M1 + 2 = 184 by rw [c1]) ?_
  refine A_dup rfl rfl ?_
  refine A_callI (as := []) (st' := [vA 184]) (r1 := (none, M2)) rfl ml_Law_12 (by decide) rfl rfl rfl (Nat.le_of_ble_eq_true rfl) (by decide) (c_Mod_init h2) (Or.inr (by show gn M2 ≤ NT; rw [c2]; decide)) ?_
  refine A_stk (st' := [vA 184]) rfl ?_
  refine A_astore_n (Ls' := [(2, vA 184), (1, vA 2), (0, vA 1)]) rfl rfl (by decide) rfl ?_
  refine A_pc (pc' := 16) rfl ?_
  exact A_switch h3.lay h3.n (A_setn (o_Law_law M2 1 M' hf))
/-! what holds of the state at the law's entry -/
theorem st_classes {s : State} {args : Array Value} (hts : ∀ w ∈ lw_tbl, w.before args s = true) : ∃ D : va_G, ∀ (c : Nat) (q : vw_C), classes[c]? = some q → u_Kn s q.1 q.2.1 q.2.2 (D.1 c) (D.2 c) := by
  have hw : ∀ w ∈ WG, w.before args s = true := fun w h => hts w (List.mem_filter.mp h).1
  have h0 : ∀ c : Nat, ∃ p : ClassId × (Nat → Nat), ∀ q : vw_C, classes[c]? = some q → u_Kn s q.1 q.2.1 q.2.2 p.1 p.2 := by
    intro c
    match c with
    | 0 => obtain ⟨cC, iS, h⟩ := u_known (C := "MethodWarden") (T := TC0) (N := 9) (n := 9) hw cls_MW.2.1 (hw _ (inWG 114 (by decide +kernel) (by decide +kernel))); exact ⟨(cC, iS), fun q hq => by cases hq; exact h⟩
    | 1 => obtain ⟨cC, iS, h⟩ := u_known (C := "MethodWarden$Text") (T := TC1) (N := 6) (n := 6) hw cls_Text.2.1 (hw _ (inWG 122 (by decide +kernel) (by decide +kernel))); exact ⟨(cC, iS), fun q hq => by cases hq; exact h⟩
    | 2 => obtain ⟨cC, iS, h⟩ := u_known (C := "MethodWarden$Reader") (T := TC2) (N := 8) (n := 8) hw cls_Reader.2.1 (hw _ (inWG 152 (by decide +kernel) (by decide +kernel))); exact ⟨(cC, iS), fun q hq => by cases hq; exact h⟩
    | 3 => obtain ⟨cC, iS, h⟩ := u_known (C := "MethodWarden$Expression") (T := TC3) (N := 6) (n := 6) hw cls_Expr.2.1 (hw _ (inWG 185 (by decide +kernel) (by decide +kernel))); exact ⟨(cC, iS), fun q hq => by cases hq; exact h⟩
    | 4 => obtain ⟨cC, iS, h⟩ := u_known (C := "MethodWarden$Context") (T := TC4) (N := 4) (n := 4) hw cls_Ctx.2.1 (hw _ (inWG 217 (by decide +kernel) (by decide +kernel))); exact ⟨(cC, iS), fun q hq => by cases hq; exact h⟩
    | 5 => obtain ⟨cC, iS, h⟩ := u_known (C := "MethodWarden$Items") (T := TC5) (N := 2) (n := 2) hw cls_Items.2.1 (hw _ (inWG 240 (by decide +kernel) (by decide +kernel))); exact ⟨(cC, iS), fun q hq => by cases hq; exact h⟩
    | 6 => obtain ⟨cC, iS, h⟩ := u_known (C := "MethodWarden$Worker") (T := TC6) (N := 11) (n := 11) hw cls_Worker.2.1 (hw _ (inWG 255 (by decide +kernel) (by decide +kernel))); exact ⟨(cC, iS), fun q hq => by cases hq; exact h⟩
    | 7 => obtain ⟨cC, iS, h⟩ := u_known (C := "MethodWarden$Value") (T := TC7) (N := 3) (n := 3) hw cls_Val.2.1 (hw _ (inWG 262 (by decide +kernel) (by decide +kernel))); exact ⟨(cC, iS), fun q hq => by cases hq; exact h⟩
    | 8 => obtain ⟨cC, iS, h⟩ := u_known (C := "MethodWarden$Gate") (T := TC8) (N := 10) (n := 10) hw cls_Gate.2.1 (hw _ (inWG 321 (by decide +kernel) (by decide +kernel))); exact ⟨(cC, iS), fun q hq => by cases hq; exact h⟩
    | 9 => obtain ⟨cC, iS, h⟩ := u_known (C := "MethodWarden$Method") (T := TC9) (N := 7) (n := 7) hw cls_Meth.2.1 (hw _ (inWG 334 (by decide +kernel) (by decide +kernel))); exact ⟨(cC, iS), fun q hq => by cases hq; exact h⟩
    | 10 => obtain ⟨cC, iS, h⟩ := u_known (C := "MethodWarden$Guard") (T := TC10) (N := 2) (n := 2) hw cls_Guard.2.1 (hw _ (inWG 367 (by decide +kernel) (by decide +kernel))); exact ⟨(cC, iS), fun q hq => by cases hq; exact h⟩
    | 11 => obtain ⟨cC, iS, h⟩ := u_known (C := "MethodWardenModel") (T := TC11) (N := 61) (n := 61) hw cls_Mod.2.1 (hw _ (inWG 1082 (by decide +kernel) (by decide +kernel))); exact ⟨(cC, iS), fun q hq => by cases hq; exact h⟩
    | n + 12 => exact ⟨(0, fun _ => 0), fun q hq => by cases hq⟩
  obtain ⟨f, hf⟩ := Classical.axiomOfChoice h0
  exact ⟨(fun c => (f c).1, fun c => (f c).2), fun c q hq => hf c q hq⟩
theorem st_prim {s : State} {args : Array Value} {ty : FieldType} (h : (Cond.arrayClass ty).before args s = true) (hra : ∀ cA : ClassId, s.vm.findClass ("[" ++ ty.toString) = some cA → va_RA s cA ty) : ∃ cA : ClassId, ArrOfT s cA ty ∧ va_RA s cA ty := by
  obtain ⟨cA, k, comp, h1, h2, h3⟩ := Cond.arrayClass_spec h
  exact ⟨cA, fun n z => ⟨fun k h => (by cases h), k, h2, comp, h3⟩, hra cA h1⟩
theorem st_obj {s : State} {C : String} {args : Array Value} (h : (Cond.arrayOver (.object C)).before args s = true) : ∃ cA : ClassId, ArrOfT s cA (.object C) ∧ va_RA s cA (.object C) := by
  obtain ⟨comp, c, k, h1, h2, h3, h4, h5⟩ := Cond.arrayOver_spec h
  exact ⟨c, fun n z => ⟨fun k h => (by cases h), k, h3, comp, h4⟩, k, comp, h3, h4, h1, h5⟩
theorem st_arrays {s : State} {args : Array Value} (hts : ∀ w ∈ lw_tbl, w.before args s = true) : ∃ dA : Nat → ClassId, ∀ t, t < ATS.length → ArrOfT s (dA t) (ATS.getD t .int) ∧ va_RA s (dA t) (ATS.getD t .int) := by
  have h0 : ∀ t : Nat, ∃ cA : ClassId, t < ATS.length → ArrOfT s cA (ATS.getD t .int) ∧ va_RA s cA (ATS.getD t .int) := by
    intro t
    match t with
    | 0 => obtain ⟨cA, h⟩ := st_prim (s := s) (ty := .int) (hts _ (List.mem_of_getElem? (i := 182) (by decide +kernel))) (fun _ h => h); exact ⟨cA, fun _ => h⟩
    | 1 => obtain ⟨cA, h⟩ := st_prim (s := s) (ty := .long) (hts _ (List.mem_of_getElem? (i := 215) (by decide +kernel))) (fun _ h => h); exact ⟨cA, fun _ => h⟩
    | 2 => obtain ⟨cA, h⟩ := st_prim (s := s) (ty := .char) (hts _ (List.mem_of_getElem? (i := 150) (by decide +kernel))) (fun _ h => h); exact ⟨cA, fun _ => h⟩
    | 3 => obtain ⟨cA, h⟩ := st_prim (s := s) (ty := .boolean) (hts _ (List.mem_of_getElem? (i := 1271) (by decide +kernel))) (fun _ h => h); exact ⟨cA, fun _ => h⟩
    | 4 => obtain ⟨cA, h⟩ := st_obj (s := s) (C := "MethodWarden$Expression") (hts _ (List.mem_of_getElem? (i := 184) (by decide +kernel))); exact ⟨cA, fun _ => h⟩
    | 5 => obtain ⟨cA, h⟩ := st_obj (s := s) (C := "MethodWarden$Value") (hts _ (List.mem_of_getElem? (i := 261) (by decide +kernel))); exact ⟨cA, fun _ => h⟩
    | 6 => obtain ⟨cA, h⟩ := st_obj (s := s) (C := "MethodWarden$Method") (hts _ (List.mem_of_getElem? (i := 327) (by decide +kernel))); exact ⟨cA, fun _ => h⟩
    | 7 => obtain ⟨cA, h⟩ := st_obj (s := s) (C := "MethodWarden$Guard") (hts _ (List.mem_of_getElem? (i := 329) (by decide +kernel))); exact ⟨cA, fun _ => h⟩
    | 8 => obtain ⟨cA, h⟩ := st_obj (s := s) (C := "MethodWarden$Items") (hts _ (List.mem_of_getElem? (i := 331) (by decide +kernel))); exact ⟨cA, fun _ => h⟩
    | n + 9 => exact ⟨0, fun h => absurd h (by have : ATS.length = 9 := rfl; omega)⟩
  obtain ⟨f, hf⟩ := Classical.axiomOfChoice h0
  exact ⟨f, hf⟩
def stm (i : Nat) : Term := .string (STO i) (STI i)
set_option maxRecDepth 100000 in
set_option maxHeartbeats 4000000 in
theorem st_strings {s : State} {args : Array Value} {A : Nat → Prop} (hgv : (Jvm.Cond.and given_1 narrow_1).before args s = true) (hA : ∀ a : Nat, a < s.heap.size → ¬ A a) : ∃ adK adV : Nat → Nat, vk_S NST STLEN STBYT adK adV A s s.heap ∧ ∀ i : Nat, i < NST → (stm i).eval args s none [] s = some (.ref (adK i)) := by
  have hs := flat_of_before _ hgv
  have b1 : ∀ i : Nat, i < NST → STLEN.getD i 0 < 2 ^ 31 := by decide +kernel
  have b2 : ∀ i : Nat, i < NST → (Cond.exactly (stm i) "java/lang/String").before args s = true := by
    have h : (List.range NST).all (fun i => decide (Cond.exactly (stm i) "java/lang/String" ∈ flatC (Jvm.Cond.and given_1 narrow_1))) = true := by decide +kernel
    intro i hi
    exact hs _ (of_decide_eq_true (List.all_eq_true.mp h i (List.mem_range.mpr hi)))
  have b3 : ∀ i : Nat, i < NST → (Cond.eq (.field (stm i) "java/lang/String" "coder" "B") (.int 0)).before args s = true := by
    have h : (List.range NST).all (fun i => decide (Cond.eq (.field (stm i) "java/lang/String" "coder" "B") (.int 0) ∈ flatC (Jvm.Cond.and given_1 narrow_1))) = true := by decide +kernel
    intro i hi
    exact hs _ (of_decide_eq_true (List.all_eq_true.mp h i (List.mem_range.mpr hi)))
  have b4 : ∀ i : Nat, i < NST → (Cond.arrayOf (.field (stm i) "java/lang/String" "value" "[B") .byte).before args s = true := by
    have h : (List.range NST).all (fun i => decide (Cond.arrayOf (.field (stm i) "java/lang/String" "value" "[B") .byte ∈ flatC (Jvm.Cond.and given_1 narrow_1))) = true := by decide +kernel
    intro i hi
    exact hs _ (of_decide_eq_true (List.all_eq_true.mp h i (List.mem_range.mpr hi)))
  have b5 : ∀ i : Nat, i < NST → (Cond.eq (.length (.field (stm i) "java/lang/String" "value" "[B")) (.int (Int32.ofNat (STLEN.getD i 0)))).before args s = true := by
    have h : (List.range NST).all (fun i => decide (Cond.eq (.length (.field (stm i) "java/lang/String" "value" "[B")) (.int (Int32.ofNat (STLEN.getD i 0))) ∈ flatC (Jvm.Cond.and given_1 narrow_1))) = true := by decide +kernel
    intro i hi
    exact hs _ (of_decide_eq_true (List.all_eq_true.mp h i (List.mem_range.mpr hi)))
  have b6 : ∀ i : Nat, i < NST → ∀ j : Nat, j < STLEN.getD i 0 → (Cond.eq (.elem (.field (stm i) "java/lang/String" "value" "[B") (.int (Int32.ofNat j))) (.int ((STBYT.getD i []).getD j 0))).before args s = true := by
    have h : (List.range NST).all (fun i => (List.range (STLEN.getD i 0)).all (fun j => decide (Cond.eq (.elem (.field (stm i) "java/lang/String" "value" "[B") (.int (Int32.ofNat j))) (.int ((STBYT.getD i []).getD j 0)) ∈ flatC (Jvm.Cond.and given_1 narrow_1)))) = true := by decide +kernel
    intro i hi j hj
    exact hs _ (of_decide_eq_true (List.all_eq_true.mp (List.all_eq_true.mp h i (List.mem_range.mpr hi)) j (List.mem_range.mpr hj)))
  have b7 : ∀ i j : Nat, i < NST → j < NST → i ≠ j → (Cond.not (Cond.eq (stm i) (stm j))).before args s = true ∨ (Cond.not (Cond.eq (stm j) (stm i))).before args s = true := by
    have h : (List.range NST).all (fun i => (List.range NST).all (fun j => decide (i = j) || (decide (Cond.not (Cond.eq (stm i) (stm j)) ∈ flatC (Jvm.Cond.and given_1 narrow_1)) || decide (Cond.not (Cond.eq (stm j) (stm i)) ∈ flatC (Jvm.Cond.and given_1 narrow_1))))) = true := by decide +kernel
    intro i j hi hj hij
    have h1 := List.all_eq_true.mp (List.all_eq_true.mp h i (List.mem_range.mpr hi)) j (List.mem_range.mpr hj)
    rw [Bool.or_eq_true, Bool.or_eq_true] at h1
    rcases h1 with h1 | h1 | h1
    · exact absurd (of_decide_eq_true h1) hij
    · exact Or.inl (hs _ (of_decide_eq_true h1))
    · exact Or.inr (hs _ (of_decide_eq_true h1))
  exact vk_Sof b1 b2 b3 b4 b5 b6 b7 hA
theorem str_in : ∀ i, i < NST → Cond.stringRef (STO i) (STI i) (STX i) ∈ lw_tbl := by decide +kernel
theorem aon_in : ∀ C ∈ AON, Cond.arrayOver (.object C) ∈ lw_tbl := by decide +kernel
set_option maxRecDepth 100000 in
set_option maxHeartbeats 4000000 in
theorem my_start {p : Program} {e : Env} {s : State} {m : MethodId} {below : List Frame} {meth : Method} {c : Code} (l : Launch) {b L : Nat} {xs : Nat → Int32} (hL : L ≤ 2560) (C0 : lw_At p s m meth c b L xs) (hlaw : ∀ M2, Init M2 → ∃ M', f_Law_law L xs M2 = some (1, M')) : W p l e room_1 s m #[Value.ref b] below meth c s.heap [] 0 0 (lw_Z below #[Value.ref b] s) (entryFrame m ([Value.ref b] : List Value).toArray 4) := by
  obtain ⟨hx, hb, hr, hml, hown, hts, hX, hbl, hlocks, hgv⟩ := C0
  obtain ⟨D, hD⟩ := st_classes hts
  obtain ⟨dA, hdA⟩ := st_arrays hts
  have hAo : ∀ a : Nat, a < s.heap.size → ¬ s.heap.size ≤ a := fun a h => Nat.not_le.mpr h
  obtain ⟨adK, adV, hS7, hK⟩ := st_strings (A := fun q => s.heap.size ≤ q) hgv hAo
  have hflat := flat_of_before _ hgv
  have hcs : va_Z "java/lang/String" "COMPACT_STRINGS" "Z" (.int 1) (fun q => s.heap.size ≤ q) s s.heap := va_Zof (hts _ (List.mem_of_getElem? (i := 513) (by decide +kernel))) (hts _ (List.mem_of_getElem? (i := 108) (by decide +kernel))) (va_eqt (hflat (Cond.eq (.static "java/lang/String" "COMPACT_STRINGS" "Z") (.int 1)) (by decide +kernel))) hAo
  have hsf0 : va_Zq "jdk/internal/util/Preconditions" "SIOOBE_FORMATTER" "Ljava/util/function/BiFunction;" (fun q => s.heap.size ≤ q) s s.heap := va_Zqof (hts _ (List.mem_of_getElem? (i := 529) (by decide +kernel))) (hts _ (List.mem_of_getElem? (i := 110) (by decide +kernel))) (hflat (Cond.isRef (.static "jdk/internal/util/Preconditions" "SIOOBE_FORMATTER" "Ljava/util/function/BiFunction;")) (by decide +kernel)) hAo
  obtain ⟨t, hsf⟩ : ∃ t : Nat, va_Z "jdk/internal/util/Preconditions" "SIOOBE_FORMATTER" "Ljava/util/function/BiFunction;" .null (fun q => s.heap.size ≤ q) s s.heap ∨ va_Z "jdk/internal/util/Preconditions" "SIOOBE_FORMATTER" "Ljava/util/function/BiFunction;" (.ref t) (fun q => s.heap.size ≤ q) s s.heap := by
    rcases hsf0 with h | ⟨t, h⟩
    · exact ⟨0, Or.inl h⟩
    · exact ⟨t, Or.inr h⟩
  obtain ⟨g, hg⟩ : ∃ g : ax_G, g = (D, dA, s.heap.size, b, L, xs, adK, fun i => if i = 1000 then t else adV i) := ⟨_, rfl⟩
  have hV : ∀ i, i < NST → gV g i = adV i := by
    intro i hi
    have h0 : NST = 11 := rfl
    rw [hg]
    show (if i = 1000 then t else adV i) = adV i
    rw [if_neg (by omega)]
  have hsok : sok g s := by
    refine ⟨⟨?_, ?_⟩, ?_, ?_, ?_, ?_, ?_, ?_, ?_, ?_, ?_⟩
    · rw [hg]; exact hD
    · intro k q hq
      have hk : k < ATS.length := by
        rcases Nat.lt_or_ge k ATS.length with h | h
        · exact h
        · rw [List.getElem?_eq_none (by unfold tysOf; rw [List.length_map, List.length_range]; exact h)] at hq
          cases hq
      rw [tys_at hk] at hq
      cases hq
      rw [hg]
      exact hdA k hk
    · intro w hw
      have h2 := hts w (List.mem_filter.mp hw).1
      rcases nw_kind w hw with ⟨_, _, _, _, _, _, rfl⟩ | ⟨_, _, _, _, rfl⟩
      · exact va_Nw.of rfl h2
      · exact va_Nw.of rfl h2
    · intro i hi
      rw [hg]
      exact vk_R.of (hts _ (str_in i hi)) (hK i hi)
    · rw [hg]; exact hX
    · rw [hg]; exact hbl
    · rw [hg]; exact Nat.le_refl _
    · refine ⟨fun i hi => ?_, fun i j hi hj => ?_⟩
      · have h2 := hS7.1 i hi
        rw [hV i hi]
        rw [hg]
        exact h2
      · rw [hg]
        exact hS7.2 i j hi hj
    · intro C hC
      exact va_AO.of (hts _ (aon_in C hC))
    · rw [hg]; exact hcs
    · have h2 : gV g 1000 = t := by rw [hg]; rfl
      rw [h2, hg]
      exact hsf
  have eb : gb g = s.heap.size := by rw [hg]
  have hok0 : hok g false M0 s.heap := by
    refine ⟨fun k q hq => ?_, ?_, Nat.zero_le _, fun _ _ _ => ⟨rfl, rfl, rfl⟩, fun q => by cases q⟩
    · have h2 : WS g M0 = [] := rfl
      rw [h2] at hq
      cases hq
    · rw [eb]
      rfl
  obtain ⟨M1, M2, h1, h2, h3⟩ := init_run
  obtain ⟨M', hf⟩ := hlaw M2 h3
  have eL : gL g = L := by rw [hg]
  have ex : gx g = xs := by rw [hg]
  have AWL := law_aw (l := l) (g := g) h1 h2 h3 (by rw [eL, ex]; exact hf)
  have hl := lv_entry ([Value.ref b]) (n := 4) (Nat.le_of_ble_eq_true rfl)
  rw [lg_entry_eq]
  generalize (lg_sl ([Value.ref b]) ++ List.replicate (4 - (lg_sl ([Value.ref b])).length) Slot.unset).toArray = ls at hl ⊢
  have hl2 : lv_has ls 4 ([(0, vA 1)].map (ax_cl g)) := by
    have e1 : rv g 1 = .ref b := by rw [hg]; rfl
    show lv_has ls 4 [(0, rv g 1)]
    rw [e1]
    exact hl
  have key := AWL p e room_1 s m #[Value.ref b] below meth c (lw_Z below #[Value.ref b] s) 0 0 0 ⟨hx, hb, hml, hown, fun w hw => hts w (List.mem_filter.mp hw).1, hsok, fun h => absurd h (by decide), dcd_Law_law⟩ ⟨by decide, by decide⟩ ⟨Or.inr ⟨Nat.zero_le _, Nat.zero_le _⟩, by show 0 + (NT - 0) ≤ 600000; decide, by show 0 + (SZ NT - SZ 0) ≤ 7302250; decide +kernel⟩ ?_ s.heap [] ls hok0 va_S.rf hl2
  · exact key
  · intro H' locs' ls' pc' hx2 hok' hS'
    refine va_forget (fun q hq => by rw [← eb]; exact hS'.2.2 q hq) ?_
    refine W.widen (k := 600000) (n := 7302250) (by show 0 + (NT - 0) ≤ 600000; decide) (by show 0 + (SZ NT - SZ 0) ≤ 7302250; decide +kernel) ?_
    obtain ⟨i, hi, hrt⟩ := hx2
    have hie : i = .ireturn := by
      rcases hrt with ⟨h, -⟩ | ⟨h, -⟩ | ⟨-, -, x, h⟩ | ⟨-, -, a, h⟩ | ⟨-, -, h⟩ | ⟨h, -⟩
      · exact h
      · exact h
      · cases h
      · cases h
      · cases h
      · exact h
    subst hie
    exact lw_ret hx hb hr hlocks (cd hi dcd_Law_law)
