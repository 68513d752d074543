/-! Words for functions that follow the code, and facts of classes and cells. Printed by gen_facts.py. -/
def kM {α β : Type} (a : α) (f : α → Option β) : Option β := f a
theorem kM_out {α β : Type} {a : α} {f : α → Option β} {r : Option β} (h : kM a f = r) : ∃ b, a = b ∧ f b = r := ⟨a, rfl, h⟩
def bnd {α β : Type} (o : Option (α × ax_M)) (f : α → ax_M → Option β) : Option β := match o with
  | some q => f q.1 q.2
  | none => none
theorem bnd_out {α β : Type} {o : Option (α × ax_M)} {f : α → ax_M → Option β} {r : β} (h : bnd o f = some r) : ∃ a m, o = some (a, m) ∧ f a m = some r := by
  cases o with
  | none => cases h
  | some q => exact ⟨q.1, q.2, rfl, h⟩
def gk {β : Type} (r K : Nat) (x : Option β) : Option β := if kd r = K then x else none
theorem gk_out {β : Type} {r K : Nat} {x : Option β} {b : β} (h : gk r K x = some b) : kd r = K ∧ x = some b := by
  unfold gk at h
  split at h
  next hk => exact ⟨hk, h⟩
  next => cases h
def gl {β : Type} (M : ax_M) (r : Nat) (x : Option β) : Option β := if r < gn M + 2 then x else none
theorem gl_out {β : Type} {M : ax_M} {r : Nat} {x : Option β} {b : β} (h : gl M r x = some b) : r < gn M + 2 ∧ x = some b := by
  unfold gl at h
  split at h
  next hk => exact ⟨hk, h⟩
  next => cases h
def gi {β : Type} (i : Int32) (n : Nat) (x : Option β) : Option β := if i < 0 ∨ n ≤ i.toNatClampNeg then none else x
theorem gi_out {β : Type} {i : Int32} {n : Nat} {x : Option β} {b : β} (h : gi i n x = some b) : vp_in i n ∧ x = some b := by
  unfold gi at h
  split at h
  next => cases h
  next hk => exact ⟨hk, h⟩
def gz {β : Type} (y : Int64) (x : Option β) : Option β := if y = 0 then none else x
theorem gz_out {β : Type} {y : Int64} {x : Option β} {b : β} (h : gz y x = some b) : ¬ y = 0 ∧ x = some b := by
  unfold gz at h
  split at h
  next => cases h
  next hk => exact ⟨hk, h⟩
def gzi {β : Type} (y : Int32) (x : Option β) : Option β := if y = 0 then none else x
theorem gzi_out {β : Type} {y : Int32} {x : Option β} {b : β} (h : gzi y x = some b) : ¬ y = 0 ∧ x = some b := by
  unfold gzi at h
  split at h
  next => cases h
  next hk => exact ⟨hk, h⟩
theorem nb_of {x : Int32} (h : x = 0 ∨ x = 1) : narrow .boolean (.int x) = .int x := by
  rcases h with rfl | rfl <;> rfl
def g2 {β : Type} (y : Int32) (x : Option β) : Option β := if y = 0 ∨ y = 1 then x else none
theorem g2_out {β : Type} {y : Int32} {x : Option β} {b : β} (h : g2 y x = some b) : (y = 0 ∨ y = 1) ∧ x = some b := by
  unfold g2 at h
  split at h
  next hk => exact ⟨hk, h⟩
  next => cases h
def gc {β : Type} (y : Int32) (x : Option β) : Option β := if narrow .char (.int y) = .int y then x else none
theorem gc_out {β : Type} {y : Int32} {x : Option β} {b : β} (h : gc y x = some b) : narrow .char (.int y) = .int y ∧ x = some b := by
  unfold gc at h
  split at h
  next hk => exact ⟨hk, h⟩
  next => cases h
def ge {β : Type} (a b : Nat) (x : Option β) : Option β := if a = b then x else none
theorem ge_out {β : Type} {a c : Nat} {x : Option β} {b : β} (h : ge a c x = some b) : a = c ∧ x = some b := by
  unfold ge at h
  split at h
  next hk => exact ⟨hk, h⟩
  next => cases h
def gle {β : Type} (a b : Nat) (x : Option β) : Option β := if a ≤ b then x else none
theorem gle_out {β : Type} {a c : Nat} {x : Option β} {b : β} (h : gle a c x = some b) : a ≤ c ∧ x = some b := by
  unfold gle at h
  split at h
  next hk => exact ⟨hk, h⟩
  next => cases h
/-- a constructor's function: the count at the end is nf -/
def nfw {α : Type} (nf : Nat) (M : ax_M) (o : Option (α × ax_M)) : Option (α × ax_M) := match o with
  | some q => if gn q.2 = nf ∧ gn M ≤ nf then some q else none
  | none => none
theorem nfw_out {α : Type} {nf : Nat} {M M' : ax_M} {o : Option (α × ax_M)} {r : α} (h : nfw nf M o = some (r, M')) : gn M' = nf ∧ gn M ≤ nf ∧ o = some (r, M') := by
  cases o with
  | none => cases h
  | some q =>
    unfold nfw at h
    dsimp only at h
    split at h
    next hk =>
      cases h
      exact ⟨hk.1, hk.2, rfl⟩
    next => cases h
theorem leaf {α : Type} {a c : α} {b m : ax_M} (h : (some (a, b) : Option (α × ax_M)) = some (c, m)) : a = c ∧ b = m := by
  cases h
  exact ⟨rfl, rfl⟩
theorem vin_lt {i : Int32} {n : Nat} (h : vp_in i n) : i.toNatClampNeg < n := Nat.not_le.mp fun q => h (Or.inr q)
theorem vin_d {i : Int32} {n : Nat} (h : ¬ (i < 0 ∨ n ≤ i.toNatClampNeg)) : vp_in i n := h
theorem iiN {n : Int} {k : Int32} (h : Int32.ofInt n = k) (x : Int32) : x + Int32.ofInt n = x + k := by rw [h]
theorem ne_i {x v : Int32} {k : Int} (h : ¬ x = v) (hv : v.toInt = k) : x.toInt ≠ k := fun e => h (Int32.toInt_inj.mp (e.trans hv.symm))
theorem fa_nil {p : Int → Prop} : ∀ v ∈ ([] : List Int), p v := fun _ h => absurd h List.not_mem_nil
theorem fa_cons {p : Int → Prop} {a : Int} {l : List Int} (h : p a) (t : ∀ v ∈ l, p v) : ∀ v ∈ a :: l, p v := List.forall_mem_cons.mpr ⟨h, t⟩
theorem lk_def : ∀ (ps : List (Int × Int)) (dflt k : Int), (∀ v ∈ ps.map (·.1), k ≠ v) → Op.lookupswitch.offset ps dflt k = dflt
  | [], _, _, _ => rfl
  | (a, o) :: r, dflt, k, h => by
    rw [Op.lookupswitch.offset_cons, if_neg (fun e => h a (by simp) e.symm)]
    exact lk_def r dflt k (fun v hv => h v (by simp at hv ⊢; exact Or.inr hv))
section AXS
variable {l : Launch} {g : ax_G} {ly : Bool} {Y : ax_Y} {d : Nat} {res : ax_R} {pc : Nat} {Ls : List (Nat × ax_V)} {st : List ax_V} {M : ax_M}
theorem A_nI {x y : Int32} (e : x = y) (K : AW l g ly Y d res pc Ls (vI y :: st) M) : AW l g ly Y d res pc Ls (vI x :: st) M := e ▸ K
theorem A_nJ {x y : Int64} (e : x = y) (K : AW l g ly Y d res pc Ls (vJ y :: st) M) : AW l g ly Y d res pc Ls (vJ x :: st) M := e ▸ K
theorem A_nA {x y : Nat} (e : x = y) (K : AW l g ly Y d res pc Ls (vA y :: st) M) : AW l g ly Y d res pc Ls (vA x :: st) M := e ▸ K
theorem A_tableDef {dflt lo hi : Int} {offs : Array Int} {n : Nat} {x : Int32} {tgt : Nat} (vs : List Int) (hd : codeAt Y pc = some (.tableswitch dflt lo hi offs, n)) (hlen : lo + (offs.size : Int) = hi + 1) (hc : (List.range offs.size).all (fun j => offs[j]? == some dflt || vs.contains (lo + (j : Int))) = true) (hx : ∀ v ∈ vs, x.toInt ≠ v) (ht : (pc : Int) + dflt = (tgt : Int)) (K : AW l g ly Y d res tgt Ls st M) : AW l g ly Y d res pc Ls (vI x :: st) M := by
  by_cases h1 : x.toInt < lo
  · exact A_tableOut hd (Or.inl h1) ht K
  · by_cases h2 : hi < x.toInt
    · exact A_tableOut hd (Or.inr h2) ht K
    · refine A_tableIn hd h1 h2 (off := dflt) ?_ ht K
      have hj : (x.toInt - lo).toNat < offs.size := by omega
      have h3 := List.all_eq_true.mp hc _ (List.mem_range.mpr hj)
      rw [Bool.or_eq_true] at h3
      rcases h3 with h3 | h3
      · exact eq_of_beq h3
      · exfalso
        have h4 : (lo + (((x.toInt - lo).toNat : Nat) : Int)) ∈ vs := List.contains_iff_mem.mp h3
        exact hx _ h4 (by omega)
end AXS
theorem kl_MW : ∀ c, c < NT + 2 → kd c = 0 → ln c = 9 := by decide +kernel
theorem cls_MW : clsOK 0 "MethodWarden" TC0 9 := ⟨rfl, inWGs _ [424, 426, 428, 430, 432, 434, 436, 438, 440] (by decide +kernel) (by decide +kernel), by decide +kernel, by decide +kernel, by decide, fun c h => kl_MW c (kd_lt h (by decide)).2 h⟩
theorem kl_Text : ∀ c, c < NT + 2 → kd c = 1 → ln c = 6 := by decide +kernel
theorem cls_Text : clsOK 1 "MethodWarden$Text" TC1 6 := ⟨rfl, inWGs _ [137, 139, 141, 143, 145, 147] (by decide +kernel) (by decide +kernel), by decide +kernel, by decide +kernel, by decide, fun c h => kl_Text c (kd_lt h (by decide)).2 h⟩
theorem kl_Reader : ∀ c, c < NT + 2 → kd c = 2 → ln c = 8 := by decide +kernel
theorem cls_Reader : clsOK 2 "MethodWarden$Reader" TC2 8 := ⟨rfl, inWGs _ [165, 167, 169, 171, 173, 175, 177, 179] (by decide +kernel) (by decide +kernel), by decide +kernel, by decide +kernel, by decide, fun c h => kl_Reader c (kd_lt h (by decide)).2 h⟩
theorem kl_Expr : ∀ c, c < NT + 2 → kd c = 3 → ln c = 6 := by decide +kernel
theorem cls_Expr : clsOK 3 "MethodWarden$Expression" TC3 6 := ⟨rfl, inWGs _ [202, 204, 206, 208, 210, 212] (by decide +kernel) (by decide +kernel), by decide +kernel, by decide +kernel, by decide, fun c h => kl_Expr c (kd_lt h (by decide)).2 h⟩
theorem kl_Ctx : ∀ c, c < NT + 2 → kd c = 4 → ln c = 4 := by decide +kernel
theorem cls_Ctx : clsOK 4 "MethodWarden$Context" TC4 4 := ⟨rfl, inWGs _ [230, 232, 234, 236] (by decide +kernel) (by decide +kernel), by decide +kernel, by decide +kernel, by decide, fun c h => kl_Ctx c (kd_lt h (by decide)).2 h⟩
theorem kl_Items : ∀ c, c < NT + 2 → kd c = 5 → ln c = 2 := by decide +kernel
theorem cls_Items : clsOK 5 "MethodWarden$Items" TC5 2 := ⟨rfl, inWGs _ [249, 251] (by decide +kernel) (by decide +kernel), by decide +kernel, by decide +kernel, by decide, fun c h => kl_Items c (kd_lt h (by decide)).2 h⟩
theorem kl_Worker : ∀ c, c < NT + 2 → kd c = 6 → ln c = 11 := by decide +kernel
theorem cls_Worker : clsOK 6 "MethodWarden$Worker" TC6 11 := ⟨rfl, inWGs _ [297, 299, 301, 303, 305, 307, 309, 311, 313, 315, 317] (by decide +kernel) (by decide +kernel), by decide +kernel, by decide +kernel, by decide, fun c h => kl_Worker c (kd_lt h (by decide)).2 h⟩
theorem kl_Val : ∀ c, c < NT + 2 → kd c = 7 → ln c = 3 := by decide +kernel
theorem cls_Val : clsOK 7 "MethodWarden$Value" TC7 3 := ⟨rfl, inWGs _ [277, 279, 281] (by decide +kernel) (by decide +kernel), by decide +kernel, by decide +kernel, by decide, fun c h => kl_Val c (kd_lt h (by decide)).2 h⟩
theorem kl_Gate : ∀ c, c < NT + 2 → kd c = 8 → ln c = 10 := by decide +kernel
theorem cls_Gate : clsOK 8 "MethodWarden$Gate" TC8 10 := ⟨rfl, inWGs _ [394, 396, 398, 400, 402, 404, 406, 408, 410, 412] (by decide +kernel) (by decide +kernel), by decide +kernel, by decide +kernel, by decide, fun c h => kl_Gate c (kd_lt h (by decide)).2 h⟩
theorem kl_Meth : ∀ c, c < NT + 2 → kd c = 9 → ln c = 7 := by decide +kernel
theorem cls_Meth : clsOK 9 "MethodWarden$Method" TC9 7 := ⟨rfl, inWGs _ [352, 354, 356, 358, 360, 362, 364] (by decide +kernel) (by decide +kernel), by decide +kernel, by decide +kernel, by decide, fun c h => kl_Meth c (kd_lt h (by decide)).2 h⟩
theorem kl_Guard : ∀ c, c < NT + 2 → kd c = 10 → ln c = 2 := by decide +kernel
theorem cls_Guard : clsOK 10 "MethodWarden$Guard" TC10 2 := ⟨rfl, inWGs _ [376, 378] (by decide +kernel) (by decide +kernel), by decide +kernel, by decide +kernel, by decide, fun c h => kl_Guard c (kd_lt h (by decide)).2 h⟩
theorem kl_Mod : ∀ c, c < NT + 2 → kd c = 11 → ln c = 61 := by decide +kernel
theorem cls_Mod : clsOK 11 "MethodWardenModel" TC11 61 := ⟨rfl, inWGs _ [1148, 1150, 1152, 1154, 1156, 1158, 1160, 1162, 1164, 1166, 1168, 1170, 1172, 1174, 1176, 1178, 1180, 1182, 1184, 1186, 1188, 1190, 1192, 1194, 1196, 1198, 1200, 1202, 1204, 1206, 1208, 1210, 1212, 1214, 1216, 1218, 1220, 1222, 1224, 1226, 1228, 1230, 1232, 1234, 1236, 1238, 1240, 1242, 1244, 1246, 1248, 1250, 1252, 1254, 1256, 1258, 1260, 1262, 1264, 1266, 1268] (by decide +kernel) (by decide +kernel), by decide +kernel, by decide +kernel, by decide, fun c h => kl_Mod c (kd_lt h (by decide)).2 h⟩
theorem lf_Expr_1_0 : ∀ c, c < NT + 2 → kd c = 3 → kd (c + 1) = 100 ∧ ln (c + 1) = 20 := by decide +kernel
theorem lf_Expr_1 {c : Nat} (h : kd c = 3) : kd (c + 1) = 100 ∧ ln (c + 1) = 20 := lf_Expr_1_0 c (kd_lt h (by decide)).2 h
theorem lf_Expr_2_0 : ∀ c, c < NT + 2 → kd c = 3 → kd (c + 2) = 100 ∧ ln (c + 2) = 20 := by decide +kernel
theorem lf_Expr_2 {c : Nat} (h : kd c = 3) : kd (c + 2) = 100 ∧ ln (c + 2) = 20 := lf_Expr_2_0 c (kd_lt h (by decide)).2 h
theorem lf_Expr_3_0 : ∀ c, c < NT + 2 → kd c = 3 → kd (c + 3) = 100 ∧ ln (c + 3) = 20 := by decide +kernel
theorem lf_Expr_3 {c : Nat} (h : kd c = 3) : kd (c + 3) = 100 ∧ ln (c + 3) = 20 := lf_Expr_3_0 c (kd_lt h (by decide)).2 h
theorem lf_Expr_4_0 : ∀ c, c < NT + 2 → kd c = 3 → kd (c + 4) = 100 ∧ ln (c + 4) = 20 := by decide +kernel
theorem lf_Expr_4 {c : Nat} (h : kd c = 3) : kd (c + 4) = 100 ∧ ln (c + 4) = 20 := lf_Expr_4_0 c (kd_lt h (by decide)).2 h
theorem lf_Expr_5_0 : ∀ c, c < NT + 2 → kd c = 3 → kd (c + 5) = 101 ∧ ln (c + 5) = 20 := by decide +kernel
theorem lf_Expr_5 {c : Nat} (h : kd c = 3) : kd (c + 5) = 101 ∧ ln (c + 5) = 20 := lf_Expr_5_0 c (kd_lt h (by decide)).2 h
theorem lf_Items_1_0 : ∀ c, c < NT + 2 → kd c = 5 → kd (c + 1) = 100 ∧ ln (c + 1) = 5 := by decide +kernel
theorem lf_Items_1 {c : Nat} (h : kd c = 5) : kd (c + 1) = 100 ∧ ln (c + 1) = 5 := lf_Items_1_0 c (kd_lt h (by decide)).2 h
theorem lf_Val_1_0 : ∀ c, c < NT + 2 → kd c = 7 → kd (c + 1) = 5 ∧ ln (c + 1) = 2 := by decide +kernel
theorem lf_Val_1 {c : Nat} (h : kd c = 7) : kd (c + 1) = 5 ∧ ln (c + 1) = 2 := lf_Val_1_0 c (kd_lt h (by decide)).2 h
theorem lf_Meth_1_0 : ∀ c, c < NT + 2 → kd c = 9 → kd (c + 1) = 100 ∧ ln (c + 1) = 6 := by decide +kernel
theorem lf_Meth_1 {c : Nat} (h : kd c = 9) : kd (c + 1) = 100 ∧ ln (c + 1) = 6 := lf_Meth_1_0 c (kd_lt h (by decide)).2 h
theorem la_105 : ∀ k, k < 20 → kd (75 + 3 * k) = 7 := by decide +kernel
theorem la_106 : ∀ k, k < 8 → kd (142 + 2 * k) = 9 := by decide +kernel
theorem la_107 : ∀ k, k < 10 → kd (158 + k) = 10 := by decide +kernel
theorem la_108 : ∀ k, k < 8 → kd (168 + 2 * k) = 5 := by decide +kernel
