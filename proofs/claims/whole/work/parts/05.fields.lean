/-! fields, arrays, new cells, calls -/
def clsOK (ci : Nat) (C : String) (T : u_T) (N : Nat) : Prop :=
  classes[ci]? = some (C, T, N) ∧ (∀ w ∈ u_ws C T N, w ∈ WG) ∧ (∀ k, k < N → parseFieldDescriptor (T k).2.2.1 = some (FTY ci k)) ∧ (∀ a, a < N → ∀ b, b < N → a ≠ b → (T a).2.1 ≠ (T b).2.1) ∧ ci < 100 ∧ (∀ c, kd c = ci → ln c = N)
def fldOK (own : String) (idx ci k : Nat) (fin : Bool) : Prop := ∃ (C : String) (T : u_T) (N : Nat), clsOK ci C T N ∧ k < N ∧ (T k).1 = C ∧ (T k).2.2.2 = fin ∧
  (Cond.fieldLink own idx C (T k).2.1 (T k).2.2.1 ∈ WG ∨ ∃ host, Cond.fieldLinkNest own idx C (T k).2.1 (T k).2.2.1 host ∈ NW)
def fldFin (own : String) (idx ci k : Nat) : Prop := ∃ (T : u_T) (N : Nat), clsOK ci own T N ∧ k < N ∧ (T k).1 = own ∧ (T k).2.2.2 = true ∧ Cond.fieldLink own idx own (T k).2.1 (T k).2.2.1 ∈ WG
def live (ly : Bool) (M : ax_M) (c : Nat) : Prop := ly = true ∨ c < gn M + 2
theorem hok.cell {g : ax_G} {ly : Bool} {M : ax_M} {H : Heap} {c K : Nat} (h : hok g ly M H) (hk : kd c = K) (hK : K ≠ 999) (hv : live ly M c) : 2 ≤ c ∧ c < gn M + 2 ∧ c < 1000 ∧ (WS g M)[c - 2]? = some (am g c, ent g M c) ∧ rv g c = .ref (am g c) := by
  obtain ⟨h1, h2⟩ := kd_lt hk hK
  have h3 : NT + 2 ≤ 1000 := nt_small
  have h4 : c < gn M + 2 := by
    rcases hv with hv | hv
    · have h5 := (h.2.2.2.2 hv).1
      omega
    · exact hv
  exact ⟨h1, h4, by omega, ws_get h1 h4 (by omega), rv_pos (by omega)⟩
theorem hok.at {g : ax_G} {ly : Bool} {M : ax_M} {H : Heap} {c K : Nat} (h : hok g ly M H) (hk : kd c = K) (hK : K ≠ 999) (hv : live ly M c) : va_at (gD g) classes (am g c, ent g M c) H := by
  obtain ⟨-, -, -, h5, -⟩ := h.cell hk hK hv
  exact h.1 _ _ h5
/-- behind a store in one cell -/
theorem hok.put {g : ax_G} {ly : Bool} {M M' : ax_M} {H H1 : Heap} {c K : Nat} (h : hok g ly M H) (hk : kd c = K) (hK : K ≠ 999) (hv : live ly M c) (hn : gn M' = gn M) (ho : ∀ a, a ≠ c → ent g M' a = ent g M a)
    (hz : ∀ a k, a ≠ c → gI M' a k = gI M a k ∧ gJ M' a k = gJ M a k ∧ gA M' a k = gA M a k) (hlay : ly = true → Lay M → Lay M') (hat : va_at (gD g) classes (am g c, ent g M' c) H1) (hs : H1.size = H.size) (oq : ∀ q, q ≠ am g c → H1[q]? = H[q]?) : hok g ly M' H1 := by
  obtain ⟨h1, h2, h3, h4, -⟩ := h.cell hk hK hv
  refine ⟨?_, by rw [hs, hn]; exact h.2.1, by rw [hn]; exact h.2.2.1, fun a k ha => ?_, fun q => ?_⟩
  · have h5 := va_P.set h.1 (ws_D g M) h4 hat oq
    rw [ws_set h1 h2 h3 hn ho] at h5
    exact h5
  · rw [hn] at ha
    obtain ⟨z1, z2, z3⟩ := hz a k (by omega)
    obtain ⟨y1, y2, y3⟩ := h.2.2.2.1 a k ha
    exact ⟨z1.trans y1, z2.trans y2, z3.trans y3⟩
  · obtain ⟨q1, q2⟩ := h.2.2.2.2 q
    exact ⟨hn.trans q1, hlay q q2⟩
section AXF
variable {l : Launch} {g : ax_G} {ly : Bool} {Y : ax_Y} {d : Nat} {res : ax_R} {pc : Nat} {Ls : List (Nat × ax_V)} {st : List ax_V} {M : ax_M}
theorem A_get {c idx ci k : Nat} {fin : Bool} {v : ax_V} (hd : codeAt Y pc = some (.getfield idx, 3)) (hf : fldOK (yn Y).cls idx ci k fin) (hk : kd c = ci) (hv : live ly M c) (hval : fv g M c k = cv g v) (K : AW l g ly Y d res (pc + 3) Ls (v :: st) M) : AW l g ly Y d res pc Ls (vA c :: st) M := by
  intro p e R s m args below meth c0 Q n0 kc ks F hR hN hret H locs ls hH hS hl
  obtain ⟨C, T, N, ⟨k1, k2, k3, k4, k5, k6⟩, hkN, hC, -, hlk⟩ := hf
  obtain ⟨-, -, -, he, hr⟩ := hH.cell hk (by omega) hv
  rw [ent_obj hk k5, k6 c hk] at he
  rw [List.map_cons, cv_A, hr]
  have hs := F.2.2.2.2.2.1
  have h9 := (K p e R s m args below meth c0 Q n0 kc ks F hR hN hret H locs ls hH hS hl)
  rw [List.map_cons, ← hval] at h9
  rcases hlk with hlk | ⟨host, hlk⟩
  · exact va_get F.1 F.2.1 F.2.2.2.2.1 k2 F.2.2.2.1 hs.1 hH.1 (c - 2) he k1 k hkN (F.2.2.2.2.1 _ hlk) (by rw [hC]; exact fun _ h => h) (fs_at hkN) (cd hd F.2.2.2.2.2.2.2) h9
  · exact va_getN F.1 F.2.1 F.2.2.2.2.1 k2 F.2.2.2.1 hs.1 hH.1 (c - 2) he k1 k hkN (va_Nw.use rfl (hs.2.1 _ hlk)) (by rw [hC]; exact fun _ h => h) (fs_at hkN) (cd hd F.2.2.2.2.2.2.2) h9
theorem A_getI {c idx ci k : Nat} {fin : Bool} (hd : codeAt Y pc = some (.getfield idx, 3)) (hf : fldOK (yn Y).cls idx ci k fin) (ht : FTC ci k = 0) (hk : kd c = ci) (hv : live ly M c) (K : AW l g ly Y d res (pc + 3) Ls (vI (gI M c k) :: st) M) : AW l g ly Y d res pc Ls (vA c :: st) M :=
  A_get hd hf hk hv (by unfold fv; rw [hk, ht]; rfl) K
theorem A_getJ {c idx ci k : Nat} {fin : Bool} (hd : codeAt Y pc = some (.getfield idx, 3)) (hf : fldOK (yn Y).cls idx ci k fin) (ht : FTC ci k = 1) (hk : kd c = ci) (hv : live ly M c) (K : AW l g ly Y d res (pc + 3) Ls (vJ (gJ M c k) :: st) M) : AW l g ly Y d res pc Ls (vA c :: st) M :=
  A_get hd hf hk hv (by unfold fv; rw [hk, ht]; rfl) K
theorem A_getA {c idx ci k : Nat} {fin : Bool} (hd : codeAt Y pc = some (.getfield idx, 3)) (hf : fldOK (yn Y).cls idx ci k fin) (ht : FTC ci k = 2) (hk : kd c = ci) (hv : live ly M c) (K : AW l g ly Y d res (pc + 3) Ls (vA (gA M c k) :: st) M) : AW l g ly Y d res pc Ls (vA c :: st) M :=
  A_get hd hf hk hv (by unfold fv; rw [hk, ht]; rfl) K
theorem A_lay {P : ax_M → Prop} (h : Lay M → AW l g true Y d res pc Ls st M) : AW l g true Y d res pc Ls st M := by
  intro p e R s m args below meth c Q n0 kc ks F hR hN hret H locs ls hH hS hl
  exact h (hH.2.2.2.2 rfl).2 p e R s m args below meth c Q n0 kc ks F hR hN hret H locs ls hH hS hl
/-- a reference that the constructors left -/
theorem A_getL {c idx ci k r : Nat} {fin : Bool} (hd : codeAt Y pc = some (.getfield idx, 3)) (hf : fldOK (yn Y).cls idx ci k fin) (ht : FTC ci k = 2) (hk : kd c = ci) (hy : LYS ci k = true) (hr : LYO ci k c = r) (K : AW l g true Y d res (pc + 3) Ls (vA r :: st) M) : AW l g true Y d res pc Ls (vA c :: st) M := by
  refine A_lay (P := fun _ => True) fun hL => ?_
  refine A_getA hd hf ht hk (Or.inl rfl) ?_
  obtain ⟨C, T, N, ⟨k1, k2, k3, k4, k5, k6⟩, hkN, -⟩ := hf
  have h1 := hL c k (kd_lt hk (by omega)).2 (by rw [k6 c hk]; exact hkN) (by rw [hk]; exact hy)
  rw [hk, hr] at h1
  rw [h1]
  exact K

/-- a store in a field -/
theorem A_put {c idx ci k : Nat} {v : ax_V} {M' : ax_M} (hd : codeAt Y pc = some (.putfield idx, 3)) (hf : fldOK (yn Y).cls idx ci k false ∨ (fldFin (yn Y).cls idx ci k ∧ (yn Y).name = "<init>")) (hk : kd c = ci) (hv : live ly M c) (hty : narrow (FTY ci k) (cv g v) = cv g v ∧ fits (FTY ci k) (cv g v) = true)
    (hn : gn M' = gn M) (hz : ∀ a j, a ≠ c → gI M' a j = gI M a j ∧ gJ M' a j = gJ M a j ∧ gA M' a j = gA M a j) (hlay : ly = true → Lay M → Lay M') (hval : fv g M' c k = cv g v) (hoth : ∀ j, j ≠ k → fv g M' c j = fv g M c j)
    (K : AW l g ly Y d res (pc + 3) Ls st M') : AW l g ly Y d res pc Ls (v :: vA c :: st) M := by
  intro p e R s m args below meth c0 Q n0 kc ks F hR hN hret H locs ls hH hS hl
  have hs := F.2.2.2.2.2.1
  have hts := F.2.2.2.2.1
  have hown := F.2.2.2.1
  have hf2 : ∃ (C : String) (T : u_T) (N : Nat), clsOK ci C T N ∧ k < N ∧ (T k).1 = C ∧ (((T k).2.2.2 = false ∧ (Cond.fieldLink (yn Y).cls idx C (T k).2.1 (T k).2.2.1 ∈ WG ∨ ∃ host, Cond.fieldLinkNest (yn Y).cls idx C (T k).2.1 (T k).2.2.1 host ∈ NW)) ∨ ((T k).2.2.2 = true ∧ C = (yn Y).cls ∧ Cond.fieldLink (yn Y).cls idx C (T k).2.1 (T k).2.2.1 ∈ WG ∧ (yn Y).name = "<init>")) := by
    rcases hf with ⟨C, T, N, h1, h2, h3, h4, h5⟩ | ⟨⟨T, N, h1, h2, h3, h4, h5⟩, h6⟩
    · exact ⟨C, T, N, h1, h2, h3, Or.inl ⟨h4, h5⟩⟩
    · exact ⟨_, T, N, h1, h2, h3, Or.inr ⟨h4, rfl, h5, h6⟩⟩
  obtain ⟨C, T, N, ⟨k1, k2, k3, k4, k5, k6⟩, hkN, hC, hcase⟩ := hf2
  obtain ⟨-, -, -, he, hr⟩ := hH.cell hk (by omega) hv
  have he0 := hH.at hk (by omega) hv
  have hAc : ax_A g (am g c) := (ws_D g M).2 (c - 2) (am g c, ent g M c) he
  rw [List.map_cons, List.map_cons, cv_A, hr]
  rw [ent_obj hk k5, k6 c hk] at he0
  have hap := va_apart (own := (yn Y).cls) hts k2 (FTY ci) k3 k4 hs.1 k1
  obtain ⟨r, h1, cell, q1, q2, q3, q4⟩ := he0
  have hr2 : r = (C, T, N) := Option.some.inj (h1.symm.trans k1)
  subst hr2
  obtain ⟨hSl, hfc, kC, hkC, hkind⟩ := hs.1.1 ci _ k1
  obtain ⟨cf, kf, fi, f, hi, hsl⟩ := hSl k hkN
  have hlay2 := hts _ (k2 _ (u_in_lay hkN))
  have hst := (u_facts hfc hkC (u_lays hts k2 hkN) hi).1
  have hgo : ∀ H' : Heap, H'[am g c]? = some (cell.setSlot f.slot (cv g v)) → H'.size = H.size → (∀ q, q ≠ am g c → H'[q]? = H[q]?) → W p l e R s m args below meth c0 H' (locs ++ [⟨am g c, f.slot⟩]) (kc + al ly n0 (gn M)) (ks + al ly (SZ n0) (SZ (gn M))) Q (F0 m (pc + 3) ls (st.map (cv g))) := by
    intro H' e1 e2 e3
    rw [hsl] at e1 ⊢
    have hk9 := K p e R s m args below meth c0 Q n0 kc ks F hR (by rw [hn]; exact hN) hret H' (locs ++ [⟨am g c, (gD g).2 ci k⟩]) ls ?_ (hS.put e2 e3 ((ws_D g M).2 _ _ he)) hl
    · rw [hn] at hk9
      exact hk9
    · refine hH.put hk (by omega) hv hn (fun a ha => ent_other (fun j => (hz a j ha).1) (fun j => (hz a j ha).2.1) (fun j => (hz a j ha).2.2)) hz hlay ?_ e2 e3
      rw [ent_obj hk k5, k6 c hk, ← fs_set hkN hval hoth]
      exact ⟨_, k1, t_OB.to (V := updV (vp_V ((List.range N).map (fv g M c))) k (cv g v)) ⟨_, e1, q2, q3, t_set q4 hap hkN (cv g v)⟩ (fun j _ => vp_updV_set (by simpa using hkN) (cv g v) j)⟩
  unfold u_lay at hlay2
  rcases hcase with ⟨hfin, hlk⟩ | ⟨hfin, hCo, hlk, hini⟩
  · rw [if_neg (by rw [hfin]; decide)] at hlay2
    have h6 := u_store hfc hkC hkind hlay2 hi (k3 k hkN) hty.1 hty.2
    rw [hC] at hi
    rcases hlk with hlk | ⟨host, hlk⟩
    · exact W.putK F.1 F.2.1 (f := f) ⟨hown, hts _ hlk, ⟨_, _, _, hi⟩, hst⟩ (by rw [q2]; exact h6) q1 q3 (by rw [hsl]; exact k2_hasslot (q4 k hkN)) rfl rfl (cd hd F.2.2.2.2.2.2.2) hgo
    · exact va_WputK F.1 F.2.1 (f := f) hown (va_Nw.use rfl (hs.2.1 _ hlk)) hi hst (by rw [q2]; exact h6) q1 q3 (by rw [hsl]; exact k2_hasslot (q4 k hkN)) rfl rfl (cd hd F.2.2.2.2.2.2.2) hgo
  · rw [if_pos hfin] at hlay2
    have hcf : m.cls = cf := by
      obtain ⟨_, _, c', _, _, _, -, -, hf', -, -, -, hown2, -⟩ := Cond.laysFinal_spec hlay2
      have e1 : c' = cf := by have := hi.symm.trans hf'; simp at this; exact this.1.symm
      rw [hC, hCo] at hown2
      rw [← e1]; exact Option.some.inj (hown.symm.trans hown2)
    have h6 := u_fits hfc hkC hkind (Or.inr hlay2) hi (k3 k hkN) hty.1 hty.2
    rw [hC] at hi
    exact W.putFinK F.1 F.2.1 hown (hts _ hlk) hi hst hcf (F.2.2.2.2.2.2.1 hini) (by rw [q2]; exact h6) q1 q3 (by rw [hsl]; exact k2_hasslot (q4 k hkN)) rfl rfl (cd hd F.2.2.2.2.2.2.2) hgo
theorem fv_I {g : ax_G} {M : ax_M} {c k ci : Nat} (hk : kd c = ci) (ht : FTC ci k = 0) : fv g M c k = .int (gI M c k) := by unfold fv; rw [hk, ht]; rfl
theorem fv_J {g : ax_G} {M : ax_M} {c k ci : Nat} (hk : kd c = ci) (ht : FTC ci k = 1) : fv g M c k = .long (gJ M c k) := by unfold fv; rw [hk, ht]; rfl
theorem fv_A {g : ax_G} {M : ax_M} {c k ci : Nat} (hk : kd c = ci) (ht : FTC ci k = 2) : fv g M c k = rv g (gA M c k) := by unfold fv; rw [hk, ht]; rfl
theorem fv_mI {g : ax_G} {M : ax_M} {c k j : Nat} {x : Int32} (h : j ≠ k) : fv g (mI M c k x) c j = fv g M c j := by
  unfold fv
  rw [gI_mI, gJ_mI, gA_mI, if_neg (show ¬ (c = c ∧ j = k) from fun q => h q.2)]
theorem fv_mJ {g : ax_G} {M : ax_M} {c k j : Nat} {x : Int64} (h : j ≠ k) : fv g (mJ M c k x) c j = fv g M c j := by
  unfold fv
  rw [gI_mJ, gJ_mJ, gA_mJ, if_neg (show ¬ (c = c ∧ j = k) from fun q => h q.2)]
theorem fv_mA {g : ax_G} {M : ax_M} {c k j : Nat} {x : Nat} (h : j ≠ k) : fv g (mA M c k x) c j = fv g M c j := by
  unfold fv
  rw [gI_mA, gJ_mA, gA_mA, if_neg (show ¬ (c = c ∧ j = k) from fun q => h q.2)]
theorem A_putI {c idx ci k : Nat} {x : Int32} (hd : codeAt Y pc = some (.putfield idx, 3)) (hf : fldOK (yn Y).cls idx ci k false ∨ (fldFin (yn Y).cls idx ci k ∧ (yn Y).name = "<init>")) (ht : FTC ci k = 0) (hk : kd c = ci) (hv : live ly M c) (hty : FTY ci k = .int) (K : AW l g ly Y d res (pc + 3) Ls st (mI M c k x)) : AW l g ly Y d res pc Ls (vI x :: vA c :: st) M :=
  A_put (M' := mI M c k x) hd hf hk hv (by rw [hty]; exact ⟨rfl, rfl⟩) rfl (fun a j ha => ⟨by rw [gI_mI, if_neg (fun q => ha q.1)], rfl, rfl⟩) (fun _ h => h) (by rw [fv_I hk ht, gI_mI, if_pos ⟨rfl, rfl⟩]; rfl) (fun j hj => fv_mI hj) K
theorem A_putZ {c idx ci k : Nat} {x : Int32} (hd : codeAt Y pc = some (.putfield idx, 3)) (hf : fldOK (yn Y).cls idx ci k false ∨ (fldFin (yn Y).cls idx ci k ∧ (yn Y).name = "<init>")) (ht : FTC ci k = 0) (hk : kd c = ci) (hv : live ly M c) (hty : FTY ci k = .boolean) (hx : x = 0 ∨ x = 1) (K : AW l g ly Y d res (pc + 3) Ls st (mI M c k x)) : AW l g ly Y d res pc Ls (vI x :: vA c :: st) M :=
  A_put (M' := mI M c k x) hd hf hk hv (by rw [hty]; rcases hx with rfl | rfl <;> exact ⟨rfl, rfl⟩) rfl (fun a j ha => ⟨by rw [gI_mI, if_neg (fun q => ha q.1)], rfl, rfl⟩) (fun _ h => h) (by rw [fv_I hk ht, gI_mI, if_pos ⟨rfl, rfl⟩]; rfl) (fun j hj => fv_mI hj) K
theorem A_putJ {c idx ci k : Nat} {x : Int64} (hd : codeAt Y pc = some (.putfield idx, 3)) (hf : fldOK (yn Y).cls idx ci k false ∨ (fldFin (yn Y).cls idx ci k ∧ (yn Y).name = "<init>")) (ht : FTC ci k = 1) (hk : kd c = ci) (hv : live ly M c) (hty : FTY ci k = .long) (K : AW l g ly Y d res (pc + 3) Ls st (mJ M c k x)) : AW l g ly Y d res pc Ls (vJ x :: vA c :: st) M :=
  A_put (M' := mJ M c k x) hd hf hk hv (by rw [hty]; exact ⟨rfl, rfl⟩) rfl (fun a j ha => ⟨rfl, by rw [gJ_mJ, if_neg (fun q => ha q.1)], rfl⟩) (fun _ h => h) (by rw [fv_J hk ht, gJ_mJ, if_pos ⟨rfl, rfl⟩]; rfl) (fun j hj => fv_mJ hj) K
def isRefT (t : FieldType) : Bool := match t with
  | .object _ => true
  | .array _ => true
  | _ => false
theorem rv_fits {g : ax_G} {t : FieldType} (h : isRefT t = true) (r : Nat) : narrow t (rv g r) = rv g r ∧ fits t (rv g r) = true := by
  unfold rv
  cases t <;> first | (exact absurd h (by decide)) | (split <;> exact ⟨rfl, rfl⟩)
theorem A_putA {c idx ci k r : Nat} (hd : codeAt Y pc = some (.putfield idx, 3)) (hf : fldOK (yn Y).cls idx ci k false ∨ (fldFin (yn Y).cls idx ci k ∧ (yn Y).name = "<init>")) (ht : FTC ci k = 2) (hk : kd c = ci) (hv : live ly M c) (hty : isRefT (FTY ci k) = true) (hly : ly = false ∨ LYS ci k = false) (K : AW l g ly Y d res (pc + 3) Ls st (mA M c k r)) : AW l g ly Y d res pc Ls (vA r :: vA c :: st) M := by
  refine A_put (M' := mA M c k r) hd hf hk hv (rv_fits hty r) rfl (fun a j ha => ⟨rfl, rfl, by rw [gA_mA, if_neg (fun q => ha q.1)]⟩) (fun hl hL => ?_) (by rw [fv_A hk ht, gA_mA, if_pos ⟨rfl, rfl⟩]; rfl) (fun j hj => fv_mA hj) K
  rcases hly with hly | hly
  · rw [hl] at hly
    cases hly
  · intro a j h1 h2 h3
    rw [gA_mA]
    split
    next h4 =>
      rw [h4.1, h4.2, hk, hly] at h3
      cases h3
    next => exact hL a j h1 h2 h3
/-! arrays: kind 100 + t -/
theorem tys_at {g : ax_G} {t : Nat} (h : t < ATS.length) : (tysOf g)[t]? = some (gdA g t, ATS.getD t .int) := by
  unfold tysOf
  rw [List.getElem?_map, List.getElem?_range h]
  rfl
theorem cont_I {g : ax_G} {M : ax_M} {c : Nat} (h : kd c = 100 ∨ kd c = 102 ∨ kd c = 103) : cont g M c = .inl (gI M c) := by
  unfold cont
  rcases h with h | h | h <;> (rw [h]; rfl)
theorem cont_J {g : ax_G} {M : ax_M} {c : Nat} (h : kd c = 101) : cont g M c = .inr (.inl (gJ M c)) := by
  unfold cont
  rw [h]
  rfl
theorem cont_A {g : ax_G} {M : ax_M} {c t : Nat} (h : kd c = 100 + t) (ht : 4 ≤ t) : cont g M c = .inr (.inr (.inr (.inr (fun k => ro g (gA M c k))))) := by
  unfold cont
  rw [h, if_neg (by omega), if_neg (by omega)]
theorem A_iald {c n : Nat} {i : Int32} (hd : codeAt Y pc = some (.iaload, 1)) (hk : kd c = 100) (hn : ln c = n) (hv : live ly M c) (hi : vp_in i n) (K : AW l g ly Y d res (pc + 1) Ls (vI (gI M c i.toNatClampNeg) :: st) M) : AW l g ly Y d res pc Ls (vI i :: vA c :: st) M := by
  intro p e R s m args below meth c0 Q n0 kc ks F hR hN hret H locs ls hH hS hl
  obtain ⟨-, -, -, he, hr⟩ := hH.cell hk (by omega) hv
  rw [ent_arr (t := 0) hk, cont_I (by simp [hk]), hn] at he
  rw [List.map_cons, List.map_cons, cv_A, hr]
  exact va_iald F.1 F.2.1 F.2.2.2.2.2.1.1 hH.1 (c - 2) 0 he ((tys_at (by decide)).trans rfl) hi (cd hd F.2.2.2.2.2.2.2) (K p e R s m args below meth c0 Q n0 kc ks F hR hN hret H locs ls hH hS hl)
theorem A_cald {c n : Nat} {i : Int32} (hd : codeAt Y pc = some (.caload, 1)) (hk : kd c = 102) (hn : ln c = n) (hv : live ly M c) (hi : vp_in i n) (K : AW l g ly Y d res (pc + 1) Ls (vI (gI M c i.toNatClampNeg) :: st) M) : AW l g ly Y d res pc Ls (vI i :: vA c :: st) M := by
  intro p e R s m args below meth c0 Q n0 kc ks F hR hN hret H locs ls hH hS hl
  obtain ⟨-, -, -, he, hr⟩ := hH.cell hk (by omega) hv
  rw [ent_arr (t := 2) hk, cont_I (by simp [hk]), hn] at he
  rw [List.map_cons, List.map_cons, cv_A, hr]
  exact va_cald F.1 F.2.1 F.2.2.2.2.2.1.1 hH.1 (c - 2) 2 he ((tys_at (by decide)).trans rfl) hi (cd hd F.2.2.2.2.2.2.2) (K p e R s m args below meth c0 Q n0 kc ks F hR hN hret H locs ls hH hS hl)
theorem A_zald {c n : Nat} {i : Int32} (hd : codeAt Y pc = some (.baload, 1)) (hk : kd c = 103) (hn : ln c = n) (hv : live ly M c) (hi : vp_in i n) (K : AW l g ly Y d res (pc + 1) Ls (vI (gI M c i.toNatClampNeg) :: st) M) : AW l g ly Y d res pc Ls (vI i :: vA c :: st) M := by
  intro p e R s m args below meth c0 Q n0 kc ks F hR hN hret H locs ls hH hS hl
  obtain ⟨-, -, -, he, hr⟩ := hH.cell hk (by omega) hv
  rw [ent_arr (t := 3) hk, cont_I (by simp [hk]), hn] at he
  rw [List.map_cons, List.map_cons, cv_A, hr]
  exact va_zald F.1 F.2.1 F.2.2.2.2.2.1.1 hH.1 (c - 2) 3 he ((tys_at (by decide)).trans rfl) hi (cd hd F.2.2.2.2.2.2.2) (K p e R s m args below meth c0 Q n0 kc ks F hR hN hret H locs ls hH hS hl)
theorem A_lald {c n : Nat} {i : Int32} (hd : codeAt Y pc = some (.laload, 1)) (hk : kd c = 101) (hn : ln c = n) (hv : live ly M c) (hi : vp_in i n) (K : AW l g ly Y d res (pc + 1) Ls (vJ (gJ M c i.toNatClampNeg) :: st) M) : AW l g ly Y d res pc Ls (vI i :: vA c :: st) M := by
  intro p e R s m args below meth c0 Q n0 kc ks F hR hN hret H locs ls hH hS hl
  obtain ⟨-, -, -, he, hr⟩ := hH.cell hk (by omega) hv
  rw [ent_arr (t := 1) hk, cont_J hk, hn] at he
  rw [List.map_cons, List.map_cons, cv_A, hr]
  exact va_lald F.1 F.2.1 F.2.2.2.2.2.1.1 hH.1 (c - 2) 1 he ((tys_at (by decide)).trans rfl) hi (cd hd F.2.2.2.2.2.2.2) (K p e R s m args below meth c0 Q n0 kc ks F hR hN hret H locs ls hH hS hl)
theorem A_aald {c n t : Nat} {i : Int32} {C : String} (hd : codeAt Y pc = some (.aaload, 1)) (hk : kd c = 100 + t) (ht : 4 ≤ t ∧ t < ATS.length ∧ ATS.getD t .int = .object C) (hn : ln c = n) (hv : live ly M c) (hi : vp_in i n) (K : AW l g ly Y d res (pc + 1) Ls (vA (gA M c i.toNatClampNeg) :: st) M) : AW l g ly Y d res pc Ls (vI i :: vA c :: st) M := by
  intro p e R s m args below meth c0 Q n0 kc ks F hR hN hret H locs ls hH hS hl
  have h9 : ATS.length < 800 := ats_small
  obtain ⟨-, -, -, he, hr⟩ := hH.cell hk (by omega) hv
  rw [ent_arr hk, cont_A hk ht.1, hn] at he
  rw [List.map_cons, List.map_cons, cv_A, hr]
  have h8 := (K p e R s m args below meth c0 Q n0 kc ks F hR hN hret H locs ls hH hS hl)
  rw [List.map_cons, cv_A, ← rv_ro] at h8
  exact va_aldq (C := C) F.1 F.2.1 F.2.2.2.2.2.1.1 hH.1 (c - 2) t he ((tys_at ht.2.1).trans (by rw [ht.2.2])) hi (cd hd F.2.2.2.2.2.2.2) h8
theorem A_aldL {c n t r : Nat} {i : Int32} {C : String} (hd : codeAt Y pc = some (.aaload, 1)) (hk : kd c = 100 + t) (ht : 4 ≤ t ∧ t < ATS.length ∧ ATS.getD t .int = .object C) (hn : ln c = n) (hi : vp_in i n) (hy : LYS (100 + t) i.toNatClampNeg = true) (hr : LYO (100 + t) i.toNatClampNeg c = r) (K : AW l g true Y d res (pc + 1) Ls (vA r :: st) M) : AW l g true Y d res pc Ls (vI i :: vA c :: st) M := by
  refine A_lay (P := fun _ => True) fun hL => ?_
  refine A_aald hd hk ht hn (Or.inl rfl) hi ?_
  have h9 : ATS.length < 800 := ats_small
  have h1 := hL c i.toNatClampNeg (kd_lt hk (by omega)).2 (by rw [hn]; exact Nat.not_le.mp fun q => hi (Or.inr q)) (by rw [hk]; exact hy)
  rw [hk, hr] at h1
  rw [h1]
  exact K
theorem A_iast {c n : Nat} {i : Int32} {x : Int32} (hd : codeAt Y pc = some (.iastore, 1)) (hk : kd c = 100) (hn : ln c = n) (hv : live ly M c) (hi : vp_in i n) (K : AW l g ly Y d res (pc + 1) Ls st (mI M c i.toNatClampNeg x)) : AW l g ly Y d res pc Ls (vI x :: vI i :: vA c :: st) M := by
  intro p e R s m args below meth c0 Q n0 kc ks F hR hN hret H locs ls hH hS hl
  obtain ⟨-, -, -, he, hr⟩ := hH.cell hk (by omega) hv
  have he0 := hH.at hk (by omega) hv
  have hAc : ax_A g (am g c) := (ws_D g M).2 (c - 2) (am g c, ent g M c) he
  rw [ent_arr (t := 0) hk, cont_I (by simp [hk]), hn] at he0
  rw [List.map_cons, List.map_cons, List.map_cons, cv_A, hr]
  refine W.iast F.1 F.2.1 he0 ((F.2.2.2.2.2.1.1.2 0 _ (tys_at (by decide))).1 n (fun j => .int (gI M c j))) (fun q => by cases q) (by show ¬ (i < 0 ∨ (arrV _ _ _).slots.size ≤ _); rw [arrV_size]; exact hi) rfl rfl (cd hd F.2.2.2.2.2.2.2) fun H1 e1 z oq => ?_
  refine K p e R s m args below meth c0 Q n0 kc ks F hR hN hret H1 _ ls ?_ (hS.put z oq hAc) hl
  refine hH.put hk (by omega) hv rfl (fun a ha => ent_mI ha) (fun a j ha => ⟨by rw [gI_mI, if_neg (fun q => ha q.1)], rfl, rfl⟩) (fun _ h => h) ?_ z oq
  rw [ent_arr (t := 0) hk, cont_I (by simp [hk]), hn]
  show H1[am g c]? = some (vp_cell _ _)
  rw [e1, vp_cell_i, vp_cell_i, arrV_store]
  congr 2
  funext q
  show updV (fun j => .int (gI M c j)) i.toNatClampNeg (.int x) q = .int (gI (mI M c i.toNatClampNeg x) c q)
  rw [gI_mI]
  unfold updV
  by_cases hq : q = i.toNatClampNeg
  · rw [if_pos hq, if_pos ⟨rfl, hq⟩]
  · rw [if_neg hq, if_neg (fun z => hq z.2)]
theorem A_cast {c n : Nat} {i : Int32} {x : Int32} (hd : codeAt Y pc = some (.castore, 1)) (hk : kd c = 102) (hn : ln c = n) (hv : live ly M c) (hi : vp_in i n) (hx : narrow .char (.int x) = .int x) (K : AW l g ly Y d res (pc + 1) Ls st (mI M c i.toNatClampNeg x)) : AW l g ly Y d res pc Ls (vI x :: vI i :: vA c :: st) M := by
  intro p e R s m args below meth c0 Q n0 kc ks F hR hN hret H locs ls hH hS hl
  obtain ⟨-, -, -, he, hr⟩ := hH.cell hk (by omega) hv
  have he0 := hH.at hk (by omega) hv
  have hAc : ax_A g (am g c) := (ws_D g M).2 (c - 2) (am g c, ent g M c) he
  rw [ent_arr (t := 2) hk, cont_I (by simp [hk]), hn] at he0
  rw [List.map_cons, List.map_cons, List.map_cons, cv_A, hr]
  refine W.cast F.1 F.2.1 he0 ((F.2.2.2.2.2.1.1.2 2 _ (tys_at (by decide))).1 n (fun j => .int (gI M c j))) (fun q => by cases q) (by show ¬ (i < 0 ∨ (arrV _ _ _).slots.size ≤ _); rw [arrV_size]; exact hi) rfl rfl (cd hd F.2.2.2.2.2.2.2) fun H1 e1 z oq => ?_
  rw [hx] at e1
  refine K p e R s m args below meth c0 Q n0 kc ks F hR hN hret H1 _ ls ?_ (hS.put z oq hAc) hl
  refine hH.put hk (by omega) hv rfl (fun a ha => ent_mI ha) (fun a j ha => ⟨by rw [gI_mI, if_neg (fun q => ha q.1)], rfl, rfl⟩) (fun _ h => h) ?_ z oq
  rw [ent_arr (t := 2) hk, cont_I (by simp [hk]), hn]
  show H1[am g c]? = some (vp_cell _ _)
  rw [e1, vp_cell_i, vp_cell_i, arrV_store]
  congr 2
  funext q
  show updV (fun j => .int (gI M c j)) i.toNatClampNeg (.int x) q = .int (gI (mI M c i.toNatClampNeg x) c q)
  rw [gI_mI]
  unfold updV
  by_cases hq : q = i.toNatClampNeg
  · rw [if_pos hq, if_pos ⟨rfl, hq⟩]
  · rw [if_neg hq, if_neg (fun z => hq z.2)]
theorem A_zast {c n : Nat} {i : Int32} {x : Int32} (hd : codeAt Y pc = some (.bastore, 1)) (hk : kd c = 103) (hn : ln c = n) (hv : live ly M c) (hi : vp_in i n) (hx : narrow .boolean (.int x) = .int x) (K : AW l g ly Y d res (pc + 1) Ls st (mI M c i.toNatClampNeg x)) : AW l g ly Y d res pc Ls (vI x :: vI i :: vA c :: st) M := by
  intro p e R s m args below meth c0 Q n0 kc ks F hR hN hret H locs ls hH hS hl
  obtain ⟨-, -, -, he, hr⟩ := hH.cell hk (by omega) hv
  have he0 := hH.at hk (by omega) hv
  have hAc : ax_A g (am g c) := (ws_D g M).2 (c - 2) (am g c, ent g M c) he
  rw [ent_arr (t := 3) hk, cont_I (by simp [hk]), hn] at he0
  rw [List.map_cons, List.map_cons, List.map_cons, cv_A, hr]
  refine W.zast F.1 F.2.1 he0 ((F.2.2.2.2.2.1.1.2 3 _ (tys_at (by decide))).1 n (fun j => .int (gI M c j))) (fun q => by cases q) (by show ¬ (i < 0 ∨ (arrV _ _ _).slots.size ≤ _); rw [arrV_size]; exact hi) rfl rfl (cd hd F.2.2.2.2.2.2.2) fun H1 e1 z oq => ?_
  rw [hx] at e1
  refine K p e R s m args below meth c0 Q n0 kc ks F hR hN hret H1 _ ls ?_ (hS.put z oq hAc) hl
  refine hH.put hk (by omega) hv rfl (fun a ha => ent_mI ha) (fun a j ha => ⟨by rw [gI_mI, if_neg (fun q => ha q.1)], rfl, rfl⟩) (fun _ h => h) ?_ z oq
  rw [ent_arr (t := 3) hk, cont_I (by simp [hk]), hn]
  show H1[am g c]? = some (vp_cell _ _)
  rw [e1, vp_cell_i, vp_cell_i, arrV_store]
  congr 2
  funext q
  show updV (fun j => .int (gI M c j)) i.toNatClampNeg (.int x) q = .int (gI (mI M c i.toNatClampNeg x) c q)
  rw [gI_mI]
  unfold updV
  by_cases hq : q = i.toNatClampNeg
  · rw [if_pos hq, if_pos ⟨rfl, hq⟩]
  · rw [if_neg hq, if_neg (fun z => hq z.2)]
theorem A_last {c n : Nat} {i : Int32} {x : Int64} (hd : codeAt Y pc = some (.lastore, 1)) (hk : kd c = 101) (hn : ln c = n) (hv : live ly M c) (hi : vp_in i n) (K : AW l g ly Y d res (pc + 1) Ls st (mJ M c i.toNatClampNeg x)) : AW l g ly Y d res pc Ls (vJ x :: vI i :: vA c :: st) M := by
  intro p e R s m args below meth c0 Q n0 kc ks F hR hN hret H locs ls hH hS hl
  obtain ⟨-, -, -, he, hr⟩ := hH.cell hk (by omega) hv
  have he0 := hH.at hk (by omega) hv
  have hAc : ax_A g (am g c) := (ws_D g M).2 (c - 2) (am g c, ent g M c) he
  rw [ent_arr (t := 1) hk, cont_J hk, hn] at he0
  rw [List.map_cons, List.map_cons, List.map_cons, cv_A, hr]
  refine W.last F.1 F.2.1 he0 ((F.2.2.2.2.2.1.1.2 1 _ (tys_at (by decide))).1 n (fun j => .long (gJ M c j))) (fun q => by cases q) (by show ¬ (i < 0 ∨ (arrV _ _ _).slots.size ≤ _); rw [arrV_size]; exact hi) rfl rfl (cd hd F.2.2.2.2.2.2.2) fun H1 e1 z oq => ?_
  refine K p e R s m args below meth c0 Q n0 kc ks F hR hN hret H1 _ ls ?_ (hS.put z oq hAc) hl
  refine hH.put hk (by omega) hv rfl (fun a ha => ent_mJ ha) (fun a j ha => ⟨rfl, by rw [gJ_mJ, if_neg (fun q => ha q.1)], rfl⟩) (fun _ h => h) ?_ z oq
  rw [ent_arr (t := 1) hk, cont_J hk, hn]
  show H1[am g c]? = some (vp_cell _ _)
  rw [e1, vp_cell_l, vp_cell_l, arrV_store]
  congr 2
  funext q
  show updV (fun j => .long (gJ M c j)) i.toNatClampNeg (.long x) q = .long (gJ (mJ M c i.toNatClampNeg x) c q)
  rw [gJ_mJ]
  unfold updV
  by_cases hq : q = i.toNatClampNeg
  · rw [if_pos hq, if_pos ⟨rfl, hq⟩]
  · rw [if_neg hq, if_neg (fun z => hq z.2)]
theorem A_aast {c n t r ci : Nat} {i : Int32} {C : String} {T : u_T} {N : Nat} (hd : codeAt Y pc = some (.aastore, 1)) (hk : kd c = 100 + t) (ht : 4 ≤ t ∧ t < ATS.length ∧ ATS.getD t .int = .object C) (hn : ln c = n) (hv : live ly M c) (hi : vp_in i n) (hc : clsOK ci C T N) (hr1 : kd r = ci) (hv1 : live ly M r) (hly : ly = false ∨ ∀ j, LYS (100 + t) j = false) (K : AW l g ly Y d res (pc + 1) Ls st (mA M c i.toNatClampNeg r)) : AW l g ly Y d res pc Ls (vA r :: vI i :: vA c :: st) M := by
  intro p e R s m args below meth c0 Q n0 kc ks F hR hN hret H locs ls hH hS hl
  have h9 : ATS.length < 800 := ats_small
  obtain ⟨k1, k2, k3, k4, k5, k6⟩ := hc
  obtain ⟨-, -, -, he, hr⟩ := hH.cell hk (by omega) hv
  obtain ⟨hr2, -, -, -, hr3⟩ := hH.cell hr1 (by omega) hv1
  have he0 := hH.at hk (by omega) hv
  have hAc : ax_A g (am g c) := (ws_D g M).2 (c - 2) (am g c, ent g M c) he
  have he1 := hH.at hr1 (by omega) hv1
  have hK := F.2.2.2.2.2.1.1
  rw [ent_arr hk, cont_A hk ht.1, hn] at he0
  rw [ent_obj hr1 k5] at he1
  rw [List.map_cons, List.map_cons, List.map_cons, cv_A, cv_A, hr, hr3]
  have hlt : i.toNatClampNeg < n := Nat.not_le.mp fun q => hi (Or.inr q)
  have h0 : ¬ i < 0 := fun q => hi (Or.inl q)
  obtain ⟨r', hr', cellV, g1, g2, g3, -⟩ := he1
  have hcls := (hK.1 ci _ k1).2
  have hRA := (hK.2 t _ (tys_at ht.2.1)).2
  rw [ht.2.2] at hRA
  obtain ⟨kA, comp, j1, j2, j3, -⟩ := hRA
  have hcomp : comp = (gD g).1 ci := Option.some.inj (j3.symm.trans hcls.1)
  subst hcomp
  obtain ⟨kC, hkC, -⟩ := hcls.2
  refine W.aast F.1 F.2.1 he0 (fun q h => by cases h) (fun h => by cases h) j1 j2 rfl hkC ⟨h0, by show _ < (arrV _ _ _).slots.size; rw [arrV_size]; exact hlt⟩ g1 (fun q h => by rw [g3] at h; cases h) (by rw [g2]; exact hkC) (by rw [g2]; exact va_assign hcls) rfl rfl (cd hd F.2.2.2.2.2.2.2) fun H1 e1 z oq => ?_
  refine K p e R s m args below meth c0 Q n0 kc ks F hR hN hret H1 _ ls ?_ (hS.put z oq hAc) hl
  refine hH.put hk (by omega) hv rfl (fun a ha => ent_mA ha) (fun a j ha => ⟨rfl, rfl, by rw [gA_mA, if_neg (fun q => ha q.1)]⟩) (fun hl2 hL => ?_) ?_ z oq
  · rcases hly with hly | hly
    · rw [hl2] at hly
      cases hly
    · intro a j y1 y2 y3
      rw [gA_mA]
      split
      next y4 =>
        rw [y4.1, hk, hly] at y3
        cases y3
      next => exact hL a j y1 y2 y3
  · rw [ent_arr hk, cont_A hk ht.1, hn]
    show H1[am g c]? = some (vp_cell _ _)
    rw [e1, vp_cell_q, vp_cell_q, arrV_store]
    congr 2
    funext q
    show updV (fun j => va_rf (ro g (gA M c j))) i.toNatClampNeg (.ref (am g r)) q = va_rf (ro g (gA (mA M c i.toNatClampNeg r) c q))
    rw [gA_mA, rv_ro]
    unfold updV
    by_cases hq : q = i.toNatClampNeg
    · rw [if_pos hq, if_pos ⟨rfl, hq⟩, hr3]
    · rw [if_neg hq, if_neg (fun z => hq z.2)]
      exact rv_ro g (gA M c q)
end AXF
