/-! calls -/
def mlD (Z : ax_Y) (n : Nat) : Prop := yOK Z ∧ (parseMethodDescriptor (yn Z).desc).map (fun d => d.parameters.length) = some n ∧ yl Z ≤ 41
def mlL (own : String) (idx : Nat) (Z : ax_Y) : Prop := Cond.methodLink own idx (yn Z) ∈ WG ∨ ∃ host, Cond.methodLinkNest own idx (yn Z) host ∈ NW
def mlV (own : String) (idx : Nat) (Z : ax_Y) (n : Nat) : Prop := mlD Z n ∧ mlL own idx Z ∧ Cond.instanceMethod (yn Z) ∈ WG ∧ Cond.selects (yn Z).cls (yn Z) (yn Z) ∈ WG
def mlS (own : String) (idx : Nat) (Z : ax_Y) (n : Nat) : Prop := mlD Z n ∧ mlL own idx Z ∧ Cond.static (yn Z) ∈ WG
def mlI (own : String) (idx : Nat) (Z : ax_Y) (n : Nat) : Prop := mlD Z n ∧ mlL own idx Z ∧ Cond.instanceMethod (yn Z) ∈ WG ∧ (yn Z).name = "<init>"
theorem wg_good : ∀ w ∈ WG, (w.onTables && w.keeps) = true ∨ ∃ ty, w = .arrayClass ty := by
  intro w hw
  have h := (List.mem_filter.mp hw).2
  exact wg_ok w h
theorem ax_good {Z : ax_Y} (h : yOK Z) : GoodIn WG (yw Z) := by
  intro w hw
  rcases List.mem_cons.mp hw with rfl | hw
  · exact ⟨h.2.2.1, wg_good _ h.2.2.1⟩
  · exact ⟨hw, wg_good _ hw⟩
section AXC
variable {p : Program} {l : Launch} {e : Env} {R : Room} {s : State} {m : MethodId} {args : Array Value} {below : List Frame} {meth : Method} {c : Code} {H : Heap} {locs : List Loc} {cells slots : Nat} {Q : State → Prop}
theorem ax_after {g : ax_G} {ly : Bool} {res : ax_R} {mc ms pc : Nat} {ls : Array Slot} {rest st0 : List Value} {a : Array Value} (hr : va_Run p l e R s m args below meth c H locs cells slots mc ms (F0 m pc ls st0) rest (Qx g ly res a) (ax_A g)) (hS : va_S (ax_A g) s.heap H locs)
    (kk : ∀ (H1 : Heap) (locs1 : List Loc), hok g ly res.2 H1 → va_S (ax_A g) s.heap H1 locs1 → W p l e R s m args below meth c H1 locs1 (cells + mc) (slots + ms) Q (F0 m (pc + 3) ls ((res.1.map (cv g)).toList ++ rest))) : W p l e R s m args below meth c H locs cells slots Q (F0 m pc ls st0) := by
  intro T hT X
  obtain ⟨v, st₀, t, T', L, h0, X', hL, e1, e2, ⟨hv, hh, hz, hk⟩, st⟩ := hr T hT X
  cases hv
  rw [h0] at hz hk
  obtain ⟨t2, a1, b1⟩ := kk T'.heap (locs ++ L) (by rw [e1]; exact hh) ⟨Nat.le_trans hS.1 (by rw [e1]; exact hz), fun q h1 h2 => by rw [e1, hk q (Nat.lt_of_lt_of_le h1 hS.1) h2]; exact hS.2.1 q h1 h2, fun q hq => by
    rcases List.mem_append.mp hq with h | h
    · exact hS.2.2 q h
    · exact hL q h⟩ T' rfl X'
  exact ⟨t2, st t2 a1, b1⟩
/-- a callee's start, from the caller's heap -/
theorem ax_pre {g : ax_G} {ly : Bool} {M : ax_M} {as : List Value} (hs : sok g s) (hS : va_S (ax_A g) s.heap H locs) (hH : hok g ly M H) : PreS s H (va_Pc as (fun U => sok g U ∧ hok g ly M U.heap)) as := by
  refine ⟨fun a U f mk q => ⟨q.1, q.2.1.calling, q.2.2⟩, fun U hU hW => ⟨rfl, ?_, by rw [hU]; exact hH⟩⟩
  refine hs.warm hW (by rw [hU]; exact Nat.le_trans hs.2.2.2.2.2.1 hS.1) (fun q hq => ?_)
  rw [hU]
  exact hS.2.1 q (Nat.lt_of_lt_of_le hq hs.2.2.2.2.2.1) (Nat.not_le.mpr hq)
end AXC
theorem ax_cats (g : ax_G) : ∀ (st : List ax_V), ((st.map (cv g)).map fun v => v.category).sum = ax_wd st
  | [] => rfl
  | v :: vs => by
    have h := ax_cats g vs
    rw [List.map_cons, List.map_cons, List.sum_cons, h, cv_cat]
    rfl
theorem mono0 {m : MethodId} {pc : Nat} {ls : Array Slot} {st rest : List Value} (h : (rest.map fun v => v.category).sum ≤ 8) : 2 * (F0 m pc ls st).monitorRoom + (rest.map fun v => v.category).sum ≤ 8 := lv_room h
section AXD
variable {l : Launch} {g : ax_G} {ly : Bool} {Y : ax_Y} {d : Nat} {res : ax_R} {pc : Nat} {Ls : List (Nat × ax_V)} {st : List ax_V} {M : ax_M}
theorem ax_K {p : Program} {e : Env} {R : Room} {s : State} {m : MethodId} {args : Array Value} {below : List Frame} {meth : Method} {c : Code} {Q : State → Prop} {n0 kc ks : Nat} {r1 : ax_R} {st' : List ax_V} {H1 : Heap} {locs1 : List Loc} {ls : Array Slot}
    (F : ax_Fix g Y p s m args meth c) (hR : d ≤ R.frames ∧ 60 * d ≤ R.locals) (hN : (ly = true ∨ (n0 ≤ gn M ∧ gn M ≤ gn res.2)) ∧ kc + al ly n0 (gn res.2) ≤ R.cells ∧ ks + al ly (SZ n0) (SZ (gn res.2)) ≤ R.slots)
    (hret : ∀ (H' : Heap) (locs' : List Loc) (ls' : Array Slot) (pc' : Nat), (∃ i, codeAt Y pc' = some (i, 1) ∧ rtOK Y i res.1) → hok g ly res.2 H' → va_S (ax_A g) s.heap H' locs' →
      W p l e R s m args below meth c H' locs' (kc + al ly n0 (gn res.2)) (ks + al ly (SZ n0) (SZ (gn res.2))) Q (F0 m pc' ls' (res.1.map (cv g)).toList))
    (h1 : ly = true ∨ gn M ≤ gn r1.2) (h2 : ly = true ∨ gn r1.2 ≤ gn res.2) (K : AW l g ly Y d res (pc + 3) Ls (r1.1.toList ++ st') r1.2) (hH : hok g ly r1.2 H1) (hS : va_S (ax_A g) s.heap H1 locs1) (hl : lv_has ls (yl Y) (Ls.map (ax_cl g))) :
    W p l e R s m args below meth c H1 locs1 (kc + al ly n0 (gn M) + al ly (gn M) (gn r1.2)) (ks + al ly (SZ n0) (SZ (gn M)) + al ly (SZ (gn M)) (SZ (gn r1.2))) Q (F0 m (pc + 3) ls ((r1.1.map (cv g)).toList ++ st'.map (cv g))) := by
  have hm : ly = true ∨ (n0 ≤ gn M ∧ gn M ≤ gn r1.2) := by
    rcases hN.1 with h | h
    · exact Or.inl h
    · rcases h1 with h1 | h1
      · exact Or.inl h1
      · exact Or.inr ⟨h.1, h1⟩
  have hm2 : ly = true ∨ (SZ n0 ≤ SZ (gn M) ∧ SZ (gn M) ≤ SZ (gn r1.2)) := hm.imp id (fun h => ⟨SZ_mono h.1, SZ_mono h.2⟩)
  rw [Nat.add_assoc, al_add hm, Nat.add_assoc, al_add hm2]
  have h9 := K p e R s m args below meth c Q n0 kc ks F hR ⟨?_, hN.2⟩ hret H1 locs1 ls hH hS hl
  · have h8 : (r1.1.toList ++ st').map (cv g) = (r1.1.map (cv g)).toList ++ st'.map (cv g) := by
      rw [List.map_append]
      cases r1.1 <;> rfl
    rw [h8] at h9
    exact h9
  · rcases hm with h | h
    · exact Or.inl h
    · rcases h2 with h2 | h2
      · exact Or.inl h2
      · exact Or.inr ⟨Nat.le_trans h.1 h.2, h2⟩
theorem ax_room {R : Room} {n0 kc ks : Nat} {r1 : ax_R} (hN : (ly = true ∨ (n0 ≤ gn M ∧ gn M ≤ gn res.2)) ∧ kc + al ly n0 (gn res.2) ≤ R.cells ∧ ks + al ly (SZ n0) (SZ (gn res.2)) ≤ R.slots) (h1 : ly = true ∨ gn M ≤ gn r1.2) (h2 : ly = true ∨ gn r1.2 ≤ gn res.2) :
    kc + al ly n0 (gn M) + al ly (gn M) (gn r1.2) ≤ R.cells ∧ ks + al ly (SZ n0) (SZ (gn M)) + al ly (SZ (gn M)) (SZ (gn r1.2)) ≤ R.slots := by
  have hm : ly = true ∨ (n0 ≤ gn M ∧ gn M ≤ gn r1.2) := by
    rcases hN.1 with h | h
    · exact Or.inl h
    · rcases h1 with h1 | h1
      · exact Or.inl h1
      · exact Or.inr ⟨h.1, h1⟩
  have hm2 : ly = true ∨ (SZ n0 ≤ SZ (gn M) ∧ SZ (gn M) ≤ SZ (gn r1.2)) := hm.imp id (fun h => ⟨SZ_mono h.1, SZ_mono h.2⟩)
  rw [Nat.add_assoc, al_add hm, Nat.add_assoc, al_add hm2]
  have a1 : al ly n0 (gn r1.2) ≤ al ly n0 (gn res.2) := al_le h2
  have a2 : al ly (SZ n0) (SZ (gn r1.2)) ≤ al ly (SZ n0) (SZ (gn res.2)) := al_le (h2.imp id SZ_mono)
  exact ⟨by omega, by omega⟩
theorem ax_rm {R : Room} {d' : Nat} {Z : ax_Y} {a b : Nat} (hR : d ≤ R.frames ∧ 60 * d ≤ R.locals) (hd : d' + 1 ≤ d) (hy : yl Z ≤ 41) : (rmx d' a b).frames + 1 ≤ R.frames ∧ 8 + (yl Z + 11) + (rmx d' a b).locals ≤ R.locals := by
  refine ⟨?_, ?_⟩
  · show d' + 1 ≤ R.frames
    omega
  · show 8 + (yl Z + 11) + 60 * d' ≤ R.locals
    omega
theorem A_callV {idx n ci r d' N : Nat} {Z : ax_Y} {T : u_T} {as st' : List ax_V} {r1 : ax_R} (hd : codeAt Y pc = some (.invokevirtual idx, 3)) (hm : mlV (yn Y).cls idx Z n) (hc : classes[ci]? = some ((yn Z).cls, T, N)) (hci : ci < 100) (hk : kd r = ci) (hv : live ly M r) (hlen : as.length = n) (hst : st = as.reverse ++ vA r :: st') (hcat : ax_wd st' ≤ 8) (hd' : d' + 1 ≤ d)
    (hC : Ctr l g ly Z d' (vA r :: as) M r1) (hge : ly = true ∨ gn r1.2 ≤ gn res.2) (K : AW l g ly Y d res (pc + 3) Ls (r1.1.toList ++ st') r1.2) : AW l g ly Y d res pc Ls st M := by
  intro p e R s m args below meth c0 Q n0 kc ks F hR hN hret H locs ls hH hS hl
  obtain ⟨⟨hZ, hdesc, hyl⟩, hlk, hin, hsel⟩ := hm
  obtain ⟨hC1, hM⟩ := hC
  have hs := F.2.2.2.2.2.1
  have hts := F.2.2.2.2.1
  obtain ⟨-, -, -, he, hrv⟩ := hH.cell hk (by omega) hv
  rw [ent_obj hk hci] at he
  have hrecv := va_recv hs.1 hH.1 hc he
  have hpre := ax_pre (as := (vA r :: as).map (cv g)) hs hS hH
  have hrm := ax_rm (a := al ly (gn M) (gn r1.2)) (b := al ly (SZ (gn M)) (SZ (gn r1.2))) hR hd' hyl
  have hf := ax_room (r1 := r1) hN hC1 hge
  subst hst
  have hstk : (as.reverse ++ vA r :: st').map (cv g) = (as.map (cv g)).reverse ++ .ref (am g r) :: st'.map (cv g) := by
    rw [List.map_append, List.map_reverse, List.map_cons, cv_A, hrv]
  have hargs : (vA r :: as).map (cv g) = .ref (am g r) :: as.map (cv g) := by rw [List.map_cons, cv_A, hrv]
  rw [hargs] at hM hpre
  have hpv : PreV s H (yn Z).cls (am g r) (va_Pc (.ref (am g r) :: as.map (cv g)) (fun U => sok g U ∧ hok g ly M U.heap)) (as.map (cv g)) := ⟨hpre.1, hrecv, hpre.2⟩
  have hdd : (yn Z).cls ≠ "java/lang/invoke/MethodHandle" ∧ (yn Z).cls ≠ "java/lang/invoke/VarHandle" ∧ (parseMethodDescriptor (yn Z).desc).map (fun d => d.parameters.length) = some n := ⟨hZ.2.2.2.2.1, hZ.2.2.2.2.2, hdesc⟩
  have hrun : va_Run p l e R s m args below meth c0 H locs (kc + al ly n0 (gn M)) (ks + al ly (SZ n0) (SZ (gn M))) (al ly (gn M) (gn r1.2)) (al ly (SZ (gn M)) (SZ (gn r1.2))) (F0 m pc ls ((as.reverse ++ vA r :: st').map (cv g))) (st'.map (cv g)) (Qx g ly r1 (Value.ref (am g r) :: as.map (cv g)).toArray) (ax_A g) := by
    rcases hlk with hlk | ⟨host, hlk⟩
    · exact va_runV (As := as.map (cv g)) (rest := st'.map (cv g)) ⟨F.1, F.2.1, F.2.2.1, F.2.2.2.1, hts⟩ hM ⟨callB_of n hts (ax_good hZ) rfl rfl rfl (hts _ hZ.2.2.2.1) (hts _ hlk) hdd hrm, hts _ hin, hts _ hsel⟩ hpv rfl (by rw [List.length_map]; exact hlen) hl.1 hstk (mono0 (by rw [ax_cats]; exact hcat)) (cd hd F.2.2.2.2.2.2.2) hf
    · exact va_runVN (As := as.map (cv g)) (rest := st'.map (cv g)) ⟨F.1, F.2.1, F.2.2.1, F.2.2.2.1, hts⟩ hM ⟨va_cnB n hts (ax_good hZ) rfl rfl rfl (hs.2.1 _ hlk) (hts _ hZ.2.2.2.1) hdd hrm, hts _ hin, hts _ hsel⟩ hpv rfl (by rw [List.length_map]; exact hlen) hl.1 hstk (mono0 (by rw [ax_cats]; exact hcat)) (cd hd F.2.2.2.2.2.2.2) hf
  exact ax_after hrun hS (fun H1 locs1 hH1 hS1 => ax_K F hR hN hret hC1 hge K hH1 hS1 hl)
theorem A_callS {idx n d' : Nat} {Z : ax_Y} {as st' : List ax_V} {r1 : ax_R} (hd : codeAt Y pc = some (.invokestatic idx, 3)) (hm : mlS (yn Y).cls idx Z n) (hlen : as.length = n) (hst : st = as.reverse ++ st') (hcat : ax_wd st' ≤ 8) (hd' : d' + 1 ≤ d)
    (hC : Ctr l g ly Z d' as M r1) (hge : ly = true ∨ gn r1.2 ≤ gn res.2) (K : AW l g ly Y d res (pc + 3) Ls (r1.1.toList ++ st') r1.2) : AW l g ly Y d res pc Ls st M := by
  intro p e R s m args below meth c0 Q n0 kc ks F hR hN hret H locs ls hH hS hl
  obtain ⟨⟨hZ, hdesc, hyl⟩, hlk, hst2⟩ := hm
  obtain ⟨hC1, hM⟩ := hC
  have hs := F.2.2.2.2.2.1
  have hts := F.2.2.2.2.1
  have hpre := ax_pre (as := as.map (cv g)) hs hS hH
  have hrm := ax_rm (a := al ly (gn M) (gn r1.2)) (b := al ly (SZ (gn M)) (SZ (gn r1.2))) hR hd' hyl
  have hf := ax_room (r1 := r1) hN hC1 hge
  subst hst
  have hstk : (as.reverse ++ st').map (cv g) = (as.map (cv g)).reverse ++ st'.map (cv g) := by
    rw [List.map_append, List.map_reverse]
  have hdd : (yn Z).cls ≠ "java/lang/invoke/MethodHandle" ∧ (yn Z).cls ≠ "java/lang/invoke/VarHandle" ∧ (parseMethodDescriptor (yn Z).desc).map (fun d => d.parameters.length) = some n := ⟨hZ.2.2.2.2.1, hZ.2.2.2.2.2, hdesc⟩
  have hrun : va_Run p l e R s m args below meth c0 H locs (kc + al ly n0 (gn M)) (ks + al ly (SZ n0) (SZ (gn M))) (al ly (gn M) (gn r1.2)) (al ly (SZ (gn M)) (SZ (gn r1.2))) (F0 m pc ls ((as.reverse ++ st').map (cv g))) (st'.map (cv g)) (Qx g ly r1 (as.map (cv g)).toArray) (ax_A g) := by
    rcases hlk with hlk | ⟨host, hlk⟩
    · exact va_runS (As := as.map (cv g)) (rest := st'.map (cv g)) ⟨F.1, F.2.1, F.2.2.1, F.2.2.2.1, hts⟩ hM ⟨callB_of n hts (ax_good hZ) rfl rfl rfl (hts _ hZ.2.2.2.1) (hts _ hlk) hdd hrm, hts _ hst2⟩ hpre rfl (by rw [List.length_map]; exact hlen) hl.1 hstk (mono0 (by rw [ax_cats]; exact hcat)) (cd hd F.2.2.2.2.2.2.2) hf
    · exact va_runSN (As := as.map (cv g)) (rest := st'.map (cv g)) ⟨F.1, F.2.1, F.2.2.1, F.2.2.2.1, hts⟩ hM ⟨va_cnB n hts (ax_good hZ) rfl rfl rfl (hs.2.1 _ hlk) (hts _ hZ.2.2.2.1) hdd hrm, hts _ hst2, trivial⟩ hpre rfl (by rw [List.length_map]; exact hlen) hl.1 hstk (mono0 (by rw [ax_cats]; exact hcat)) (cd hd F.2.2.2.2.2.2.2) hf
  exact ax_after hrun hS (fun H1 locs1 hH1 hS1 => ax_K F hR hN hret hC1 hge K hH1 hS1 hl)
theorem A_callI {idx n r d' : Nat} {Z : ax_Y} {as st' : List ax_V} {r1 : ax_R} (hd : codeAt Y pc = some (.invokespecial idx, 3)) (hm : mlI (yn Y).cls idx Z n) (hr0 : ¬ r = 0) (hret0 : yr Z = none) (hlen : as.length = n) (hst : st = as.reverse ++ vA r :: st') (hcat : ax_wd st' ≤ 8) (hd' : d' + 1 ≤ d)
    (hC : Ctr l g ly Z d' (vA r :: as) M r1) (hge : ly = true ∨ gn r1.2 ≤ gn res.2) (K : AW l g ly Y d res (pc + 3) Ls (r1.1.toList ++ st') r1.2) : AW l g ly Y d res pc Ls st M := by
  intro p e R s m args below meth c0 Q n0 kc ks F hR hN hret H locs ls hH hS hl
  obtain ⟨⟨hZ, hdesc, hyl⟩, hlk, hin, hini⟩ := hm
  obtain ⟨hC1, hM⟩ := hC
  have hs := F.2.2.2.2.2.1
  have hts := F.2.2.2.2.1
  have hrv : rv g r = .ref (am g r) := rv_pos hr0
  have hpre := ax_pre (as := (vA r :: as).map (cv g)) hs hS hH
  have hrm := ax_rm (a := al ly (gn M) (gn r1.2)) (b := al ly (SZ (gn M)) (SZ (gn r1.2))) hR hd' hyl
  have hf := ax_room (r1 := r1) hN hC1 hge
  subst hst
  have hstk : (as.reverse ++ vA r :: st').map (cv g) = (as.map (cv g)).reverse ++ .ref (am g r) :: st'.map (cv g) := by
    rw [List.map_append, List.map_reverse, List.map_cons, cv_A, hrv]
  have hargs : (vA r :: as).map (cv g) = .ref (am g r) :: as.map (cv g) := by rw [List.map_cons, cv_A, hrv]
  rw [hargs] at hM hpre
  have hdd : (yn Z).cls ≠ "java/lang/invoke/MethodHandle" ∧ (yn Z).cls ≠ "java/lang/invoke/VarHandle" ∧ (parseMethodDescriptor (yn Z).desc).map (fun d => d.parameters.length) = some n := ⟨hZ.2.2.2.2.1, hZ.2.2.2.2.2, hdesc⟩
  have hyw : yw Z = Cond.code (yn Z) (yb Z) (yl Z) none :: WG := by unfold yw; rw [hret0]
  have hrun : va_Run p l e R s m args below meth c0 H locs (kc + al ly n0 (gn M)) (ks + al ly (SZ n0) (SZ (gn M))) (al ly (gn M) (gn r1.2)) (al ly (SZ (gn M)) (SZ (gn r1.2))) (F0 m pc ls ((as.reverse ++ vA r :: st').map (cv g))) (st'.map (cv g)) (Qx g ly r1 (Value.ref (am g r) :: as.map (cv g)).toArray) (ax_A g) := by
    rcases hlk with hlk | ⟨host, hlk⟩
    · exact va_runI (As := as.map (cv g)) (rest := st'.map (cv g)) ⟨F.1, F.2.1, F.2.2.1, F.2.2.2.1, hts⟩ hM ⟨callB_of n hts (ax_good hZ) hyw rfl rfl (hts _ hZ.2.2.2.1) (hts _ hlk) hdd hrm, hini, hts _ hin⟩ hpre rfl (by rw [List.length_map]; exact hlen) hl.1 hstk (mono0 (by rw [ax_cats]; exact hcat)) (cd hd F.2.2.2.2.2.2.2) hf
    · exact va_runIN (As := as.map (cv g)) (rest := st'.map (cv g)) ⟨F.1, F.2.1, F.2.2.1, F.2.2.2.1, hts⟩ hM ⟨va_cnB n hts (ax_good hZ) hyw rfl rfl (hs.2.1 _ hlk) (hts _ hZ.2.2.2.1) hdd hrm, hini, hts _ hin⟩ hpre rfl (by rw [List.length_map]; exact hlen) hl.1 hstk (mono0 (by rw [ax_cats]; exact hcat)) (cd hd F.2.2.2.2.2.2.2) hf
  exact ax_after hrun hS (fun H1 locs1 hH1 hS1 => ax_K F hR hN hret hC1 hge K hH1 hS1 hl)
theorem A_objInit {idx r : Nat} (hd : codeAt Y pc = some (.invokespecial idx, 3)) (h1 : Cond.methodLink (yn Y).cls idx Lib.objectInit ∈ WG) (h2 : Cond.instanceMethod Lib.objectInit ∈ WG) (h3 : Cond.code Lib.objectInit ⟨#[0xb1]⟩ 1 none ∈ WG) (hr0 : ¬ r = 0) (hd0 : 1 ≤ d) (hcat : ax_wd st ≤ 8) (K : AW l g ly Y d res (pc + 3) Ls st M) : AW l g ly Y d res pc Ls (vA r :: st) M := by
  intro p e R s m args below meth c0 Q n0 kc ks F hR hN hret H locs ls hH hS hl
  have hts := F.2.2.2.2.1
  rw [List.map_cons, cv_A, rv_pos hr0]
  refine W.objInit F.1 F.2.1 F.2.2.2.1 (hts _ h1) (hts _ h2) (hts _ h3) rfl (by rw [F.2.2.1]; exact hl.1) rfl (cd hd F.2.2.2.2.2.2.2) (by omega) ?_ (K p e R s m args below meth c0 Q n0 kc ks F hR hN hret H locs ls hH hS hl)
  have h4 : 2 * (F0 m pc ls (Value.ref (am g r) :: st.map (cv g))).monitorRoom + ((st.map (cv g)).map fun v => v.category).sum ≤ 8 := mono0 (by rw [ax_cats]; exact hcat)
  omega
end AXD
/-! new cells -/
theorem ent_mS {g : ax_G} {M : ax_M} (a : Nat) : ent g (mS M) a = ent g M a := ent_other (fun _ => rfl) (fun _ => rfl) (fun _ => rfl)
theorem ws_mS (g : ax_G) (M : ax_M) : WS g (mS M) = WS g M ++ [(gb g + gn M, ent g M (gn M + 2))] := by
  unfold WS
  show (List.range (gn M + 1)).map _ = _
  rw [List.range_succ, List.map_append]
  congr 1
theorem hok.grow {g : ax_G} {M : ax_M} {H H1 : Heap} (h : hok g false M H) (hn : gn M < NT) (hat : va_at (gD g) classes (gb g + gn M, ent g M (gn M + 2)) H1) (hs : H1.size = H.size + 1) (oq : ∀ q, q < H.size → H1[q]? = H[q]?) : hok g false (mS M) H1 := by
  refine ⟨?_, ?_, ?_, fun a k ha => ?_, fun q => by cases q⟩
  · rw [ws_mS]
    refine va_P.app (h.1.kept fun k q hk => oq q.1 ((h.1 k q hk).lt)) (fun k q hk => ?_)
    have hz : k < 1 := (List.getElem?_eq_some_iff.mp hk).1
    rw [show k = 0 by omega] at hk
    cases hk
    exact hat
  · rw [hs, h.2.1]
    rfl
  · exact hn
  · exact h.2.2.2.1 a k (by have : gn (mS M) = gn M + 1 := rfl; omega)
theorem fv_new {g : ax_G} {ly : Bool} {M : ax_M} {H : Heap} (h : hok g ly M H) {ci k : Nat} (hk : kd (gn M + 2) = ci) : fv g M (gn M + 2) k = if FTC ci k = 1 then .long 0 else if FTC ci k = 2 then .null else .int 0 := by
  obtain ⟨h1, h2, h3⟩ := h.2.2.2.1 (gn M + 2) k (Nat.le_refl _)
  unfold fv
  rw [hk, h1, h2, h3, rv_0]
section AXN
variable {l : Launch} {g : ax_G} {Y : ax_Y} {d : Nat} {res : ax_R} {pc : Nat} {Ls : List (Nat × ax_V)} {st : List ax_V} {M : ax_M}
theorem al_s {a b : Nat} (h : a ≤ b) : al false a (b + 1) = al false a b + 1 := by
  show b + 1 - a = b - a + 1
  omega
theorem ax_new {p : Program} {e : Env} {R : Room} {s : State} {m : MethodId} {args : Array Value} {below : List Frame} {meth : Method} {c : Code} {Q : State → Prop} {n0 kc ks k : Nat} {H1 : Heap} {locs : List Loc} {ls : Array Slot}
    (F : ax_Fix g Y p s m args meth c) (hR : d ≤ R.frames ∧ 60 * d ≤ R.locals) (hN : (false = true ∨ (n0 ≤ gn M ∧ gn M ≤ gn res.2)) ∧ kc + al false n0 (gn res.2) ≤ R.cells ∧ ks + al false (SZ n0) (SZ (gn res.2)) ≤ R.slots)
    (hret : ∀ (H' : Heap) (locs' : List Loc) (ls' : Array Slot) (pc' : Nat), (∃ i, codeAt Y pc' = some (i, 1) ∧ rtOK Y i res.1) → hok g false res.2 H' → va_S (ax_A g) s.heap H' locs' →
      W p l e R s m args below meth c H' locs' (kc + al false n0 (gn res.2)) (ks + al false (SZ n0) (SZ (gn res.2))) Q (F0 m pc' ls' (res.1.map (cv g)).toList))
    (hle : gn M + 1 ≤ gn res.2) (hnt : gn M < NT) (hk : ln (gn M + 2) = k) {n : Nat} (K : AW l g false Y d res (pc + n) Ls (vA (gn M + 2) :: st) (mS M)) (hH : hok g false (mS M) H1) (hS : va_S (ax_A g) s.heap H1 locs) (hl : lv_has ls (yl Y) (Ls.map (ax_cl g))) :
    W p l e R s m args below meth c H1 locs (kc + al false n0 (gn M) + 1) (ks + al false (SZ n0) (SZ (gn M)) + k) Q (F0 m (pc + n) ls (.ref (gb g + gn M) :: st.map (cv g))) := by
  rcases hN.1 with hb | hb
  · cases hb
  have h9 := K p e R s m args below meth c Q n0 kc ks F hR ⟨Or.inr ⟨Nat.le_succ_of_le hb.1, hle⟩, hN.2⟩ hret H1 locs ls hH hS hl
  have e1 : al false n0 (gn (mS M)) = al false n0 (gn M) + 1 := al_s hb.1
  have hm := SZ_mono hb.1
  have e2 : al false (SZ n0) (SZ (gn (mS M))) = al false (SZ n0) (SZ (gn M)) + k := by
    show SZ (gn M + 1) - SZ n0 = SZ (gn M) - SZ n0 + k
    rw [SZ_succ hnt, hk]
    omega
  have h3 : NT + 2 ≤ 1000 := nt_small
  have e3 : cv g (vA (gn M + 2)) = .ref (gb g + gn M) := by
    rw [cv_A, rv_pos (by omega), am_cell (by omega) (by omega)]
    rfl
  rw [e1, e2, List.map_cons, e3, ← Nat.add_assoc, ← Nat.add_assoc] at h9
  exact h9
theorem ax_newR {R : Room} {n0 kc ks k : Nat} (hN : (false = true ∨ (n0 ≤ gn M ∧ gn M ≤ gn res.2)) ∧ kc + al false n0 (gn res.2) ≤ R.cells ∧ ks + al false (SZ n0) (SZ (gn res.2)) ≤ R.slots) (hle : gn M + 1 ≤ gn res.2) (hnt : gn M < NT) (hk : ln (gn M + 2) = k) : kc + al false n0 (gn M) + 1 ≤ R.cells ∧ ks + al false (SZ n0) (SZ (gn M)) + k ≤ R.slots := by
  rcases hN.1 with hb | hb
  · cases hb
  have h1 : al false n0 (gn res.2) = gn res.2 - n0 := rfl
  have h2 : al false n0 (gn M) = gn M - n0 := rfl
  have h3 : al false (SZ n0) (SZ (gn res.2)) = SZ (gn res.2) - SZ n0 := rfl
  have h4 : al false (SZ n0) (SZ (gn M)) = SZ (gn M) - SZ n0 := rfl
  have h5 := SZ_mono hle
  rw [SZ_succ hnt, hk] at h5
  have h6 := SZ_mono hb.1
  have h7 := hN.2
  rw [h1, h3] at h7
  rw [h2, h4]
  omega
theorem va_S.grow {A : Nat → Prop} {H0 H H1 : Heap} {locs : List Loc} (hS : va_S A H0 H locs) (hs : H1.size = H.size + 1) (oq : ∀ q, q < H.size → H1[q]? = H[q]?) : va_S A H0 H1 locs :=
  ⟨Nat.le_trans hS.1 (by omega), fun x h1 h2 => (oq x (Nat.lt_of_lt_of_le h1 hS.1)).trans (hS.2.1 x h1 h2), hS.2.2⟩
theorem A_new {idx ci N : Nat} {C : String} {T : u_T} (hd : codeAt Y pc = some (.new idx, 3)) (hc : clsOK ci C T N) (hw1 : Cond.classLink (yn Y).cls idx C ∈ WG) (hw2 : Cond.instantiable C N ∈ WG) (hw3 : Cond.initialized C ∈ WG) (hdef : ∀ j, j < N → defaultValue (FTY ci j) = if FTC ci j = 1 then .long 0 else if FTC ci j = 2 then .null else .int 0)
    (hk : kd (gn M + 2) = ci) (hle : gn M + 1 ≤ gn res.2) (K : AW l g false Y d res (pc + 3) Ls (vA (gn M + 2) :: st) (mS M)) : AW l g false Y d res pc Ls st M := by
  intro p e R s m args below meth c0 Q n0 kc ks F hR hN hret H locs ls hH hS hl
  obtain ⟨k1, k2, k3, k4, k5, k6⟩ := hc
  have hts := F.2.2.2.2.1
  have hs := F.2.2.2.2.2.1
  have hnt : gn M < NT := by
    have := (kd_lt hk (by omega)).2
    omega
  have hln : ln (gn M + 2) = N := k6 _ hk
  have hrm := ax_newR (res := res) hN hle hnt hln
  have hKn := hs.1.1 ci _ k1
  refine W.newcK F.1 F.2.1 F.2.2.2.1 (hts _ hw1) (hts _ hw2) (hts _ hw3) rfl (cd hd F.2.2.2.2.2.2.2) hrm.1 hrm.2 hKn.2.1 hH.2.1 fun H1 kC hkC e1 z1 o1 => ?_
  have o2 : ∀ q, q < H.size → H1[q]? = H[q]? := fun q hq => o1 q (by rw [← hH.2.1]; exact hq)
  have z2 : H1.size = H.size + 1 := by rw [z1, hH.2.1]
  refine ax_new (n := 3) F hR hN hret hle hnt hln K (hH.grow hnt ?_ z2 o2) (hS.grow z2 o2) hl
  rw [ent_obj hk k5, hln]
  refine ⟨_, k1, (u_born (FTY ci) hts k2 hKn hkC e1 k3).to fun j hj => ?_⟩
  rw [hdef j hj, ← fv_new hH hk]
  unfold vp_V
  rw [List.getD_eq_getElem?_getD, fs_at hj]
  rfl
theorem A_newa {t n : Nat} {a : ArrayType} {ty : FieldType} {i : Int32} (hd : codeAt Y pc = some (.newarray a, 2)) (hty : newarray.typeOf a = ty) (hw : Cond.arrayClass ty ∈ WG) (ht : t < 4 ∧ ATS.getD t .int = ty ∧ t < ATS.length) (hk : kd (gn M + 2) = 100 + t) (hn : ln (gn M + 2) = n) (hi : i.toNatClampNeg = n ∧ ¬ i < 0 ∧ n * componentBytes ty ≤ 536870912)
    (hdv : defaultValue ty = if t = 1 then .long 0 else .int 0) (hra : ∀ (U : State) (cA : ClassId), va_RA U cA ty → U.vm.findClass ("[" ++ ty.toString) = some cA) (hle : gn M + 1 ≤ gn res.2) (K : AW l g false Y d res (pc + 2) Ls (vA (gn M + 2) :: st) (mS M)) : AW l g false Y d res pc Ls (vI i :: st) M := by
  intro p e R s m args below meth c0 Q n0 kc ks F hR hN hret H locs ls hH hS hl
  subst hty
  have hts := F.2.2.2.2.1
  have hs := F.2.2.2.2.2.1
  have hnt : gn M < NT := by
    have := (kd_lt hk (by omega)).2
    omega
  have hrm := ax_newR (res := res) hN hle hnt hn
  refine va_newaK F.1 F.2.1 (hts _ hw) rfl (cd hd F.2.2.2.2.2.2.2) rfl hi.2.1 hi.1 hi.2.2 hrm.1 hrm.2 hH.2.1 fun H1 cA e1 z1 o1 hAr hNm => ?_
  have o2 : ∀ q, q < H.size → H1[q]? = H[q]? := fun q hq => o1 q (by rw [← hH.2.1]; exact hq)
  have z2 : H1.size = H.size + 1 := by rw [z1, hH.2.1]
  refine ax_new (n := 2) F hR hN hret hle hnt hn K (hH.grow hnt ?_ z2 o2) (hS.grow z2 o2) hl
  have h5 := (hs.1.2 t _ (tys_at ht.2.2)).2
  rw [ht.2.1] at h5
  have hcA : cA = gdA g t := Option.some.inj (hNm.symm.trans (hra _ _ h5))
  have hz := hH.2.2.2.1 (gn M + 2)
  rw [ent_arr hk, hn]
  show H1[gb g + gn M]? = some (vp_cell _ _)
  rw [e1, hdv, hcA]
  by_cases h1 : t = 1
  · subst h1
    rw [cont_J hk, vp_cell_l, if_pos rfl]
    congr 2
    funext j
    rw [(hz j (Nat.le_refl _)).2.1]
  · rw [cont_I (by omega), vp_cell_i, if_neg h1]
    congr 2
    funext j
    rw [(hz j (Nat.le_refl _)).1]
theorem A_anew {t n idx : Nat} {C : String} {i : Int32} (hd : codeAt Y pc = some (.anewarray idx, 3)) (hw : Cond.classLink (yn Y).cls idx C ∈ WG) (hAO : C ∈ AON) (ht : 4 ≤ t ∧ t < ATS.length ∧ ATS.getD t .int = .object C) (hk : kd (gn M + 2) = 100 + t) (hn : ln (gn M + 2) = n) (hi : i.toNatClampNeg = n ∧ ¬ i < 0 ∧ n * 4 ≤ 536870912)
    (hle : gn M + 1 ≤ gn res.2) (K : AW l g false Y d res (pc + 3) Ls (vA (gn M + 2) :: st) (mS M)) : AW l g false Y d res pc Ls (vI i :: st) M := by
  intro p e R s m args below meth c0 Q n0 kc ks F hR hN hret H locs ls hH hS hl
  have hts := F.2.2.2.2.1
  have hs := F.2.2.2.2.2.1
  have h9 : ATS.length < 800 := ats_small
  have hnt : gn M < NT := by
    have := (kd_lt hk (by omega)).2
    omega
  have hrm := ax_newR (res := res) hN hle hnt hn
  obtain ⟨hi1, hi2, hi3⟩ := hi
  subst hi1
  refine W.anew F.1 F.2.1 F.2.2.2.1 (hts _ hw) (va_AO.use (hs.2.2.2.2.2.2.2.1 C hAO)) rfl (cd hd F.2.2.2.2.2.2.2) rfl hi2 hi3 hrm.1 hrm.2 fun cA kA comp f1 f2 f3 f4 => ?_
  generalize hH1 : H.push ({ cls := cA, slots := Array.replicate i.toNatClampNeg .null, vm := .none } : Cell) = H1
  have z2 : H1.size = H.size + 1 := by rw [← hH1, Array.size_push]
  have e1 : H1[H.size]? = some (arrV cA i.toNatClampNeg (fun _ => .null)) := by rw [← hH1, Array.getElem?_push_size, ← arrV_new]
  have o2 : ∀ q : Nat, q < H.size → H1[q]? = H[q]? := fun q hq => by rw [← hH1, Array.getElem?_push, if_neg (Nat.ne_of_lt hq)]
  rw [hH.2.1] at e1
  have h8 := ax_new (n := 3) F hR hN hret hle hnt hn K (H1 := H1) (locs := locs) (ls := ls) (hH.grow hnt ?_ z2 o2) (hS.grow z2 o2) hl
  · rw [hH.2.1]
    exact h8
  · have h5 := (hs.1.2 t _ (tys_at ht.2.1)).2
    rw [ht.2.2] at h5
    obtain ⟨kA2, comp2, -, -, -, j4⟩ := h5
    have hcA : cA = gdA g t := Option.some.inj (f1.symm.trans j4)
    have hz := hH.2.2.2.1 (gn M + 2)
    rw [ent_arr hk, hn, cont_A hk ht.1]
    show H1[gb g + gn M]? = some (vp_cell _ _)
    rw [e1, hcA, vp_cell_q]
    congr 2
    funext j
    rw [(hz j (Nat.le_refl _)).2.2]
    rfl
end AXN
