/-! call, both sides -/
theorem xI_inj {x y : Int32} (h : xI x = xI y) : x = y := by
  have h2 : x.toInt64 = y.toInt64 := congrArg (fun z : xV => z.2.1) h
  rw [← i64_32 x, ← i64_32 y, h2]
theorem gate_ok {M : ax_M} {r : xRes} (hr : XR r) (h9 : gI M 135 9 = r.1) (hv : r.1 = 0 → VRep M 139 r.2.1) (ht : r.1 = 1 → r.2.1 = xI (gI M 135 8)) {n : Int32} (hm : r.1 = 0 → (r.2.1.1 = 4 → n = nI r.2.1.2.2.length ∧ r.2.1.2.2.length ≤ 5 ∧ ∀ j, j < r.2.1.2.2.length → gI M 221 j = r.2.1.2.2.getD j 0) ∧ (r.2.1.1 ≠ 4 → r.2.1.2.1 = n.toInt64)) (hn : r.1 = 1 → r.2.1 = xI n) (h57 : gI M 184 57 = if r.1 = 0 then (if r.2.1.1 = 4 then 2 else if r.2.1.1 = 2 then 1 else 0) else -1) (h58 : gI M 184 58 = if 1 < r.1 then 0 else if gI M 184 57 = 0 then 0 else n) : S_gate M := by
  unfold S_gate kindC numC
  rw [h9]
  rcases hr with ⟨q, hx⟩ | ⟨q, v, hx⟩ | q | q | q
  · obtain ⟨v1, v2, v3, v4⟩ := hv q
    obtain ⟨n1, n2⟩ := hm q
    rw [if_pos q] at h57
    rw [h57, if_neg (show ¬ 1 < r.1 by rw [q]; decide)] at h58
    rw [if_pos q, if_neg (show ¬ r.1 = 1 by rw [q]; decide), if_pos q, v2, h57, h58]
    generalize r.2.1 = x at hx v1 v2 v3 v4 n1 n2 ⊢
    rcases hx with hx | ⟨w, hx⟩ | ⟨l, hx, hl⟩
    · subst hx
      refine ⟨rfl, ?_, fun z => absurd (show (0 : Int32) = 2 from z) (by decide)⟩
      have e : gJ M 139 1 = 0 := v3 (by decide)
      rw [e]
      rfl
    · subst hx
      refine ⟨rfl, ?_, fun z => absurd (show (1 : Int32) = 2 from z) (by decide)⟩
      have e : gJ M 139 1 = w.toInt64 := v3 (show (2 : Int32) ≠ 4 by decide)
      have e2 : w.toInt64 = n.toInt64 := n2 (show (2 : Int32) ≠ 4 by decide)
      rw [e, e2, i64_32]
      rfl
    · subst hx
      obtain ⟨l1, l2, l3, l4⟩ := v4 rfl
      obtain ⟨p1, p2, p3⟩ := n1 rfl
      refine ⟨rfl, ?_, fun _ => ⟨l.length, hl, l3, fun k hk => ?_⟩⟩
      · show n = gI M 140 1
        rw [p1]
        exact l3.symm
      · rw [p3 k hk]
        exact (l4 k hk).symm
  · rw [if_neg (show ¬ r.1 = 0 by rw [q]; decide)] at h57
    rw [h57, if_neg (show ¬ 1 < r.1 by rw [q]; decide), if_neg (show ¬ (-1 : Int32) = 0 by decide)] at h58
    rw [if_neg (show ¬ r.1 = 0 by rw [q]; decide), if_pos q, h57, h58]
    exact ⟨rfl, xI_inj ((hn q).symm.trans (ht q)), fun z => absurd z (by decide)⟩
  all_goals
    rw [if_neg (show ¬ r.1 = 0 by rw [q]; decide)] at h57
    rw [if_pos (show 1 < r.1 by rw [q]; decide)] at h58
    rw [if_neg (show ¬ r.1 = 0 by rw [q]; decide), if_neg (show ¬ r.1 = 1 by rw [q]; decide), if_neg (show ¬ r.1 = 0 by rw [q]; decide), h57, h58]
    exact ⟨rfl, rfl, fun z => absurd z (by decide)⟩
theorem Sim.call {M M' : ax_M} (h : Sim M) (hE : EqK XM M M') (hc : ∀ c k, F_ctx c k → gI M' c k = gI M c k) (hg : S_gate M') (hn : ∀ m e, m < 8 → e < 6 → gI M' 201 (6 * m + e) = gI M' (143 + 2 * m) e) : Sim M' := by
  obtain ⟨h_text, h_list, h_ctx, h_roles, h_guard, h_meth, h_val, h_perm, h_expr, h_gate, h_ask, h_misc⟩ := h
  have e8 : ∀ k, gA M' 8 k = gA M 8 k := fun k => (hE 8 k (by unfold XM XC; omega)).2.2
  have e2 : gA M' 2 3 = gA M 2 3 := (hE 2 3 (by unfold XM XC; omega)).2.2
  have e188 : ∀ k, gI M' 188 k = gI M 188 k := fun k => (hE 188 k (by unfold XM XC; omega)).1
  have em : ∀ m k, gI M' (142 + 2 * m) k = gI M (142 + 2 * m) k ∨ 8 ≤ m := fun m k => by
    by_cases q : 8 ≤ m
    · exact Or.inr q
    · exact Or.inl (hE _ k (by unfold XM XC; omega)).1
  have em : ∀ m k, m < 8 → gI M' (142 + 2 * m) k = gI M (142 + 2 * m) k := fun m k hm => (hE _ k (by unfold XM XC; omega)).1
  have eg : ∀ p k, p < 10 → gI M' (158 + p) k = gI M (158 + p) k := fun p k hp => (hE _ k (by unfold XM XC; omega)).1
  have er : ∀ c k, 193 ≤ c → c ≤ 200 → gI M' c k = gI M c k := fun c k h1 h2 => (hE c k (by unfold XM XC; omega)).1
  refine ⟨S_text.cg (M := M) (fun c k hf => ?_) h_text, S_list.cg (M := M) (fun c k hf => ?_) h_list, S_ctx.cg (M := M) hc h_ctx, S_roles.cg (M := M) (fun c k hf => ?_) h_roles, S_guard.cg (M := M) (fun c k hf => ?_) h_guard, fun m hm => ⟨?_, fun e he => hn m e hm he⟩, ⟨fun p hp => ?_, fun m hm => ?_⟩, S_perm.cg (M := M) e8 e2 h_perm, S_expr.cg h_perm e8 e2 (fun c k hf => ?_) h_expr, hg, ?_, S_misc.cg (M := M) (hE 68 8 (by unfold XM XC; omega)).1 (hE 70 0 (by unfold XM XC; omega)).1 (hE 70 1 (by unfold XM XC; omega)).2.1 h_misc⟩
  · exact (hE c k (by unfold F_text at hf; unfold XM XC; omega)).1
  · exact (hE c k (by unfold F_list at hf; unfold XM XC; omega)).1
  · exact (hE c k (by unfold F_roles at hf; unfold XM XC; omega)).1
  · exact (hE c k (by unfold F_guard at hf; unfold XM XC; omega)).1
  · rw [er 195 m (by omega) (by omega), er 196 m (by omega) (by omega), er 197 m (by omega) (by omega), er 198 m (by omega) (by omega), er 199 m (by omega) (by omega), er 200 m (by omega) (by omega), em m 0 hm, em m 1 hm, em m 2 hm, em m 3 hm, em m 4 hm, em m 5 hm]
    exact (h_meth m hm).1
  · rw [eg p 0 hp, eg p 1 hp]
    exact fun q => wr.cg e188 (h_val.1 p hp q)
  · rw [em m 0 hm, em m 1 hm, em m 2 hm, em m 3 hm, em m 4 hm, em m 5 hm]
    obtain ⟨a1, a2, a3, a4⟩ := h_val.2 m hm
    exact ⟨rl.cg e188 a1, rl.cg e188 a2, rl.cg e188 a3, a4⟩
  · exact ⟨(hE c k (by unfold F_expr at hf; unfold XM XC; omega)).1, (hE c k (by unfold F_expr at hf; unfold XM XC; omega)).2.1⟩
  · show gJ M' 184 60 = gJ M' 2 8
    rw [(hE 184 60 (by unfold XM XC; omega)).2.1, (hE 2 8 (by unfold XM XC; omega)).2.1]
    exact h_ask
theorem sim_call {M : ax_M} (h : Sim M) (m a : Int32) (b : Int64) : ∃ r M1 M2, f_MW_call m a b M = some (r, M1) ∧ f_Mod_call m a b M1 = some (r, M2) ∧ Sim M2 := by
  unfold f_MW_call f_Mod_call
  rcases meth_c (M := M) m with ⟨q, hc⟩ | ⟨q, q2, q3, hc⟩ | ⟨i, hi, rfl, q2, q3, -, hc⟩
  · rw [hc, bnd_eq, if_pos rfl]
    exact ⟨-1, M, M, rfl, if_pos q, h⟩
  · rw [hc, bnd_eq, if_pos rfl]
    exact ⟨-1, M, M, rfl, (if_neg q2).trans (if_neg (Int32.not_le.mpr q3)), h⟩
  obtain ⟨D, Wm, S, l, hR, hS, e3, hu, hus, e13, e14, hl, hl16, hl192⟩ := sim_env h
  have hg : S_guard M := h.2.2.2.2.1
  have hmm : S_meth M := h.2.2.2.2.2.1
  have hv : S_val M := h.2.2.2.2.2.2.1
  have hp : S_perm M := h.2.2.2.2.2.2.2.1
  have hx : S_expr M := h.2.2.2.2.2.2.2.2.1
  have hm : S_misc M := h.2.2.2.2.2.2.2.2.2.2.2
  have hU : UOk (gI M 63 2) S := ⟨hu, hS, hus⟩
  have x1 : EqK XC M (mJ (mI (mI M 135 7 a) 68 4 a) 68 5 b) := (((EqK.rf M).mI (S := XC) (by unfold XC; omega)).mI (by unfold XC; omega)).mJ (by unfold XC; omega)
  have p1 : gI (mJ (mI (mI M 135 7 a) 68 4 a) 68 5 b) 68 4 = a := mIs (mI M 135 7 a) 68 4 a
  have p2 : gJ (mJ (mI (mI M 135 7 a) 68 4 a) 68 5 b) 68 5 = b := mJs _ _ _ _
  have p3 : gI (mJ (mI (mI M 135 7 a) 68 4 a) 68 5 b) 135 7 = a := (mIc (M := mI M 135 7 a) (c := 68) (k := 4) (v := a) (by decide)).trans (mIs M 135 7 a)
  have eP : f_Gate_prepare a b 66 M = bnd (f_Items_copyFrom 168 66 (mJ (mI (mI M 135 7 a) 68 4 a) 68 5 b)) (fun _ m => some ((), m)) := rfl
  have k0 : ∀ c k, c ≠ 135 → c ≠ 68 → gI (mJ (mI (mI M 135 7 a) 68 4 a) 68 5 b) c k = gI M c k := fun c k h1 h2 => (mIc (M := mI M 135 7 a) h2).trans (mIc h1)
  generalize mJ (mI (mI M 135 7 a) 68 4 a) 68 5 b = Ma at x1 p1 p2 p3 eP k0
  obtain ⟨Mb, b1, b2, b3⟩ := copy_ok (M := Ma) (l0 := 168) (l1 := 66) (by decide) (hl.kp (fun k => k0 66 k (by decide) (by decide)) (fun k => k0 67 k (by decide) (by decide))) (by decide) (by decide) (by decide)
  have cb : CSt M Mb (gI M 63 2) S a b := ⟨⟨x1.tr (b2.k fun c k z => by unfold XC; omega), (b2 68 (by decide) 4).1.trans p1, (b2 68 (by decide) 5).2.1.trans p2, (b2 135 (by decide) 7).1.trans p3⟩, (b2 63 (by decide) 2).1.trans (k0 63 2 (by decide) (by decide)), ((b2 63 (by decide) 3).1.trans (k0 63 3 (by decide) (by decide))).trans e3⟩
  have fb : CntC Mb (fun m e => gI M (143 + 2 * m) e) := fun p e hp he => (b2 _ (by omega) e).1.trans (k0 _ e (by omega) (by omega))
  obtain ⟨Mc, c1, c2, c3, c4, -⟩ := grun_ok hv hp hx hm hR (a := a) (b := b) 7 0 rfl i l (gI M 63 2) S (fun m e => gI M (143 + 2 * m) e) Mb hi hU cb b3 fb
  have hXR : XR (xRun M D a b 7 i l (gI M 63 2) S (fun m e => gI M (143 + 2 * m) e)) := xrun_ok 7 _ _ _ _ _ hl.2.1
  have mr := mrun_ok hg hmm hv hp hx hR (a := a) (b := b) 7 0 rfl i l (gI M 63 2) S (fun m e => gI M (143 + 2 * m) e)
  generalize xRun M D a b 7 i l (gI M 63 2) S (fun m e => gI M (143 + 2 * m) e) = r at c1 c3 c4 hXR mr
  have eC : bnd (f_MW_isMethod (nI i) M) (fun q1 M2 => if q1 = 0 then (some ((-1), M2)) else (bnd (f_Gate_prepare a b 66 M2) (fun q4 M5 => bnd (f_Gate_run 9 (nI i) 0 M5) (fun q6 M7 => some (q6, M7))))) = some (r.1, Mc) := by
    rw [hc, bnd_eq, if_neg (show ¬ (1 : Int32) = 0 by decide), eP, b1, bnd_eq, bnd_eq, u_id3]
    exact c1
  rw [eC]
  have xm : EqK XM M Mc := c2.1.1.mono fun c k z => Or.inl z
  have y1 : EqK XM M (mI (mJ (mI Mc 184 40 a) 184 41 b) 184 52 0) := ((xm.mI (by unfold XM; omega)).mJ (by unfold XM; omega)).mI (by unfold XM; omega)
  have z1 : EqK (fun c k => c = 184 ∧ (k = 40 ∨ k = 41 ∨ k = 52)) Mc (mI (mJ (mI Mc 184 40 a) 184 41 b) 184 52 0) := (((EqK.rf Mc).mI (S := fun c k => c = 184 ∧ (k = 40 ∨ k = 41 ∨ k = 52)) ⟨rfl, by omega⟩).mJ ⟨rfl, by omega⟩).mI ⟨rfl, by omega⟩
  have r40 : gI (mI (mJ (mI Mc 184 40 a) 184 41 b) 184 52 0) 184 40 = a := (mIk (by decide)).trans (mIs Mc 184 40 a)
  have r41 : gJ (mI (mJ (mI Mc 184 40 a) 184 41 b) 184 52 0) 184 41 = b := mJs (mI Mc 184 40 a) 184 41 b
  have r52 : gI (mI (mJ (mI Mc 184 40 a) 184 41 b) 184 52 0) 184 52 = nI 0 := mIs _ _ _ _
  obtain ⟨Md, d1, d2, d3, d4⟩ := giveList_ok (M := mI (mJ (mI Mc 184 40 a) 184 41 b) 184 52 0) (l := l) hl.2.1 ((y1 184 16 (by unfold XM XC; omega)).1.trans hl16) (fun j hj => (y1 192 j (by unfold XM XC; omega)).1.trans (hl192 j hj))
  have c13 : ∀ k, k = 13 ∨ k = 14 → gI Md 184 k = gI M 184 k := fun k hk => by
    rw [(d2 184 k (by omega)).1, (z1 184 k (by omega)).1]
    exact (c2.1.1 184 k (by unfold XC; omega)).1
  obtain ⟨Me, o1, o2, o3, o4⟩ := open_ok (M := Md) (d := 0) (m := i) (l := l) (u := gI M 63 2) (S := S) (by decide) ((d2 184 52 (by omega)).1.trans r52) ((c13 13 (by omega)).trans e13) ((c13 14 (by omega)).trans e14) d3 hl.2.1 d4
  have te : MSt M Me (gI M 63 2) S a b := by
    refine ⟨⟨(y1.tr (d2.mono fun c k z => by unfold XM; omega)).tr (o2.mono fun c k z => by unfold Xo at z; unfold XM; omega), ?_, ?_⟩, ?_, ?_⟩
    · exact (o2 184 40 (by unfold Xo; omega)).1.trans ((d2 184 40 (by omega)).1.trans r40)
    · exact (o2 184 41 (by unfold Xo; omega)).2.1.trans ((d2 184 41 (by omega)).2.1.trans r41)
    · exact (o2 184 13 (by unfold Xo; omega)).1.trans ((c13 13 (by omega)).trans e13)
    · exact (o2 184 14 (by unfold Xo; omega)).1.trans ((c13 14 (by omega)).trans e14)
  have low : ∀ c k, c < 184 → gI Me c k = gI Mc c k ∧ gJ Me c k = gJ Mc c k := fun c k hc => ⟨((o2 c k (by unfold Xo; omega)).1.trans (d2 c k (by omega)).1).trans (z1 c k (by omega)).1, ((o2 c k (by unfold Xo; omega)).2.1.trans (d2 c k (by omega)).2.1).trans (z1 c k (by omega)).2.1⟩
  have fe : CntM Me (fun m e => gI M (143 + 2 * m) e) := fun p e hp he => by
    rw [(o2 201 _ (by unfold Xo; omega)).1, (d2 201 _ (by omega)).1, (z1 201 _ (by omega)).1, (c2.1.1 201 _ (by unfold XC; omega)).1]
    exact (hmm p hp).2 e he
  obtain ⟨k, Mf, n1, n2, n3, n4, n5, n6⟩ := mr Me hi hU te o3 o4 fe
  obtain ⟨Mg, g1, g2, g3, g4, g5⟩ := call104 (M := Mf) r.1 (if r.1 = 0 then (if gI Mf 184 54 = 4 then 2 else if gI Mf 184 54 = 2 then 1 else 0) else -1)
  have eF : f_Mod_call_39 64 (-1) Me = some (r.1, Mg) := by
    have := n2 (63 - k + 1)
    rw [show 63 - k + 1 + k = 64 by omega] at this
    rw [this]
    show f_Mod_call_39_b (f_Mod_call_39 (63 - k)) r.1 Mf = _
    unfold f_Mod_call_39_b
    rw [n4, if_pos (show nI 0 ≤ 0 by decide), ← g1]
    by_cases q : r.1 = 0
    · rw [if_pos q, if_pos q]
      by_cases q4 : gI Mf 184 54 = 4
      · rw [if_pos q4, if_pos q4]
      · rw [if_neg q4, if_neg q4]
        by_cases q2 : gI Mf 184 54 = 2
        · rw [if_pos q2, if_pos q2]
        · rw [if_neg q2, if_neg q2]
    · rw [if_neg q, if_neg q]
  have eM : (if nI i < 0 then (some ((-1), Mc) : Option (Int32 × ax_M)) else (if nI i ≤ 7 then (kM (mI Mc 184 40 a) (fun M3 => kM (mJ M3 184 41 b) (fun M4 => kM (mI M4 184 52 0) (fun M5 => bnd (f_Mod_giveList  M5) (fun q6 M7 => bnd (f_Mod_open (nI i) M7) (fun q8 M9 => f_Mod_call_39 64 ((-1)) M9)))))) else (some ((-1), Mc)))) = some (r.1, Mg) := by
    rw [if_neg q2, if_pos (Int32.not_lt.mp q3), kM_eq, kM_eq, kM_eq, d1, bnd_eq, o1, bnd_eq]
    exact eF
  have cls : ∀ c k, c < 184 → gI Mg c k = gI Mc c k ∧ gJ Mg c k = gJ Mc c k := fun c k hc => ⟨((g2 c k (by omega)).1.trans (n6 c k (by unfold fr; omega)).1).trans (low c k hc).1, ((g2 c k (by omega)).2.1.trans (n6 c k (by unfold fr; omega)).2.1).trans (low c k hc).2⟩
  refine ⟨r.1, Mc, Mg, rfl, eM, ?_⟩
  refine h.call (n3.1.1.tr (g2.mono fun c k z => by unfold XM; omega)) (fun c k hf => ?_) ?_ (fun p e hp he => ?_)
  · unfold F_ctx at hf
    rcases hf with ⟨rfl, rfl | rfl⟩ | ⟨rfl, rfl | rfl⟩
    · exact (cls 63 2 (by decide)).1.trans c2.2.1
    · exact ((cls 63 3 (by decide)).1.trans c2.2.2).trans e3.symm
    · exact ((g2 184 13 (by omega)).1.trans n3.2.1).trans e13.symm
    · exact ((g2 184 14 (by omega)).1.trans n3.2.2).trans e14.symm
  · refine gate_ok (n := gI Mf 184 55) hXR ((cls 135 9 (by decide)).1.trans c4) (fun q => (c3.2.1 q).kp (fun k => (cls 139 k (by decide)).1) (fun k => (cls 139 k (by decide)).2) (fun k => (cls 140 k (by decide)).1) (fun k => (cls 141 k (by decide)).1)) (fun q => by rw [(cls 135 8 (by decide)).1]; exact c3.2.2 q) (fun q => ⟨fun z => ⟨((n5.2.1 q).2.1 z).1, ((n5.2.1 q).2.1 z).2.1, fun j hj => ?_⟩, (n5.2.1 q).2.2⟩) n5.2.2 ?_ ?_
    · rw [g5 j (by have := ((n5.2.1 q).2.1 z).2.1; omega)]
      exact ((n5.2.1 q).2.1 z).2.2 j hj
    · rw [g3]
      by_cases q : r.1 = 0
      · rw [if_pos q, if_pos q, (n5.2.1 q).1]
      · rw [if_neg q, if_neg q]
    · rw [g4, g3]
  · rw [(g2 201 _ (by omega)).1, n5.1 p e hp he, (cls _ e (by omega)).1]
    exact (c3.1 p e hp he).symm
