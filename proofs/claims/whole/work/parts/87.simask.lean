/-! ask, both sides -/
def TA (c k : Nat) : Prop := (c = 2 ∧ k = 8) ∨ (c = 68 ∧ k ≠ 8) ∨ (73 ≤ c ∧ c ≤ 134) ∨ (c = 184 ∧ k ≠ 1 ∧ k ≠ 13 ∧ k ≠ 14 ∧ k ≠ 16 ∧ k ≠ 57 ∧ k ≠ 58) ∨ (202 ≤ c ∧ c ≤ 220)
theorem Sim.ask {M M' : ax_M} (h : Sim M) (hE : EqK TA M M') (ha : gJ M' 184 60 = gJ M' 2 8) : Sim M' := by
  obtain ⟨h_text, h_list, h_ctx, h_roles, h_guard, h_meth, h_val, h_perm, h_expr, h_gate, h_ask, h_misc⟩ := h
  have e8 : ∀ k, gA M' 8 k = gA M 8 k := fun k => (hE 8 k (by unfold TA; omega)).2.2
  have e2 : gA M' 2 3 = gA M 2 3 := (hE 2 3 (by unfold TA; omega)).2.2
  refine ⟨S_text.cg (M := M) (fun c k hf => ?_) h_text, S_list.cg (M := M) (fun c k hf => ?_) h_list, S_ctx.cg (M := M) (fun c k hf => ?_) h_ctx, S_roles.cg (M := M) (fun c k hf => ?_) h_roles, S_guard.cg (M := M) (fun c k hf => ?_) h_guard, S_meth.cg (M := M) (fun c k hf => ?_) h_meth, S_val.cg (M := M) (fun c k hf => ?_) h_val, S_perm.cg (M := M) e8 e2 h_perm, S_expr.cg h_perm e8 e2 (fun c k hf => ?_) h_expr, S_gate.cg (M := M) (fun c k hf => ?_) (hE 139 1 (by unfold TA; omega)).2.1 h_gate, ha, S_misc.cg (M := M) (hE 68 8 (by unfold TA; omega)).1 (hE 70 0 (by unfold TA; omega)).1 (hE 70 1 (by unfold TA; omega)).2.1 h_misc⟩
  · exact (hE c k (by unfold F_text at hf; unfold TA; omega)).1
  · exact (hE c k (by unfold F_list at hf; unfold TA; omega)).1
  · exact (hE c k (by unfold F_ctx at hf; unfold TA; omega)).1
  · exact (hE c k (by unfold F_roles at hf; unfold TA; omega)).1
  · exact (hE c k (by unfold F_guard at hf; unfold TA; omega)).1
  · exact (hE c k (by unfold F_meth at hf; unfold TA; omega)).1
  · exact (hE c k (by unfold F_val at hf; unfold TA; omega)).1
  · exact ⟨(hE c k (by unfold F_expr at hf; unfold TA; omega)).1, (hE c k (by unfold F_expr at hf; unfold TA; omega)).2.1⟩
  · exact (hE c k (by unfold F_gate at hf; unfold TA; omega)).1
theorem as_long {M : ax_M} {v : Nat} {x : xV} (h : VRep M v x) : f_Val_asLong v M = some (if x.1 = 4 then (lN x.2.2.length) else x.2.1, M) := by
  obtain ⟨h1, h2, h3, h4⟩ := h
  unfold f_Val_asLong
  rw [gk_pos h1, h2]
  by_cases q : x.1 = 4
  · obtain ⟨-, k2, k3, -⟩ := h4 q
    rw [if_pos q, if_pos q, k3, nI_l (by omega)]
  · rw [if_neg q, if_neg q, h3 q]
/-- what a Sim holds of the caller and the list -/
theorem sim_env {M : ax_M} (h : Sim M) : ∃ (D Wm : Nat → Nat) (S : Nat) (l : List Int32), hRoles M D Wm ∧ S < 65536 ∧ gI M 63 3 = nI S ∧ (gI M 63 2 = -1 ∨ 0 ≤ gI M 63 2) ∧ (gI M 63 2 = -1 → S = 0) ∧ gI M 184 13 = gI M 63 2 ∧ gI M 184 14 = nI S ∧ IRep M 66 l ∧ gI M 184 16 = nI l.length ∧ ∀ j, j < l.length → gI M 192 j = l.getD j 0 := by
  obtain ⟨D, Wm, hR⟩ := h.2.2.2.1
  obtain ⟨c1, c2, c3, c4, c5, c6, c7⟩ := h.2.2.1
  obtain ⟨S, hS, eS⟩ := nI_of2 (n := 65535) (M := 65535) (by decide) (Int32.not_lt.mpr c5) c6
  obtain ⟨n, n1, n2, n3, n4⟩ := h.2.1
  refine ⟨D, Wm, S, lst M 67 n, hR, by omega, eS, ?_, fun q => ?_, c1, c2.trans eS, ⟨by decide, by rw [lst_len]; exact n1, by rw [lst_len]; exact n2, fun k hk => ?_⟩, by rw [lst_len]; exact n3, fun j hj => ?_⟩
  · by_cases hn : gI M 63 2 = -1
    · exact Or.inl hn
    · refine Or.inr ?_
      have h4 := i_ne hn
      rw [Int32.le_iff_toInt_le] at c3 ⊢
      rw [i_m1] at c3 h4
      rw [i_0]
      omega
  · have z := c7 q
    rw [eS] at z
    have z2 : nI S = nI 0 := z
    exact (nI_eq (by omega) (by omega)).mp z2
  · rw [lst_len] at hk
    rw [lst_get M 67 hk]
  · rw [lst_len] at hj
    rw [lst_get M 67 hj]
    exact n4 j hj
theorem sim_ask {M : ax_M} (h : Sim M) (s a : Int32) (b : Int64) : ∃ r M1 M2, f_MW_ask s a b M = some (r, M1) ∧ f_Mod_ask s a b M1 = some (r, M2) ∧ Sim M2 := by
  obtain ⟨D, Wm, S, l, hR, hS, e3, hu, hus, e13, e14, hl, hl16, hl192⟩ := sim_env h
  have hp : S_perm M := h.2.2.2.2.2.2.2.1
  have hx : S_expr M := h.2.2.2.2.2.2.2.2.1
  have hm : S_misc M := h.2.2.2.2.2.2.2.2.2.2.2
  unfold f_MW_ask f_Mod_ask
  rcases has_c hp hx s with ⟨w, hc⟩ | ⟨w, hc⟩
  · obtain ⟨i, hi, rfl, hw⟩ := w
    have g1 : EqK TA M (mA (mA (mJ (mI M 68 4 a) 68 5 b) 68 6 66) 68 7 0) := EqK.tr (EqK.tr (((EqK.rf M).mI (S := TA) (Or.inr (Or.inl ⟨rfl, by decide⟩))).mJ (Or.inr (Or.inl ⟨rfl, by decide⟩))) (mA_eqk (Or.inr (Or.inl ⟨rfl, by decide⟩)))) (mA_eqk (Or.inr (Or.inl ⟨rfl, by decide⟩)))
    have g1' : EqK XC M (mA (mA (mJ (mI M 68 4 a) 68 5 b) 68 6 66) 68 7 0) := EqK.tr (EqK.tr (((EqK.rf M).mI (S := XC) (Or.inr (Or.inl ⟨rfl, by decide⟩))).mJ (Or.inr (Or.inl ⟨rfl, by decide⟩))) (mA_eqk (Or.inr (Or.inl ⟨rfl, by decide⟩)))) (mA_eqk (Or.inr (Or.inl ⟨rfl, by decide⟩)))
    have hB : EnvB (mA (mA (mJ (mI M 68 4 a) 68 5 b) 68 6 66) 68 7 0) (gI M 63 2, clO D 16 S, a, b, l, none) none := by
      refine mkB hR hm g1' hS ?_ ?_ ?_ ?_ ?_ (Or.inl (by decide)) (hl.kp (fun k => ?_) (fun k => ?_)) ?_
      · exact (g1 63 2 (by unfold TA; omega)).1
      · exact (g1 63 3 (by unfold TA; omega)).1.trans e3
      · exact mIs M 68 4 a
      · exact mJs (mI M 68 4 a) 68 5 b
      · exact mAs (mJ (mI M 68 4 a) 68 5 b) 68 6 66
      · exact (g1 66 k (by unfold TA; omega)).1
      · exact (g1 67 k (by unfold TA; omega)).1
      · exact mAs _ _ _ _
    generalize hMb : mA (mA (mJ (mI M 68 4 a) 68 5 b) 68 6 66) 68 7 0 = Mb at g1 g1' hB
    obtain ⟨v, M3, v1, v2, v3⟩ := cslot_ok hp hx hi hw g1' hB
    have g3 : EqK TA M M3 := g1.tr (v3.mono fun c k z => by unfold Wx Wk at z; unfold TA; omega)
    have we : WfE (sl M i (gI M 63 2, clO D 16 S, a, b, l, none) none) := we_ev (ρ := (gI M 63 2, clO D 16 S, a, b, l, none)) trivial _ _ _
    have wf : WfV (sl M i (gI M 63 2, clO D 16 S, a, b, l, none) none) := wf_ev (ρ := (gI M 63 2, clO D 16 S, a, b, l, none)) trivial _ _ _
    generalize hxx : sl M i (gI M 63 2, clO D 16 S, a, b, l, none) none = x at v2 we wf
    have eC : bnd (f_MW_hasExpression (nI i) M) (fun q1 M2 => if q1 = 0 then (some ((-2), M2)) else (bnd (f_Worker_setArguments a b M2) (fun q4 M5 => bnd (f_Worker_setLists 66 0 M5) (fun q6 M7 => gi (nI i) 8 (kM (gA M7 8 (nI i).toNatClampNeg) (fun r9 => bnd (f_Worker_workOut r9 M7) (fun q10 M11 => gk q10 7 (bnd (f_Val_asLong q10 M11) (fun q13 M14 => kM (mJ M14 2 8 q13) (fun M15 => some (gI M15 q10 0, M15))))))))))) = some (x.1, mJ M3 2 8 (if x.1 = 4 then (lN x.2.2.length) else x.2.1)) := by
      rw [hc, bnd_eq, if_neg (show ¬ (1 : Int32) = 0 by decide)]
      unfold f_Worker_setArguments f_Worker_setLists
      rw [kM_eq, kM_eq, bnd_eq, kM_eq, kM_eq, bnd_eq, hMb, gi_nI hi (by decide), kM_eq, nI_clamp (by omega), v1, bnd_eq, gk_pos v2.1, as_long v2, bnd_eq, kM_eq]
      show some (gI M3 v 0, _) = _
      rw [v2.2.1]
    rw [eC]
    have g4 : EqK TA M (mJ M3 2 8 (if x.1 = 4 then (lN x.2.2.length) else x.2.1)) := g3.mJ (Or.inl ⟨rfl, rfl⟩)
    have e8 : gJ (mJ M3 2 8 (if x.1 = 4 then (lN x.2.2.length) else x.2.1)) 2 8 = if x.1 = 4 then (lN x.2.2.length) else x.2.1 := mJs _ _ _ _
    generalize mJ M3 2 8 (if x.1 = 4 then (lN x.2.2.length) else x.2.1) = M4 at g4 e8 ⊢
    have hmw : f_Mod_written (nI i) M4 = some (1, M4) := by
      rcases has_m (M := M) (M' := M4) (fun k => (g4 188 k (by unfold TA; omega)).1) (nI i) with ⟨-, z⟩ | ⟨z, -⟩
      · exact z
      · exact absurd ((wr_i hi).mpr hw) z
    have g5 : EqK TA M (mJ (mI M4 184 40 a) 184 41 b) := (g4.mI (Or.inr (Or.inr (Or.inr (Or.inl ⟨rfl, by decide⟩))))).mJ (Or.inr (Or.inr (Or.inr (Or.inl ⟨rfl, by decide⟩))))
    obtain ⟨M7, l1, l2, l3, l4⟩ := giveList_ok (M := mJ (mI M4 184 40 a) 184 41 b) (l := l) hl.2.1 ((g5 184 16 (by unfold TA; omega)).1.trans hl16) (fun j hj => (g5 192 j (by unfold TA; omega)).1.trans (hl192 j hj))
    have g7 : EqK TA M M7 := g5.tr (l2.mono fun c k z => by unfold TA; omega)
    have g10 : EqK TA M (mI (mI (mI M7 184 38 0) 184 44 (-1)) 184 45 0) := ((g7.mI (Or.inr (Or.inr (Or.inr (Or.inl ⟨rfl, by decide⟩))))).mI (Or.inr (Or.inr (Or.inr (Or.inl ⟨rfl, by decide⟩))))).mI (Or.inr (Or.inr (Or.inr (Or.inl ⟨rfl, by decide⟩))))
    have hE : EnvM (mI (mI (mI M7 184 38 0) 184 44 (-1)) 184 45 0) (gI M 63 2, clO D 16 S, a, b, l, none) none := by
      refine mkM (fun k hk => ⟨(hR k hk).1, (g10 191 k (by unfold TA; omega)).1.trans (hR k hk).2.2.1⟩) hS ((g10 184 13 (by unfold TA; omega)).1.trans e13) hu ((g10 184 14 (by unfold TA; omega)).1.trans e14) hus ?_ ?_ ?_ hl.2.1 (fun j hj => ?_) ?_ ?_
      · rw [mIk (by decide), mIk (by decide), mIk (by decide), (l2 184 40 (by omega)).1]
        exact mIs M4 184 40 a
      · exact (l2 184 41 (by omega)).2.1.trans (mJs _ _ _ _)
      · rw [mIk (by decide), mIk (by decide), mIk (by decide)]
        exact l3
      · rw [mIc (by decide), mIc (by decide), mIc (by decide)]
        exact l4 j hj
      · show gI (mI (mI (mI M7 184 38 0) 184 44 (-1)) 184 45 0) 184 44 = -1
        rw [mIk (by decide)]
        exact mIs _ _ _ _
      · rw [mIk (by decide), mIk (by decide)]
        exact mIs _ _ _ _
    obtain ⟨M12, w1, w2, w3, -, -⟩ := mslot_ok (ρ := (gI M 63 2, clO D 16 S, a, b, l, none)) hp hx hi hw (g10.mono fun c k z => by unfold TA at z; unfold XQ; omega) trivial hE
    rw [hxx] at w2
    have g12 : EqK TA M M12 := g10.tr (w3.mono fun c k z => by unfold Fq at z; unfold TA; omega)
    have e12 : gJ M12 2 8 = if x.1 = 4 then (lN x.2.2.length) else x.2.1 := by
      rw [(w3 2 8 (by unfold Fq; omega)).2.1]
      show gJ M7 2 8 = _
      rw [(l2 2 8 (by omega)).2.1]
      show gJ M4 2 8 = _
      exact e8
    have fin : ∀ z : Int64, z = (if x.1 = 4 then (lN x.2.2.length) else x.2.1) → Sim (mJ M12 184 60 z) := fun z hz => by
      refine h.ask (g12.mJ (Or.inr (Or.inr (Or.inr (Or.inl ⟨rfl, by decide⟩))))) ?_
      rw [mJs, mJc (by decide), e12]
      exact hz
    have eM : ∀ z : Int64, (if gI M12 202 0 ≤ 0 then some (gI M12 202 0, mJ M12 184 60 0) else some (gI M12 202 0, mJ M12 184 60 (gJ M12 203 0))) = some (x.1, mJ M12 184 60 z) → z = (if x.1 = 4 then (lN x.2.2.length) else x.2.1) → ∃ r M1 M2, some (x.1, M4) = some (r, M1) ∧ bnd (f_Mod_written (nI i) M1) (fun q1 M2 => if q1 = 0 then (some ((-2), M2)) else (kM (mI M2 184 40 a) (fun M4 => kM (mJ M4 184 41 b) (fun M5 => bnd (f_Mod_giveList  M5) (fun q6 M7 => kM (mI M7 184 38 0) (fun M8 => kM (mI M8 184 44 ((-1))) (fun M9 => kM (mI M9 184 45 0) (fun M10 => bnd (f_Mod_work (nI i) M10) (fun q11 M12 => if (gI M12 202 (Int32.toNatClampNeg 0)) ≤ 0 then (kM (mJ M12 184 60 0) (fun M14 => some (gI M14 202 (Int32.toNatClampNeg 0), M14))) else (kM (mJ M12 184 60 (gJ M12 203 (Int32.toNatClampNeg 0))) (fun M15 => some (gI M15 202 (Int32.toNatClampNeg 0), M15)))))))))))) = some (r, M2) ∧ Sim M2 := fun z hz1 hz2 => by
      refine ⟨x.1, M4, _, rfl, ?_, fin z hz2⟩
      rw [hmw, bnd_eq, if_neg (show ¬ (1 : Int32) = 0 by decide), kM_eq, kM_eq, l1, bnd_eq, kM_eq, kM_eq, kM_eq, w1, bnd_eq]
      exact hz1
    rcases wf with q | ⟨q, q2⟩ | ⟨q, -⟩ | q | q | q
    · refine eM 0 ?_ ?_
      · rw [w2.1, q, if_pos (by decide)]
      · rw [q, if_neg (by decide), we q]
    · refine eM 0 ?_ ?_
      · rw [w2.1, q, if_pos (by decide)]
      · rw [q, if_neg (by decide), q2]
    · refine eM x.2.1 ?_ ?_
      · rw [w2.1, w2.2.1 (Or.inl q), q, if_neg (by decide)]
      · rw [q, if_neg (by decide)]
    · refine eM x.2.1 ?_ ?_
      · rw [w2.1, w2.2.1 (Or.inr (Or.inl q)), q, if_neg (by decide)]
      · rw [q, if_neg (by decide)]
    · refine eM x.2.1 ?_ ?_
      · rw [w2.1, w2.2.1 (Or.inr (Or.inr q)), q, if_neg (by decide)]
      · rw [q, if_neg (by decide)]
    · refine eM (lN x.2.2.length) ?_ ?_
      · rw [w2.1, (w2.2.2 q).1, q, if_neg (by decide)]
      · rw [q, if_pos rfl]
  · rw [hc, bnd_eq, if_pos rfl]
    refine ⟨-2, M, M, rfl, ?_, h⟩
    rcases has_m (M := M) (M' := M) (fun k => rfl) s with ⟨z, -⟩ | ⟨-, z⟩
    · exact absurd z w
    · rw [z, bnd_eq, if_pos rfl]
