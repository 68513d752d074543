/-! guard, rules, target. Printed by mk52.py. -/
theorem ke : ∀ j, j < 9 → kd (9 + 6 * j) = 3 := by decide +kernel
theorem lg_10 : ∀ k, k < 10 → kd (158 + k) = 10 := la_107
theorem nI_lt0 {i : Nat} (h : i < 2 ^ 31) : ¬ nI i < 0 := nI_pos h
theorem wr_ge {M : ax_M} {x : Int32} (h : x < 0) : ¬ wr M x := by
  rintro ⟨i, hi, rfl, -⟩
  exact nI_pos (by omega) h
theorem wr_le {M : ax_M} {x : Int32} (h : nI 8 ≤ x) : ¬ wr M x := by
  rintro ⟨i, hi, rfl, -⟩
  exact nI_ge hi (by decide) h
theorem wr_i {M : ax_M} {i : Nat} (hi : i < 8) : wr M (nI i) ↔ 0 < gI M 188 i := by
  refine ⟨?_, fun h => ⟨i, hi, rfl, h⟩⟩
  rintro ⟨j, hj, e, h⟩
  have := (nI_eq (a := i) (b := j) (by omega) (by omega)).mp e
  rw [this]
  exact h
theorem eOf_kd {M : ax_M} (hp : S_perm M) {i : Nat} (hi : i < 8) : kd (gA M 8 i) = 3 := by
  obtain ⟨j, hj, e⟩ := hp.1 i (by omega)
  unfold eOf at e
  rw [if_pos hi] at e
  rw [e]
  exact ke j hj
theorem expr_pos {M : ax_M} (he : S_expr M) {i : Nat} (hi : i < 8) : (gI M (gA M 8 i) 5 ≤ 0 ∧ gI M 188 i ≤ 0) ∨ (¬ gI M (gA M 8 i) 5 ≤ 0 ∧ ¬ gI M 188 i ≤ 0) := by
  have e0 : eOf M i = gA M 8 i := by unfold eOf; rw [if_pos hi]
  rcases he i hi with ⟨h1, h2⟩ | ⟨n, m, h1, h2, h3, h4, h5, lo, be, en, -, -, -, h6⟩
  · rw [e0] at h1
    rw [h1, h2]
    exact Or.inl ⟨by decide, by decide⟩
  · rw [e0] at h1
    rw [h1, h2]
    exact Or.inr ⟨nI_nle h3 (by omega), nI_nle (by omega) (by omega)⟩
theorem has_c {M : ax_M} (hp : S_perm M) (he : S_expr M) (x : Int32) : (wr M x ∧ f_MW_hasExpression x M = some (1, M)) ∨ (¬ wr M x ∧ f_MW_hasExpression x M = some (0, M)) := by
  unfold f_MW_hasExpression f_MW_isSlot
  rcases pk_ix x (n := 8) (by decide) with h1 | h1 | ⟨i, hi, rfl⟩
  · rw [if_pos h1]
    exact Or.inr ⟨wr_ge h1, rfl⟩
  · have h2 : ¬ x < 0 := fun q => absurd (Int32.lt_of_le_of_lt h1 q) (by decide)
    rw [if_neg h2, if_pos (show (8 : Int32) ≤ x from h1)]
    exact Or.inr ⟨wr_le h1, rfl⟩
  · rw [if_neg (nI_pos (by omega)), if_neg (show ¬ (8 : Int32) ≤ nI i from nI_ge (b := 8) hi (by decide)), bnd_eq, if_neg (by decide), gi_nI hi (by decide), kM_eq, nI_clamp (by omega), gk_pos (eOf_kd hp hi)]
    unfold f_Expr_isThere
    rw [gk_pos (eOf_kd hp hi)]
    rcases expr_pos he hi with ⟨h2, h3⟩ | ⟨h2, h3⟩
    · rw [if_pos h2]
      exact Or.inr ⟨fun q => absurd h3 (Int32.not_le.mpr ((wr_i hi).mp q)), rfl⟩
    · rw [if_neg h2]
      exact Or.inl ⟨(wr_i hi).mpr (Int32.not_le.mp h3), rfl⟩
theorem has_m {M M' : ax_M} (hw : ∀ k, gI M' 188 k = gI M 188 k) (x : Int32) : (wr M x ∧ f_Mod_written x M' = some (1, M')) ∨ (¬ wr M x ∧ f_Mod_written x M' = some (0, M')) := by
  unfold f_Mod_written
  rcases pk_ix x (n := 8) (by decide) with h1 | h1 | ⟨i, hi, rfl⟩
  · rw [if_pos h1]
    exact Or.inr ⟨wr_ge h1, rfl⟩
  · have h2 : ¬ x < 0 := fun q => absurd (Int32.lt_of_le_of_lt h1 q) (by decide)
    have h3 : 7 < x := Int32.lt_of_lt_of_le (by decide) h1
    rw [if_neg h2, if_pos h3]
    exact Or.inr ⟨wr_le h1, rfl⟩
  · rw [if_neg (nI_pos (by omega)), if_neg (show ¬ (7 : Int32) < nI i from nI_nlt (a := 7) (b := i) (by omega) (by decide)), gi_nI (by omega) (by decide), nI_clamp (by omega), hw]
    by_cases h2 : gI M 188 i ≤ 0
    · rw [if_pos h2]
      exact Or.inr ⟨fun q => absurd h2 (Int32.not_le.mpr ((wr_i hi).mp q)), rfl⟩
    · rw [if_neg h2]
      exact Or.inl ⟨(wr_i hi).mpr (Int32.not_le.mp h2), rfl⟩
theorem rule_c {M : ax_M} (hp : S_perm M) (he : S_expr M) (x : Int32) : (rl M x ∧ f_MW_isRule x M = some (1, M)) ∨ (¬ rl M x ∧ f_MW_isRule x M = some (0, M)) := by
  unfold f_MW_isRule
  by_cases h1 : x = -1
  · rw [if_pos h1]
    exact Or.inl ⟨Or.inl h1, rfl⟩
  · rw [if_neg h1]
    rcases has_c hp he x with ⟨h2, h3⟩ | ⟨h2, h3⟩
    · rw [h3]
      exact Or.inl ⟨Or.inr h2, rfl⟩
    · rw [h3]
      exact Or.inr ⟨fun q => q.elim h1 h2, rfl⟩
theorem turn_both {M : ax_M} {i : Nat} (hi : i < 10) (k x : Int32) : (f_Guard_turnInto (158 + i) k x M = some (1, mI (mI M (158 + i) 0 k) (158 + i) 1 x) ∧ ∀ M', gI M' 193 i = gI M (158 + i) 0 → f_Mod_guard_51 (nI i) k x M' = some (1, mI (mI M' 193 i k) 194 i x)) ∨ (f_Guard_turnInto (158 + i) k x M = some (0, M) ∧ ∀ M', gI M' 193 i = gI M (158 + i) 0 → f_Mod_guard_51 (nI i) k x M' = some (0, M')) := by
  have hk := lg_10 i hi
  have st : ∀ M', f_Mod_guard_88 (nI i) k x M' = some (1, mI (mI M' 193 i k) 194 i x) := by
    intro M'
    unfold f_Mod_guard_88
    rw [gi_nI hi (by decide), kM_eq, kM_eq, nI_clamp (by omega)]
  have sc : f_Guard_turnInto_31 (158 + i) k x 1 M = some (1, mI (mI M (158 + i) 0 k) (158 + i) 1 x) := by
    unfold f_Guard_turnInto_31
    rw [if_neg (by decide), gk_pos hk]
    rfl
  have sn : f_Guard_turnInto_31 (158 + i) k x 0 M = some (0, M) := by
    unfold f_Guard_turnInto_31
    rw [if_pos rfl]
    rfl
  unfold f_Guard_turnInto f_Guard_isThere f_Mod_guard_51
  by_cases h0 : k = 0
  · rw [if_pos h0, gk_pos hk, gk_pos hk]
    by_cases h1 : gI M (158 + i) 0 = 0
    · rw [if_pos h1, bnd_eq, sn]
      refine Or.inr ⟨rfl, fun M' e => ?_⟩
      rw [if_pos h0, gi_nI hi (by decide), nI_clamp (by omega), e, if_pos h1]
    · rw [if_neg h1, bnd_eq, sc]
      refine Or.inl ⟨rfl, fun M' e => ?_⟩
      rw [if_pos h0, gi_nI hi (by decide), nI_clamp (by omega), e, if_neg h1, st]
  · rw [if_neg h0, gk_pos hk, gk_pos hk]
    by_cases h1 : gI M (158 + i) 0 = 0
    · rw [if_pos h1, bnd_eq, if_pos rfl, sc]
      refine Or.inl ⟨rfl, fun M' e => ?_⟩
      rw [if_neg h0, gi_nI hi (by decide), nI_clamp (by omega), e, if_pos h1, st]
    · rw [if_neg h1, bnd_eq, if_neg (by decide)]
      by_cases h2 : gI M (158 + i) 0 = k
      · rw [if_pos h2, sc]
        refine Or.inl ⟨rfl, fun M' e => ?_⟩
        rw [if_neg h0, gi_nI hi (by decide), nI_clamp (by omega), e, if_neg h1, if_pos h2, st]
      · rw [if_neg h2, sn]
        refine Or.inr ⟨rfl, fun M' e => ?_⟩
        rw [if_neg h0, gi_nI hi (by decide), nI_clamp (by omega), e, if_neg h1, if_neg h2]
/-- behind the checks of guard -/
theorem guard_in {M : ax_M} (h : Sim M) {i j : Nat} (hi : i < 10) (hj : j < 5) (x : Int32) (h4 : j = 4 → wr M x) : ∃ r M1 M2, bnd (f_Guard_turnInto (158 + i) (nI j) x M) (fun q8 M9 => g2 q8 (some (q8, M9))) = some (r, M1) ∧ f_Mod_guard_51 (nI i) (nI j) x M1 = some (r, M2) ∧ Sim M2 := by
  obtain ⟨h_text, h_list, h_ctx, h_roles, h_guard, h_meth, h_val, h_perm, h_expr, h_gate, h_ask, h_misc⟩ := h
  rcases turn_both (M := M) hi (nI j) x with ⟨h1, h2⟩ | ⟨h1, h2⟩
  · refine ⟨1, mI (mI M (158 + i) 0 (nI j)) (158 + i) 1 x, mI (mI (mI (mI M (158 + i) 0 (nI j)) (158 + i) 1 x) 193 i (nI j)) 194 i x, by rw [h1]; rfl, h2 _ (by rw [mIc (by omega), mIc (by omega)]; exact (h_guard i hi).1), ?_⟩
    refine ⟨(S_text.cg (M := M) (fun a k hf => by unfold F_text at hf; rw [gI_mI, if_neg (by omega), gI_mI, if_neg (by omega), gI_mI, if_neg (by omega), gI_mI, if_neg (by omega)]) h_text), (S_list.cg (M := M) (fun a k hf => by unfold F_list at hf; rw [gI_mI, if_neg (by omega), gI_mI, if_neg (by omega), gI_mI, if_neg (by omega), gI_mI, if_neg (by omega)]) h_list), (S_ctx.cg (M := M) (fun a k hf => by unfold F_ctx at hf; rw [gI_mI, if_neg (by omega), gI_mI, if_neg (by omega), gI_mI, if_neg (by omega), gI_mI, if_neg (by omega)]) h_ctx), (S_roles.cg (M := M) (fun a k hf => by unfold F_roles at hf; rw [gI_mI, if_neg (by omega), gI_mI, if_neg (by omega), gI_mI, if_neg (by omega), gI_mI, if_neg (by omega)]) h_roles), ?_, (S_meth.cg (M := M) (fun a k hf => by unfold F_meth at hf; rw [gI_mI, if_neg (by omega), gI_mI, if_neg (by omega), gI_mI, if_neg (by omega), gI_mI, if_neg (by omega)]) h_meth), ?_, (S_perm.cg (M := M) (fun _ => rfl) rfl h_perm), (S_expr.cg h_perm (fun _ => rfl) rfl (fun a k hf => by unfold F_expr at hf; exact ⟨by rw [gI_mI, if_neg (by omega), gI_mI, if_neg (by omega), gI_mI, if_neg (by omega), gI_mI, if_neg (by omega)], rfl⟩) h_expr), (S_gate.cg (M := M) (fun a k hf => by unfold F_gate at hf; rw [gI_mI, if_neg (by omega), gI_mI, if_neg (by omega), gI_mI, if_neg (by omega), gI_mI, if_neg (by omega)]) rfl h_gate), h_ask, (S_misc.cg (M := M) (by rw [gI_mI, if_neg (by omega), gI_mI, if_neg (by omega), gI_mI, if_neg (by omega), gI_mI, if_neg (by omega)]) (by rw [gI_mI, if_neg (by omega), gI_mI, if_neg (by omega), gI_mI, if_neg (by omega), gI_mI, if_neg (by omega)]) rfl h_misc)⟩
    · intro p hp
      by_cases hpi : p = i
      · subst hpi
        rw [mIc (by decide), mIs, mIs, mIc (by omega), mIc (by omega), mIk (by decide), mIs, mIc (by omega), mIc (by omega), mIs]
        exact ⟨rfl, rfl, nI_pos' (by omega), nI_le (b := 4) (by omega) (by decide)⟩
      · rw [mIc (by decide), mIk hpi, mIc (by omega), mIc (by omega), mIk hpi, mIc (by omega), mIc (by omega), mIc (by omega), mIc (by omega), mIc (by omega), mIc (by omega), mIc (by omega), mIc (by omega), mIc (by omega), mIc (by omega), mIc (by omega)]
        exact h_guard p hp
    · have h8 : ∀ k, gI (mI (mI (mI (mI M (158 + i) 0 (nI j)) (158 + i) 1 x) 193 i (nI j)) 194 i x) 188 k = gI M 188 k := fun k => by rw [mIc (by decide), mIc (by decide), mIc (by omega), mIc (by omega)]
      refine ⟨fun p hp => ?_, fun m hm => ?_⟩
      · by_cases hpi : p = i
        · subst hpi
          rw [mIc (by omega), mIc (by omega), mIk (by decide), mIs, mIc (by omega), mIc (by omega), mIs]
          intro q
          refine wr.cg h8 (h4 ?_)
          exact (nI_eq (b := 4) (by omega) (by decide)).mp q
        · rw [mIc (by omega), mIc (by omega), mIc (by omega), mIc (by omega), mIc (by omega), mIc (by omega), mIc (by omega), mIc (by omega)]
          exact fun q => wr.cg h8 (h_val.1 p hp q)
      · have e : ∀ k, gI (mI (mI (mI (mI M (158 + i) 0 (nI j)) (158 + i) 1 x) 193 i (nI j)) 194 i x) (142 + 2 * m) k = gI M (142 + 2 * m) k := fun k => by rw [mIc (by omega), mIc (by omega), mIc (by omega), mIc (by omega)]
        rw [e, e, e, e, e, e]
        obtain ⟨a1, a2, a3, a4⟩ := h_val.2 m hm
        exact ⟨rl.cg h8 a1, rl.cg h8 a2, rl.cg h8 a3, a4⟩
  · exact ⟨0, M, M, by rw [h1]; rfl, h2 _ (h_guard i hi).1, ⟨h_text, h_list, h_ctx, h_roles, h_guard, h_meth, h_val, h_perm, h_expr, h_gate, h_ask, h_misc⟩⟩
theorem sim_guard {M : ax_M} (h : Sim M) (p k x : Int32) : ∃ r M1 M2, f_MW_guard p k x M = some (r, M1) ∧ f_Mod_guard p k x M1 = some (r, M2) ∧ Sim M2 := by
  rcases pk_ix p (n := 10) (by decide) with h1 | h1 | ⟨i, hi, rfl⟩
  · exact ⟨0, M, M, by unfold f_MW_guard; rw [if_pos h1], by unfold f_Mod_guard; rw [if_pos h1], h⟩
  · have h2 : ¬ p < 0 := fun q => absurd (Int32.lt_of_le_of_lt h1 q) (by decide)
    have h3 : 9 < p := Int32.lt_of_lt_of_le (by decide) h1
    exact ⟨0, M, M, by unfold f_MW_guard; rw [if_neg h2, if_pos (show (10 : Int32) ≤ p from h1)], by unfold f_Mod_guard; rw [if_neg h2, if_pos h3], h⟩
  have p1 : ¬ nI i < 0 := nI_pos (by omega)
  have p2 : ¬ (10 : Int32) ≤ nI i := nI_ge (b := 10) hi (by decide)
  have p3 : ¬ (9 : Int32) < nI i := nI_nlt (a := 9) (b := i) (by omega) (by decide)
  have cls : ∀ q : Int32, f_MW_isGuard k x M = some (q, M) → f_MW_guard (nI i) k x M = if q = 0 then some (0, M) else bnd (f_Guard_turnInto (158 + i) k x M) (fun q8 M9 => g2 q8 (some (q8, M9))) := by
    intro q hq
    unfold f_MW_guard
    rw [if_neg p1, if_neg p2, hq, bnd_eq, gi_nI hi (by decide), kM_eq, nI_clamp (by omega)]
  have bad : ∀ (hk : ¬ (0 ≤ k ∧ k ≤ 4)), ∃ r M1 M2, f_MW_guard (nI i) k x M = some (r, M1) ∧ f_Mod_guard (nI i) k x M1 = some (r, M2) ∧ Sim M2 := by
    intro hk
    have hn : ∀ j : Nat, j < 5 → ¬ k = nI j := fun j hj e => hk ⟨e ▸ nI_pos' (by omega), e ▸ nI_le (b := 4) (by omega) (by decide)⟩
    have hc : f_MW_isGuard k x M = some (0, M) := by
      unfold f_MW_isGuard
      rw [if_neg (show ¬ k = 0 from hn 0 (by decide)), if_neg (show ¬ k = 1 from hn 1 (by decide)), if_neg (show ¬ k = 2 from hn 2 (by decide)), if_neg (show ¬ k = 3 from hn 3 (by decide)), if_neg (show ¬ k = 4 from hn 4 (by decide))]
    refine ⟨0, M, M, by rw [cls 0 hc, if_pos rfl], ?_, h⟩
    unfold f_Mod_guard
    rw [if_neg p1, if_neg p3]
    by_cases a1 : k < 0
    · rw [if_pos a1]
    · rw [if_neg a1, if_neg (fun a2 => hk ⟨Int32.not_lt.mp a1, a2⟩)]
  rcases pk_ix k (n := 5) (by decide) with h1 | h1 | ⟨j, hj, rfl⟩
  · exact bad (fun q => absurd (Int32.lt_of_le_of_lt q.1 h1) (by decide))
  · exact bad (fun q => absurd (Int32.le_trans h1 q.2) (by decide))
  have k1 : ¬ nI j < 0 := nI_pos (by omega)
  have k2 : nI j ≤ 4 := nI_le (b := 4) (by omega) (by decide)
  have hp := h.2.2.2.2.2.2.2.1
  have he := h.2.2.2.2.2.2.2.2.1
  have good : ∀ (hc : f_MW_isGuard (nI j) x M = some (1, M)) (h4 : j = 4 → wr M x) (hm : ∀ M1, (∀ q, gI M1 188 q = gI M 188 q) → f_Mod_guard (nI i) (nI j) x M1 = f_Mod_guard_51 (nI i) (nI j) x M1), ∃ r M1 M2, f_MW_guard (nI i) (nI j) x M = some (r, M1) ∧ f_Mod_guard (nI i) (nI j) x M1 = some (r, M2) ∧ Sim M2 := by
    intro hc h4 hm
    obtain ⟨r, M1, M2, g1, g2', g3⟩ := guard_in h hi hj x h4
    refine ⟨r, M1, M2, by rw [cls 1 hc, if_neg (by decide)]; exact g1, ?_, g3⟩
    rw [hm M1 ?_]
    · exact g2'
    · intro q
      rcases turn_both (M := M) hi (nI j) x with ⟨c1, -⟩ | ⟨c1, -⟩
      · rw [c1] at g1
        obtain ⟨-, rfl⟩ := leaf g1
        rw [mIc (by omega), mIc (by omega)]
      · rw [c1] at g1
        obtain ⟨-, rfl⟩ := leaf g1
        rfl
  have mod0 : ∀ M1, ¬ nI j = 3 → ¬ nI j = 4 → f_Mod_guard (nI i) (nI j) x M1 = f_Mod_guard_51 (nI i) (nI j) x M1 := by
    intro M1 a1 a2
    unfold f_Mod_guard
    rw [if_neg p1, if_neg p3, if_neg k1, if_pos k2, if_neg a1, if_neg a2]
  match j, hj with
  | 0, hj => exact good rfl (fun q => by cases q) (fun M1 _ => mod0 M1 (by decide) (by decide))
  | 1, hj => exact good rfl (fun q => by cases q) (fun M1 _ => mod0 M1 (by decide) (by decide))
  | 2, hj => exact good rfl (fun q => by cases q) (fun M1 _ => mod0 M1 (by decide) (by decide))
  | 3, hj =>
    have hc : f_MW_isGuard (nI 3) x M = bnd (f_MW_isRoleSet x M) (fun q5 M6 => g2 q5 (some (q5, M6))) := rfl
    have mod3 : ∀ M1, f_Mod_guard (nI i) (nI 3) x M1 = if x < 0 then some (0, M1) else if 65535 < x then some (0, M1) else f_Mod_guard_51 (nI i) (nI 3) x M1 := by
      intro M1
      unfold f_Mod_guard
      rw [if_neg p1, if_neg p3, if_neg k1, if_pos k2, if_pos (show nI 3 = 3 from rfl), if_neg (show ¬ nI 3 = 4 by decide)]
    by_cases a1 : x < 0
    · exact ⟨0, M, M, by rw [cls 0 (by rw [hc]; unfold f_MW_isRoleSet; rw [if_pos a1]; rfl), if_pos rfl], by rw [mod3, if_pos a1], h⟩
    · by_cases a2 : 65535 < x
      · exact ⟨0, M, M, by rw [cls 0 (by rw [hc]; unfold f_MW_isRoleSet; rw [if_neg a1, if_pos a2]; rfl), if_pos rfl], by rw [mod3, if_neg a1, if_pos a2], h⟩
      · exact good (by rw [hc]; unfold f_MW_isRoleSet; rw [if_neg a1, if_neg a2]; rfl) (fun q => by cases q) (fun M1 _ => by rw [mod3, if_neg a1, if_neg a2])
  | 4, hj =>
    have hc : f_MW_isGuard (nI 4) x M = bnd (f_MW_hasExpression x M) (fun q9 M10 => g2 q9 (some (q9, M10))) := rfl
    have mod4 : ∀ M1, f_Mod_guard (nI i) (nI 4) x M1 = bnd (f_Mod_written x M1) (fun q16 M17 => if q16 = 0 then (some (0, M17)) else (f_Mod_guard_51 (nI i) (nI 4) x M17)) := by
      intro M1
      unfold f_Mod_guard
      rw [if_neg p1, if_neg p3, if_neg k1, if_pos k2, if_neg (show ¬ nI 4 = 3 by decide), if_pos (show nI 4 = 4 from rfl)]
    rcases has_c hp he x with ⟨b1, b2⟩ | ⟨b1, b2⟩
    · refine good (by rw [hc, b2]; rfl) (fun _ => b1) (fun M1 h8 => ?_)
      rcases has_m h8 x with ⟨-, c2⟩ | ⟨c1, -⟩
      · rw [mod4, c2, bnd_eq, if_neg (by decide)]
      · exact absurd b1 c1
    · refine ⟨0, M, M, by rw [cls 0 (by rw [hc, b2]; rfl), if_pos rfl], ?_, h⟩
      rcases has_m (M := M) (M' := M) (fun _ => rfl) x with ⟨c1, -⟩ | ⟨-, c2⟩
      · exact absurd c1 b1
      · rw [mod4, c2, bnd_eq, if_pos rfl]
  | n + 5, hj => exact absurd hj (by omega)
theorem meth_c {M : ax_M} (x : Int32) : (x < 0 ∧ f_MW_isMethod x M = some (0, M)) ∨ (nI 8 ≤ x ∧ ¬ x < 0 ∧ 7 < x ∧ f_MW_isMethod x M = some (0, M)) ∨ ∃ i, i < 8 ∧ x = nI i ∧ ¬ x < 0 ∧ ¬ 7 < x ∧ x ≤ 7 ∧ f_MW_isMethod x M = some (1, M) := by
  unfold f_MW_isMethod
  rcases pk_ix x (n := 8) (by decide) with h1 | h1 | ⟨i, hi, rfl⟩
  · exact Or.inl ⟨h1, by rw [if_pos h1]⟩
  · have h2 : ¬ x < 0 := fun q => absurd (Int32.lt_of_le_of_lt h1 q) (by decide)
    have h3 : 7 < x := Int32.lt_of_lt_of_le (by decide) h1
    exact Or.inr (Or.inl ⟨h1, h2, h3, by rw [if_neg h2, if_pos (show (8 : Int32) ≤ x from h1)]⟩)
  · have h2 : ¬ nI i < 0 := nI_pos (by omega)
    have h3 : ¬ (7 : Int32) < nI i := nI_nlt (a := 7) (b := i) (by omega) (by decide)
    exact Or.inr (Or.inr ⟨i, hi, rfl, h2, h3, Int32.not_lt.mp h3, by rw [if_neg h2, if_neg (show ¬ (8 : Int32) ≤ nI i from nI_ge (b := 8) hi (by decide))]⟩)
theorem rules_m {M M' : ax_M} (hw : ∀ k, gI M' 188 k = gI M 188 k) {i : Nat} (hi : i < 8) (a b c : Int32) : (rl M a ∧ rl M b ∧ rl M c ∧ f_Mod_rules (nI i) a b c M' = some (1, mI (mI (mI M' 195 i a) 196 i b) 197 i c)) ∨ (¬ (rl M a ∧ rl M b ∧ rl M c) ∧ f_Mod_rules (nI i) a b c M' = some (0, M')) := by
  have p1 : ¬ nI i < 0 := nI_pos (by omega)
  have p2 : ¬ (7 : Int32) < nI i := nI_nlt (a := 7) (b := i) (by omega) (by decide)
  have st : f_Mod_rules_53 (nI i) a b c M' = some (1, mI (mI (mI M' 195 i a) 196 i b) 197 i c) := by
    unfold f_Mod_rules_53
    rw [gi_nI hi (by decide), kM_eq, kM_eq, kM_eq, nI_clamp (by omega)]
  have s3 : ∀ (hc : rl M c), (if c = -1 then (f_Mod_rules_53 (nI i) a b c M') else (bnd (f_Mod_written c M') (fun q10 M11 => if q10 = 0 then (some (0, M11)) else (f_Mod_rules_53 (nI i) a b c M11)))) = some (1, mI (mI (mI M' 195 i a) 196 i b) 197 i c) := by
    intro hc
    by_cases h1 : c = -1
    · rw [if_pos h1, st]
    · rw [if_neg h1]
      rcases has_m hw c with ⟨-, h2⟩ | ⟨h2, -⟩
      · rw [h2, bnd_eq, if_neg (by decide), st]
      · exact absurd (hc.resolve_left h1) h2
  have n3 : ∀ (hc : ¬ rl M c), (if c = -1 then (f_Mod_rules_53 (nI i) a b c M') else (bnd (f_Mod_written c M') (fun q10 M11 => if q10 = 0 then (some (0, M11)) else (f_Mod_rules_53 (nI i) a b c M11)))) = some (0, M') := by
    intro hc
    have h1 : ¬ c = -1 := fun q => hc (Or.inl q)
    rw [if_neg h1]
    rcases has_m hw c with ⟨h2, -⟩ | ⟨-, h2⟩
    · exact absurd (Or.inr h2) hc
    · rw [h2, bnd_eq, if_pos rfl]
  have s2 : ∀ (hb : rl M b), f_Mod_rules_23 (nI i) a b c M' = (if c = -1 then (f_Mod_rules_53 (nI i) a b c M') else (bnd (f_Mod_written c M') (fun q10 M11 => if q10 = 0 then (some (0, M11)) else (f_Mod_rules_53 (nI i) a b c M11)))) := by
    intro hb
    unfold f_Mod_rules_23
    by_cases h1 : b = -1
    · rw [if_pos h1]
    · rw [if_neg h1]
      rcases has_m hw b with ⟨-, h2⟩ | ⟨h2, -⟩
      · rw [h2, bnd_eq, if_neg (by decide)]
      · exact absurd (hb.resolve_left h1) h2
  have n2 : ∀ (hb : ¬ rl M b), f_Mod_rules_23 (nI i) a b c M' = some (0, M') := by
    intro hb
    unfold f_Mod_rules_23
    have h1 : ¬ b = -1 := fun q => hb (Or.inl q)
    rw [if_neg h1]
    rcases has_m hw b with ⟨h2, -⟩ | ⟨-, h2⟩
    · exact absurd (Or.inr h2) hb
    · rw [h2, bnd_eq, if_pos rfl]
  have s1 : ∀ (ha : rl M a), f_Mod_rules (nI i) a b c M' = f_Mod_rules_23 (nI i) a b c M' := by
    intro ha
    unfold f_Mod_rules
    rw [if_neg p1, if_neg p2]
    by_cases h1 : a = -1
    · rw [if_pos h1]
    · rw [if_neg h1]
      rcases has_m hw a with ⟨-, h2⟩ | ⟨h2, -⟩
      · rw [h2, bnd_eq, if_neg (by decide)]
      · exact absurd (ha.resolve_left h1) h2
  have n1 : ∀ (ha : ¬ rl M a), f_Mod_rules (nI i) a b c M' = some (0, M') := by
    intro ha
    unfold f_Mod_rules
    have h1 : ¬ a = -1 := fun q => ha (Or.inl q)
    rw [if_neg p1, if_neg p2, if_neg h1]
    rcases has_m hw a with ⟨h2, -⟩ | ⟨-, h2⟩
    · exact absurd (Or.inr h2) ha
    · rw [h2, bnd_eq, if_pos rfl]
  by_cases ha : rl M a
  · by_cases hb : rl M b
    · by_cases hc : rl M c
      · exact Or.inl ⟨ha, hb, hc, by rw [s1 ha, s2 hb, s3 hc]⟩
      · exact Or.inr ⟨fun q => hc q.2.2, by rw [s1 ha, s2 hb, n3 hc]⟩
    · exact Or.inr ⟨fun q => hb q.2.1, by rw [s1 ha, n2 hb]⟩
  · exact Or.inr ⟨fun q => ha q.1, n1 ha⟩
theorem rules_c {M : ax_M} (hp : S_perm M) (he : S_expr M) {i : Nat} (hi : i < 8) (a b c : Int32) : (rl M a ∧ rl M b ∧ rl M c ∧ f_MW_rules (nI i) a b c M = some (1, mI (mI (mI M (142 + 2 * i) 0 a) (142 + 2 * i) 1 b) (142 + 2 * i) 2 c)) ∨ (¬ (rl M a ∧ rl M b ∧ rl M c) ∧ f_MW_rules (nI i) a b c M = some (0, M)) := by
  have h0 : f_MW_isMethod (nI i) M = some (1, M) := by
    unfold f_MW_isMethod
    rw [if_neg (nI_pos (by omega)), if_neg (show ¬ (8 : Int32) ≤ nI i from nI_ge (b := 8) hi (by decide))]
  unfold f_MW_rules
  rw [h0, bnd_eq, if_neg (by decide)]
  rcases rule_c hp he a with ⟨ha, h1⟩ | ⟨ha, h1⟩
  · rw [h1, bnd_eq, if_neg (by decide)]
    rcases rule_c hp he b with ⟨hb, h2⟩ | ⟨hb, h2⟩
    · rw [h2, bnd_eq, if_neg (by decide)]
      rcases rule_c hp he c with ⟨hc, h3⟩ | ⟨hc, h3⟩
      · rw [h3, bnd_eq, if_neg (by decide), gi_nI hi (by decide), kM_eq, nI_clamp (by omega)]
        unfold f_Meth_setRules
        rw [gk_pos (la_106 i hi)]
        exact Or.inl ⟨ha, hb, hc, rfl⟩
      · rw [h3]
        exact Or.inr ⟨fun q => hc q.2.2, rfl⟩
    · rw [h2]
      exact Or.inr ⟨fun q => hb q.2.1, rfl⟩
  · rw [h1]
    exact Or.inr ⟨fun q => ha q.1, rfl⟩
theorem sim_rules {M : ax_M} (h : Sim M) (m a b c : Int32) : ∃ r M1 M2, f_MW_rules m a b c M = some (r, M1) ∧ f_Mod_rules m a b c M1 = some (r, M2) ∧ Sim M2 := by
  obtain ⟨h_text, h_list, h_ctx, h_roles, h_guard, h_meth, h_val, h_perm, h_expr, h_gate, h_ask, h_misc⟩ := h
  rcases meth_c (M := M) m with ⟨h1, h2⟩ | ⟨-, h1, h3, h2⟩ | ⟨i, hi, rfl, -, -, -, -⟩
  · exact ⟨0, M, M, by unfold f_MW_rules; rw [h2]; rfl, by unfold f_Mod_rules; rw [if_pos h1], ⟨h_text, h_list, h_ctx, h_roles, h_guard, h_meth, h_val, h_perm, h_expr, h_gate, h_ask, h_misc⟩⟩
  · exact ⟨0, M, M, by unfold f_MW_rules; rw [h2]; rfl, by unfold f_Mod_rules; rw [if_neg h1, if_pos h3], ⟨h_text, h_list, h_ctx, h_roles, h_guard, h_meth, h_val, h_perm, h_expr, h_gate, h_ask, h_misc⟩⟩
  rcases rules_c h_perm h_expr hi a b c with ⟨ha, hb, hc, h1⟩ | ⟨hn, h1⟩
  · have h8 : ∀ k, gI (mI (mI (mI M (142 + 2 * i) 0 a) (142 + 2 * i) 1 b) (142 + 2 * i) 2 c) 188 k = gI M 188 k := fun k => by rw [mIc (by omega), mIc (by omega), mIc (by omega)]
    rcases rules_m h8 hi a b c with ⟨-, -, -, h2⟩ | ⟨hn, -⟩
    · refine ⟨1, _, _, h1, h2, ?_⟩
      have hw : ∀ k, gI (mI (mI (mI (mI (mI (mI M (142 + 2 * i) 0 a) (142 + 2 * i) 1 b) (142 + 2 * i) 2 c) 195 i a) 196 i b) 197 i c) 188 k = gI M 188 k := fun k => by rw [mIc (by decide), mIc (by decide), mIc (by decide), h8]
      refine ⟨(S_text.cg (M := M) (fun a k hf => by unfold F_text at hf; rw [gI_mI, if_neg (by omega), gI_mI, if_neg (by omega), gI_mI, if_neg (by omega), gI_mI, if_neg (by omega), gI_mI, if_neg (by omega), gI_mI, if_neg (by omega)]) h_text), (S_list.cg (M := M) (fun a k hf => by unfold F_list at hf; rw [gI_mI, if_neg (by omega), gI_mI, if_neg (by omega), gI_mI, if_neg (by omega), gI_mI, if_neg (by omega), gI_mI, if_neg (by omega), gI_mI, if_neg (by omega)]) h_list), (S_ctx.cg (M := M) (fun a k hf => by unfold F_ctx at hf; rw [gI_mI, if_neg (by omega), gI_mI, if_neg (by omega), gI_mI, if_neg (by omega), gI_mI, if_neg (by omega), gI_mI, if_neg (by omega), gI_mI, if_neg (by omega)]) h_ctx), (S_roles.cg (M := M) (fun a k hf => by unfold F_roles at hf; rw [gI_mI, if_neg (by omega), gI_mI, if_neg (by omega), gI_mI, if_neg (by omega), gI_mI, if_neg (by omega), gI_mI, if_neg (by omega), gI_mI, if_neg (by omega)]) h_roles), (S_guard.cg (M := M) (fun a k hf => by unfold F_guard at hf; rw [gI_mI, if_neg (by omega), gI_mI, if_neg (by omega), gI_mI, if_neg (by omega), gI_mI, if_neg (by omega), gI_mI, if_neg (by omega), gI_mI, if_neg (by omega)]) h_guard), ?_, ?_, (S_perm.cg (M := M) (fun _ => rfl) rfl h_perm), (S_expr.cg h_perm (fun _ => rfl) rfl (fun a k hf => by unfold F_expr at hf; exact ⟨by rw [gI_mI, if_neg (by omega), gI_mI, if_neg (by omega), gI_mI, if_neg (by omega), gI_mI, if_neg (by omega), gI_mI, if_neg (by omega), gI_mI, if_neg (by omega)], rfl⟩) h_expr), (S_gate.cg (M := M) (fun a k hf => by unfold F_gate at hf; rw [gI_mI, if_neg (by omega), gI_mI, if_neg (by omega), gI_mI, if_neg (by omega), gI_mI, if_neg (by omega), gI_mI, if_neg (by omega), gI_mI, if_neg (by omega)]) rfl h_gate), h_ask, (S_misc.cg (M := M) (by rw [gI_mI, if_neg (by omega), gI_mI, if_neg (by omega), gI_mI, if_neg (by omega), gI_mI, if_neg (by omega), gI_mI, if_neg (by omega), gI_mI, if_neg (by omega)]) (by rw [gI_mI, if_neg (by omega), gI_mI, if_neg (by omega), gI_mI, if_neg (by omega), gI_mI, if_neg (by omega), gI_mI, if_neg (by omega), gI_mI, if_neg (by omega)]) rfl h_misc)⟩
      · intro m hm
        by_cases hmi : m = i
        · subst hmi
          refine ⟨?_, fun e he => ?_⟩
          · simp only [gI_mI]
            simp [show ¬ (142 + 2 * m = 195) by omega, show ¬ (142 + 2 * m = 196) by omega, show ¬ (142 + 2 * m = 197) by omega, show ¬ (198 = 142 + 2 * m) by omega, show ¬ (199 = 142 + 2 * m) by omega, show ¬ (200 = 142 + 2 * m) by omega]
            obtain ⟨⟨-, -, -, b4, b5, b6⟩, -⟩ := h_meth m hm
            exact ⟨b4, b5, b6⟩
          · rw [mIc (by decide), mIc (by decide), mIc (by decide), mIc (by omega), mIc (by omega), mIc (by omega), mIc (by omega), mIc (by omega), mIc (by omega), mIc (by omega), mIc (by omega), mIc (by omega)]
            exact (h_meth m hm).2 e he
        · refine ⟨?_, fun e he => ?_⟩
          · simp only [gI_mI]
            simp [hmi, show ¬ (2 * m = 2 * i) by omega, show ¬ (142 + 2 * m = 195) by omega, show ¬ (142 + 2 * m = 196) by omega, show ¬ (142 + 2 * m = 197) by omega, show ¬ (142 + 2 * m = 142 + 2 * i) by omega, show ¬ (195 = 142 + 2 * i) by omega, show ¬ (196 = 142 + 2 * i) by omega, show ¬ (197 = 142 + 2 * i) by omega, show ¬ (198 = 142 + 2 * i) by omega, show ¬ (199 = 142 + 2 * i) by omega, show ¬ (200 = 142 + 2 * i) by omega]
            exact (h_meth m hm).1
          · rw [mIc (by decide), mIc (by decide), mIc (by decide), mIc (by omega), mIc (by omega), mIc (by omega), mIc (by omega), mIc (by omega), mIc (by omega), mIc (by omega), mIc (by omega), mIc (by omega)]
            exact (h_meth m hm).2 e he
      · refine ⟨fun p hp => ?_, fun m hm => ?_⟩
        · rw [mIc (by omega), mIc (by omega), mIc (by omega), mIc (by omega), mIc (by omega), mIc (by omega), mIc (by omega), mIc (by omega), mIc (by omega), mIc (by omega), mIc (by omega), mIc (by omega)]
          exact fun q => wr.cg hw (h_val.1 p hp q)
        · by_cases hmi : m = i
          · subst hmi
            obtain ⟨a1, a2, a3, a4⟩ := h_val.2 m hm
            simp only [gI_mI (a := 142 + 2 * m)]
            simp [show ¬ (142 + 2 * m = 195) by omega, show ¬ (142 + 2 * m = 196) by omega, show ¬ (142 + 2 * m = 197) by omega]
            exact ⟨rl.cg hw ha, rl.cg hw hb, rl.cg hw hc, a4⟩
          · have e : ∀ k, gI (mI (mI (mI (mI (mI (mI M (142 + 2 * i) 0 a) (142 + 2 * i) 1 b) (142 + 2 * i) 2 c) 195 i a) 196 i b) 197 i c) (142 + 2 * m) k = gI M (142 + 2 * m) k := fun k => by rw [mIc (by omega), mIc (by omega), mIc (by omega), mIc (by omega), mIc (by omega), mIc (by omega)]
            rw [e, e, e, e, e, e]
            obtain ⟨a1, a2, a3, a4⟩ := h_val.2 m hm
            exact ⟨rl.cg hw a1, rl.cg hw a2, rl.cg hw a3, a4⟩
    · exact absurd ⟨ha, hb, hc⟩ hn
  · rcases rules_m (M := M) (M' := M) (fun _ => rfl) hi a b c with ⟨ha, hb, hc, -⟩ | ⟨-, h2⟩
    · exact absurd ⟨ha, hb, hc⟩ hn
    · exact ⟨0, M, M, h1, h2, ⟨h_text, h_list, h_ctx, h_roles, h_guard, h_meth, h_val, h_perm, h_expr, h_gate, h_ask, h_misc⟩⟩
/-- what a target may be -/
def tgOK (w k : Int32) : Prop := 0 ≤ w ∧ w ≤ 6 ∧ (w = 4 → 0 ≤ k ∧ k ≤ 999) ∧ (5 ≤ w → ∃ q, q < 8 ∧ k = nI q)
theorem targ_c {M : ax_M} (w k : Int32) : (tgOK w k ∧ f_MW_isTarget w k M = some (1, M)) ∨ (¬ tgOK w k ∧ f_MW_isTarget w k M = some (0, M)) := by
  have un : ∀ j : Nat, j < 7 → w = nI j → f_MW_isTarget w k M = if j < 4 then some (1, M) else if j = 4 then bnd (f_MW_isUser k M) (fun q6 M7 => g2 q6 (some (q6, M7))) else bnd (f_MW_isMethod k M) (fun q6 M7 => g2 q6 (some (q6, M7))) := by
    intro j hj e
    subst e
    match j, hj with
    | 0, _ => rfl
    | 1, _ => rfl
    | 2, _ => rfl
    | 3, _ => rfl
    | 4, _ => rfl
    | 5, _ => rfl
    | 6, _ => rfl
    | n + 7, hj => exact absurd hj (by omega)
  have bad : ¬ (0 ≤ w ∧ w ≤ 6) → f_MW_isTarget w k M = some (0, M) := by
    intro hw
    have hn : ∀ j : Nat, j < 7 → ¬ w = nI j := fun j hj e => hw ⟨e ▸ nI_pos' (by omega), e ▸ nI_le (b := 6) (by omega) (by decide)⟩
    unfold f_MW_isTarget
    rw [if_neg (show ¬ w = 0 from hn 0 (by decide)), if_neg (show ¬ w = 1 from hn 1 (by decide)), if_neg (show ¬ w = 2 from hn 2 (by decide)), if_neg (show ¬ w = 3 from hn 3 (by decide)), if_neg (show ¬ w = 4 from hn 4 (by decide)), if_neg (show ¬ w = 5 from hn 5 (by decide)), if_neg (show ¬ w = 6 from hn 6 (by decide))]
  rcases pk_ix w (n := 7) (by decide) with h1 | h1 | ⟨j, hj, hw⟩
  · have h2 : ¬ (0 ≤ w ∧ w ≤ 6) := fun q => absurd (Int32.lt_of_le_of_lt q.1 h1) (by decide)
    exact Or.inr ⟨fun q => h2 ⟨q.1, q.2.1⟩, bad h2⟩
  · have h2 : ¬ (0 ≤ w ∧ w ≤ 6) := fun q => absurd (Int32.le_trans h1 q.2) (by decide)
    exact Or.inr ⟨fun q => h2 ⟨q.1, q.2.1⟩, bad h2⟩
  · have w1 : 0 ≤ w := hw ▸ nI_pos' (by omega)
    have w2 : w ≤ 6 := hw ▸ nI_le (b := 6) (by omega) (by decide)
    rw [un j hj hw]
    by_cases j1 : j < 4
    · rw [if_pos j1]
      refine Or.inl ⟨⟨w1, w2, fun q => ?_, fun q => ?_⟩, rfl⟩
      · have := (nI_eq (a := j) (b := 4) (by omega) (by decide)).mp (hw.symm.trans q)
        omega
      · rw [hw] at q
        have := (nI_leI (a := 5) (b := j) (by decide) (by omega)).mp q
        omega
    · rw [if_neg j1]
      by_cases j2 : j = 4
      · rw [if_pos j2]
        have nq : ¬ 5 ≤ w := by
          intro q
          rw [hw, j2] at q
          exact absurd q (by decide)
        unfold f_MW_isUser
        by_cases k1 : k < 0
        · rw [if_pos k1]
          exact Or.inr ⟨fun q => absurd k1 (Int32.not_lt.mpr (q.2.2.1 (by rw [hw, j2]; rfl)).1), rfl⟩
        · rw [if_neg k1]
          by_cases k2 : 999 < k
          · rw [if_pos k2]
            exact Or.inr ⟨fun q => absurd k2 (Int32.not_lt.mpr (q.2.2.1 (by rw [hw, j2]; rfl)).2), rfl⟩
          · rw [if_neg k2]
            exact Or.inl ⟨⟨w1, w2, fun _ => ⟨Int32.not_lt.mp k1, Int32.not_lt.mp k2⟩, fun q => absurd q nq⟩, rfl⟩
      · rw [if_neg j2]
        have w5 : 5 ≤ w := hw ▸ nI_le (a := 5) (b := j) (by omega) (by omega)
        have w4 : ¬ w = 4 := by
          intro q
          rw [q] at w5
          exact absurd w5 (by decide)
        rcases meth_c (M := M) k with ⟨a1, a2⟩ | ⟨a1, -, -, a2⟩ | ⟨q, hq, e, -, -, -, a2⟩
        · rw [a2]
          refine Or.inr ⟨fun z => ?_, rfl⟩
          obtain ⟨q, hq, e⟩ := z.2.2.2 w5
          exact nI_pos (by omega) (e ▸ a1)
        · rw [a2]
          refine Or.inr ⟨fun z => ?_, rfl⟩
          obtain ⟨q, hq, e⟩ := z.2.2.2 w5
          exact nI_ge hq (by decide) (e ▸ a1)
        · rw [a2]
          exact Or.inl ⟨⟨w1, w2, fun z => absurd z w4, fun _ => ⟨q, hq, e⟩⟩, rfl⟩
theorem targ_m {M : ax_M} {i : Nat} (hi : i < 8) (w k x : Int32) : (tgOK w k ∧ 0 ≤ x ∧ x ≤ 65535 ∧ f_Mod_target (nI i) w k x M = some (1, mI (mI (mI M 198 i w) 199 i k) 200 i x)) ∨ (¬ (tgOK w k ∧ 0 ≤ x ∧ x ≤ 65535) ∧ f_Mod_target (nI i) w k x M = some (0, M)) := by
  have p1 : ¬ nI i < 0 := nI_pos (by omega)
  have p2 : ¬ (7 : Int32) < nI i := nI_nlt (a := 7) (b := i) (by omega) (by decide)
  have st : f_Mod_target_67 (nI i) w k x M = some (1, mI (mI (mI M 198 i w) 199 i k) 200 i x) := by
    unfold f_Mod_target_67
    rw [gi_nI hi (by decide), kM_eq, kM_eq, kM_eq, nI_clamp (by omega)]
  unfold f_Mod_target
  rw [if_neg p1, if_neg p2]
  by_cases w1 : w < 0
  · rw [if_pos w1]
    exact Or.inr ⟨fun q => absurd w1 (Int32.not_lt.mpr q.1.1), rfl⟩
  rw [if_neg w1]
  by_cases w2 : 6 < w
  · rw [if_pos w2]
    exact Or.inr ⟨fun q => absurd w2 (Int32.not_lt.mpr q.1.2.1), rfl⟩
  rw [if_neg w2]
  by_cases x1 : x < 0
  · rw [if_pos x1]
    exact Or.inr ⟨fun q => absurd x1 (Int32.not_lt.mpr q.2.1), rfl⟩
  rw [if_neg x1]
  by_cases x2 : x ≤ 65535
  · rw [if_pos x2]
    have w1' := Int32.not_lt.mp w1
    have w2' := Int32.not_lt.mp w2
    have x1' := Int32.not_lt.mp x1
    by_cases w4 : w = 4
    · rw [if_pos w4]
      by_cases k1 : k < 0
      · rw [if_pos k1]
        exact Or.inr ⟨fun q => absurd k1 (Int32.not_lt.mpr (q.1.2.2.1 w4).1), rfl⟩
      rw [if_neg k1]
      by_cases k2 : 999 < k
      · rw [if_pos k2]
        exact Or.inr ⟨fun q => absurd k2 (Int32.not_lt.mpr (q.1.2.2.1 w4).2), rfl⟩
      rw [if_neg k2, if_pos (show w < 5 by rw [w4]; decide), st]
      exact Or.inl ⟨⟨w1', w2', fun _ => ⟨Int32.not_lt.mp k1, Int32.not_lt.mp k2⟩, fun q => absurd q (by rw [w4]; decide)⟩, x1', x2, rfl⟩
    · rw [if_neg w4]
      by_cases w5 : w < 5
      · rw [if_pos w5, st]
        exact Or.inl ⟨⟨w1', w2', fun q => absurd q w4, fun q => absurd w5 (Int32.not_lt.mpr q)⟩, x1', x2, rfl⟩
      · rw [if_neg w5]
        have w5' := Int32.not_lt.mp w5
        rcases pk_ix k (n := 8) (by decide) with k1 | k1 | ⟨q, hq, e⟩
        · rw [if_pos k1]
          refine Or.inr ⟨fun z => ?_, rfl⟩
          obtain ⟨q, hq, e⟩ := z.1.2.2.2 w5'
          exact nI_pos (by omega) (e ▸ k1)
        · have k2 : ¬ k < 0 := fun q => absurd (Int32.lt_of_le_of_lt k1 q) (by decide)
          have k3 : ¬ k ≤ 7 := fun q => absurd (Int32.le_trans k1 q) (by decide)
          rw [if_neg k2, if_neg k3]
          refine Or.inr ⟨fun z => ?_, rfl⟩
          obtain ⟨q, hq, e⟩ := z.1.2.2.2 w5'
          exact nI_ge hq (by decide) (e ▸ k1)
        · have k2 : ¬ k < 0 := e ▸ nI_pos (by omega)
          have k3 : k ≤ 7 := e ▸ nI_le (b := 7) (by omega) (by decide)
          rw [if_neg k2, if_pos k3, st]
          exact Or.inl ⟨⟨w1', w2', fun q => absurd q w4, fun _ => ⟨q, hq, e⟩⟩, x1', x2, rfl⟩
  · rw [if_neg x2]
    exact Or.inr ⟨fun q => x2 q.2.2, rfl⟩
theorem targ_cc {M : ax_M} {i : Nat} (hi : i < 8) (w k x : Int32) : (tgOK w k ∧ 0 ≤ x ∧ x ≤ 65535 ∧ f_MW_target (nI i) w k x M = some (1, mI (mI (mI M (142 + 2 * i) 3 w) (142 + 2 * i) 4 k) (142 + 2 * i) 5 x)) ∨ (¬ (tgOK w k ∧ 0 ≤ x ∧ x ≤ 65535) ∧ f_MW_target (nI i) w k x M = some (0, M)) := by
  have h0 : f_MW_isMethod (nI i) M = some (1, M) := by
    unfold f_MW_isMethod
    rw [if_neg (nI_pos (by omega)), if_neg (show ¬ (8 : Int32) ≤ nI i from nI_ge (b := 8) hi (by decide))]
  unfold f_MW_target
  rw [h0, bnd_eq, if_neg (by decide)]
  rcases targ_c (M := M) w k with ⟨ha, h1⟩ | ⟨ha, h1⟩
  · rw [h1, bnd_eq, if_neg (by decide)]
    unfold f_MW_isRoleSet
    by_cases x1 : x < 0
    · rw [if_pos x1]
      exact Or.inr ⟨fun q => absurd x1 (Int32.not_lt.mpr q.2.1), rfl⟩
    rw [if_neg x1]
    by_cases x2 : 65535 < x
    · rw [if_pos x2]
      exact Or.inr ⟨fun q => absurd x2 (Int32.not_lt.mpr q.2.2), rfl⟩
    rw [if_neg x2, bnd_eq, if_neg (by decide), gi_nI hi (by decide), kM_eq, nI_clamp (by omega)]
    unfold f_Meth_setTarget
    rw [gk_pos (la_106 i hi)]
    exact Or.inl ⟨ha, Int32.not_lt.mp x1, Int32.not_lt.mp x2, rfl⟩
  · rw [h1]
    exact Or.inr ⟨fun q => ha q.1, rfl⟩
theorem sim_target {M : ax_M} (h : Sim M) (m w k x : Int32) : ∃ r M1 M2, f_MW_target m w k x M = some (r, M1) ∧ f_Mod_target m w k x M1 = some (r, M2) ∧ Sim M2 := by
  obtain ⟨h_text, h_list, h_ctx, h_roles, h_guard, h_meth, h_val, h_perm, h_expr, h_gate, h_ask, h_misc⟩ := h
  rcases meth_c (M := M) m with ⟨h1, h2⟩ | ⟨-, h1, h3, h2⟩ | ⟨i, hi, rfl, -, -, -, -⟩
  · exact ⟨0, M, M, by unfold f_MW_target; rw [h2]; rfl, by unfold f_Mod_target; rw [if_pos h1], ⟨h_text, h_list, h_ctx, h_roles, h_guard, h_meth, h_val, h_perm, h_expr, h_gate, h_ask, h_misc⟩⟩
  · exact ⟨0, M, M, by unfold f_MW_target; rw [h2]; rfl, by unfold f_Mod_target; rw [if_neg h1, if_pos h3], ⟨h_text, h_list, h_ctx, h_roles, h_guard, h_meth, h_val, h_perm, h_expr, h_gate, h_ask, h_misc⟩⟩
  rcases targ_cc (M := M) hi w k x with ⟨ht, x1, x2, h1⟩ | ⟨hn, h1⟩
  · rcases targ_m (M := mI (mI (mI M (142 + 2 * i) 3 w) (142 + 2 * i) 4 k) (142 + 2 * i) 5 x) hi w k x with ⟨-, -, -, h2⟩ | ⟨hn, -⟩
    · refine ⟨1, _, _, h1, h2, ?_⟩
      have hw : ∀ q, gI (mI (mI (mI (mI (mI (mI M (142 + 2 * i) 3 w) (142 + 2 * i) 4 k) (142 + 2 * i) 5 x) 198 i w) 199 i k) 200 i x) 188 q = gI M 188 q := fun q => by rw [mIc (by decide), mIc (by decide), mIc (by decide), mIc (by omega), mIc (by omega), mIc (by omega)]
      refine ⟨(S_text.cg (M := M) (fun a k hf => by unfold F_text at hf; rw [gI_mI, if_neg (by omega), gI_mI, if_neg (by omega), gI_mI, if_neg (by omega), gI_mI, if_neg (by omega), gI_mI, if_neg (by omega), gI_mI, if_neg (by omega)]) h_text), (S_list.cg (M := M) (fun a k hf => by unfold F_list at hf; rw [gI_mI, if_neg (by omega), gI_mI, if_neg (by omega), gI_mI, if_neg (by omega), gI_mI, if_neg (by omega), gI_mI, if_neg (by omega), gI_mI, if_neg (by omega)]) h_list), (S_ctx.cg (M := M) (fun a k hf => by unfold F_ctx at hf; rw [gI_mI, if_neg (by omega), gI_mI, if_neg (by omega), gI_mI, if_neg (by omega), gI_mI, if_neg (by omega), gI_mI, if_neg (by omega), gI_mI, if_neg (by omega)]) h_ctx), (S_roles.cg (M := M) (fun a k hf => by unfold F_roles at hf; rw [gI_mI, if_neg (by omega), gI_mI, if_neg (by omega), gI_mI, if_neg (by omega), gI_mI, if_neg (by omega), gI_mI, if_neg (by omega), gI_mI, if_neg (by omega)]) h_roles), (S_guard.cg (M := M) (fun a k hf => by unfold F_guard at hf; rw [gI_mI, if_neg (by omega), gI_mI, if_neg (by omega), gI_mI, if_neg (by omega), gI_mI, if_neg (by omega), gI_mI, if_neg (by omega), gI_mI, if_neg (by omega)]) h_guard), ?_, ?_, (S_perm.cg (M := M) (fun _ => rfl) rfl h_perm), (S_expr.cg h_perm (fun _ => rfl) rfl (fun a k hf => by unfold F_expr at hf; exact ⟨by rw [gI_mI, if_neg (by omega), gI_mI, if_neg (by omega), gI_mI, if_neg (by omega), gI_mI, if_neg (by omega), gI_mI, if_neg (by omega), gI_mI, if_neg (by omega)], rfl⟩) h_expr), (S_gate.cg (M := M) (fun a k hf => by unfold F_gate at hf; rw [gI_mI, if_neg (by omega), gI_mI, if_neg (by omega), gI_mI, if_neg (by omega), gI_mI, if_neg (by omega), gI_mI, if_neg (by omega), gI_mI, if_neg (by omega)]) rfl h_gate), h_ask, (S_misc.cg (M := M) (by rw [gI_mI, if_neg (by omega), gI_mI, if_neg (by omega), gI_mI, if_neg (by omega), gI_mI, if_neg (by omega), gI_mI, if_neg (by omega), gI_mI, if_neg (by omega)]) (by rw [gI_mI, if_neg (by omega), gI_mI, if_neg (by omega), gI_mI, if_neg (by omega), gI_mI, if_neg (by omega), gI_mI, if_neg (by omega), gI_mI, if_neg (by omega)]) rfl h_misc)⟩
      · intro m hm
        by_cases hmi : m = i
        · subst hmi
          refine ⟨?_, fun e he => ?_⟩
          · simp only [gI_mI]
            simp [show ¬ (142 + 2 * m = 198) by omega, show ¬ (142 + 2 * m = 199) by omega, show ¬ (142 + 2 * m = 200) by omega, show ¬ (195 = 142 + 2 * m) by omega, show ¬ (196 = 142 + 2 * m) by omega, show ¬ (197 = 142 + 2 * m) by omega]
            obtain ⟨⟨b1, b2, b3, -⟩, -⟩ := h_meth m hm
            exact ⟨b1, b2, b3⟩
          · rw [mIc (by decide), mIc (by decide), mIc (by decide), mIc (by omega), mIc (by omega), mIc (by omega), mIc (by omega), mIc (by omega), mIc (by omega), mIc (by omega), mIc (by omega), mIc (by omega)]
            exact (h_meth m hm).2 e he
        · refine ⟨?_, fun e he => ?_⟩
          · simp only [gI_mI]
            simp [hmi, show ¬ (2 * m = 2 * i) by omega, show ¬ (142 + 2 * m = 198) by omega, show ¬ (142 + 2 * m = 199) by omega, show ¬ (142 + 2 * m = 200) by omega, show ¬ (142 + 2 * m = 142 + 2 * i) by omega, show ¬ (195 = 142 + 2 * i) by omega, show ¬ (196 = 142 + 2 * i) by omega, show ¬ (197 = 142 + 2 * i) by omega, show ¬ (198 = 142 + 2 * i) by omega, show ¬ (199 = 142 + 2 * i) by omega, show ¬ (200 = 142 + 2 * i) by omega]
            exact (h_meth m hm).1
          · rw [mIc (by decide), mIc (by decide), mIc (by decide), mIc (by omega), mIc (by omega), mIc (by omega), mIc (by omega), mIc (by omega), mIc (by omega), mIc (by omega), mIc (by omega), mIc (by omega)]
            exact (h_meth m hm).2 e he
      · refine ⟨fun p hp => ?_, fun m hm => ?_⟩
        · rw [mIc (by omega), mIc (by omega), mIc (by omega), mIc (by omega), mIc (by omega), mIc (by omega), mIc (by omega), mIc (by omega), mIc (by omega), mIc (by omega), mIc (by omega), mIc (by omega)]
          exact fun q => wr.cg hw (h_val.1 p hp q)
        · by_cases hmi : m = i
          · subst hmi
            obtain ⟨a1, a2, a3, -⟩ := h_val.2 m hm
            simp only [gI_mI (a := 142 + 2 * m)]
            simp [show ¬ (142 + 2 * m = 198) by omega, show ¬ (142 + 2 * m = 199) by omega, show ¬ (142 + 2 * m = 200) by omega]
            exact ⟨rl.cg hw a1, rl.cg hw a2, rl.cg hw a3, ht.1, ht.2.1, ht.2.2.1, ht.2.2.2, x1, x2⟩
          · have e : ∀ q, gI (mI (mI (mI (mI (mI (mI M (142 + 2 * i) 3 w) (142 + 2 * i) 4 k) (142 + 2 * i) 5 x) 198 i w) 199 i k) 200 i x) (142 + 2 * m) q = gI M (142 + 2 * m) q := fun q => by rw [mIc (by omega), mIc (by omega), mIc (by omega), mIc (by omega), mIc (by omega), mIc (by omega)]
            rw [e, e, e, e, e, e]
            obtain ⟨a1, a2, a3, a4⟩ := h_val.2 m hm
            exact ⟨rl.cg hw a1, rl.cg hw a2, rl.cg hw a3, a4⟩
    · exact absurd ⟨ht, x1, x2⟩ hn
  · rcases targ_m (M := M) hi w k x with ⟨ht, x1, x2, -⟩ | ⟨-, h2⟩
    · exact absurd ⟨ht, x1, x2⟩ hn
    · exact ⟨0, M, M, h1, h2, ⟨h_text, h_list, h_ctx, h_roles, h_guard, h_meth, h_val, h_perm, h_expr, h_gate, h_ask, h_misc⟩⟩
