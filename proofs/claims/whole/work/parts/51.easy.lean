/-! The easy calls: class and reference answer alike, and the relation stays. Printed by mk51.py. -/
theorem S_misc.cg {M M' : ax_M} (h1 : gI M' 68 8 = gI M 68 8) (h2 : gI M' 70 0 = gI M 70 0) (h3 : gJ M' 70 1 = gJ M 70 1) (hs : S_misc M) : S_misc M' := by
  unfold S_misc
  rw [h1, h2, h3]
  exact hs
theorem lt_lit {n b : Nat} (hn : n < 2 ^ 31) (hb : b < 2 ^ 31) : nI n < nI b ↔ n < b := nI_ltI hn hb
theorem c_char {c : Int32} (h1 : ¬ c < 32) (h2 : ¬ 126 < c) : narrow .char (.int c) = .int c := by
  have h0 : ¬ c < 0 := by
    intro q
    exact h1 (by
      have := Int32.lt_iff_toInt_lt.mp q
      rw [Int32.lt_iff_toInt_lt]
      have e : (32 : Int32).toInt = 32 := by decide
      have e0 : (0 : Int32).toInt = 0 := by decide
      omega)
  have h3 : c ≤ 126 := Int32.not_lt.mp h2
  obtain ⟨j, hj, rfl⟩ := nI_of2 (n := 126) (M := 126) (by decide) h0 h3
  exact (pk_charN (by omega)).1
theorem sim_type {M : ax_M} (h : Sim M) (c : Int32) : ∃ r M1 M2, f_MW_type c M = some (r, M1) ∧ f_Mod_type c M1 = some (r, M2) ∧ Sim M2 := by
  by_cases h1 : c < 32
  · exact ⟨0, M, M, by unfold f_MW_type f_Text_append; rw [if_pos h1]; rfl, by unfold f_Mod_type; rw [if_pos h1], h⟩
  by_cases h2 : 126 < c
  · exact ⟨0, M, M, by unfold f_MW_type f_Text_append; rw [if_neg h1, if_pos h2]; rfl, by unfold f_Mod_type; rw [if_neg h1, if_pos h2], h⟩
  obtain ⟨h_text, h_list, h_ctx, h_roles, h_guard, h_meth, h_val, h_perm, h_expr, h_gate, h_ask, h_misc⟩ := h
  obtain ⟨n, hn, e1, e2, hk⟩ := h_text
  have h_text : S_text M := ⟨n, hn, e1, e2, hk⟩
  by_cases h3 : n < 48
  · have h4 : gI M 3 1 < 48 := by rw [e1]; exact (lt_lit (by omega) (by decide) (b := 48)).mpr h3
    have h5 : gI M 184 1 < 48 := by rw [e2]; exact (lt_lit (by omega) (by decide) (b := 48)).mpr h3
    refine ⟨1, mI (mI M 4 n c) 3 1 (nI (n + 1)), mI (mI (mI (mI M 4 n c) 3 1 (nI (n + 1))) 185 n c) 184 1 (nI (n + 1)), ?_, ?_, ?_⟩
    · unfold f_MW_type f_Text_append
      rw [if_neg h1, if_neg h2, if_pos h4, e1, gi_nI h3 (by decide), gc_pos (c_char h1 h2), kM_eq, kM_eq, bnd_eq, g2_1, nI_clamp (by omega), mIc (by decide), e1, nI_1]
    · unfold f_Mod_type
      rw [mIc (by decide), mIc (by decide), if_neg h1, if_neg h2, if_pos h5, e2, gi_nI h3 (by decide), kM_eq, kM_eq, nI_clamp (by omega), mIc (by decide), mIc (by decide), mIc (by decide), e2, nI_1]
    · refine ⟨?_, (S_list.cg (fun a k hf => by unfold F_list at hf; rw [gI_mI, if_neg (by omega), gI_mI, if_neg (by omega), gI_mI, if_neg (by omega), gI_mI, if_neg (by omega)]) h_list), (S_ctx.cg (fun a k hf => by unfold F_ctx at hf; rw [gI_mI, if_neg (by omega), gI_mI, if_neg (by omega), gI_mI, if_neg (by omega), gI_mI, if_neg (by omega)]) h_ctx), (S_roles.cg (fun a k hf => by unfold F_roles at hf; rw [gI_mI, if_neg (by omega), gI_mI, if_neg (by omega), gI_mI, if_neg (by omega), gI_mI, if_neg (by omega)]) h_roles), (S_guard.cg (fun a k hf => by unfold F_guard at hf; rw [gI_mI, if_neg (by omega), gI_mI, if_neg (by omega), gI_mI, if_neg (by omega), gI_mI, if_neg (by omega)]) h_guard), (S_meth.cg (fun a k hf => by unfold F_meth at hf; rw [gI_mI, if_neg (by omega), gI_mI, if_neg (by omega), gI_mI, if_neg (by omega), gI_mI, if_neg (by omega)]) h_meth), (S_val.cg (fun a k hf => by unfold F_val at hf; rw [gI_mI, if_neg (by omega), gI_mI, if_neg (by omega), gI_mI, if_neg (by omega), gI_mI, if_neg (by omega)]) h_val), (S_perm.cg (fun _ => rfl) rfl h_perm), (S_expr.cg h_perm (fun _ => rfl) rfl (fun a k hf => by unfold F_expr at hf; exact ⟨by rw [gI_mI, if_neg (by omega), gI_mI, if_neg (by omega), gI_mI, if_neg (by omega), gI_mI, if_neg (by omega)], rfl⟩) h_expr), (S_gate.cg (fun a k hf => by unfold F_gate at hf; rw [gI_mI, if_neg (by omega), gI_mI, if_neg (by omega), gI_mI, if_neg (by omega), gI_mI, if_neg (by omega)]) rfl h_gate), h_ask, (S_misc.cg (by rw [gI_mI, if_neg (by omega), gI_mI, if_neg (by omega), gI_mI, if_neg (by omega), gI_mI, if_neg (by omega)]) (by rw [gI_mI, if_neg (by omega), gI_mI, if_neg (by omega), gI_mI, if_neg (by omega), gI_mI, if_neg (by omega)]) rfl h_misc)⟩
      refine ⟨n + 1, by omega, ?_, ?_, fun k hk2 => ?_⟩
      · rw [mIc (by decide), mIc (by decide), mIs]
      · rw [mIs]
      · by_cases hkn : k = n
        · subst hkn
          rw [mIc (by decide), mIs, mIc (by decide), mIc (by decide), mIc (by decide), mIs]
          exact ⟨rfl, Int32.not_lt.mp h1, Int32.not_lt.mp h2⟩
        · rw [mIc (by decide), mIk hkn, mIc (by decide), mIc (by decide), mIc (by decide), mIc (by decide), mIc (by decide), mIk hkn]
          exact hk k (by omega)
  · have h4 : ¬ gI M 3 1 < 48 := by rw [e1]; exact fun q => h3 ((lt_lit (by omega) (by decide) (b := 48)).mp q)
    have h5 : ¬ gI M 184 1 < 48 := by rw [e2]; exact fun q => h3 ((lt_lit (by omega) (by decide) (b := 48)).mp q)
    exact ⟨0, M, M, by unfold f_MW_type f_Text_append; rw [if_neg h1, if_neg h2, if_neg h4]; rfl, by unfold f_Mod_type; rw [if_neg h1, if_neg h2, if_neg h5], h_text, h_list, h_ctx, h_roles, h_guard, h_meth, h_val, h_perm, h_expr, h_gate, h_ask, h_misc⟩
theorem sim_add {M : ax_M} (h : Sim M) (v : Int32) : ∃ r M1 M2, f_MW_add v M = some (r, M1) ∧ f_Mod_add v M1 = some (r, M2) ∧ Sim M2 := by
  obtain ⟨h_text, h_list, h_ctx, h_roles, h_guard, h_meth, h_val, h_perm, h_expr, h_gate, h_ask, h_misc⟩ := h
  obtain ⟨n, hn, e1, e2, hk⟩ := h_list
  have h_list : S_list M := ⟨n, hn, e1, e2, hk⟩
  by_cases h3 : n < 5
  · have h4 : gI M 66 1 < 5 := by rw [e1]; exact (lt_lit (by omega) (by decide) (b := 5)).mpr h3
    have h5 : gI M 184 16 < 5 := by rw [e2]; exact (lt_lit (by omega) (by decide) (b := 5)).mpr h3
    refine ⟨1, mI (mI M 67 n v) 66 1 (nI (n + 1)), mI (mI (mI (mI M 67 n v) 66 1 (nI (n + 1))) 192 n v) 184 16 (nI (n + 1)), ?_, ?_, ?_⟩
    · unfold f_MW_add f_Items_append
      rw [gk_pos (by decide), if_pos h4, e1, gi_nI h3 (by decide), kM_eq, kM_eq, bnd_eq, g2_1, nI_clamp (by omega), mIc (by decide), e1, nI_1]
    · unfold f_Mod_add
      rw [mIc (by decide), mIc (by decide), if_pos h5, e2, gi_nI h3 (by decide), kM_eq, kM_eq, nI_clamp (by omega), mIc (by decide), mIc (by decide), mIc (by decide), e2, nI_1]
    · refine ⟨(S_text.cg (fun a k hf => by unfold F_text at hf; rw [gI_mI, if_neg (by omega), gI_mI, if_neg (by omega), gI_mI, if_neg (by omega), gI_mI, if_neg (by omega)]) h_text), ?_, (S_ctx.cg (fun a k hf => by unfold F_ctx at hf; rw [gI_mI, if_neg (by omega), gI_mI, if_neg (by omega), gI_mI, if_neg (by omega), gI_mI, if_neg (by omega)]) h_ctx), (S_roles.cg (fun a k hf => by unfold F_roles at hf; rw [gI_mI, if_neg (by omega), gI_mI, if_neg (by omega), gI_mI, if_neg (by omega), gI_mI, if_neg (by omega)]) h_roles), (S_guard.cg (fun a k hf => by unfold F_guard at hf; rw [gI_mI, if_neg (by omega), gI_mI, if_neg (by omega), gI_mI, if_neg (by omega), gI_mI, if_neg (by omega)]) h_guard), (S_meth.cg (fun a k hf => by unfold F_meth at hf; rw [gI_mI, if_neg (by omega), gI_mI, if_neg (by omega), gI_mI, if_neg (by omega), gI_mI, if_neg (by omega)]) h_meth), (S_val.cg (fun a k hf => by unfold F_val at hf; rw [gI_mI, if_neg (by omega), gI_mI, if_neg (by omega), gI_mI, if_neg (by omega), gI_mI, if_neg (by omega)]) h_val), (S_perm.cg (fun _ => rfl) rfl h_perm), (S_expr.cg h_perm (fun _ => rfl) rfl (fun a k hf => by unfold F_expr at hf; exact ⟨by rw [gI_mI, if_neg (by omega), gI_mI, if_neg (by omega), gI_mI, if_neg (by omega), gI_mI, if_neg (by omega)], rfl⟩) h_expr), (S_gate.cg (fun a k hf => by unfold F_gate at hf; rw [gI_mI, if_neg (by omega), gI_mI, if_neg (by omega), gI_mI, if_neg (by omega), gI_mI, if_neg (by omega)]) rfl h_gate), h_ask, (S_misc.cg (by rw [gI_mI, if_neg (by omega), gI_mI, if_neg (by omega), gI_mI, if_neg (by omega), gI_mI, if_neg (by omega)]) (by rw [gI_mI, if_neg (by omega), gI_mI, if_neg (by omega), gI_mI, if_neg (by omega), gI_mI, if_neg (by omega)]) rfl h_misc)⟩
      refine ⟨n + 1, by omega, ?_, ?_, fun k hk2 => ?_⟩
      · rw [mIc (by decide), mIc (by decide), mIs]
      · rw [mIs]
      · by_cases hkn : k = n
        · subst hkn
          rw [mIc (by decide), mIs, mIc (by decide), mIc (by decide), mIc (by decide), mIs]
        · rw [mIc (by decide), mIk hkn, mIc (by decide), mIc (by decide), mIc (by decide), mIc (by decide), mIc (by decide), mIk hkn]
          exact hk k (by omega)
  · have h4 : ¬ gI M 66 1 < 5 := by rw [e1]; exact fun q => h3 ((lt_lit (by omega) (by decide) (b := 5)).mp q)
    have h5 : ¬ gI M 184 16 < 5 := by rw [e2]; exact fun q => h3 ((lt_lit (by omega) (by decide) (b := 5)).mp q)
    exact ⟨0, M, M, by unfold f_MW_add f_Items_append; rw [gk_pos (by decide), if_neg h4]; rfl, by unfold f_Mod_add; rw [if_neg h5], h_text, h_list, h_ctx, h_roles, h_guard, h_meth, h_val, h_perm, h_expr, h_gate, h_ask, h_misc⟩
theorem sim_empty {M : ax_M} (h : Sim M) : ∃ M1 M2, f_MW_empty M = some ((), M1) ∧ f_Mod_empty M1 = some ((), M2) ∧ Sim M2 := by
  obtain ⟨h_text, h_list, h_ctx, h_roles, h_guard, h_meth, h_val, h_perm, h_expr, h_gate, h_ask, h_misc⟩ := h
  refine ⟨mI M 66 1 0, mI (mI M 66 1 0) 184 16 0, ?_, ?_, ?_⟩
  · unfold f_MW_empty f_Items_clear
    rw [gk_pos (by decide)]
    rfl
  · unfold f_Mod_empty
    rfl
  · refine ⟨(S_text.cg (fun a k hf => by unfold F_text at hf; rw [gI_mI, if_neg (by omega), gI_mI, if_neg (by omega)]) h_text), ?_, (S_ctx.cg (fun a k hf => by unfold F_ctx at hf; rw [gI_mI, if_neg (by omega), gI_mI, if_neg (by omega)]) h_ctx), (S_roles.cg (fun a k hf => by unfold F_roles at hf; rw [gI_mI, if_neg (by omega), gI_mI, if_neg (by omega)]) h_roles), (S_guard.cg (fun a k hf => by unfold F_guard at hf; rw [gI_mI, if_neg (by omega), gI_mI, if_neg (by omega)]) h_guard), (S_meth.cg (fun a k hf => by unfold F_meth at hf; rw [gI_mI, if_neg (by omega), gI_mI, if_neg (by omega)]) h_meth), (S_val.cg (fun a k hf => by unfold F_val at hf; rw [gI_mI, if_neg (by omega), gI_mI, if_neg (by omega)]) h_val), (S_perm.cg (fun _ => rfl) rfl h_perm), (S_expr.cg h_perm (fun _ => rfl) rfl (fun a k hf => by unfold F_expr at hf; exact ⟨by rw [gI_mI, if_neg (by omega), gI_mI, if_neg (by omega)], rfl⟩) h_expr), (S_gate.cg (fun a k hf => by unfold F_gate at hf; rw [gI_mI, if_neg (by omega), gI_mI, if_neg (by omega)]) rfl h_gate), h_ask, (S_misc.cg (by rw [gI_mI, if_neg (by omega), gI_mI, if_neg (by omega)]) (by rw [gI_mI, if_neg (by omega), gI_mI, if_neg (by omega)]) rfl h_misc)⟩
    exact ⟨0, by omega, by rw [mIc (by decide), mIs]; rfl, by rw [mIs]; rfl, fun k hk => absurd hk (by omega)⟩
theorem i_m1 : (-1 : Int32).toInt = -1 := by decide
theorem i_0 : (0 : Int32).toInt = 0 := by decide
theorem i_5 : (5 : Int32).toInt = 5 := by decide
theorem i_6 : (6 : Int32).toInt = 6 := by decide
theorem i_7 : (7 : Int32).toInt = 7 := by decide
theorem i_8 : (8 : Int32).toInt = 8 := by decide
theorem i_9 : (9 : Int32).toInt = 9 := by decide
theorem i_10 : (10 : Int32).toInt = 10 := by decide
theorem i_999 : (999 : Int32).toInt = 999 := by decide
theorem i_65535 : (65535 : Int32).toInt = 65535 := by decide
theorem i_ne {a b : Int32} (h : ¬ a = b) : a.toInt ≠ b.toInt := fun e => h (Int32.toInt_inj.mp e)
theorem sim_login {M : ax_M} (h : Sim M) (u s : Int32) : ∃ r M1 M2, f_MW_login u s M = some (r, M1) ∧ f_Mod_login u s M1 = some (r, M2) ∧ Sim M2 := by
  obtain ⟨h_text, h_list, h_ctx, h_roles, h_guard, h_meth, h_val, h_perm, h_expr, h_gate, h_ask, h_misc⟩ := h
  by_cases h1 : u = -1
  · subst h1
    refine ⟨1, mI (mI M 63 2 (-1)) 63 3 0, mI (mI (mI (mI M 63 2 (-1)) 63 3 0) 184 13 (-1)) 184 14 0, ?_, ?_, ?_⟩
    · unfold f_MW_login f_Ctx_leave f_Ctx_become
      rw [if_pos rfl]
      rfl
    · unfold f_Mod_login f_Mod_login_28
      rw [if_neg (by decide), if_neg (by decide), if_pos (by decide), kM_eq, if_neg (by decide), kM_eq]
    · refine ⟨(S_text.cg (fun a k hf => by unfold F_text at hf; rw [gI_mI, if_neg (by omega), gI_mI, if_neg (by omega), gI_mI, if_neg (by omega), gI_mI, if_neg (by omega)]) h_text), (S_list.cg (fun a k hf => by unfold F_list at hf; rw [gI_mI, if_neg (by omega), gI_mI, if_neg (by omega), gI_mI, if_neg (by omega), gI_mI, if_neg (by omega)]) h_list), ?_, (S_roles.cg (fun a k hf => by unfold F_roles at hf; rw [gI_mI, if_neg (by omega), gI_mI, if_neg (by omega), gI_mI, if_neg (by omega), gI_mI, if_neg (by omega)]) h_roles), (S_guard.cg (fun a k hf => by unfold F_guard at hf; rw [gI_mI, if_neg (by omega), gI_mI, if_neg (by omega), gI_mI, if_neg (by omega), gI_mI, if_neg (by omega)]) h_guard), (S_meth.cg (fun a k hf => by unfold F_meth at hf; rw [gI_mI, if_neg (by omega), gI_mI, if_neg (by omega), gI_mI, if_neg (by omega), gI_mI, if_neg (by omega)]) h_meth), (S_val.cg (fun a k hf => by unfold F_val at hf; rw [gI_mI, if_neg (by omega), gI_mI, if_neg (by omega), gI_mI, if_neg (by omega), gI_mI, if_neg (by omega)]) h_val), (S_perm.cg (fun _ => rfl) rfl h_perm), (S_expr.cg h_perm (fun _ => rfl) rfl (fun a k hf => by unfold F_expr at hf; exact ⟨by rw [gI_mI, if_neg (by omega), gI_mI, if_neg (by omega), gI_mI, if_neg (by omega), gI_mI, if_neg (by omega)], rfl⟩) h_expr), (S_gate.cg (fun a k hf => by unfold F_gate at hf; rw [gI_mI, if_neg (by omega), gI_mI, if_neg (by omega), gI_mI, if_neg (by omega), gI_mI, if_neg (by omega)]) rfl h_gate), h_ask, (S_misc.cg (by rw [gI_mI, if_neg (by omega), gI_mI, if_neg (by omega), gI_mI, if_neg (by omega), gI_mI, if_neg (by omega)]) (by rw [gI_mI, if_neg (by omega), gI_mI, if_neg (by omega), gI_mI, if_neg (by omega), gI_mI, if_neg (by omega)]) rfl h_misc)⟩
      unfold S_ctx
      rw [mIk (by decide), mIs, mIs, mIc (by decide), mIc (by decide), mIk (by decide), mIs, mIc (by decide), mIc (by decide), mIs]
      decide
  by_cases h2 : u < 0
  · have h3 : u < -1 := by
      have h4 := i_ne h1
      rw [Int32.lt_iff_toInt_lt] at h2 ⊢
      rw [i_m1] at h4 ⊢
      rw [i_0] at h2
      omega
    exact ⟨0, M, M, by unfold f_MW_login f_MW_isUser; rw [if_neg h1, if_pos h2]; rfl, by unfold f_Mod_login; rw [if_pos h3], ⟨h_text, h_list, h_ctx, h_roles, h_guard, h_meth, h_val, h_perm, h_expr, h_gate, h_ask, h_misc⟩⟩
  have h3 : ¬ u < -1 := by
    rw [Int32.lt_iff_toInt_lt] at h2 ⊢
    rw [i_m1]
    rw [i_0] at h2
    omega
  by_cases h4 : 999 < u
  · exact ⟨0, M, M, by unfold f_MW_login f_MW_isUser; rw [if_neg h1, if_neg h2, if_pos h4]; rfl, by unfold f_Mod_login; rw [if_neg h3, if_pos h4], ⟨h_text, h_list, h_ctx, h_roles, h_guard, h_meth, h_val, h_perm, h_expr, h_gate, h_ask, h_misc⟩⟩
  by_cases h5 : s < 0
  · exact ⟨0, M, M, by unfold f_MW_login f_MW_isUser f_MW_isRoleSet; rw [if_neg h1, if_neg h2, if_neg h4, bnd_eq, if_neg (by decide), if_pos h5]; rfl, by unfold f_Mod_login; rw [if_neg h3, if_neg h4, if_neg h2, if_pos h5], ⟨h_text, h_list, h_ctx, h_roles, h_guard, h_meth, h_val, h_perm, h_expr, h_gate, h_ask, h_misc⟩⟩
  by_cases h6 : 65535 < s
  · exact ⟨0, M, M, by unfold f_MW_login f_MW_isUser f_MW_isRoleSet; rw [if_neg h1, if_neg h2, if_neg h4, bnd_eq, if_neg (by decide), if_neg h5, if_pos h6]; rfl, by unfold f_Mod_login; rw [if_neg h3, if_neg h4, if_neg h2, if_neg h5, if_neg (Int32.not_le.mpr h6)], ⟨h_text, h_list, h_ctx, h_roles, h_guard, h_meth, h_val, h_perm, h_expr, h_gate, h_ask, h_misc⟩⟩
  have h7 : 0 ≤ u := Int32.not_lt.mp h2
  refine ⟨1, mI (mI M 63 2 u) 63 3 s, mI (mI (mI (mI M 63 2 u) 63 3 s) 184 13 u) 184 14 s, ?_, ?_, ?_⟩
  · unfold f_MW_login f_MW_isUser f_MW_isRoleSet f_Ctx_become
    rw [if_neg h1, if_neg h2, if_neg h4, bnd_eq, if_neg (by decide), if_neg h5, if_neg h6, bnd_eq, if_neg (by decide)]
    rfl
  · unfold f_Mod_login f_Mod_login_28
    rw [if_neg h3, if_neg h4, if_neg h2, if_neg h5, if_pos (Int32.not_lt.mp h6), kM_eq, if_pos h7, kM_eq]
  · refine ⟨(S_text.cg (fun a k hf => by unfold F_text at hf; rw [gI_mI, if_neg (by omega), gI_mI, if_neg (by omega), gI_mI, if_neg (by omega), gI_mI, if_neg (by omega)]) h_text), (S_list.cg (fun a k hf => by unfold F_list at hf; rw [gI_mI, if_neg (by omega), gI_mI, if_neg (by omega), gI_mI, if_neg (by omega), gI_mI, if_neg (by omega)]) h_list), ?_, (S_roles.cg (fun a k hf => by unfold F_roles at hf; rw [gI_mI, if_neg (by omega), gI_mI, if_neg (by omega), gI_mI, if_neg (by omega), gI_mI, if_neg (by omega)]) h_roles), (S_guard.cg (fun a k hf => by unfold F_guard at hf; rw [gI_mI, if_neg (by omega), gI_mI, if_neg (by omega), gI_mI, if_neg (by omega), gI_mI, if_neg (by omega)]) h_guard), (S_meth.cg (fun a k hf => by unfold F_meth at hf; rw [gI_mI, if_neg (by omega), gI_mI, if_neg (by omega), gI_mI, if_neg (by omega), gI_mI, if_neg (by omega)]) h_meth), (S_val.cg (fun a k hf => by unfold F_val at hf; rw [gI_mI, if_neg (by omega), gI_mI, if_neg (by omega), gI_mI, if_neg (by omega), gI_mI, if_neg (by omega)]) h_val), (S_perm.cg (fun _ => rfl) rfl h_perm), (S_expr.cg h_perm (fun _ => rfl) rfl (fun a k hf => by unfold F_expr at hf; exact ⟨by rw [gI_mI, if_neg (by omega), gI_mI, if_neg (by omega), gI_mI, if_neg (by omega), gI_mI, if_neg (by omega)], rfl⟩) h_expr), (S_gate.cg (fun a k hf => by unfold F_gate at hf; rw [gI_mI, if_neg (by omega), gI_mI, if_neg (by omega), gI_mI, if_neg (by omega), gI_mI, if_neg (by omega)]) rfl h_gate), h_ask, (S_misc.cg (by rw [gI_mI, if_neg (by omega), gI_mI, if_neg (by omega), gI_mI, if_neg (by omega), gI_mI, if_neg (by omega)]) (by rw [gI_mI, if_neg (by omega), gI_mI, if_neg (by omega), gI_mI, if_neg (by omega), gI_mI, if_neg (by omega)]) rfl h_misc)⟩
    unfold S_ctx
    rw [mIk (by decide), mIs, mIs, mIc (by decide), mIc (by decide), mIk (by decide), mIs, mIc (by decide), mIc (by decide), mIs]
    refine ⟨rfl, rfl, ?_, Int32.not_lt.mp h4, Int32.not_lt.mp h5, Int32.not_lt.mp h6, fun q => absurd q h1⟩
    rw [Int32.le_iff_toInt_le] at h7 ⊢
    rw [i_0] at h7
    rw [i_m1]
    omega
theorem sim_kind {M : ax_M} (h : Sim M) : ∃ r, f_MW_kind M = some (r, M) ∧ f_Mod_kind M = some (r, M) := by
  have h_gate := h.2.2.2.2.2.2.2.2.2.1
  refine ⟨kindC M, ?_, by unfold f_Mod_kind; rw [h_gate.1]⟩
  unfold f_MW_kind f_Gate_latestKind f_Val_isNothing f_Val_isList kindC
  by_cases h1 : gI M 135 9 = 0
  · rw [if_pos h1, if_pos h1, gk_pos (by decide)]
    by_cases h2 : gI M 139 0 = 0
    · rw [if_pos h2, if_pos h2]
      rfl
    · rw [if_neg h2, if_neg h2, bnd_eq, if_pos rfl, gk_pos (by decide)]
      by_cases h3 : gI M 139 0 = 4
      · rw [if_pos h3, if_pos h3]
        rfl
      · rw [if_neg h3, if_neg h3]
        rfl
  · rw [if_neg h1, if_neg h1]
    rfl
theorem i64_32 (x : Int32) : x.toInt64.toInt32 = x := Int32.toInt32_toInt64 x
theorem sim_number {M : ax_M} (h : Sim M) : ∃ r, f_MW_number M = some (r, M) ∧ f_Mod_number M = some (r, M) := by
  have h_gate := h.2.2.2.2.2.2.2.2.2.1
  refine ⟨numC M, ?_, by unfold f_Mod_number; rw [h_gate.2.1]⟩
  unfold f_MW_number f_Gate_latestNumber f_Val_asLong numC
  by_cases h1 : gI M 135 9 = 1
  · rw [if_pos h1, if_pos h1]
    rfl
  · rw [if_neg h1, if_neg h1]
    by_cases h2 : gI M 135 9 = 0
    · rw [if_pos h2, if_pos h2, gk_pos (by decide)]
      by_cases h3 : gI M 139 0 = 4
      · rw [if_pos h3, if_pos h3, bnd_eq, i64_32]
        rfl
      · rw [if_neg h3, if_neg h3]
        rfl
    · rw [if_neg h2, if_neg h2]
      rfl
theorem sim_asked {M : ax_M} (h : Sim M) : ∃ r, f_MW_asked M = some (r, M) ∧ f_Mod_asked M = some (r, M) := by
  have h_ask := h.2.2.2.2.2.2.2.2.2.2.1
  exact ⟨gJ M 2 8, rfl, by unfold f_Mod_asked; rw [h_ask]⟩
theorem kind2 {M : ax_M} : kindC M = 2 ↔ gI M 135 9 = 0 ∧ gI M 139 0 = 4 := by
  unfold kindC
  by_cases h1 : gI M 135 9 = 0
  · rw [if_pos h1]
    by_cases h2 : gI M 139 0 = 0
    · rw [if_pos h2]
      exact ⟨fun q => absurd q (by decide), fun q => absurd (h2.symm.trans q.2) (by decide)⟩
    · rw [if_neg h2]
      by_cases h3 : gI M 139 0 = 4
      · rw [if_pos h3]
        exact ⟨fun _ => ⟨h1, h3⟩, fun _ => rfl⟩
      · rw [if_neg h3]
        exact ⟨fun q => absurd q (by decide), fun q => absurd q.2 h3⟩
  · rw [if_neg h1]
    exact ⟨fun q => absurd q (by decide), fun q => absurd q.1 h1⟩
theorem sim_itemAt {M : ax_M} (h : Sim M) (x : Int32) : ∃ r, f_MW_itemAt x M = some (r, M) ∧ f_Mod_itemAt x M = some (r, M) := by
  have h_gate := h.2.2.2.2.2.2.2.2.2.1
  by_cases h1 : kindC M = 2
  · obtain ⟨h2, h3⟩ := kind2.mp h1
    obtain ⟨n, hn, e1, hk⟩ := h_gate.2.2 h1
    have e2 : gI M 184 58 = nI n := by
      rw [h_gate.2.1]
      unfold numC
      rw [if_neg (by rw [h2]; decide), if_pos h2, if_pos h3, e1]
    have e3 : gI M 184 57 = 2 := h_gate.1.trans h1
    unfold f_MW_itemAt f_Gate_latestItem f_Val_isList f_Items_get f_Mod_itemAt
    rw [if_pos h2, gk_pos (by decide), if_pos h3, bnd_eq, if_neg (by decide), if_pos e3, e1, e2, gk_pos (by decide)]
    rcases pk_ix x (n := n) (by omega) with h4 | h4 | ⟨j, hj, rfl⟩
    · rw [if_pos h4, if_pos h4]
      exact ⟨0, rfl, rfl⟩
    · by_cases h5 : x < 0
      · rw [if_pos h5, if_pos h5]
        exact ⟨0, rfl, rfl⟩
      · rw [if_neg h5, if_neg h5, if_pos h4, if_pos h4]
        exact ⟨0, rfl, rfl⟩
    · have h5 : ¬ nI j < 0 := nI_pos (by omega)
      have h6 : ¬ nI n ≤ nI j := nI_ge hj (by omega)
      rw [if_neg h5, if_neg h5, if_neg h6, if_neg h6, gi_nI (by omega) (by decide), gi_nI (by omega) (by decide), nI_clamp (by omega), hk j hj]
      exact ⟨_, rfl, rfl⟩
  · have e3 : ¬ gI M 184 57 = 2 := by rw [h_gate.1]; exact h1
    refine ⟨0, ?_, by unfold f_Mod_itemAt; rw [if_neg e3]⟩
    unfold f_MW_itemAt f_Gate_latestItem f_Val_isList
    by_cases h2 : gI M 135 9 = 0
    · have h3 : ¬ gI M 139 0 = 4 := fun q => h1 (kind2.mpr ⟨h2, q⟩)
      rw [if_pos h2, gk_pos (by decide), if_neg h3]
      rfl
    · rw [if_neg h2]
      rfl
theorem sim_count {M : ax_M} (h : Sim M) (x e : Int32) : ∃ r, f_MW_count x e M = some (r, M) ∧ f_Mod_count x e M = some (r, M) := by
  have h_meth := h.2.2.2.2.2.1
  unfold f_MW_count f_MW_isMethod f_Mod_count
  rcases pk_ix x (n := 8) (by decide) with h1 | h1 | ⟨i, hi, rfl⟩
  · rw [if_pos h1, if_pos h1]
    exact ⟨0, rfl, rfl⟩
  · have h2 : ¬ x < 0 := fun q => absurd (Int32.lt_of_le_of_lt h1 q) (by decide)
    have h3 : 7 < x := Int32.lt_of_lt_of_le (by decide) h1
    have h1 : (8 : Int32) ≤ x := h1
    rw [if_neg h2, if_neg h2, if_pos h1, if_pos h3]
    exact ⟨0, rfl, rfl⟩
  · have h2 : ¬ nI i < 0 := nI_pos (by omega)
    have h3 : ¬ (8 : Int32) ≤ nI i := nI_ge (b := 8) hi (by decide)
    have h4 : ¬ (7 : Int32) < nI i := nI_nlt (a := 7) (b := i) (by omega) (by decide)
    rw [if_neg h2, if_neg h2, if_neg h3, if_neg h4, bnd_eq, if_neg (by decide), gi_nI hi (by decide), kM_eq, nI_clamp (by omega)]
    unfold f_Meth_timesOf
    rcases pk_ix e (n := 6) (by decide) with h5 | h5 | ⟨j, hj, rfl⟩
    · rw [if_pos h5, if_pos h5]
      exact ⟨0, rfl, rfl⟩
    · have h6 : ¬ e < 0 := fun q => absurd (Int32.lt_of_le_of_lt h5 q) (by decide)
      have h7 : ¬ e ≤ 5 := fun q => absurd (Int32.le_trans h5 q) (by decide)
      have h5 : (6 : Int32) ≤ e := h5
      rw [if_neg h6, if_neg h6, if_pos h5, if_neg h7]
      exact ⟨0, rfl, rfl⟩
    · have h6 : ¬ nI j < 0 := nI_pos (by omega)
      have h7 : ¬ (6 : Int32) ≤ nI j := nI_ge (b := 6) hj (by decide)
      have h8 : nI j ≤ 5 := nI_le (b := 5) (by omega) (by decide)
      have h9 : (6 : Int32) * nI i + nI j = nI (6 * i + j) := by
        rw [show (6 : Int32) = nI 6 from rfl, pk_mul, nI_add]
      rw [if_neg h6, if_neg h6, if_neg h7, if_pos h8, gk_pos (la_106 i hi), gi_nI hj (by decide), h9, gi_nI (by omega) (by decide), nI_clamp (by omega), nI_clamp (by omega), (h_meth i hi).2 j hj]
      exact ⟨_, rfl, by rw [show 142 + 2 * i + 1 = 143 + 2 * i by omega]⟩
