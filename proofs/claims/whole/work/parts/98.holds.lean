/-! The law's loop out of the calls. Printed by mk54.py. -/
theorem lg_same (x : Int64) : lg_cmp x x = 0 := by
  unfold lg_cmp
  rw [if_neg (Int64.lt_irrefl), if_pos rfl]
theorem lp_668 (L : Nat) (xs : Nat → Int32) (K : Int32 → ax_M → Option (Int32 × ax_M)) (i : Nat) (M : ax_M) : f_Law_law_668 L xs K (nI i) M = K (nI (i + 5)) M := by
  unfold f_Law_law_668
  rw [kM_eq]
  congr 1
  exact nI_add i 5
theorem lp_step {L : Nat} {xs : Nat → Int32} (hL : L ≤ 2560) (K : Int32 → ax_M → Option (Int32 × ax_M)) {i : Nat} (hi : i + 5 ≤ L) {M : ax_M} (h : Sim M) (hK : ∀ M2, Sim M2 → ∃ M', K (nI (i + 5)) M2 = some (1, M')) : ∃ M', f_Law_law_18_b L xs K (nI i) M = some (1, M') := by
  have e1 : nI i + 1 = nI (i + 1) := nI_add i 1
  have e2 : nI i + 2 = nI (i + 2) := nI_add i 2
  have e3 : nI i + 3 = nI (i + 3) := nI_add i 3
  have e4 : nI i + 4 = nI (i + 4) := nI_add i 4
  have k0 : ∀ x : Option (Int32 × ax_M), gi (nI i) L x = x := fun x => gi_nI (by omega) (by omega)
  have k1 : ∀ x : Option (Int32 × ax_M), gi (nI (i + 1)) L x = x := fun x => gi_nI (by omega) (by omega)
  have k2 : ∀ x : Option (Int32 × ax_M), gi (nI (i + 2)) L x = x := fun x => gi_nI (by omega) (by omega)
  have k3 : ∀ x : Option (Int32 × ax_M), gi (nI (i + 3)) L x = x := fun x => gi_nI (by omega) (by omega)
  have k4 : ∀ x : Option (Int32 × ax_M), gi (nI (i + 4)) L x = x := fun x => gi_nI (by omega) (by omega)
  have hc : ¬ (Int32.ofNat L - 5 < nI i) := by
    intro q
    rw [Int32.lt_iff_toInt_lt] at q
    have q1 : (Int32.ofNat L - 5).toInt = (L : Int) - 5 := pk_sub_toInt (a := L) (b := 5) (by omega) (by decide)
    rw [q1, nI_toInt (by omega)] at q
    omega
  unfold f_Law_law_18_b
  simp only [e1, e2, e3, e4, k0, k1, k2, k3, k4, kM_eq, lp_668]
  rw [if_neg hc]
  generalize xs (nI i).toNatClampNeg &&& 31 = x0
  generalize xs (nI (i + 1)).toNatClampNeg = x1
  generalize xs (nI (i + 2)).toNatClampNeg = x2
  generalize xs (nI (i + 3)).toNatClampNeg = x3
  generalize xs (nI (i + 4)).toNatClampNeg = x4
  by_cases h0 : x0 = 0
  · obtain ⟨r, M1, M2, a1, a2, a3⟩ := sim_type h _
    obtain ⟨M', hM⟩ := hK M2 a3
    exact ⟨M', by rw [if_pos h0, a1, bnd_eq, a2, bnd_eq, if_pos rfl]; exact hM⟩
  rw [if_neg h0]
  by_cases h1 : x0 = 1
  · obtain ⟨r, M1, M2, a1, a2, a3⟩ := sim_define h x1
    obtain ⟨M', hM⟩ := hK M2 a3
    exact ⟨M', by rw [if_pos h1, a1, bnd_eq, a2, bnd_eq, if_pos rfl]; exact hM⟩
  rw [if_neg h1]
  by_cases h2 : x0 = 2
  · obtain ⟨r, M1, M2, a1, a2, a3⟩ := sim_senior h x1 x2
    obtain ⟨M', hM⟩ := hK M2 a3
    exact ⟨M', by rw [if_pos h2, a1, bnd_eq, a2, bnd_eq, if_pos rfl]; exact hM⟩
  rw [if_neg h2]
  by_cases h3 : x0 = 3
  · obtain ⟨r, M1, M2, a1, a2, a3⟩ := sim_login h x1 x2
    obtain ⟨M', hM⟩ := hK M2 a3
    exact ⟨M', by rw [if_pos h3, a1, bnd_eq, a2, bnd_eq, if_pos rfl]; exact hM⟩
  rw [if_neg h3]
  by_cases h4 : x0 = 4
  · obtain ⟨r, a1, a2⟩ := sim_context h 
    obtain ⟨M', hM⟩ := hK M h
    exact ⟨M', by rw [if_pos h4, a1, bnd_eq, a2, bnd_eq, if_pos rfl]; exact hM⟩
  rw [if_neg h4]
  by_cases h5 : x0 = 5
  · obtain ⟨r, M1, M2, a1, a2, a3⟩ := sim_add h x1
    obtain ⟨M', hM⟩ := hK M2 a3
    exact ⟨M', by rw [if_pos h5, a1, bnd_eq, a2, bnd_eq, if_pos rfl]; exact hM⟩
  rw [if_neg h5]
  by_cases h6 : x0 = 6
  · obtain ⟨M1, M2, a1, a2, a3⟩ := sim_empty h
    obtain ⟨M', hM⟩ := hK M2 a3
    exact ⟨M', by rw [if_pos h6, a1, bnd_eq, a2, bnd_eq]; exact hM⟩
  rw [if_neg h6]
  by_cases h7 : x0 = 7
  · obtain ⟨r, M1, M2, a1, a2, a3⟩ := sim_guard h x1 x2 x3
    obtain ⟨M', hM⟩ := hK M2 a3
    exact ⟨M', by rw [if_pos h7, a1, bnd_eq, a2, bnd_eq, if_pos rfl]; exact hM⟩
  rw [if_neg h7]
  by_cases h8 : x0 = 8
  · obtain ⟨r, M1, M2, a1, a2, a3⟩ := sim_rules h x1 x2 x3 x4
    obtain ⟨M', hM⟩ := hK M2 a3
    exact ⟨M', by rw [if_pos h8, a1, bnd_eq, a2, bnd_eq, if_pos rfl]; exact hM⟩
  rw [if_neg h8]
  by_cases h9 : x0 = 9
  · obtain ⟨r, M1, M2, a1, a2, a3⟩ := sim_target h x1 x2 x3 x4
    obtain ⟨M', hM⟩ := hK M2 a3
    exact ⟨M', by rw [if_pos h9, a1, bnd_eq, a2, bnd_eq, if_pos rfl]; exact hM⟩
  rw [if_neg h9]
  by_cases h10 : x0 = 10
  · obtain ⟨r, M1, M2, a1, a2, a3⟩ := sim_call h x1 x2 _
    obtain ⟨M', hM⟩ := hK M2 a3
    exact ⟨M', by rw [if_pos h10, a1, bnd_eq, a2, bnd_eq, if_pos rfl]; exact hM⟩
  rw [if_neg h10]
  by_cases h11 : x0 = 11
  · obtain ⟨r, a1, a2⟩ := sim_kind h 
    obtain ⟨M', hM⟩ := hK M h
    exact ⟨M', by rw [if_pos h11, a1, bnd_eq, a2, bnd_eq, if_pos rfl]; exact hM⟩
  rw [if_neg h11]
  by_cases h12 : x0 = 12
  · obtain ⟨r, a1, a2⟩ := sim_number h 
    obtain ⟨M', hM⟩ := hK M h
    exact ⟨M', by rw [if_pos h12, a1, bnd_eq, a2, bnd_eq, if_pos rfl]; exact hM⟩
  rw [if_neg h12]
  by_cases h13 : x0 = 13
  · obtain ⟨r, a1, a2⟩ := sim_itemAt h x1
    obtain ⟨M', hM⟩ := hK M h
    exact ⟨M', by rw [if_pos h13, a1, bnd_eq, a2, bnd_eq, if_pos rfl]; exact hM⟩
  rw [if_neg h13]
  by_cases h14 : x0 = 14
  · obtain ⟨r, a1, a2⟩ := sim_count h x1 x2
    obtain ⟨M', hM⟩ := hK M h
    exact ⟨M', by rw [if_pos h14, a1, bnd_eq, a2, bnd_eq, if_pos rfl]; exact hM⟩
  rw [if_neg h14]
  by_cases h15 : x0 = 15
  · obtain ⟨r, M1, M2, a1, a2, a3⟩ := sim_ask h x1 x2 _
    obtain ⟨M', hM⟩ := hK M2 a3
    exact ⟨M', by rw [if_pos h15, a1, bnd_eq, a2, bnd_eq, if_pos rfl]; exact hM⟩
  rw [if_neg h15]
  by_cases h16 : x0 = 16
  · obtain ⟨r, a1, a2⟩ := sim_asked h 
    obtain ⟨M', hM⟩ := hK M h
    exact ⟨M', by rw [if_pos h16, a1, bnd_eq, a2, bnd_eq, lg_same, if_pos rfl]; exact hM⟩
  rw [if_neg h16]
  exact hK M h
theorem lp_all {L : Nat} {xs : Nat → Int32} (hL : L ≤ 2560) : ∀ (f i : Nat) (M : ax_M), Sim M → i ≤ L → L + 5 ≤ i + 5 * f → ∃ M', f_Law_law_18 L xs f (nI i) M = some (1, M')
  | 0, i, M, _, h1, h2 => absurd h2 (by omega)
  | f + 1, i, M, h, h1, h2 => by
    by_cases hi : i + 5 ≤ L
    · exact lp_step hL (f_Law_law_18 L xs f) hi h (fun M2 h3 => lp_all hL f (i + 5) M2 h3 hi (by omega))
    · refine ⟨M, ?_⟩
      show f_Law_law_18_b L xs (f_Law_law_18 L xs f) (nI i) M = _
      unfold f_Law_law_18_b
      rw [if_pos ?_]
      rw [Int32.lt_iff_toInt_lt]
      have q1 : (Int32.ofNat L - 5).toInt = (L : Int) - 5 := pk_sub_toInt (a := L) (b := 5) (by omega) (by decide)
      rw [q1, nI_toInt (by omega)]
      omega
theorem law_holds (L : Nat) (xs : Nat → Int32) (hL : L ≤ 2560) (M2 : ax_M) (h2 : Init M2) : ∃ M', f_Law_law L xs M2 = some (1, M') := lp_all hL 600 0 M2 (init_sim h2) (by omega) (by omega)
