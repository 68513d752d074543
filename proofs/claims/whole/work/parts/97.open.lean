/-! OPEN: what is still wanting of the calls -/
theorem sim_define {M : ax_M} (h : Sim M) (s : Int32) : ∃ r M1 M2, f_MW_define s M = some (r, M1) ∧ f_Mod_define s M1 = some (r, M2) ∧ Sim M2 := sorry
theorem sim_call {M : ax_M} (h : Sim M) (m a : Int32) (b : Int64) : ∃ r M1 M2, f_MW_call m a b M = some (r, M1) ∧ f_Mod_call m a b M1 = some (r, M2) ∧ Sim M2 := sorry
theorem sim_ask {M : ax_M} (h : Sim M) (s a : Int32) (b : Int64) : ∃ r M1 M2, f_MW_ask s a b M = some (r, M1) ∧ f_Mod_ask s a b M1 = some (r, M2) ∧ Sim M2 := sorry
