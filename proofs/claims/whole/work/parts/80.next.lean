/-! The next item, or the end. -/
theorem again_on {M : ax_M} {d j : Nat} (hd : d < 16) {l kept : List Int32} {l1 l3 l4 l8 s8 s9 : Int32} (hl : l.length ≤ 5) (hj : j < l.length) (L : LoopM M d l kept (nI j) s8 s9) : f_Mod_again_197 l1 l3 l4 (nI d) 0 l8 0 M = some (l3 + 1, mI M 184 39 (l.getD j 0)) := by
  obtain ⟨a1, a2, a3, a4, a5, a6, a7⟩ := L
  unfold f_Mod_again_197
  rw [if_pos (show (0 : Int32) = 0 from rfl), if_pos (show (0 : Int32) = 0 from rfl), gi_nI hd (by decide), nI_clamp (by omega), a3, a2, if_neg (nI_pos (by omega)), if_neg (nI_ge hj (by omega)), i5 (by omega) (by omega), gi_nI (by omega) (by decide), nI_clamp (by omega), a1 j hj, kM_eq]
theorem again_off {M : ax_M} {d : Nat} (hd : d < 16) {l kept : List Int32} {pos l1 l3 l4 l6 l8 s0 s8 s9 : Int32} (L : LoopM M d l kept pos s8 s9) (h : ¬ l6 = 0 ∨ ¬ s0 = 0 ∨ pos < 0 ∨ nI l.length ≤ pos) : f_Mod_again_197 l1 l3 l4 (nI d) l6 l8 s0 M = f_Mod_again_261 l1 l4 (nI d) l6 l8 s0 M := by
  obtain ⟨a1, a2, a3, a4, a5, a6, a7⟩ := L
  unfold f_Mod_again_197
  by_cases q6 : l6 = 0
  · rw [if_pos q6]
    by_cases q0 : s0 = 0
    · rw [if_pos q0, gi_nI hd (by decide), nI_clamp (by omega), a3, a2]
      by_cases p : pos < 0
      · rw [if_pos p]
      · rw [if_neg p, if_pos (((h.resolve_left (fun z => z q6)).resolve_left (fun z => z q0)).resolve_left p)]
    · rw [if_neg q0]
  · rw [if_neg q6]
