/-! The reference's operators of two values. -/
theorem nI_m2 (h : Nat) : nI (h + 2) - 2 = nI h := by
  show nI (h + 2) - nI 2 = _
  rw [← nI_add, Int32.add_sub_cancel]
/-- lists on the stack, compared -/
theorem alike_lp {M : ax_M} {h : Nat} {l k : List Int32} (hb : h + 1 < 48) (h4 : gI M 202 h = 4) (hn : gJ M 203 h = lN l.length) (hl : l.length ≤ 5) (hlk : l.length = k.length) (g1 : ∀ j, j < l.length → gI M 204 (5 * h + j) = l.getD j 0) (g2 : ∀ j, j < k.length → gI M 204 (5 * (h + 1) + j) = k.getD j 0) : ∀ (j f : Nat), j ≤ l.length → j + 1 < f → (∀ q, q < l.length - j → l.getD q 0 = k.getD q 0) → f_Mod_alike_91 f (nI h) (nI (h + 1)) 1 (nI (l.length - j)) M = some (if l = k then 1 else 0, M)
  | j, 0, _, hf, _ => absurd hf (by omega)
  | 0, f + 1, _, _, hq => by
    show f_Mod_alike_91_b (f_Mod_alike_91 f) (nI h) (nI (h + 1)) 1 (nI (l.length - 0)) M = _
    unfold f_Mod_alike_91_b
    have e : l = k := by
      apply List.ext_getElem hlk
      intro i h1 h2
      have h3 := hq i (by omega)
      rw [List.getD_eq_getElem?_getD, List.getD_eq_getElem?_getD, List.getElem?_eq_getElem h1, List.getElem?_eq_getElem h2] at h3
      exact h3
    rw [if_neg (show ¬ (1 : Int32) = 0 by decide), gi_nI (by omega) (by decide), nI_clamp (by omega), if_pos h4, hn, nI_l (by omega), if_pos ((lgc_ge0 _ _).mpr ((lN_le (by omega) (by omega)).mpr (by omega))), g2_1, if_pos e]
  | j + 1, f + 1, hj, hf, hq => by
    have e1 : nI (l.length - (j + 1)) + 1 = nI (l.length - j) := by rw [nI_1]; congr 1; omega
    show f_Mod_alike_91_b (f_Mod_alike_91 f) (nI h) (nI (h + 1)) 1 (nI (l.length - (j + 1))) M = _
    unfold f_Mod_alike_91_b
    rw [if_neg (show ¬ (1 : Int32) = 0 by decide), gi_nI (by omega) (by decide), nI_clamp (by omega), if_pos h4, hn, nI_l (by omega), if_neg (fun z => by have := (lN_le (by omega) (by omega)).mp ((lgc_ge0 _ _).mp z); omega), i5 (by omega) (by omega), i5 (by omega) (by omega), gi_nI (by omega) (by decide), gi_nI (by omega) (by decide), nI_clamp (by omega), nI_clamp (by omega), g1 _ (by omega), g2 _ (by omega), kM_eq, kM_eq, e1]
    by_cases q : l.getD (l.length - (j + 1)) 0 = k.getD (l.length - (j + 1)) 0
    · rw [if_pos q]
      refine alike_lp hb h4 hn hl hlk g1 g2 j f (by omega) (by omega) (fun i hi => ?_)
      by_cases e : i = l.length - (j + 1)
      · rw [e]; exact q
      · exact hq i (by omega)
    · rw [if_neg q, if_neg (fun z => q (by rw [z]))]
      obtain ⟨f2, rfl⟩ : ∃ f2, f = f2 + 1 := ⟨f - 1, by omega⟩
      show f_Mod_alike_91_b (f_Mod_alike_91 f2) (nI h) (nI (h + 1)) 0 (nI (l.length - j)) M = _
      unfold f_Mod_alike_91_b
      rw [if_pos (show (0 : Int32) = 0 from rfl), g2_0]
theorem alike_n {M : ax_M} {h : Nat} (hb : h + 1 < 48) {z : Int32} (hz : z = 0 ∨ (z = 1 ∧ gI M 202 h ≠ 4)) : f_Mod_alike_91 64 (nI h) (nI (h + 1)) z 0 M = some (z, M) := by
  show f_Mod_alike_91_b (f_Mod_alike_91 63) (nI h) (nI (h + 1)) z 0 M = _
  unfold f_Mod_alike_91_b
  rcases hz with e | ⟨e, e2⟩
  · rw [if_pos e, e, g2_0]
  · rw [if_neg (show ¬ z = 0 by rw [e]; decide), gi_nI (by omega) (by decide), nI_clamp (by omega), if_neg e2, e, g2_1]
theorem alike_ok {M : ax_M} {h : Nat} {x y : xV} (hb : h + 1 < 48) (t : TRep M h x) (u : TRep M (h + 1) y) (hx : WfV x) (hy : WfV y) (ex : ¬ x.1 = -1) (ey : ¬ y.1 = -1) : ∃ z : Int32, f_Mod_alike (nI h) M = some (z, M) ∧ (z = 0 ∨ z = 1) ∧ (if z = 0 then (0 : Int64) else 1) = xSame x y := by
  have t2 : (x.1 = 2 ∨ x.1 = 3) → gJ M 203 h = x.2.1 := fun z => t.2.1 (z.elim (fun y => Or.inr (Or.inl y)) (fun y => Or.inr (Or.inr y)))
  have u2 : (y.1 = 2 ∨ y.1 = 3) → gJ M 203 (h + 1) = y.2.1 := fun z => u.2.1 (z.elim (fun y => Or.inr (Or.inl y)) (fun y => Or.inr (Or.inr y)))
  have low : ¬ ((x.1 = 2 ∨ x.1 = 3) ∧ (y.1 = 2 ∨ y.1 = 3)) → ∃ z : Int32, f_Mod_alike_42 (nI h) (nI (h + 1)) M = some (z, M) ∧ (z = 0 ∨ z = 1) ∧ (if z = 0 then (0 : Int64) else 1) = xSame x y := by
    intro hn
    unfold f_Mod_alike_42 xSame
    rw [if_neg hn, gi_nI (by omega) (by decide), gi_nI (by omega) (by decide), nI_clamp (by omega), nI_clamp (by omega), t.1, u.1]
    by_cases e : x.1 = y.1
    · rw [if_pos e, if_pos e]
      by_cases q0 : x.1 = 0
      · rw [if_pos q0, alike_n hb (Or.inr ⟨rfl, by rw [t.1, q0]; decide⟩), if_neg (show ¬ x.1 = 4 by rw [q0]; decide)]
        have wx : x.2.1 = 0 := by
          rcases hx with z | z | z | z | z | z
          · exact absurd z ex
          · exact z.2
          · have z := z.1; rw [q0] at z; exact absurd z (by decide)
          · rw [q0] at z; exact absurd z (by decide)
          · rw [q0] at z; exact absurd z (by decide)
          · rw [q0] at z; exact absurd z (by decide)
        have q0' : y.1 = 0 := e.symm.trans q0
        have wy : y.2.1 = 0 := by
          rcases hy with z | z | z | z | z | z
          · exact absurd z ey
          · exact z.2
          · have z := z.1; rw [q0'] at z; exact absurd z (by decide)
          · rw [q0'] at z; exact absurd z (by decide)
          · rw [q0'] at z; exact absurd z (by decide)
          · rw [q0'] at z; exact absurd z (by decide)
        rw [if_pos (show x.2.1 = y.2.1 by rw [wx, wy])]
        exact ⟨1, rfl, Or.inr rfl, rfl⟩
      · rw [if_neg q0]
        by_cases q4 : x.1 = 4
        · have q4' : y.1 = 4 := e.symm.trans q4
          obtain ⟨a1, a2, a3⟩ := t.2.2 q4
          obtain ⟨b1, b2, b3⟩ := u.2.2 q4'
          rw [if_pos q4, a1, b1]
          by_cases r : x.2.2.length = y.2.2.length
          · rw [if_pos ((lgc_eq _ _).mpr (by rw [r]))]
            have z := alike_lp hb (t.1.trans q4) a1 a2 r a3 b3 x.2.2.length 64 (Nat.le_refl _) (by omega) (fun q hq => absurd hq (by omega))
            rw [Nat.sub_self] at z
            have z' : f_Mod_alike_91 64 (nI h) (nI (h + 1)) 1 0 M = some (if x.2.2 = y.2.2 then 1 else 0, M) := z
            rw [z']
            by_cases r2 : x.2.2 = y.2.2
            · rw [if_pos r2, if_pos r2]
              exact ⟨1, rfl, Or.inr rfl, rfl⟩
            · rw [if_neg r2, if_neg r2]
              exact ⟨0, rfl, Or.inl rfl, rfl⟩
          · rw [if_neg (fun z => r ((lN_eq (by omega) (by omega)).mp ((lgc_eq _ _).mp z))), alike_n hb (Or.inl rfl), if_neg (fun z => r (by rw [z]))]
            exact ⟨0, rfl, Or.inl rfl, rfl⟩
        · have q1 : x.1 = 1 ∨ x.1 = 2 ∨ x.1 = 3 := by
            rcases hx with z | z | z | z | z | z
            · exact absurd z ex
            · exact absurd z.1 q0
            · exact Or.inl z.1
            · exact Or.inr (Or.inl z)
            · exact Or.inr (Or.inr z)
            · exact absurd z q4
          rw [if_neg q4, t.2.1 q1, u.2.1 (by rw [← e]; exact q1)]
          by_cases r : x.2.1 = y.2.1
          · rw [if_pos ((lgc_eq _ _).mpr r), alike_n hb (Or.inr ⟨rfl, by rw [t.1]; exact q4⟩), if_pos r]
            exact ⟨1, rfl, Or.inr rfl, rfl⟩
          · rw [if_neg (fun z => r ((lgc_eq _ _).mp z)), alike_n hb (Or.inl rfl), if_neg r]
            exact ⟨0, rfl, Or.inl rfl, rfl⟩
    · rw [if_neg e, if_neg e, alike_n hb (Or.inl rfl)]
      exact ⟨0, rfl, Or.inl rfl, rfl⟩
  unfold f_Mod_alike
  rw [kM_eq, nI_1, m_isnum t (by omega), bnd_eq]
  by_cases p : x.1 = 2 ∨ x.1 = 3
  · rw [if_pos p, if_neg (show ¬ (1 : Int32) = 0 by decide), m_isnum u (by omega), bnd_eq]
    by_cases q : y.1 = 2 ∨ y.1 = 3
    · have e : xSame x y = if x.2.1 = y.2.1 then 1 else 0 := if_pos ⟨p, q⟩
      rw [if_pos q, if_neg (show ¬ (1 : Int32) = 0 by decide), gi_nI (by omega) (by decide), gi_nI (by omega) (by decide), nI_clamp (by omega), nI_clamp (by omega), t2 p, u2 q, e]
      by_cases r : x.2.1 = y.2.1
      · rw [if_pos ((lgc_eq _ _).mpr r), if_pos r]
        exact ⟨1, rfl, Or.inr rfl, rfl⟩
      · rw [if_neg (fun z => r ((lgc_eq _ _).mp z)), if_neg r]
        exact ⟨0, rfl, Or.inl rfl, rfl⟩
    · rw [if_neg q, if_pos (show (0 : Int32) = 0 from rfl)]
      exact low (fun z => q z.2)
  · rw [if_neg p, if_pos (show (0 : Int32) = 0 from rfl)]
    exact low (fun z => p z.1)
