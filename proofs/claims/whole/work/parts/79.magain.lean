/-! The reference's going on, from the answer of the inner part to the moved place. -/
theorem magain_1 {M : ax_M} {i m a b h d j : Nat} {c : Nat → Int32} {ar : Nat → Int64} {y : xV} {l kept : List Int32} {s8 s9 : Int32} (hC : CodeM M i c ar m) (ha : a < m) (hbm : b < m) (har : ar b = lN a) (t0 : TRep M h y) (h1 : gI M 184 29 = nI (h + 1)) (hb : h < 48) (hd : d < 16) (hdd : gI M 184 37 = nI (d + 1)) (hl : l.length ≤ 5) (hj : j < l.length) (hk : kept.length < 5) (L : LoopM M d l kept (nI j) s8 s9) :
    ∃ M', f_Mod_again (nI b) (nI (48 * i)) M = f_Mod_again_197 (nI b) (nI a) (c a) (nI d) (if y.1 = 1 then 0 else 1) (l.getD j 0) (if (y.1 = 1 ∧ y.2.1 = 1) ∧ c a ≠ 16 then 1 else 0) M' ∧ EqK (Xi h d) M M' ∧ gI M' 184 29 = nI h ∧ gI M' 184 37 = nI (d + 1) ∧ gI M' 184 38 = gI M 184 38 ∧ LoopM M' d l (if (y.1 = 1 ∧ y.2.1 = 1) ∧ c a = 16 then kept ++ [l.getD j 0] else kept) (if c a = 18 then nI j - 1 else nI (j + 1)) s8 s9 := by
  obtain ⟨k1, k2, k3, k4⟩ := hC
  have t : TRep (mI M 184 29 (nI h)) h y := t0.m29
  have hh : gI (mI M 184 29 (nI h)) 184 29 = nI h := mIs _ _ _ _
  have L0 : LoopM (mI M 184 29 (nI h)) d l kept (nI j) s8 s9 := L.kp (EqK.mI (S := Xs h) (EqK.rf M) (Or.inr (Or.inr (Or.inr ⟨rfl, rfl⟩)))) hl (by omega) (fun c k z => by unfold Xs at z; omega)
  have fr : EqK (Xi h d) M (mI M 184 29 (nI h)) := EqK.mI (S := Xi h d) (EqK.rf M) (Or.inl (Or.inl (Or.inr (Or.inr (Or.inr ⟨rfl, rfl⟩)))))
  have core : ∀ (l6 s0 : Int32), ∃ M', f_Mod_again_82 (nI b) (nI a) (c a) (nI d) l6 s0 (mI M 184 29 (nI h)) = f_Mod_again_197 (nI b) (nI a) (c a) (nI d) l6 (l.getD j 0) (if s0 ≠ 0 ∧ c a ≠ 16 then 1 else 0) M' ∧ EqK (Xi h d) M M' ∧ gI M' 184 29 = nI h ∧ gI M' 184 37 = nI (d + 1) ∧ gI M' 184 38 = gI M 184 38 ∧ LoopM M' d l (if s0 ≠ 0 ∧ c a = 16 then kept ++ [l.getD j 0] else kept) (if c a = 18 then nI j - 1 else nI (j + 1)) s8 s9 := by
    intro l6 s0
    obtain ⟨M2, a1, a2, a3⟩ := again_82 (l1 := nI b) (l3 := nI a) (l4 := c a) (l6 := l6) (s0 := s0) hd hl hj hk L0
    obtain ⟨M3, b1, b2, b3⟩ := again_145 (l1 := nI b) (l3 := nI a) (l4 := c a) (l6 := l6) (l7 := s0) (l8 := l.getD j 0) hd a3
    have o : ∀ k, gI M3 184 k = gI (mI M 184 29 (nI h)) 184 k := fun k => (b2 184 k (fun z => absurd z.1 (by decide))).1.trans (a2 184 k (fun z => z.elim (fun w => absurd w.1 (by decide)) (fun w => absurd w.1 (by decide)))).1
    refine ⟨M3, a1.trans b1, (fr.tr (a2.mono fun c k z => ?_)).tr (b2.mono fun c k z => ?_), (o 29).trans hh, (o 37).trans ((mIk (by decide)).trans hdd), (o 38).trans (mIk (by decide)), b3⟩
    · exact Or.inl (Or.inr (z.elim (fun w => Or.inl ⟨Or.inr w.1, w.2⟩) (fun w => Or.inr ⟨Or.inr (Or.inr (Or.inl w.1)), by omega⟩)))
    · exact Or.inl (Or.inr (Or.inr ⟨Or.inr (Or.inl z.1), by omega⟩))
  have eq : f_Mod_again (nI b) (nI (48 * i)) M = (if y.1 = 1 then (f_Mod_again_56 (nI b) (nI a) (c a) (nI d) 0 (mI M 184 29 (nI h))) else (f_Mod_again_56 (nI b) (nI a) (c a) (nI d) 1 (mI M 184 29 (nI h)))) := by
    unfold f_Mod_again
    rw [nI_add, gi_nI (by omega) (by decide), nI_clamp (by omega), (k4 b hbm).2, har, lN_i, kM_eq, nI_add, gi_nI (by omega) (by decide), nI_clamp (by omega), (k4 a ha).1, kM_eq, hdd, nI_m1, kM_eq, h1, nI_m1, kM_eq, hh, gi_nI hb (by decide), nI_clamp (by omega), t.1]
  rw [eq]
  by_cases q : y.1 = 1
  · rw [if_pos q, if_pos q]
    unfold f_Mod_again_56
    rw [if_pos (show (0 : Int32) = 0 from rfl), hh, gi_nI hb (by decide), nI_clamp (by omega), t.2.1 (Or.inl q)]
    by_cases r : y.2.1 = 1
    · rw [if_pos ((lgc_eq _ _).mpr r)]
      obtain ⟨M2, z⟩ := core 0 1
      refine ⟨M2, ?_⟩
      have e1 : (((1 : Int32) ≠ 0 ∧ c a ≠ 16) = ((y.1 = 1 ∧ y.2.1 = 1) ∧ c a ≠ 16)) := propext ⟨fun w => ⟨⟨q, r⟩, w.2⟩, fun w => ⟨by decide, w.2⟩⟩
      have e2 : (((1 : Int32) ≠ 0 ∧ c a = 16) = ((y.1 = 1 ∧ y.2.1 = 1) ∧ c a = 16)) := propext ⟨fun w => ⟨⟨q, r⟩, w.2⟩, fun w => ⟨by decide, w.2⟩⟩
      simp only [e1, e2] at z
      exact z
    · rw [if_neg (fun w => r ((lgc_eq _ _).mp w))]
      obtain ⟨M2, z⟩ := core 0 0
      refine ⟨M2, ?_⟩
      have e1 : (((0 : Int32) ≠ 0 ∧ c a ≠ 16) = ((y.1 = 1 ∧ y.2.1 = 1) ∧ c a ≠ 16)) := propext ⟨fun w => absurd rfl w.1, fun w => absurd w.1.2 r⟩
      have e2 : (((0 : Int32) ≠ 0 ∧ c a = 16) = ((y.1 = 1 ∧ y.2.1 = 1) ∧ c a = 16)) := propext ⟨fun w => absurd rfl w.1, fun w => absurd w.1.2 r⟩
      simp only [e1, e2] at z
      exact z
  · rw [if_neg q, if_neg q]
    unfold f_Mod_again_56
    rw [if_neg (show ¬ (1 : Int32) = 0 by decide)]
    obtain ⟨M2, z⟩ := core 1 0
    refine ⟨M2, ?_⟩
    have e1 : (((0 : Int32) ≠ 0 ∧ c a ≠ 16) = ((y.1 = 1 ∧ y.2.1 = 1) ∧ c a ≠ 16)) := propext ⟨fun w => absurd rfl w.1, fun w => absurd w.1.1 q⟩
    have e2 : (((0 : Int32) ≠ 0 ∧ c a = 16) = ((y.1 = 1 ∧ y.2.1 = 1) ∧ c a = 16)) := propext ⟨fun w => absurd rfl w.1, fun w => absurd w.1.1 q⟩
    simp only [e1, e2] at z
    exact z
