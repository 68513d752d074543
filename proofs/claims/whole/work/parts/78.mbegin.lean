/-! The reference's begin mark as a whole. -/
theorem mbegin_ok {M : ax_M} {i m a b h d : Nat} {c : Nat → Int32} {ar : Nat → Int64} {x : xV} (hC : CodeM M i c ar m) (ha : a < m) (har : ar a = lN b) (t0 : TRep M h x) (h1 : gI M 184 29 = nI (h + 1)) (hb : h < 48) (hd : d < 16) (hdd : gI M 184 37 = nI d) (h8 : gI M 184 38 = 0 ∨ gI M 184 38 = 1) :
    ((x.1 = 4 → x.2.2.length = 0) → ∃ M', f_Mod_begin (nI a) (nI (48 * i)) M = some (nI (b + 1), M') ∧ TRep M' h (if x.1 = 4 then (if c a = 16 then xL [] else xNo) else xErr) ∧ gI M' 184 29 = nI (h + 1) ∧ EqK (Xs h) M M') ∧
    (x.1 = 4 → 0 < x.2.2.length → ∃ M', f_Mod_begin (nI a) (nI (48 * i)) M = some (nI (a + 1), M') ∧ EqK (Xi h d) M M' ∧ gI M' 184 29 = nI h ∧ gI M' 184 37 = nI (d + 1) ∧ gI M' 184 38 = 1 ∧ gI M' 184 39 = x.2.2.getD (if c a = 18 then x.2.2.length - 1 else 0) 0 ∧ LoopM M' d x.2.2 [] (nI (if c a = 18 then x.2.2.length - 1 else 0)) (gI M 184 38) (gI M 184 39)) := by
  obtain ⟨k1, k2, k3, k4⟩ := hC
  have t : TRep (mI M 184 29 (nI h)) h x := t0.m29
  have hh : gI (mI M 184 29 (nI h)) 184 29 = nI h := mIs _ _ _ _
  have fr : EqK (Xs h) M (mI M 184 29 (nI h)) := EqK.mI (S := Xs h) (EqK.rf M) (Or.inr (Or.inr (Or.inr ⟨rfl, rfl⟩)))
  have eq : f_Mod_begin (nI a) (nI (48 * i)) M = (if x.1 = 4 then (if Int64.toInt32 (gJ (mI M 184 29 (nI h)) 203 h) = 0 then (if c a = 16 then (bnd (f_Mod_push 4 0 (mI M 184 29 (nI h))) (fun _ m => some (nI (b + 1), m))) else (bnd (f_Mod_push 0 0 (mI M 184 29 (nI h))) (fun _ m => some (nI (b + 1), m)))) else (f_Mod_begin_93 64 (nI a) (c a) (Int64.toInt32 (gJ (mI M 184 29 (nI h)) 203 h)) 0 (mI M 184 29 (nI h)))) else (bnd (f_Mod_push ((-1)) 0 (mI M 184 29 (nI h))) (fun _ m => some (nI (b + 1), m)))) := by
    unfold f_Mod_begin
    rw [nI_add, gi_nI (by omega) (by decide), nI_clamp (by omega), (k4 a ha).1, (k4 a ha).2, har, lN_i, nI_1, kM_eq, kM_eq, h1, nI_m1, kM_eq, hh, gi_nI hb (by decide), nI_clamp (by omega), t.1, kM_eq]
  constructor
  · intro h0
    rw [eq]
    have fin : ∀ {r : xV} {op : Option (Unit × ax_M)}, TOk h (mI M 184 29 (nI h)) r op → ∃ M', bnd op (fun _ m => some (nI (b + 1), m)) = some (nI (b + 1), M') ∧ TRep M' h r ∧ gI M' 184 29 = nI (h + 1) ∧ EqK (Xs h) M M' := by
      intro r op tk
      obtain ⟨M2, b1, b2, b3, b4⟩ := tk
      exact ⟨M2, by rw [b1]; rfl, b2, b3, fr.tr b4⟩
    by_cases q : x.1 = 4
    · have l0 := h0 q
      rw [if_pos q, if_pos q, (t.2.2 q).1, lN_i, l0, if_pos (show nI 0 = 0 from rfl)]
      by_cases r : c a = 16
      · rw [if_pos r, if_pos r]
        have z := items_ok (M := mI M 184 29 (nI h)) (s := 0) (l := []) hb (by decide) hh (Or.inl rfl) (fun j hj => absurd hj (by simp))
        exact fin (show TOk h (mI M 184 29 (nI h)) (xL []) (f_Mod_push 4 0 (mI M 184 29 (nI h))) from by
          have e : f_Mod_pushItems 0 (nI ([] : List Int32).length) (mI M 184 29 (nI h)) = f_Mod_push 4 0 (mI M 184 29 (nI h)) := by
            show f_Mod_pushItems_2_b (f_Mod_pushItems_2 63) 0 (nI 0) 0 (mI M 184 29 (nI h)) = _
            unfold f_Mod_pushItems_2_b
            rw [if_pos (show nI 0 ≤ 0 by decide), u_id]
            rfl
          rw [← e]
          exact z)
      · rw [if_neg r, if_neg r]
        exact fin (push_num hh hb 0 (by decide))
    · rw [if_neg q, if_neg q]
      exact fin (push_any hh hb 0 rfl (Or.inl rfl))
  · intro q hl
    obtain ⟨g1, g2, g3⟩ := t.2.2 q
    rw [eq, if_pos q, g1, lN_i, if_neg (show ¬ nI x.2.2.length = 0 from fun z => by have := (nI_eq (b := 0) (by omega) (by omega)).mp z; omega)]
    obtain ⟨M2, a1, a2, a3⟩ := begin_lp (l1 := nI a) (l3 := c a) hb hd g2 x.2.2.length 64 (mI M 184 29 (nI h)) (Nat.le_refl _) (by omega) hh ((mIk (by decide)).trans hdd) g3 (fun q hq => absurd hq (by omega))
    rw [Nat.sub_self] at a3
    have o : ∀ k, gI M2 184 k = gI (mI M 184 29 (nI h)) 184 k := fun k => (a1 184 k (fun z => absurd z.1 (by decide))).1
    have o8 : gI M2 184 38 = gI M 184 38 := (o 38).trans (mIk (by decide))
    have o9 : gI M2 184 39 = gI M 184 39 := (o 39).trans (mIk (by decide))
    obtain ⟨M3, b1, b2, b3, b4, b5, b6, b7⟩ := begin_end (h := h) hd g2 hl (l1 := nI a) (l3 := c a) ((o 37).trans ((mIk (by decide)).trans hdd)) (by rw [o8]; exact h8) a2
    rw [o8, o9] at b7
    have f2 : EqK (Xi h d) M M2 := (fr.mono fun c k z => Or.inl (Or.inl z)).tr (a1.mono fun c k z => Or.inl (Or.inr (Or.inl ⟨Or.inl z.1, z.2⟩)))
    exact ⟨M3, (show f_Mod_begin_93 64 (nI a) (c a) (nI x.2.2.length) 0 (mI M 184 29 (nI h)) = _ from a3).trans (b1.trans (by rw [nI_1])), f2.tr b2, b3.trans ((o 29).trans hh), b4, b5, b6, b7⟩
