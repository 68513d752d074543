/-! Reading: the next token, both sides. -/
theorem cblank {tx : Nat → Int32} {n p0 : Nat} (hn : n ≤ 48) (h0n : p0 ≤ n) (hE : p0 = n ∨ (p0 < n ∧ ¬ tx p0 = 32)) : ∀ (r f p : Nat) (M : ax_M), p + r = p0 → r < f → (∀ j, p ≤ j → j < p0 → tx j = 32) → TxC M tx n → gI M 3 2 = nI p → ∃ M', f_Text_cutNext_0 f M = f_Text_cutNext_38 M' ∧ EqK X3 M M' ∧ gI M' 3 2 = nI p0 := by
  intro r
  induction r with
  | zero =>
    intro f p M hp hf hS hT h2
    obtain ⟨g, rfl⟩ : ∃ g, f = g + 1 := ⟨f - 1, by omega⟩
    have hp : p = p0 := by omega
    rw [hp] at h2
    refine ⟨M, ?_, EqK.rf M, h2⟩
    show f_Text_cutNext_0_b (f_Text_cutNext_0 g) M = _
    unfold f_Text_cutNext_0_b
    rw [hT.1, h2]
    rcases hE with e | ⟨e, ns⟩
    · rw [if_pos (nI_le (by omega) (by omega))]
    · rw [if_neg (nI_ge e (by omega)), gi_nI (by omega) (by decide), nI_clamp (by omega), hT.2 p0 e, if_neg ns]
  | succ r ih =>
    intro f p M hp hf hS hT h2
    obtain ⟨g, rfl⟩ : ∃ g, f = g + 1 := ⟨f - 1, by omega⟩
    have e1 : EqK X3 M (mI M 3 2 (nI (p + 1))) := (EqK.rf M).mI ⟨rfl, by decide⟩
    obtain ⟨M', a1, a2, a3⟩ := ih g (p + 1) (mI M 3 2 (nI (p + 1))) (by omega) (by omega) (fun j x y => hS j (by omega) y) (hT.kp e1) (mIs _ _ _ _)
    refine ⟨M', ?_, e1.tr a2, a3⟩
    rw [← a1]
    show f_Text_cutNext_0_b (f_Text_cutNext_0 g) M = _
    unfold f_Text_cutNext_0_b
    rw [hT.1, h2, if_neg (nI_ge (by omega) (by omega)), gi_nI (by omega) (by decide), nI_clamp (by omega), hT.2 p (by omega), if_pos (hS p (by omega) (by omega)), nI_1, kM_eq]
theorem cutNext_eq (M : ax_M) : f_Text_cutNext M = f_Text_cutNext_0 65 M := rfl
theorem mblank {K : Int32 → ax_M → Option (Int32 × ax_M)} {l1 : Int32} {tx : Nat → Int32} {n p0 : Nat} (hn : n ≤ 48) (h0n : p0 ≤ n) : ∀ (r f p : Nat) (M : ax_M), p + r = p0 → r < f → (∀ j, p ≤ j → j < p0 → tx j = 32) → TxM M tx n → gI M 184 5 = nI p → ∃ g M', f_Mod_read_36 K f l1 M = f_Mod_read_36 K (g + 1) l1 M' ∧ EqK X5 M M' ∧ gI M' 184 5 = nI p0 := by
  intro r
  induction r with
  | zero =>
    intro f p M hp hf hS hT h5
    obtain ⟨g, rfl⟩ : ∃ g, f = g + 1 := ⟨f - 1, by omega⟩
    have hp : p = p0 := by omega
    rw [hp] at h5
    exact ⟨g, M, rfl, EqK.rf M, h5⟩
  | succ r ih =>
    intro f p M hp hf hS hT h5
    obtain ⟨g, rfl⟩ : ∃ g, f = g + 1 := ⟨f - 1, by omega⟩
    have e1 : EqK X5 M (mI M 184 5 (nI (p + 1))) := (EqK.rf M).mI ⟨rfl, Or.inl rfl⟩
    obtain ⟨g', M', a1, a2, a3⟩ := ih g (p + 1) (mI M 184 5 (nI (p + 1))) (by omega) (by omega) (fun j x y => hS j (by omega) y) (hT.kp e1) (mIs _ _ _ _)
    refine ⟨g', M', ?_, e1.tr a2, a3⟩
    rw [← a1]
    show f_Mod_read_36_b K (f_Mod_read_36 K g) l1 M = _
    unfold f_Mod_read_36_b
    rw [h5, m_at hT hn (by omega), bnd_eq, txa_in (by omega), if_pos (hS p (by omega) (by omega)), h5, nI_1, kM_eq]
def endE (M : ax_M) : Option (Int32 × ax_M) := bnd (f_Mod_reduce 0 M) (fun q39 M40 => if (gI M40 184 7) = 1 then (if (gI M40 184 10) = 0 then (some ((-1), M40)) else (some (gI M40 184 1, M40))) else (some (gI M40 184 1, M40)))
def CutT (tx : Nat → Int32) (n pos p0 : Nat) (t : Int32) (v : Int64) (p1 : Nat) : Prop := ∀ M, TxC M tx n → gI M 3 2 = nI pos → ∃ M', f_Text_cutNext M = some ((), M') ∧ EqK X3 M M' ∧ gI M' 3 3 = t ∧ gI M' 3 2 = nI p1 ∧ gI M' 3 4 = nI p0 ∧ (t = 2 ∨ t = 3 → gJ M' 3 5 = v)
def CutM (tx : Nat → Int32) (n pos p0 : Nat) (t : Int32) (v : Int64) (p1 : Nat) : Prop := ∀ K l1 M, TxM M tx n → gI M 184 5 = nI pos → ∃ M', f_Mod_read_36 K 64 l1 M = f_Mod_read_147 K l1 (nI p0) (tokM t) M' ∧ EqK X5 M M' ∧ gI M' 184 5 = nI p1 ∧ (t = 2 ∨ t = 3 → gJ M' 184 6 = v)
theorem lex_next {tx : Nat → Int32} {n pos : Nat} (hn : n ≤ 48) (hp : pos ≤ n) :
    ((∀ M, TxC M tx n → gI M 3 2 = nI pos → ∃ M', f_Text_cutNext M = some ((), M') ∧ EqK X3 M M' ∧ gI M' 3 3 = 0) ∧ (∀ K l1 M, TxM M tx n → gI M 184 5 = nI pos → ∃ M', f_Mod_read_36 K 64 l1 M = endE M' ∧ EqK X5 M M')) ∨
    ∃ p0 t v p1, pos ≤ p0 ∧ p0 < p1 ∧ p1 ≤ n ∧ Tk t ∧ (t = 2 → v = v.toInt32.toInt64) ∧ CutT tx n pos p0 t v p1 ∧ CutM tx n pos p0 t v p1 := by
  obtain ⟨p0, h1, h2, h3, h4⟩ := run_ex (fun c => c = 32) tx n n pos (by omega) hp
  have cb : ∀ M, TxC M tx n → gI M 3 2 = nI pos → ∃ M', f_Text_cutNext M = f_Text_cutNext_38 M' ∧ EqK X3 M M' ∧ gI M' 3 2 = nI p0 := fun M hT g2 => cblank hn h2 h4 (p0 - pos) 65 pos M (by omega) (by omega) h3 hT g2
  have mb : ∀ K l1 M, TxM M tx n → gI M 184 5 = nI pos → ∃ g M', f_Mod_read_36 K 64 l1 M = f_Mod_read_36 K (g + 1) l1 M' ∧ EqK X5 M M' ∧ gI M' 184 5 = nI p0 := fun K l1 M hT g5 => mblank hn h2 (p0 - pos) 64 pos M (by omega) (by omega) h3 hT g5
  have x4 : X3 3 4 := ⟨rfl, by decide⟩
  have x5 : X3 3 5 := ⟨rfl, by decide⟩
  have x3 : X3 3 3 := ⟨rfl, by decide⟩
  rcases h4 with e | ⟨e, ns⟩
  · refine Or.inl ⟨fun M hT g2 => ?_, fun K l1 M hT g5 => ?_⟩
    · obtain ⟨M1, a1, a2, a3⟩ := cb M hT g2
      have hT1 := hT.kp a2
      refine ⟨mI (mJ (mI M1 3 4 (gI M1 3 2)) 3 5 0) 3 3 0, ?_, ((a2.mI x4).mJ x5).mI x3, mIs _ _ _ _⟩
      rw [a1]
      unfold f_Text_cutNext_38
      rw [kM_eq, kM_eq, if_neg (show ¬ gI (mJ (mI M1 3 4 (gI M1 3 2)) 3 5 0) 3 2 < gI (mJ (mI M1 3 4 (gI M1 3 2)) 3 5 0) 3 1 by
        show ¬ gI (mI M1 3 4 (gI M1 3 2)) 3 2 < gI (mI M1 3 4 (gI M1 3 2)) 3 1
        rw [mIk (by decide), mIk (by decide), a3, hT1.1]
        exact nI_nlt (by omega) (by omega)), kM_eq]
    · obtain ⟨g, M1, a1, a2, a3⟩ := mb K l1 M hT g5
      have hT1 := hT.kp a2
      refine ⟨M1, ?_, a2⟩
      rw [a1]
      show f_Mod_read_36_b K (f_Mod_read_36 K g) l1 M1 = _
      unfold f_Mod_read_36_b
      rw [a3, m_at hT1 hn (by omega), bnd_eq, txa_out (by omega), if_neg (show ¬ (0 : Int32) = 32 by decide), a3, hT1.1, if_neg (nI_nlt (by omega) (by omega))]
      rfl
  · have fin : ∀ t v p1 (fC fM : ax_M → Option (Int32 × ax_M)), p0 < p1 → p1 ≤ n → Tk t → (t = 2 → v = v.toInt32.toInt64) → LexR tx n p0 t v p1 fC fM → (∀ M, TxC M tx n → gI M 3 2 = nI p0 → f_Text_cutNext_38 M = bnd (fC (mJ (mI M 3 4 (nI p0)) 3 5 0)) (fun q m => kM (mI m 3 3 q) (fun m => some ((), m)))) → (∀ K g l1 M, TxM M tx n → gI M 184 5 = nI p0 → f_Mod_read_36 K (g + 1) l1 M = bnd (fM M) (fun q m => f_Mod_read_147 K l1 (nI p0) q m)) → ∃ p0 t v p1, pos ≤ p0 ∧ p0 < p1 ∧ p1 ≤ n ∧ Tk t ∧ (t = 2 → v = v.toInt32.toInt64) ∧ CutT tx n pos p0 t v p1 ∧ CutM tx n pos p0 t v p1 := fun t v p1 fC fM k1 k2 k3 k4 hL hC hM => by
      refine ⟨p0, t, v, p1, h1, k1, k2, k3, k4, fun M hT g2 => ?_, fun K l1 M hT g5 => ?_⟩
      · obtain ⟨M1, a1, a2, a3⟩ := cb M hT g2
        have e2 : EqK X3 M (mJ (mI M1 3 4 (nI p0)) 3 5 0) := (a2.mI x4).mJ x5
        obtain ⟨M2, b1, b2, b3, b4, b5⟩ := hL.1 (mJ (mI M1 3 4 (nI p0)) 3 5 0) (hT.kp e2) (mIs M1 3 4 (nI p0)) ((mIk (M := M1) (c := 3) (k := 4) (v := nI p0) (by decide)).trans a3) (mJs _ _ _ _)
        refine ⟨mI M2 3 3 t, ?_, (e2.tr b2).mI x3, mIs _ _ _ _, (mIk (by decide)).trans b3, (mIk (by decide)).trans b4, b5⟩
        rw [a1, hC M1 (hT.kp a2) a3, b1, bnd_eq, kM_eq]
      · obtain ⟨g, M1, a1, a2, a3⟩ := mb K l1 M hT g5
        obtain ⟨M2, b1, b2, b3, b4⟩ := hL.2 M1 (hT.kp a2) a3
        refine ⟨M2, ?_, a2.tr b2, b3, b4⟩
        rw [a1, hM K g l1 M1 (hT.kp a2) a3, b1, bnd_eq]
    refine Or.inr ?_
    have c38 : ∀ M, TxC M tx n → gI M 3 2 = nI p0 → f_Text_cutNext_38 M = bnd (if isD (tx p0) then f_Text_cutNumber (mJ (mI M 3 4 (nI p0)) 3 5 0) else if isS (tx p0) then f_Text_cutWord (mJ (mI M 3 4 (nI p0)) 3 5 0) else f_Text_cutSign (mJ (mI M 3 4 (nI p0)) 3 5 0)) (fun q m => kM (mI m 3 3 q) (fun m => some ((), m))) := fun M hT g2 => by
      have y1 : gI (mJ (mI M 3 4 (nI p0)) 3 5 0) 3 2 = nI p0 := (mIk (M := M) (c := 3) (k := 4) (v := nI p0) (by decide)).trans g2
      have y2 : gI (mJ (mI M 3 4 (nI p0)) 3 5 0) 3 1 = nI n := (mIk (M := M) (c := 3) (k := 4) (v := nI p0) (by decide)).trans hT.1
      have y3 : gI (mJ (mI M 3 4 (nI p0)) 3 5 0) 4 p0 = tx p0 := (mIc (M := M) (c := 3) (k := 4) (v := nI p0) (by decide)).trans (hT.2 p0 e)
      unfold f_Text_cutNext_38
      rw [g2, kM_eq, kM_eq]
      generalize mJ (mI M 3 4 (nI p0)) 3 5 0 = M2 at y1 y2 y3 ⊢
      rw [y1, y2, if_pos (nI_lt e (by omega)), gi_nI (by omega) (by decide), nI_clamp (by omega), y3, c_digit]
      by_cases qd : isD (tx p0)
      · rw [if_pos qd, if_pos qd, bnd_eq, if_neg (show ¬ (1 : Int32) = 0 by decide)]
      · rw [if_neg qd, if_neg qd, bnd_eq, if_pos (show (0 : Int32) = 0 from rfl), y1, gi_nI (by omega) (by decide), nI_clamp (by omega), y3, c_small]
        by_cases qs : isS (tx p0)
        · rw [if_pos qs, if_pos qs, bnd_eq, if_neg (show ¬ (1 : Int32) = 0 by decide)]
        · rw [if_neg qs, if_neg qs, bnd_eq, if_pos (show (0 : Int32) = 0 from rfl)]
    have m36 : ∀ K g l1 M, TxM M tx n → gI M 184 5 = nI p0 → f_Mod_read_36 K (g + 1) l1 M = bnd (if isD (tx p0) then f_Mod_numeral M else if isS (tx p0) then f_Mod_word M else f_Mod_signToken M) (fun q m => f_Mod_read_147 K l1 (nI p0) q m) := fun K g l1 M hT g5 => by
      show f_Mod_read_36_b K (f_Mod_read_36 K g) l1 M = _
      unfold f_Mod_read_36_b
      rw [g5, m_at hT hn (by omega), bnd_eq, txa_in e, if_neg ns, g5, hT.1, if_pos (nI_lt e (by omega)), kM_eq, m_digit hT hn (by omega), txa_in e]
      by_cases qd : isD (tx p0)
      · rw [if_pos qd, if_pos qd, bnd_eq, if_neg (show ¬ (1 : Int32) = 0 by decide)]
      · rw [if_neg qd, if_neg qd, bnd_eq, if_pos (show (0 : Int32) = 0 from rfl), g5, m_small hT hn (by omega), txa_in e]
        by_cases qs : isS (tx p0)
        · rw [if_pos qs, if_pos qs, bnd_eq, if_neg (show ¬ (1 : Int32) = 0 by decide)]
        · rw [if_neg qs, if_neg qs, bnd_eq, if_pos (show (0 : Int32) = 0 from rfl)]
    by_cases qd : isD (tx p0)
    · obtain ⟨t, v, p1, k1, k2, k3, k4, k5⟩ := lex_num hn e qd
      refine fin t v p1 _ _ k1 k2 k3 k4 k5 (fun M hT g2 => ?_) (fun K g l1 M hT g5 => ?_)
      · rw [c38 M hT g2, if_pos qd]
      · rw [m36 K g l1 M hT g5, if_pos qd]
    · by_cases qs : isS (tx p0)
      · obtain ⟨t, v, p1, k1, k2, k3, k4, k5⟩ := lex_word hn e qs
        refine fin t v p1 _ _ k1 k2 k3 k4 k5 (fun M hT g2 => ?_) (fun K g l1 M hT g5 => ?_)
        · rw [c38 M hT g2, if_neg qd, if_pos qs]
        · rw [m36 K g l1 M hT g5, if_neg qd, if_pos qs]
      · obtain ⟨t, v, p1, k1, k2, k3, k4, k5⟩ := lex_sign (tx := tx) hn e
        refine fin t v p1 _ _ k1 k2 k3 k4 k5 (fun M hT g2 => ?_) (fun K g l1 M hT g5 => ?_)
        · rw [c38 M hT g2, if_neg qd, if_neg qs]
        · rw [m36 K g l1 M hT g5, if_neg qd, if_neg qs]
