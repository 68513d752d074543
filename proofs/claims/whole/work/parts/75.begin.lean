/-! The reference begins a search. -/
theorem begin_lp {h d : Nat} (hb : h < 48) (hd : d < 16) {l : List Int32} (hl : l.length ≤ 5) {l1 l3 : Int32} : ∀ (j f : Nat) (M : ax_M), j ≤ l.length → j < f → gI M 184 29 = nI h → gI M 184 37 = nI d → (∀ q, q < l.length → gI M 204 (5 * h + q) = l.getD q 0) → (∀ q, q < l.length - j → gI M 205 (5 * d + q) = l.getD q 0) → ∃ M', EqK (fun c k => c = 205 ∧ 5 * d ≤ k) M M' ∧ (∀ q, q < l.length → gI M' 205 (5 * d + q) = l.getD q 0) ∧ f_Mod_begin_93 f l1 l3 (nI l.length) (nI (l.length - j)) M = f_Mod_begin_93_b (fun _ _ _ _ _ => none) l1 l3 (nI l.length) (nI l.length) M'
  | j, 0, _, _, hf, _, _, _, _ => absurd hf (by omega)
  | 0, f + 1, M, _, _, _, _, _, hd2 => by
    refine ⟨M, EqK.rf M, hd2, ?_⟩
    show f_Mod_begin_93_b (f_Mod_begin_93 f) l1 l3 (nI l.length) (nI (l.length - 0)) M = _
    unfold f_Mod_begin_93_b
    rw [if_pos (nI_le (by omega) (by omega)), if_pos (nI_le (by omega) (by omega))]
  | j + 1, f + 1, M, hj, hf, hh, hdd, hs, hd2 => by
    have e1 : nI (l.length - (j + 1)) + 1 = nI (l.length - j) := by rw [nI_1]; congr 1; omega
    have step : f_Mod_begin_93 (f + 1) l1 l3 (nI l.length) (nI (l.length - (j + 1))) M = f_Mod_begin_93 f l1 l3 (nI l.length) (nI (l.length - j)) (mI M 205 (5 * d + (l.length - (j + 1))) (l.getD (l.length - (j + 1)) 0)) := by
      show f_Mod_begin_93_b (f_Mod_begin_93 f) l1 l3 (nI l.length) (nI (l.length - (j + 1))) M = _
      unfold f_Mod_begin_93_b
      rw [if_neg (nI_ge (by omega) (by omega)), hh, hdd, i5 (by omega) (by omega), i5 (by omega) (by omega), gi_nI (by omega) (by decide), gi_nI (by omega) (by decide), nI_clamp (by omega), nI_clamp (by omega), hs _ (by omega), kM_eq, kM_eq, e1]
    obtain ⟨M2, a1, a2, a3⟩ := begin_lp hb hd hl (l1 := l1) (l3 := l3) j f (mI M 205 (5 * d + (l.length - (j + 1))) (l.getD (l.length - (j + 1)) 0)) (by omega) (by omega) ((mIc (by decide)).trans hh) ((mIc (by decide)).trans hdd) (fun q hq => (mIc (by decide)).trans (hs q hq)) (fun q hq => by
      by_cases e : q = l.length - (j + 1)
      · rw [e, mIs]
      · rw [mIk (by omega)]
        exact hd2 q (by omega))
    exact ⟨M2, EqK.tr (EqK.mI (S := fun c k => c = 205 ∧ 5 * d ≤ k) (EqK.rf M) ⟨rfl, by omega⟩) a1, a2, step.trans a3⟩
/-- a search under way at the depth d -/
def LoopM (M : ax_M) (d : Nat) (l kept : List Int32) (pos s8 s9 : Int32) : Prop := (∀ q, q < l.length → gI M 205 (5 * d + q) = l.getD q 0) ∧ gI M 206 d = nI l.length ∧ gI M 207 d = pos ∧ gI M 209 d = nI kept.length ∧ (∀ q, q < kept.length → gI M 208 (5 * d + q) = kept.getD q 0) ∧ gI M 210 d = s8 ∧ gI M 211 d = s9
/-- cells of stack and searches from height h, depth d on; and what a search changes beside -/
def Xc (h d c k : Nat) : Prop := Xs h c k ∨ ((c = 205 ∨ c = 208) ∧ 5 * d ≤ k) ∨ ((c = 206 ∨ c = 207 ∨ c = 209 ∨ c = 210 ∨ c = 211) ∧ d ≤ k)
def Xi (h d c k : Nat) : Prop := Xc h d c k ∨ (c = 184 ∧ (k = 37 ∨ k = 38 ∨ k = 39))
theorem begin_end {M : ax_M} {h d : Nat} (hd : d < 16) {l : List Int32} (hl : l.length ≤ 5) (h0 : 0 < l.length) {l1 l3 : Int32} (hdd : gI M 184 37 = nI d) (h8 : gI M 184 38 = 0 ∨ gI M 184 38 = 1) (hc : ∀ q, q < l.length → gI M 205 (5 * d + q) = l.getD q 0) : ∃ M', f_Mod_begin_93_b (fun _ _ _ _ _ => none) l1 l3 (nI l.length) (nI l.length) M = some (l1 + 1, M') ∧ EqK (Xi h d) M M' ∧ gI M' 184 29 = gI M 184 29 ∧ gI M' 184 37 = nI (d + 1) ∧ gI M' 184 38 = 1 ∧ gI M' 184 39 = l.getD (if l3 = 18 then l.length - 1 else 0) 0 ∧ LoopM M' d l [] (nI (if l3 = 18 then l.length - 1 else 0)) (gI M 184 38) (gI M 184 39) := by
  have go : ∀ p : Nat, p < l.length → ∃ M', f_Mod_begin_167 l1 (nI p) (nI d) (mI M 206 d (nI l.length)) = some (l1 + 1, M') ∧ EqK (Xi h d) M M' ∧ gI M' 184 29 = gI M 184 29 ∧ gI M' 184 37 = nI (d + 1) ∧ gI M' 184 38 = 1 ∧ gI M' 184 39 = l.getD p 0 ∧ LoopM M' d l [] (nI p) (gI M 184 38) (gI M 184 39) := by
    intro p hp
    have x206 : ∀ c k, c = 206 ∨ c = 207 ∨ c = 209 ∨ c = 210 ∨ c = 211 → k = d → Xi h d c k := fun c k h1 h2 => Or.inl (Or.inr (Or.inr ⟨h1, by omega⟩))
    have x184 : ∀ k, k = 37 ∨ k = 38 ∨ k = 39 → Xi h d 184 k := fun k hk => Or.inr ⟨rfl, hk⟩
    refine ⟨mI (mI (mI (mI (mI (mI (mI (mI M 206 d (nI l.length)) 207 d (nI p)) 209 d 0) 210 d (gI M 184 38)) 211 d (gI M 184 39)) 184 38 1) 184 39 (l.getD p 0)) 184 37 (nI (d + 1)), ?_, ?_, ?_, ?_, ?_, ?_, ?_⟩
    · unfold f_Mod_begin_167
      have g : ∀ {c k : Nat} {v : Int32} {N : ax_M}, c ≠ 184 → gI N 184 37 = nI d → gI (mI N c k v) 184 37 = nI d := fun hc hN => (mIc (Ne.symm hc)).trans hN
      have g1 : gI (mI M 206 d (nI l.length)) 184 37 = nI d := g (by decide) hdd
      have g2' : gI (mI (mI M 206 d (nI l.length)) 207 d (nI p)) 184 37 = nI d := g (by decide) g1
      have g3 : gI (mI (mI (mI M 206 d (nI l.length)) 207 d (nI p)) 209 d 0) 184 37 = nI d := g (by decide) g2'
      have e38 : gI (mI (mI (mI M 206 d (nI l.length)) 207 d (nI p)) 209 d 0) 184 38 = gI M 184 38 := by rw [mIc (by decide), mIc (by decide), mIc (by decide)]
      have g4 : gI (mI (mI (mI (mI M 206 d (nI l.length)) 207 d (nI p)) 209 d 0) 210 d (gI M 184 38)) 184 37 = nI d := g (by decide) g3
      have e39 : gI (mI (mI (mI (mI M 206 d (nI l.length)) 207 d (nI p)) 209 d 0) 210 d (gI M 184 38)) 184 39 = gI M 184 39 := by rw [mIc (by decide), mIc (by decide), mIc (by decide), mIc (by decide)]
      have g5 : gI (mI (mI (mI (mI (mI (mI M 206 d (nI l.length)) 207 d (nI p)) 209 d 0) 210 d (gI M 184 38)) 211 d (gI M 184 39)) 184 38 1) 184 37 = nI d := by
        rw [mIk (by decide)]
        exact g (by decide) g4
      have e7 : gI (mI (mI (mI (mI (mI (mI M 206 d (nI l.length)) 207 d (nI p)) 209 d 0) 210 d (gI M 184 38)) 211 d (gI M 184 39)) 184 38 1) 207 d = nI p := by
        rw [mIc (by decide), mIc (by decide), mIc (by decide), mIc (by decide), mIs]
      have e5 : gI (mI (mI (mI (mI (mI (mI M 206 d (nI l.length)) 207 d (nI p)) 209 d 0) 210 d (gI M 184 38)) 211 d (gI M 184 39)) 184 38 1) 205 (5 * d + p) = l.getD p 0 := by
        rw [mIc (by decide), mIc (by decide), mIc (by decide), mIc (by decide), mIc (by decide), mIc (by decide)]
        exact hc p hp
      have g6 : gI (mI (mI (mI (mI (mI (mI (mI M 206 d (nI l.length)) 207 d (nI p)) 209 d 0) 210 d (gI M 184 38)) 211 d (gI M 184 39)) 184 38 1) 184 39 (l.getD p 0)) 184 37 = nI d := by
        rw [mIk (by decide)]
        exact g5
      rw [gi_nI hd (by decide), nI_clamp (by omega), kM_eq, g2', gi_nI hd (by decide), nI_clamp (by omega), kM_eq, g3, gi_nI hd (by decide), e38, g2_pos h8, nI_clamp (by omega), kM_eq, g4, gi_nI hd (by decide), nI_clamp (by omega), e39, kM_eq, kM_eq, g5, gi_nI hd (by decide), nI_clamp (by omega), e7, i5 (by omega) (by omega), kM_eq, gi_nI (by omega) (by decide), nI_clamp (by omega), e5, kM_eq, g6, kM_eq, nI_1]
    · exact EqK.mI (EqK.mI (EqK.mI (EqK.mI (EqK.mI (EqK.mI (EqK.mI (EqK.mI (EqK.rf M) (x206 _ _ (by omega) rfl)) (x206 _ _ (by omega) rfl)) (x206 _ _ (by omega) rfl)) (x206 _ _ (by omega) rfl)) (x206 _ _ (by omega) rfl)) (x184 _ (by omega))) (x184 _ (by omega))) (x184 _ (by omega))
    · rw [mIk (by decide), mIk (by decide), mIk (by decide), mIc (by decide), mIc (by decide), mIc (by decide), mIc (by decide), mIc (by decide)]
    · exact mIs _ _ _ _
    · rw [mIk (by decide), mIk (by decide), mIs]
    · rw [mIk (by decide), mIs]
    · refine ⟨fun q hq => ?_, ?_, ?_, ?_, fun q hq => absurd hq (by simp), ?_, ?_⟩
      · rw [mIc (by decide), mIc (by decide), mIc (by decide), mIc (by decide), mIc (by decide), mIc (by decide), mIc (by decide), mIc (by decide)]
        exact hc q hq
      · rw [mIc (by decide), mIc (by decide), mIc (by decide), mIc (by decide), mIc (by decide), mIc (by decide), mIc (by decide), mIs]
      · rw [mIc (by decide), mIc (by decide), mIc (by decide), mIc (by decide), mIc (by decide), mIc (by decide), mIs]
      · rw [mIc (by decide), mIc (by decide), mIc (by decide), mIc (by decide), mIc (by decide), mIs]
        rfl
      · rw [mIc (by decide), mIc (by decide), mIc (by decide), mIc (by decide), mIs]
      · rw [mIc (by decide), mIc (by decide), mIc (by decide), mIs]
  unfold f_Mod_begin_93_b
  rw [if_pos (nI_le (by omega) (by omega)), hdd, gi_nI hd (by decide), nI_clamp (by omega), kM_eq, (mIc (by decide)).trans hdd]
  by_cases q : l3 = 18
  · have e : nI l.length - 1 = nI (l.length - 1) := by
      have z := nI_m1 (l.length - 1)
      rw [Nat.sub_add_cancel h0] at z
      exact z
    rw [if_pos q, if_pos q, e]
    exact go (l.length - 1) (by omega)
  · rw [if_neg q, if_neg q]
    exact go 0 h0
