/-! The reference goes on with a search, piece by piece. -/
theorem again_323 {M : ax_M} {d : Nat} (hd : d < 16) {l1 s8 s9 : Int32} (h8 : s8 = 0 ∨ s8 = 1) (e0 : gI M 210 d = s8) (e1 : gI M 211 d = s9) (e7 : gI M 184 37 = nI (d + 1)) : f_Mod_again_323 l1 (nI d) M = some (l1 + 1, mI (mI (mI M 184 38 s8) 184 39 s9) 184 37 (nI d)) := by
  unfold f_Mod_again_323
  have a1 : gI (mI M 184 38 s8) 211 d = s9 := (mIc (by decide)).trans e1
  have a2 : gI (mI (mI M 184 38 s8) 184 39 s9) 184 37 = nI (d + 1) := by rw [mIk (by decide), mIk (by decide)]; exact e7
  rw [gi_nI hd (by decide), nI_clamp (by omega), e0, g2_pos h8, kM_eq, a1, kM_eq, a2, kM_eq, nI_m1]
theorem LoopM.kp {M M' : ax_M} {d : Nat} {l kept : List Int32} {pos s8 s9 : Int32} (h : LoopM M d l kept pos s8 s9) {S : Nat → Nat → Prop} (hE : EqK S M M') (hl : l.length ≤ 5) (hk : kept.length ≤ 5) (hS : ∀ c k, S c k → ((c = 205 ∨ c = 208) → 5 * d + 5 ≤ k) ∧ ((c = 206 ∨ c = 207 ∨ c = 209 ∨ c = 210 ∨ c = 211) → d + 1 ≤ k)) : LoopM M' d l kept pos s8 s9 := by
  obtain ⟨a1, a2, a3, a4, a5, a6, a7⟩ := h
  have n1 : ∀ c k, (c = 205 ∨ c = 208) → k < 5 * d + 5 → gI M' c k = gI M c k := fun c k h1 h2 => (hE c k (fun q => by have := (hS c k q).1 h1; omega)).1
  have n2 : ∀ c, (c = 206 ∨ c = 207 ∨ c = 209 ∨ c = 210 ∨ c = 211) → gI M' c d = gI M c d := fun c h1 => (hE c d (fun q => by have := (hS c d q).2 h1; omega)).1
  refine ⟨fun q hq => (n1 205 _ (by omega) (by omega)).trans (a1 q hq), (n2 206 (by omega)).trans a2, (n2 207 (by omega)).trans a3, (n2 209 (by omega)).trans a4, fun q hq => (n1 208 _ (by omega) (by omega)).trans (a5 q hq), (n2 210 (by omega)).trans a6, (n2 211 (by omega)).trans a7⟩
/-- the item of this time is kept, or not -/
theorem again_82 {M : ax_M} {d i : Nat} (hd : d < 16) {l kept : List Int32} {s8 s9 l1 l3 l4 l6 s0 : Int32} (hl : l.length ≤ 5) (hi : i < l.length) (hk : kept.length < 5) (h : LoopM M d l kept (nI i) s8 s9) : ∃ M', f_Mod_again_82 l1 l3 l4 (nI d) l6 s0 M = f_Mod_again_145 l1 l3 l4 (nI d) l6 s0 (l.getD i 0) M' ∧ EqK (fun c k => (c = 208 ∧ 5 * d ≤ k) ∨ (c = 209 ∧ k = d)) M M' ∧ LoopM M' d l (if s0 ≠ 0 ∧ l4 = 16 then kept ++ [l.getD i 0] else kept) (nI i) s8 s9 := by
  obtain ⟨a1, a2, a3, a4, a5, a6, a7⟩ := h
  unfold f_Mod_again_82
  rw [gi_nI hd (by decide), nI_clamp (by omega), a3, i5 (by omega) (by omega), gi_nI (by omega) (by decide), nI_clamp (by omega), a1 i hi, kM_eq]
  by_cases q0 : s0 = 0
  · rw [if_pos q0, if_neg (show ¬ (s0 ≠ 0 ∧ l4 = 16) from fun z => z.1 q0)]
    exact ⟨M, rfl, EqK.rf M, a1, a2, a3, a4, a5, a6, a7⟩
  rw [if_neg q0]
  by_cases q4 : l4 = 16
  · have b9 : gI (mI M 208 (5 * d + kept.length) (l.getD i 0)) 209 d = nI kept.length := (mIc (by decide)).trans a4
    rw [if_pos q4, if_pos (show s0 ≠ 0 ∧ l4 = 16 from ⟨q0, q4⟩), a4, i5 (by omega) hk, gi_nI (by omega) (by decide), nI_clamp (by omega), kM_eq, b9, kM_eq, nI_1]
    refine ⟨_, rfl, EqK.mI (EqK.mI (EqK.rf M) (Or.inl ⟨rfl, by omega⟩)) (Or.inr ⟨rfl, rfl⟩), fun q hq => ?_, ?_, ?_, ?_, fun q hq => ?_, ?_, ?_⟩
    · rw [mIc (by decide), mIc (by decide)]
      exact a1 q hq
    · rw [mIc (by decide), mIc (by decide)]
      exact a2
    · rw [mIc (by decide), mIc (by decide)]
      exact a3
    · rw [mIs, List.length_append]
      rfl
    · rw [List.length_append, List.length_singleton] at hq
      rw [mIc (by decide)]
      by_cases e : q = kept.length
      · rw [e, mIs]
        exact getD_mid.symm
      · rw [mIk (by omega), a5 q (by omega), List.getD_eq_getElem?_getD, List.getD_eq_getElem?_getD, List.getElem?_append_left (by omega)]
    · rw [mIc (by decide), mIc (by decide)]
      exact a6
    · rw [mIc (by decide), mIc (by decide)]
      exact a7
  · rw [if_neg q4, if_neg (show ¬ (s0 ≠ 0 ∧ l4 = 16) from fun z => q4 z.2)]
    exact ⟨M, rfl, EqK.rf M, a1, a2, a3, a4, a5, a6, a7⟩
/-- the place moves on -/
theorem again_145 {M : ax_M} {d i : Nat} (hd : d < 16) {l kept : List Int32} {s8 s9 l1 l3 l4 l6 l7 l8 : Int32} (h : LoopM M d l kept (nI i) s8 s9) : ∃ M', f_Mod_again_145 l1 l3 l4 (nI d) l6 l7 l8 M = f_Mod_again_197 l1 l3 l4 (nI d) l6 l8 (if l7 ≠ 0 ∧ l4 ≠ 16 then 1 else 0) M' ∧ EqK (fun c k => c = 207 ∧ k = d) M M' ∧ LoopM M' d l kept (if l4 = 18 then nI i - 1 else nI (i + 1)) s8 s9 := by
  obtain ⟨a1, a2, a3, a4, a5, a6, a7⟩ := h
  have tl : ∀ N, (if l7 = 0 then (f_Mod_again_197 l1 l3 l4 (nI d) l6 l8 0 N) else (if l4 = 16 then (f_Mod_again_197 l1 l3 l4 (nI d) l6 l8 0 N) else (f_Mod_again_197 l1 l3 l4 (nI d) l6 l8 1 N))) = f_Mod_again_197 l1 l3 l4 (nI d) l6 l8 (if l7 ≠ 0 ∧ l4 ≠ 16 then 1 else 0) N := by
    intro N
    by_cases q7 : l7 = 0
    · rw [if_pos q7, if_neg (show ¬ (l7 ≠ 0 ∧ l4 ≠ 16) from fun z => z.1 q7)]
    · rw [if_neg q7]
      by_cases q4 : l4 = 16
      · rw [if_pos q4, if_neg (show ¬ (l7 ≠ 0 ∧ l4 ≠ 16) from fun z => z.2 q4)]
      · rw [if_neg q4, if_pos (show l7 ≠ 0 ∧ l4 ≠ 16 from ⟨q7, q4⟩)]
  have lp : ∀ v : Int32, LoopM (mI M 207 d v) d l kept v s8 s9 := fun v => by
    refine ⟨fun q hq => (mIc (by decide)).trans (a1 q hq), (mIc (by decide)).trans a2, mIs _ _ _ _, (mIc (by decide)).trans a4, fun q hq => (mIc (by decide)).trans (a5 q hq), (mIc (by decide)).trans a6, (mIc (by decide)).trans a7⟩
  unfold f_Mod_again_145
  by_cases q : l4 = 18
  · rw [if_pos q, gi_nI hd (by decide), nI_clamp (by omega), a3, kM_eq, tl, if_pos q]
    exact ⟨_, rfl, EqK.mI (S := fun c k => c = 207 ∧ k = d) (EqK.rf M) ⟨rfl, rfl⟩, lp _⟩
  · rw [if_neg q, gi_nI hd (by decide), nI_clamp (by omega), a3, kM_eq, tl, if_neg q, nI_1]
    exact ⟨_, rfl, EqK.mI (S := fun c k => c = 207 ∧ k = d) (EqK.rf M) ⟨rfl, rfl⟩, lp _⟩
