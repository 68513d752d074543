/-! The reference's call: entering. -/
def Xg (c k : Nat) : Prop := c = 220 ∨ (c = 184 ∧ (k = 54 ∨ k = 55))
theorem i6 (m e : Nat) : 6 * nI m + nI e = nI (6 * m + e) := by
  show nI 6 * nI m + nI e = _
  rw [← nI_add, show nI 6 * nI m = nI (6 * m) from (Int32.ofNat_mul 6 m).symm]
theorem CntM.up {M : ax_M} {f : xCnt} (h : CntM M f) {m j : Nat} (hm : m < 8) (hj : j < 6) : CntM (mI M 201 (6 * m + j) (gI M 201 (6 * m + j) + 1)) (bump f m j) := by
  intro p e hp he
  unfold bump
  by_cases q : p = m ∧ e = j
  · rw [if_pos q, q.1, q.2, mIs, h m j hm hj]
  · rw [if_neg q, mIk (by omega)]
    exact h p e hp he
theorem g97_1 {f : Nat} {m l2 j : Int32} (h : l2 ≤ 1) (M : ax_M) : f_Mod_give_97 (f + 1) m l2 j M = some (0, M) := if_pos h
theorem give_l {M : ax_M} {m : Nat} (hm : m < 8) {l : List Int32} (h43 : gI M 184 43 = nI l.length) (hl : l.length ≤ 5) (hv : ∀ j, j < l.length → gI M 212 j = l.getD j 0) {l2 : Int32} (h2 : ¬ l2 ≤ 1) {val : Nat → Int32} (hval : ∀ j, j < l.length → val j = if l2 = 2 then l.getD j 0 + gI M 199 m else l.getD j 0) : ∃ M', f_Mod_give_97 64 (nI m) l2 (nI 0) M = some (0, M') ∧ EqK (Cp 220 0 l.length) M M' ∧ ∀ j, j < l.length → gI M' 220 j = val j := by
  have n43 : ∀ M', EqK (Cp 220 0 l.length) M M' → gI M' 184 43 = nI l.length := fun M' h => (h 184 43 (by unfold Cp; omega)).1.trans h43
  obtain ⟨M1, a1, a2, a3⟩ := cp_ok (L := fun f j M => f_Mod_give_97 f (nI m) l2 j M) (fin := fun m => some (0, m)) (dst := 220) (od := 0) (val := val) (Ms := M) hl (fun f j M1 hj hE _ => by
      show f_Mod_give_97_b (f_Mod_give_97 f) (nI m) l2 (nI j) M1 = _
      unfold f_Mod_give_97_b
      have e := hval j hj
      rw [n43 M1 hE, if_neg h2, if_neg (nI_ge hj (by omega))]
      by_cases q : l2 = 2
      · rw [if_pos q] at e ⊢
        rw [gi_nI (by omega) (by decide), gi_nI hm (by decide), nI_clamp (show j < 2 ^ 31 by omega), nI_clamp (show m < 2 ^ 31 by omega), (hE 212 j (by unfold Cp; omega)).1, (hE 199 m (by unfold Cp; omega)).1, hv j hj, kM_eq, kM_eq, nI_1, Nat.zero_add, e]
      · rw [if_neg q] at e ⊢
        rw [gi_nI (by omega) (by decide), nI_clamp (show j < 2 ^ 31 by omega), (hE 212 j (by unfold Cp; omega)).1, hv j hj, kM_eq, kM_eq, nI_1, Nat.zero_add, e]) (fun f M1 hE => by
      show f_Mod_give_97_b (f_Mod_give_97 f) (nI m) l2 (nI l.length) M1 = _
      unfold f_Mod_give_97_b
      rw [n43 M1 hE, if_neg h2, if_pos (nI_le (Nat.le_refl _) (by omega))])
  refine ⟨M1, a1, a2, fun j hj => ?_⟩
  have := a3 j hj
  rw [Nat.zero_add] at this
  exact this
theorem give_list {M0 M : ax_M} {a : Int32} {b : Int64} (hs : MS0 M0 M a b) {m : Nat} (hm : m < 8) {l q : List Int32} (h43 : gI M 184 43 = nI l.length) (hl : l.length ≤ 5) (hv : ∀ j, j < l.length → gI M 212 j = l.getD j 0) {l2 : Int32} (h0 : ¬ l2 = 0) (h1 : ¬ l2 = 1) (h2 : ¬ l2 ≤ 1) (hq : q.length = l.length) (hval : ∀ j, j < l.length → q.getD j 0 = if l2 = 2 then l.getD j 0 + gI M 199 m else l.getD j 0) : ∃ M', f_Mod_give_57 (nI m) l2 4 M = some (0, M') ∧ EqK Xg M M' ∧ RM M' (xL q) := by
  unfold f_Mod_give_57
  rw [kM_eq, if_neg h0, if_neg h1, kM_eq]
  have e0 : EqK Xg M (mI (mI M 184 54 4) 184 55 (gI (mI M 184 54 4) 184 43)) := ((EqK.rf M).mI (S := Xg) (Or.inr ⟨rfl, Or.inl rfl⟩)).mI (Or.inr ⟨rfl, Or.inr rfl⟩)
  have e54 : gI (mI (mI M 184 54 4) 184 55 (gI (mI M 184 54 4) 184 43)) 184 54 = 4 := (mIk (by decide)).trans (mIs _ _ _ _)
  have e55 : gI (mI (mI M 184 54 4) 184 55 (gI (mI M 184 54 4) 184 43)) 184 55 = nI l.length := (mIs _ _ _ _).trans ((mIk (by decide)).trans h43)
  generalize mI (mI M 184 54 4) 184 55 (gI (mI M 184 54 4) 184 43) = M1 at e0 e54 e55 ⊢
  obtain ⟨M', a1, a2, a3⟩ := give_l (M := M1) hm ((e0 184 43 (by unfold Xg; omega)).1.trans h43) hl (fun j hj => (e0 212 j (by unfold Xg; omega)).1.trans (hv j hj)) h2 (val := fun j => q.getD j 0) (fun j hj => by rw [(e0 199 m (by unfold Xg; omega)).1]; exact hval j hj)
  refine ⟨M', a1, e0.tr (a2.mono fun c k z => Or.inl z.1), ⟨(a2 184 54 (by unfold Cp; omega)).1.trans e54, fun _ => ⟨?_, ?_, fun j hj => ?_⟩, fun z => absurd (show (4 : Int32) = 4 from rfl) z⟩⟩
  · show gI M' 184 55 = nI q.length
    rw [hq, (a2 184 55 (by unfold Cp; omega)).1]
    exact e55
  · show q.length ≤ 5
    rw [hq]
    exact hl
  · have hj2 : j < q.length := hj
    rw [hq] at hj2
    exact a3 j hj2
theorem map_getD {l : List Int32} {k : Int32} {j : Nat} (hj : j < l.length) : (l.map (fun q => q + k)).getD j 0 = l.getD j 0 + k := by
  rw [List.getD_eq_getElem?_getD, List.getD_eq_getElem?_getD, List.getElem?_map, List.getElem?_eq_getElem hj]
  rfl
theorem give_ok {M0 M : ax_M} (hmm : S_meth M0) (hv0 : S_val M0) {a : Int32} {b : Int64} (hs : MS0 M0 M a b) {m : Nat} (hm : m < 8) {l : List Int32} (h43 : gI M 184 43 = nI l.length) (hl : l.length ≤ 5) (hv : ∀ j, j < l.length → gI M 212 j = l.getD j 0) {R : xFn} (hr : gI M0 (142 + 2 * m) 3 < 5 ∨ R = xDeep) {u : Int32} {S : Nat} {f : xCnt} (hf : CntM M f) : ∃ M', f_Mod_give (nI m) M = some ((xWork M0 a R m l u S f).1, M') ∧ EqK Xg M M' ∧ MEnd M' (xWork M0 a R m l u S f) := by
  obtain ⟨-, -, -, m3, m4, -⟩ := (hmm m hm).1
  obtain ⟨-, -, -, w1, w2, -⟩ := hv0.2 m hm
  have e3 : gI M 198 m = gI M0 (142 + 2 * m) 3 := (hs.1 198 m (by unfold XM XC; omega)).1.trans m3
  have e4 : gI M 199 m = gI M0 (142 + 2 * m) 4 := (hs.1 199 m (by unfold XM XC; omega)).1.trans m4
  have xf : ∀ M', EqK Xg M M' → CntM M' f := fun M' h => hf.kp h (fun k => by unfold Xg; omega)
  have g17 : ∀ l2 : Int32, f_Mod_give_17 (nI m) l2 M = some (1, mI M 184 55 (if l2 = 3 then gI M0 (142 + 2 * m) 4 else -1)) := fun l2 => by
    unfold f_Mod_give_17
    by_cases q : l2 = 3
    · rw [if_pos q, if_pos q, gi_nI hm (by decide), nI_clamp (by omega), e4, kM_eq]
    · rw [if_neg q, if_neg q, kM_eq]
  have x55 : ∀ x, EqK Xg M (mI M 184 55 x) := fun x => (EqK.rf M).mI (S := Xg) (Or.inr ⟨rfl, Or.inr rfl⟩)
  obtain ⟨j, hj, ej⟩ := nI_of2 (n := 6) (M := 6) (by decide) (Int32.not_lt.mpr w1) w2
  unfold f_Mod_give xWork
  rw [gi_nI hm (by decide), nI_clamp (by omega), kM_eq, e3]
  rw [ej] at hr ⊢
  have c : j = 0 ∨ j = 1 ∨ j = 2 ∨ j = 3 ∨ j = 4 ∨ j = 5 ∨ j = 6 := by omega
  rcases c with rfl | rfl | rfl | rfl | rfl | rfl | rfl
  · rw [if_neg (show ¬ nI 0 = 3 by decide), if_pos (show nI 0 < 5 by decide), if_pos (show nI 0 = 0 by decide), if_neg (show ¬ nI 0 = 1 by decide), if_neg (show ¬ nI 0 = 2 by decide), if_neg (show ¬ nI 0 = 3 by decide), if_neg (show ¬ nI 0 = 4 by decide), if_neg (show ¬ nI 0 = 5 by decide), if_neg (show ¬ nI 0 = 6 by decide)]
    unfold f_Mod_give_57
    rw [kM_eq, if_pos (show nI 0 = 0 by decide), kM_eq, g97_1 (by decide)]
    have e0 : EqK Xg M (mI (mI M 184 54 0) 184 55 0) := ((EqK.rf M).mI (S := Xg) (Or.inr ⟨rfl, Or.inl rfl⟩)).mI (Or.inr ⟨rfl, Or.inr rfl⟩)
    exact ⟨_, rfl, e0, ⟨xf _ e0, fun _ => ⟨(mIk (by decide)).trans (mIs _ _ _ _), fun z => absurd (show (0 : Int32) = 4 from z) (by decide), fun _ => by rw [mIs]; rfl⟩, fun z => absurd (show (0 : Int32) = 1 from z) (by decide)⟩⟩
  · rw [if_neg (show ¬ nI 1 = 3 by decide), if_pos (show nI 1 < 5 by decide), if_neg (show ¬ nI 1 = 0 by decide), if_pos (show nI 1 = 1 by decide), if_pos (show nI 1 = 1 by decide)]
    unfold f_Mod_give_57
    rw [kM_eq, if_neg (show ¬ nI 1 = 0 by decide), if_pos (show nI 1 = 1 by decide), gi_nI hm (by decide), nI_clamp (by omega), kM_eq, g97_1 (by decide), show gI (mI M 184 54 2) 184 40 = a from (mIk (by decide)).trans hs.2.1, show gI (mI M 184 54 2) 199 m = gI M0 (142 + 2 * m) 4 from (mIc (by decide)).trans e4]
    have e0 : EqK Xg M (mI (mI M 184 54 2) 184 55 (a + gI M0 (142 + 2 * m) 4)) := ((EqK.rf M).mI (S := Xg) (Or.inr ⟨rfl, Or.inl rfl⟩)).mI (Or.inr ⟨rfl, Or.inr rfl⟩)
    exact ⟨_, rfl, e0, ⟨xf _ e0, fun _ => ⟨(mIk (by decide)).trans (mIs _ _ _ _), fun z => absurd (show (2 : Int32) = 4 from z) (by decide), fun _ => by rw [mIs]; rfl⟩, fun z => absurd (show (0 : Int32) = 1 from z) (by decide)⟩⟩
  · rw [if_neg (show ¬ nI 2 = 3 by decide), if_pos (show nI 2 < 5 by decide), if_neg (show ¬ nI 2 = 0 by decide), if_neg (show ¬ nI 2 = 1 by decide), if_neg (show ¬ nI 2 = 1 by decide), if_pos (show nI 2 = 2 by decide)]
    obtain ⟨M', a1, a2, a3⟩ := give_list (q := l.map (fun q => q + gI M0 (142 + 2 * m) 4)) (l2 := nI 2) hs hm h43 hl hv (by decide) (by decide) (by decide) (List.length_map _) (fun j hj => by rw [if_pos (show nI 2 = 2 by decide), map_getD hj, e4])
    exact ⟨M', a1, a2, ⟨xf _ a2, fun _ => a3, fun z => absurd (show (0 : Int32) = 1 from z) (by decide)⟩⟩
  · rw [if_pos (show nI 3 = 3 by decide), g17, if_pos (show nI 3 = 3 by decide), if_neg (show ¬ nI 3 = 1 by decide), if_neg (show ¬ nI 3 = 2 by decide), if_pos (show nI 3 = 3 by decide)]
    exact ⟨_, rfl, x55 _, ⟨xf _ (x55 _), fun z => absurd (show (1 : Int32) = 0 from z) (by decide), fun _ => by rw [mIs]⟩⟩
  · rw [if_neg (show ¬ nI 4 = 3 by decide), if_pos (show nI 4 < 5 by decide), if_neg (show ¬ nI 4 = 0 by decide), if_neg (show ¬ nI 4 = 1 by decide), if_neg (show ¬ nI 4 = 1 by decide), if_neg (show ¬ nI 4 = 2 by decide), if_neg (show ¬ nI 4 = 3 by decide), if_pos (show nI 4 = 4 by decide)]
    obtain ⟨M', a1, a2, a3⟩ := give_list (q := l) (l2 := nI 4) hs hm h43 hl hv (by decide) (by decide) (by decide) rfl (fun j hj => by rw [if_neg (show ¬ nI 4 = 2 by decide)])
    exact ⟨M', a1, a2, ⟨xf _ a2, fun _ => a3, fun z => absurd (show (0 : Int32) = 1 from z) (by decide)⟩⟩
  · have hD : R = xDeep := hr.resolve_left (by decide)
    rw [if_neg (show ¬ nI 5 = 3 by decide), if_neg (show ¬ nI 5 < 5 by decide), g17, if_neg (show ¬ nI 5 = 3 by decide), if_neg (show ¬ nI 5 = 1 by decide), if_neg (show ¬ nI 5 = 2 by decide), if_neg (show ¬ nI 5 = 3 by decide), if_neg (show ¬ nI 5 = 4 by decide), if_pos (show nI 5 = 5 by decide), hD]
    exact ⟨_, rfl, x55 _, ⟨xf _ (x55 _), fun z => absurd (show (1 : Int32) = 0 from z) (by decide), fun _ => by rw [mIs]; rfl⟩⟩
  · have hD : R = xDeep := hr.resolve_left (by decide)
    rw [if_neg (show ¬ nI 6 = 3 by decide), if_neg (show ¬ nI 6 < 5 by decide), g17, if_neg (show ¬ nI 6 = 3 by decide), if_neg (show ¬ nI 6 = 1 by decide), if_neg (show ¬ nI 6 = 2 by decide), if_neg (show ¬ nI 6 = 3 by decide), if_neg (show ¬ nI 6 = 4 by decide), if_neg (show ¬ nI 6 = 5 by decide), if_pos (show nI 6 = 6 by decide), hD]
    exact ⟨_, rfl, x55 _, ⟨xf _ (x55 _), fun z => absurd (show (1 : Int32) = 0 from z) (by decide), fun _ => by rw [mIs]; rfl⟩⟩
