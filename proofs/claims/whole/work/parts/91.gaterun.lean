/-! The class's call, whole. -/
theorem raise_ok {M : ax_M} {t : Nat} {l : List Int32} (hl : IRep M t l) (k : Int32) : ∃ M', f_Items_raiseEach t k M = some ((), M') ∧ EqO (fun c => c = t + 1) M M' ∧ IRep M' t (l.map (fun q => q + k)) := by
  obtain ⟨h1, h2, h3, h4⟩ := hl
  have n1 : ∀ M', EqK (Cp (t + 1) 0 l.length) M M' → gI M' t 1 = nI l.length := fun M' h => (h t 1 (by unfold Cp; omega)).1.trans h3
  obtain ⟨M', a1, a2, a3⟩ := cp_ok (L := fun f j M => f_Items_raiseEach_2 f t k j M) (fin := fun m => some ((), m)) (dst := t + 1) (od := 0) (val := fun j => l.getD j 0 + k) (Ms := M) h2 (fun f j M1 hj hE ho => by
      show f_Items_raiseEach_2_b (f_Items_raiseEach_2 f) t k (nI j) M1 = _
      unfold f_Items_raiseEach_2_b
      have e : gI M1 (t + 1) j = l.getD j 0 := by
        have := ho j (Nat.le_refl _)
        rw [Nat.zero_add] at this
        rw [this]
        exact h4 j hj
      rw [gk_pos h1, n1 M1 hE, if_neg (nI_ge hj (by omega)), gi_nI (by omega) (by decide), nI_clamp (by omega), e, kM_eq, kM_eq, nI_1, Nat.zero_add]) (fun f M1 hE => by
      show f_Items_raiseEach_2_b (f_Items_raiseEach_2 f) t k (nI l.length) M1 = _
      unfold f_Items_raiseEach_2_b
      rw [gk_pos h1, n1 M1 hE, if_pos (nI_le (Nat.le_refl _) (by omega))])
  refine ⟨M', a1, fun c hc q => a2 c q (fun z => hc z.1), ⟨h1, by rw [List.length_map]; exact h2, by rw [List.length_map]; exact n1 M' a2, fun j hj => ?_⟩⟩
  rw [List.length_map] at hj
  have := a3 j hj
  rw [Nat.zero_add] at this
  rw [this]
  show l.getD j 0 + k = _
  rw [List.getD_eq_getElem?_getD, List.getD_eq_getElem?_getD, List.getElem?_map, List.getElem?_eq_getElem hj]
  rfl
def LowC (d : Nat) (M M' : ax_M) : Prop := ∀ c k, 168 ≤ c → c < 168 + 2 * d → gI M' c k = gI M c k
def CEnd (M' : ax_M) (r : xRes) : Prop := CntC M' r.2.2 ∧ (r.1 = 0 → VRep M' 139 r.2.1) ∧ (r.1 = 1 → r.2.1 = xI (gI M' 135 8))
def CSpec (M0 : ax_M) (a : Int32) (b : Int64) (R : xFn) (d : Nat) (v : Int32 → Int32 → ax_M → Option (Int32 × ax_M)) : Prop :=
  ∀ m l u S f M, m < 8 → UOk u S → CSt M0 M u S a b → IRep M (168 + 2 * d) l → CntC M f → ∃ M', v (nI m) (nI d) M = some ((R m l u S f).1, M') ∧ CSt M0 M' u S a b ∧ CEnd M' (R m l u S f) ∧ gI M' 135 9 = (R m l u S f).1 ∧ LowC d M M'
theorem callOn_ok {M0 M : ax_M} {a : Int32} {b : Int64} {R : xFn} {d : Nat} {v : Int32 → Int32 → ax_M → Option (Int32 × ax_M)} (hs : (d + 1 < 8 ∧ CSpec M0 a b R (d + 1) v) ∨ (d = 7 ∧ R = xDeep)) {m : Nat} {l : List Int32} {u : Int32} {S : Nat} {f : xCnt} (hm : m < 8) (hU : UOk u S) (hc : CSt M0 M u S a b) (hl : IRep M (168 + 2 * d) l) (hf : CntC M f) : ∃ M', f_Gate_callOn v (nI m) (nI d) M = some ((R m l u S f).1, M') ∧ CS0 M0 M' a b ∧ CEnd M' (R m l u S f) ∧ LowC (d + 1) M M' := by
  unfold f_Gate_callOn
  rcases hs with ⟨hd, hs⟩ | ⟨hd, hs⟩
  · obtain ⟨M1, a1, a2, a3⟩ := copy_ok (M := M) (l0 := 168 + 2 * (d + 1)) (l1 := 168 + 2 * d) (kd_l hd) hl (by omega) (by omega) (by omega)
    have c1 : CSt M0 M1 u S a b := hc.xi (t := 168 + 2 * (d + 1)) (Or.inl (by omega)) (a2.k fun c k z => Or.inr (Or.inr z))
    obtain ⟨M', b1, b2, b3, b4, b5⟩ := hs m l u S f M1 hm hU c1 a3 (hf.kp fun m e hm => (a2 _ (by omega) e).1)
    refine ⟨M', ?_, b2.1, b3, fun c k h1 h2 => (b5 c k h1 h2).trans (a2 c (by omega) k).1⟩
    rw [kM_eq, nI_1, if_pos (show nI (d + 1) < 8 from nI_lt (b := 8) hd (by decide)), gi_nI hd (by decide), kM_eq, gi_nI (by omega) (by decide), kM_eq, nI_clamp (by omega), nI_clamp (by omega), a1, bnd_eq, b1, bnd_eq]
  · rw [hs, hd, kM_eq, if_neg (show ¬ nI 7 + 1 < 8 by decide)]
    unfold f_Gate_throwing
    rw [kM_eq, bnd_eq]
    refine ⟨mI M 135 8 (-1), rfl, ⟨hc.1.1.mI (by unfold XC; omega), (mIc (by decide)).trans hc.1.2.1, hc.1.2.2.1, (mIk (by decide)).trans hc.1.2.2.2⟩, ⟨hf.kp fun m e hm => mIc (by omega), fun z => absurd (show (1 : Int32) = 0 from z) (by decide), fun _ => by rw [mIs]; rfl⟩, fun c k h1 h2 => mIc (by omega)⟩
theorem CS0.put {M0 M M' : ax_M} {a : Int32} {b : Int64} (h : CS0 M0 M a b) (hE : EqO (Rw 139) M M') : CS0 M0 M' a b :=
  ⟨h.1.tr (hE.k fun c k z => by unfold Rw at z; unfold XC; omega), (hE 68 (by unfold Rw; omega) 4).1.trans h.2.1, (hE 68 (by unfold Rw; omega) 5).2.1.trans h.2.2.1, (hE 135 (by unfold Rw; omega) 7).1.trans h.2.2.2⟩
theorem put_end {M0 M : ax_M} {a : Int32} {b : Int64} (h : CS0 M0 M a b) {f : xCnt} (hf : CntC M f) {x : xV} {o : Option (Nat × ax_M)} (hp : Put M 139 x o) (d : Nat) : ∃ M', bnd o (fun _ m => some ((0 : Int32), m)) = some (0, M') ∧ CS0 M0 M' a b ∧ CEnd M' (0, x, f) ∧ LowC d M M' := by
  obtain ⟨M', a1, a2, a3⟩ := hp
  refine ⟨M', by rw [a1, bnd_eq], h.put a3, ⟨hf.kp fun m e hm => (a3 _ (by unfold Rw; omega) e).1, fun _ => a2, fun z => absurd (show (0 : Int32) = 1 from z) (by decide)⟩, fun c k h1 h2 => (a3 c (by unfold Rw; omega) k).1⟩
theorem CS0.ctx {M0 M : ax_M} {a : Int32} {b : Int64} (h : CS0 M0 M a b) (u r : Int32) : CS0 M0 (mI (mI M 63 2 u) 63 3 r) a b :=
  ⟨(h.1.mI (Or.inl ⟨rfl, Or.inl rfl⟩)).mI (Or.inl ⟨rfl, Or.inr rfl⟩), (mIc (by decide)).trans ((mIc (by decide)).trans h.2.1), h.2.2.1, (mIc (by decide)).trans ((mIc (by decide)).trans h.2.2.2)⟩
theorem u_id3 {o : Option (Int32 × ax_M)} : bnd o (fun q m => some (q, m)) = o := by
  cases o with
  | none => rfl
  | some q => rfl
theorem lend_ok {M0 M : ax_M} (hv : S_val M0) {u a : Int32} {S : Nat} {b : Int64} (hU : UOk u S) (hc : CSt M0 M u S a b) {m : Nat} (hm : m < 8) : UOk u (lend M0 m u S) ∧ ∃ M', f_Ctx_lend (gI M0 (142 + 2 * m) 5) M = some ((), M') ∧ CSt M0 M' u (lend M0 m u S) a b ∧ EqO (fun c => c = 63) M M' := by
  obtain ⟨-, -, -, -, -, -, -, x1, x2⟩ := hv.2 m hm
  obtain ⟨T, hT, eT⟩ := nI_of2 (n := 65535) (M := 65535) (by decide) (Int32.not_lt.mpr x1) x2
  unfold lend f_Ctx_lend f_Ctx_isNobody
  rw [hc.2.1, eT, nI_clamp (by omega)]
  by_cases q : u = -1
  · rw [if_pos q, if_pos q, bnd_eq, if_neg (show ¬ (1 : Int32) = 0 by decide)]
    exact ⟨hU, M, rfl, hc, EqO.rf M⟩
  · rw [if_neg q, if_neg q, bnd_eq, if_pos (show (0 : Int32) = 0 from rfl), hc.2.2, rb_or, kM_eq]
    refine ⟨⟨hU.1, or16 hU.2.1 (by omega), fun z => absurd z q⟩, _, rfl, ⟨⟨hc.1.1.mI (Or.inl ⟨rfl, Or.inr rfl⟩), (mIc (by decide)).trans hc.1.2.1, hc.1.2.2.1, (mIc (by decide)).trans hc.1.2.2.2⟩, (mIk (by decide)).trans hc.2.1, mIs _ _ _ _⟩, (EqO.rf M).mI rfl⟩
theorem gwork_ok {M0 M : ax_M} (hv : S_val M0) {a : Int32} {b : Int64} {R : xFn} {d : Nat} (hd : d < 8) {v : Int32 → Int32 → ax_M → Option (Int32 × ax_M)} (hs : (d + 1 < 8 ∧ CSpec M0 a b R (d + 1) v) ∨ (d = 7 ∧ R = xDeep)) {m : Nat} {l : List Int32} {u : Int32} {S : Nat} {f : xCnt} (hm : m < 8) (hU : UOk u S) (hc : CSt M0 M u S a b) (hl : IRep M (168 + 2 * d) l) (hf : CntC M f) : ∃ M', f_Gate_work v (142 + 2 * m) (nI d) M = some ((xWork M0 a R m l u S f).1, M') ∧ CS0 M0 M' a b ∧ CEnd M' (xWork M0 a R m l u S f) ∧ LowC (d + 1) M M' := by
  have em : ∀ k, gI M (142 + 2 * m) k = gI M0 (142 + 2 * m) k := fun k => (hc.1.1 _ k (by unfold XC; omega)).1
  obtain ⟨hU3, M3, e3, c3, g3⟩ := lend_ok hv hU hc hm
  have em3 : ∀ k, gI M3 (142 + 2 * m) k = gI M0 (142 + 2 * m) k := fun k => (c3.1.1 _ k (by unfold XC; omega)).1
  have l3 : IRep M3 (168 + 2 * d) l := hl.kp (fun k => (g3 _ (by omega) k).1) (fun k => (g3 _ (by omega) k).1)
  have f3 : CntC M3 f := hf.kp fun m e hm => (g3 _ (by omega) e).1
  have w3 : LowC (d + 1) M M3 := fun c k h1 h2 => (g3 c (by omega) k).1
  have kk : 5 ≤ gI M0 (142 + 2 * m) 3 → ∃ k, k < 8 ∧ gI M0 (142 + 2 * m) 4 = nI k := (hv.2 m hm).2.2.2.2.2.2.1
  suffices h : ∃ M', f_Gate_work v (142 + 2 * m) (nI d) M = some ((xWork M0 a R m l u S f).1, M') ∧ CS0 M0 M' a b ∧ CEnd M' (xWork M0 a R m l u S f) ∧ LowC (d + 1) M3 M' by
    obtain ⟨M', h1, h2, h3, h4⟩ := h
    exact ⟨M', h1, h2, h3, fun c k x1 x2 => (h4 c k x1 x2).trans (w3 c k x1 x2)⟩
  unfold f_Gate_work xWork
  rw [gk_pos (kd_m hm), em 5, e3, bnd_eq, kM_eq, em3 3]
  by_cases q1 : gI M0 (142 + 2 * m) 3 = 1
  · rw [if_pos q1, if_pos q1, c3.1.2.2.2, em3 4]
    exact put_end c3.1 f3 (be_int (by decide) _) _
  rw [if_neg q1, if_neg q1]
  by_cases q2 : gI M0 (142 + 2 * m) 3 = 2
  · rw [if_pos q2, if_pos q2, gi_nI hd (by decide), kM_eq, nI_clamp (by omega)]
    obtain ⟨M4, a1, a2, a3⟩ := be_list (M := M3) (t := 139) (l1 := 168 + 2 * d) (by decide) l3 (by unfold Rw; omega) (by unfold Rw; omega)
    have c4 := c3.1.put a3
    have em4 : gI M4 (142 + 2 * m) 4 = gI M0 (142 + 2 * m) 4 := (c4.1 _ 4 (by unfold XC; omega)).1
    obtain ⟨M5, b1, b2, b3⟩ := raise_ok (a2.2.2.2 rfl) (gI M0 (142 + 2 * m) 4)
    rw [a1, bnd_eq, em4, b1, bnd_eq]
    refine ⟨M5, rfl, c4.put (b2.mono fun c z => by unfold Rw; omega), ⟨f3.kp fun m e hm => ((b2 _ (by omega) e).1.trans (a3 _ (by unfold Rw; omega) e).1), fun _ => ⟨by decide, (b2 139 (by omega) 0).1.trans a2.2.1, fun z => absurd (show (4 : Int32) = 4 from rfl) z, fun _ => b3⟩, fun z => absurd (show (0 : Int32) = 1 from z) (by decide)⟩, fun c k h1 h2 => (b2 c (by omega) k).1.trans (a3 c (by unfold Rw; omega) k).1⟩
  rw [if_neg q2, if_neg q2]
  by_cases q3 : gI M0 (142 + 2 * m) 3 = 3
  · rw [if_pos q3, if_pos q3, em3 4]
    unfold f_Gate_throwing
    rw [kM_eq, bnd_eq]
    refine ⟨_, rfl, ⟨c3.1.1.mI (by unfold XC; omega), (mIc (by decide)).trans c3.1.2.1, c3.1.2.2.1, (mIk (by decide)).trans c3.1.2.2.2⟩, ⟨f3.kp fun m e hm => mIc (by omega), fun z => absurd (show (1 : Int32) = 0 from z) (by decide), fun _ => by rw [mIs]⟩, fun c k h1 h2 => mIc (by omega)⟩
  rw [if_neg q3, if_neg q3]
  by_cases q4 : gI M0 (142 + 2 * m) 3 = 4
  · rw [if_pos q4, if_pos q4, em3 4]
    unfold f_Ctx_become
    rw [kM_eq, kM_eq, bnd_eq, gi_nI hd (by decide), kM_eq, nI_clamp (by omega)]
    have w4 : EqO (fun c => c = 63) M3 (mI (mI M3 63 2 (gI M0 (142 + 2 * m) 4)) 63 3 65535) := ((EqO.rf M3).mI (S := fun c => c = 63) rfl).mI rfl
    have l4 : IRep (mI (mI M3 63 2 (gI M0 (142 + 2 * m) 4)) 63 3 65535) (168 + 2 * d) l := l3.kp (fun k => (w4 _ (by omega) k).1) (fun k => (w4 _ (by omega) k).1)
    obtain ⟨M', h1, h2, h3, h4⟩ := put_end (c3.1.ctx (gI M0 (142 + 2 * m) 4) 65535) (f3.kp fun m e hm => (w4 _ (by omega) e).1) (be_list (t := 139) (l1 := 168 + 2 * d) (by decide) l4 (by unfold Rw; omega) (by unfold Rw; omega)) (d + 1)
    exact ⟨M', h1, h2, h3, fun c k x1 x2 => (h4 c k x1 x2).trans (w4 c (by omega) k).1⟩
  rw [if_neg q4, if_neg q4]
  by_cases q5 : gI M0 (142 + 2 * m) 3 = 5
  · obtain ⟨k, hk, ek⟩ := kk (by rw [q5]; decide)
    rw [if_pos q5, if_pos q5, em3 4, ek, u_id3, nI_clamp (by omega)]
    exact callOn_ok hs hk hU3 c3 l3 f3
  rw [if_neg q5, if_neg q5]
  by_cases q6 : gI M0 (142 + 2 * m) 3 = 6
  · obtain ⟨k, hk, ek⟩ := kk (by rw [q6]; decide)
    rw [if_pos q6, if_pos q6]
    unfold f_Ctx_leave f_Ctx_become
    rw [kM_eq, kM_eq, bnd_eq, bnd_eq]
    have w4 : EqO (fun c => c = 63) M3 (mI (mI M3 63 2 (-1)) 63 3 0) := ((EqO.rf M3).mI (S := fun c => c = 63) rfl).mI rfl
    have l4 : IRep (mI (mI M3 63 2 (-1)) 63 3 0) (168 + 2 * d) l := l3.kp (fun k => (w4 _ (by omega) k).1) (fun k => (w4 _ (by omega) k).1)
    have c4 : CSt M0 (mI (mI M3 63 2 (-1)) 63 3 0) (-1) 0 a b := ⟨c3.1.ctx (-1) 0, (mIk (by decide)).trans (mIs _ _ _ _), mIs _ _ _ _⟩
    have em4 : gI (mI (mI M3 63 2 (-1)) 63 3 0) (142 + 2 * m) 4 = nI k := ((w4 _ (by omega) 4).1.trans (em3 4)).trans ek
    rw [em4, ek, u_id3, nI_clamp (by omega)]
    obtain ⟨M', h1, h2, h3, h4⟩ := callOn_ok hs hk (⟨Or.inl rfl, by decide, fun _ => rfl⟩ : UOk (-1) 0) c4 l4 (f3.kp fun m e hm => (w4 _ (by omega) e).1)
    exact ⟨M', h1, h2, h3, fun c k x1 x2 => (h4 c k x1 x2).trans (w4 c (by omega) k).1⟩
  rw [if_neg q6, if_neg q6]
  exact put_end c3.1 f3 (be_nothing (by decide)) _
