/-! The class's call: the end. -/
theorem ne_m1 {i : Nat} (hi : i < 8) {x : Int32} (e : x = nI i) : ¬ x = -1 := fun z => by
  rw [e] at z
  exact absurd (show nI i < 0 by rw [z]; decide) (nI_pos (by omega))
theorem out44 {M0 M : ax_M} {D Wm : Nat → Nat} (hv : S_val M0) (hp0 : S_perm M0) (hx0 : S_expr M0) (hm0 : S_misc M0) (hR : hRoles M0 D Wm) {u a : Int32} {S : Nat} {b : Int64} (hU : UOk u S) (hc : CSt M0 M u S a b) {t : Nat} {l : List Int32} (ht : tOk t) (h6 : gA M 68 6 = t) (h7 : gA M 68 7 = 139) (hl : IRep M t l) {x : xV} (hx : VRep M 139 x) {m : Nat} (hm : m < 8) (hk : ¬ (¬ gI M0 (142 + 2 * m) 1 = -1 ∧ xTr (sl M0 (gI M0 (142 + 2 * m) 1).toNatClampNeg (u, clO D 16 S, a, b, l, some x) none) = 0)) : ∃ M', f_Gate_letOut_44 (142 + 2 * m) M = some ((xOut M0 m (u, clO D 16 S, a, b, l, some x) x).1, M') ∧ EqK (XI 140) M M' ∧ ((xOut M0 m (u, clO D 16 S, a, b, l, some x) x).1 = 0 → VRep M' 139 (xOut M0 m (u, clO D 16 S, a, b, l, some x) x).2) := by
  have ht2 := ht
  unfold tOk at ht2
  have em : ∀ k, gI M (142 + 2 * m) k = gI M0 (142 + 2 * m) k := fun k => (hc.1.1 _ k (by unfold XC; omega)).1
  unfold xOut f_Gate_letOut_44
  rw [if_neg hk, gk_pos (kd_m hm), em 2, is_no hx]
  rcases (hv.2 m hm).2.2.1 with q | ⟨i, hi, ei, hw⟩
  · rw [if_pos q, if_pos q]
    exact ⟨M, rfl, EqK.rf M, fun _ => hx⟩
  · have ne := ne_m1 hi ei
    rw [if_neg ne, if_neg ne]
    by_cases q0 : x.1 = 0
    · rw [if_pos q0, if_pos q0, bnd_eq, if_neg (show ¬ (1 : Int32) = 0 by decide)]
      exact ⟨M, rfl, EqK.rf M, fun _ => hx⟩
    · rw [if_neg q0, if_neg q0, bnd_eq, if_pos (show (0 : Int32) = 0 from rfl), is_list hx]
      by_cases q4 : x.1 = 4
      · rw [if_pos q4, if_pos q4, bnd_eq, if_neg (show ¬ (1 : Int32) = 0 by decide), em 2, ei, gi_nI hi (by decide), nI_clamp (by omega), kM_eq]
        have hB : EnvB M (u, clO D 16 S, a, b, l, some x) none := mkB hR hm0 hc.1.1 hU.2.1 hc.2.1 hc.2.2 hc.1.2.1 hc.1.2.2.1 h6 (Or.inr (by omega)) hl ⟨h7, hx⟩
        obtain ⟨M6, ⟨b1, b2, b3⟩ | ⟨r, b1, b2, b3, b4⟩⟩ := cfilt_ok (t := 140) (l := x.2.2) hp0 hx0 hi hw hc.1.1 hB (by omega) (hx.2.2.2 q4)
        · rw [b1, b2, bnd_eq, if_pos rfl]
          exact ⟨M6, rfl, b3.mono Wx_XI, fun z => absurd (show (4 : Int32) = 0 from z) (by decide)⟩
        · rw [b1, b2, bnd_eq, if_neg (show ¬ (1 : Int32) = 0 by decide)]
          refine ⟨M6, rfl, b4.mono fun c k z => by unfold Wx Wk at z; unfold XI Wk; omega, fun _ => ⟨hx.1, ?_, fun z => absurd (show (4 : Int32) = 4 from rfl) z, fun _ => b3⟩⟩
          rw [(b4 139 0 (by unfold Wx Wk; omega)).1, hx.2.1]
          exact q4
      · rw [if_neg q4, if_neg q4, bnd_eq, if_pos (show (0 : Int32) = 0 from rfl)]
        exact ⟨M, rfl, EqK.rf M, fun z => absurd (show (4 : Int32) = 0 from z) (by decide)⟩
theorem letOut_ok {M0 M : ax_M} {D Wm : Nat → Nat} (hv : S_val M0) (hp0 : S_perm M0) (hx0 : S_expr M0) (hm0 : S_misc M0) (hR : hRoles M0 D Wm) {u a : Int32} {S : Nat} {b : Int64} (hU : UOk u S) (hc : CSt M0 M u S a b) {t : Nat} {l : List Int32} (ht : tOk t) (hl : IRep M t l) {x : xV} (hx : VRep M 139 x) {m : Nat} (hm : m < 8) : ∃ M', f_Gate_letOut (142 + 2 * m) t M = some ((xOut M0 m (u, clO D 16 S, a, b, l, some x) x).1, M') ∧ EqK (XI 140) M M' ∧ ((xOut M0 m (u, clO D 16 S, a, b, l, some x) x).1 = 0 → VRep M' 139 (xOut M0 m (u, clO D 16 S, a, b, l, some x) x).2) := by
  have ht2 := ht
  unfold tOk at ht2
  have h140 : tOk 140 := Or.inr rfl
  have g5 : EqK (XI 140) M (mA (mA M 68 6 t) 68 7 139) := EqK.tr (mA_eqk (S := XI 140) (Or.inl ⟨rfl, by omega⟩)) (mA_eqk (Or.inl ⟨rfl, by omega⟩))
  have c5 := hc.xi h140 g5
  have l5 : IRep (mA (mA M 68 6 t) 68 7 139) t l := hl.kp (fun k => rfl) (fun k => rfl)
  have x5 : VRep (mA (mA M 68 6 t) 68 7 139) 139 x := hx.kp (fun k => rfl) (fun k => rfl) (fun k => rfl) (fun k => rfl)
  have a6 : gA (mA (mA M 68 6 t) 68 7 139) 68 6 = t := mAs M 68 6 t
  have a7 : gA (mA (mA M 68 6 t) 68 7 139) 68 7 = 139 := mAs _ _ _ _
  have eq : f_Gate_letOut (142 + 2 * m) t M = if gI M0 (142 + 2 * m) 1 = -1 then f_Gate_letOut_44 (142 + 2 * m) (mA (mA M 68 6 t) 68 7 139) else gi (gI M0 (142 + 2 * m) 1) 8 (bnd (f_Worker_workOut (gA (mA (mA M 68 6 t) 68 7 139) 8 (gI M0 (142 + 2 * m) 1).toNatClampNeg) (mA (mA M 68 6 t) 68 7 139)) (fun q20 M21 => gk q20 7 (bnd (f_Val_isTrue q20 M21) (fun q23 M24 => if q23 = 0 then (some (4, M24)) else (f_Gate_letOut_44 (142 + 2 * m) M24))))) := by
    unfold f_Gate_letOut f_Worker_setLists
    rw [kM_eq, kM_eq, bnd_eq, gk_pos (kd_m hm), show gI (mA (mA M 68 6 t) 68 7 139) (142 + 2 * m) 1 = gI M0 (142 + 2 * m) 1 from (hc.1.1 _ _ (by unfold XC; omega)).1]
    rfl
  rw [eq]
  generalize mA (mA M 68 6 t) 68 7 139 = M5 at g5 c5 l5 x5 a6 a7 ⊢
  rcases (hv.2 m hm).2.1 with q | ⟨i, hi, ei, hw⟩
  · rw [if_pos q]
    obtain ⟨M', b1, b2, b3⟩ := out44 hv hp0 hx0 hm0 hR hU c5 ht a6 a7 l5 x5 hm (fun z => z.1 q)
    exact ⟨M', b1, g5.tr b2, b3⟩
  · have ne := ne_m1 hi ei
    rw [if_neg ne]
    have hB : EnvB M5 (u, clO D 16 S, a, b, l, some x) none := mkB hR hm0 c5.1.1 hU.2.1 c5.2.1 c5.2.2 c5.1.2.1 c5.1.2.2.1 a6 (Or.inr (by omega)) l5 ⟨a7, x5⟩
    obtain ⟨v, M6, v1, v2, v3⟩ := cslot_ok hp0 hx0 hi hw c5.1.1 hB
    have g6 : EqK (XI 140) M5 M6 := v3.mono Wx_XI
    have eq2 : gi (gI M0 (142 + 2 * m) 1) 8 (bnd (f_Worker_workOut (gA M5 8 (gI M0 (142 + 2 * m) 1).toNatClampNeg) M5) (fun q20 M21 => gk q20 7 (bnd (f_Val_isTrue q20 M21) (fun q23 M24 => if q23 = 0 then (some (4, M24)) else (f_Gate_letOut_44 (142 + 2 * m) M24))))) = if xTr (sl M0 i (u, clO D 16 S, a, b, l, some x) none) = 0 then some (4, M6) else f_Gate_letOut_44 (142 + 2 * m) M6 := by
      rw [ei, gi_nI hi (by decide), nI_clamp (by omega), v1, bnd_eq, gk_pos v2.1, is_true v2, bnd_eq, xTr_eq]
    rw [eq2]
    have es : (gI M0 (142 + 2 * m) 1).toNatClampNeg = i := by rw [ei, nI_clamp (by omega)]
    by_cases q : xTr (sl M0 i (u, clO D 16 S, a, b, l, some x) none) = 0
    · rw [if_pos q]
      have e4 : xOut M0 m (u, clO D 16 S, a, b, l, some x) x = (4, x) := if_pos ⟨ne, by rw [es]; exact q⟩
      rw [e4]
      exact ⟨M6, rfl, g5.tr g6, fun z => absurd (show (4 : Int32) = 0 from z) (by decide)⟩
    · rw [if_neg q]
      obtain ⟨M', b1, b2, b3⟩ := out44 hv hp0 hx0 hm0 hR hU (c5.xi h140 g6) ht ((v3 68 6 (by unfold Wx Wk; omega)).2.2.trans a6) ((v3 68 7 (by unfold Wx Wk; omega)).2.2.trans a7) (l5.kp (fun k => (v3 t k (by unfold Wx Wk; omega)).1) (fun k => (v3 (t + 1) k (by unfold Wx Wk; omega)).1)) (x5.kp (fun k => (v3 139 k (by unfold Wx Wk; omega)).1) (fun k => (v3 139 k (by unfold Wx Wk; omega)).2.1) (fun k => (v3 140 k (by unfold Wx Wk; omega)).1) (fun k => (v3 141 k (by unfold Wx Wk; omega)).1)) hm (fun z => q (by rw [← es]; exact z.2))
      exact ⟨M', b1, (g5.tr g6).tr b2, b3⟩
theorem note_ok {m j : Nat} (hm : m < 8) (hj : j < 6) (M : ax_M) : f_Meth_note (142 + 2 * m) (nI j) M = some ((), mI M (143 + 2 * m) j (gI M (143 + 2 * m) j + 1)) := by
  unfold f_Meth_note
  rw [if_neg (nI_pos (by omega)), if_neg (show ¬ (6 : Int32) ≤ nI j from nI_ge (b := 6) hj (by decide)), gk_pos (kd_m hm), gi_nI hj (by decide), nI_clamp (by omega), kM_eq, show 142 + 2 * m + 1 = 143 + 2 * m by omega]
theorem CntC.up {M : ax_M} {f : xCnt} (h : CntC M f) {m j : Nat} (hm : m < 8) (hj : j < 6) : CntC (mI M (143 + 2 * m) j (gI M (143 + 2 * m) j + 1)) (bump f m j) := by
  intro p e hp he
  unfold bump
  by_cases q : p = m ∧ e = j
  · rw [if_pos q, q.1, q.2, mIs, h m j hm hj]
  · rw [if_neg q]
    by_cases q1 : p = m
    · rw [mIk (fun z => q ⟨q1, z⟩)]
      exact h p e hp he
    · rw [mIc (by omega)]
      exact h p e hp he
theorem CntC.kp {M M' : ax_M} {f : xCnt} (h : CntC M f) (hE : ∀ m e, m < 8 → gI M' (143 + 2 * m) e = gI M (143 + 2 * m) e) : CntC M' f := fun m e hm he => (hE m e hm).trans (h m e hm he)
theorem xr_n {r : xRes} (h : XR r) : ∃ j, j < 5 ∧ r.1 = nI j := by
  rcases h with h | h | h | h | h
  · exact ⟨0, by decide, h.1⟩
  · exact ⟨1, by decide, h.1⟩
  · exact ⟨2, by decide, h⟩
  · exact ⟨3, by decide, h⟩
  · exact ⟨4, by decide, h⟩
