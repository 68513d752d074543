/-! The class's call. -/
def CS0 (M0 M : ax_M) (a : Int32) (b : Int64) : Prop := EqK XC M0 M ∧ gI M 68 4 = a ∧ gJ M 68 5 = b ∧ gI M 135 7 = a
def CSt (M0 M : ax_M) (u : Int32) (S : Nat) (a : Int32) (b : Int64) : Prop := CS0 M0 M a b ∧ gI M 63 2 = u ∧ gI M 63 3 = nI S
def CntC (M : ax_M) (f : xCnt) : Prop := ∀ m e, m < 8 → e < 6 → gI M (143 + 2 * m) e = f m e
def UOk (u : Int32) (S : Nat) : Prop := (u = -1 ∨ 0 ≤ u) ∧ S < 65536 ∧ (u = -1 → S = 0)
def XI (t c k : Nat) : Prop := (c = 68 ∧ (k = 3 ∨ k = 6 ∨ k = 7)) ∨ Wk c ∨ c = t ∨ c = t + 1
def tOk (t : Nat) : Prop := (168 ≤ t ∧ t + 1 < 184) ∨ t = 140
theorem CS0.xi {M0 M M' : ax_M} {a : Int32} {b : Int64} {t : Nat} (ht : tOk t) (h : CS0 M0 M a b) (hE : EqK (XI t) M M') : CS0 M0 M' a b := by
  unfold tOk at ht
  obtain ⟨h1, h2, h3, h4⟩ := h
  refine ⟨h1.tr (hE.mono fun c k z => by unfold XI Wk at z; unfold XC; omega), ?_, ?_, ?_⟩
  · exact (hE 68 4 (by unfold XI Wk; omega)).1.trans h2
  · exact (hE 68 5 (by unfold XI Wk; omega)).2.1.trans h3
  · exact (hE 135 7 (by unfold XI Wk; omega)).1.trans h4
theorem CSt.xi {M0 M M' : ax_M} {u a : Int32} {S : Nat} {b : Int64} {t : Nat} (ht : tOk t) (h : CSt M0 M u S a b) (hE : EqK (XI t) M M') : CSt M0 M' u S a b := by
  have ht2 := ht
  unfold tOk at ht2
  exact ⟨h.1.xi ht hE, (hE 63 2 (by unfold XI Wk; omega)).1.trans h.2.1, (hE 63 3 (by unfold XI Wk; omega)).1.trans h.2.2⟩
theorem Wx_XI {t : Nat} : ∀ c k, Wx c k → XI t c k := fun c k z => by unfold Wx Wk at z; unfold XI Wk; omega
theorem kd_m {m : Nat} (hm : m < 8) : kd (142 + 2 * m) = 9 := by
  have h : ∀ q : Fin 8, kd (142 + 2 * q.1) = 9 := by decide +kernel
  exact h ⟨m, hm⟩
theorem kd_l {d : Nat} (hd : d < 8) : kd (168 + 2 * d) = 5 := by
  have h : ∀ q : Fin 8, kd (168 + 2 * q.1) = 5 := by decide +kernel
  exact h ⟨d, hd⟩
theorem xTr_eq (x : xV) : (if x.1 = 1 ∧ x.2.1 = 1 then (1 : Int32) else 0) = xTr x := rfl
theorem let65 {M0 M : ax_M} {D Wm : Nat → Nat} (hv : S_val M0) (hp0 : S_perm M0) (hx0 : S_expr M0) (hm : S_misc M0) (hR : hRoles M0 D Wm) {u a : Int32} {S : Nat} {b : Int64} (hU : UOk u S) (hc : CSt M0 M u S a b) {t : Nat} {l : List Int32} (ht : tOk t) (h6 : gA M 68 6 = t) (h7 : gA M 68 7 = 0) (hl : IRep M t l) {p : Nat} (hp : p < 10) : ∃ M', f_Gate_letIn_65 (158 + p) M = some (if xOp M0 p (u, clO D 16 S, a, b, l, none) = 0 then 2 else 0, M') ∧ EqK Wx M M' := by
  have hB : EnvB M (u, clO D 16 S, a, b, l, none) none := mkB hR hm hc.1.1 hU.2.1 hc.2.1 hc.2.2 hc.1.2.1 hc.1.2.2.1 h6 (Or.inr (by unfold tOk at ht; omega)) hl h7
  have eg : ∀ k, gI M (158 + p) k = gI M0 (158 + p) k := fun k => (hc.1.1 _ k (by unfold XC; omega)).1
  unfold f_Gate_letIn_65 xOp
  rw [gk_pos (lg_10 p hp), eg 0]
  by_cases q4 : gI M0 (158 + p) 0 = 4
  · rw [if_pos q4, if_pos q4, eg 1]
    obtain ⟨i, hi, ei, hw⟩ := hv.1 p hp q4
    rw [ei, gi_nI hi (by decide), nI_clamp (by omega), kM_eq]
    obtain ⟨v, M', v1, v2, v3⟩ := cslot_ok hp0 hx0 hi hw hc.1.1 hB
    refine ⟨M', ?_, v3⟩
    rw [v1, bnd_eq, gk_pos v2.1, is_true v2, bnd_eq, xTr_eq]
    generalize xTr (sl M0 i (u, clO D 16 S, a, b, l, none) none) = z
    by_cases q : z = 0
    · rw [if_pos q, if_pos q]
    · rw [if_neg q, if_neg q]
  · rw [if_neg q4, if_neg q4, hB.2.1, bnd_eq]
    unfold f_Guard_opensTo
    rw [gk_pos (lg_10 p hp), eg 0, eg 1]
    refine ⟨M, ?_, EqK.rf M⟩
    by_cases q3 : gI M0 (158 + p) 0 = 3
    · rw [if_pos q3, if_pos q3]
      by_cases q : (nI (clO D 16 S) &&& gI M0 (158 + p) 1) = 0
      · rw [if_pos q, if_pos q]
        rfl
      · rw [if_neg q, if_neg q]
        rfl
    · rw [if_neg q3, if_neg q3]
      by_cases q : gI M0 (158 + p) 0 = 2
      · rw [if_pos q, if_pos q]
        rfl
      · rw [if_neg q, if_neg q]
        rfl
theorem let26 {M0 M : ax_M} {D Wm : Nat → Nat} (hv : S_val M0) (hp0 : S_perm M0) (hx0 : S_expr M0) (hm0 : S_misc M0) (hR : hRoles M0 D Wm) {u a : Int32} {S : Nat} {b : Int64} (hU : UOk u S) (hc : CSt M0 M u S a b) {t : Nat} {l : List Int32} (ht : tOk t) (hl : IRep M t l) {m p : Nat} (hm : m < 8) (hp : p < 10) : ∃ M', EqK (XI t) M M' ∧ ((xSf M0 (gI M0 (142 + 2 * m) 0) (u, clO D 16 S, a, b, l, none) l = none ∧ f_Gate_letIn_26 (142 + 2 * m) (158 + p) t M = some (2, M')) ∨ ∃ r, xSf M0 (gI M0 (142 + 2 * m) 0) (u, clO D 16 S, a, b, l, none) l = some r ∧ f_Gate_letIn_26 (142 + 2 * m) (158 + p) t M = some (if xOp M0 p (u, clO D 16 S, a, b, r, none) = 0 then 2 else 0, M') ∧ IRep M' t r) := by
  have ht2 := ht
  unfold tOk at ht2
  have g5 : EqK (XI t) M (mA (mA M 68 6 t) 68 7 0) := EqK.tr (mA_eqk (S := XI t) (Or.inl ⟨rfl, by omega⟩)) (mA_eqk (Or.inl ⟨rfl, by omega⟩))
  have c5 := hc.xi ht g5
  have l5 : IRep (mA (mA M 68 6 t) 68 7 0) t l := hl.kp (fun k => rfl) (fun k => rfl)
  have a6 : gA (mA (mA M 68 6 t) 68 7 0) 68 6 = t := mAs M 68 6 t
  have a7 : gA (mA (mA M 68 6 t) 68 7 0) 68 7 = 0 := mAs _ _ _ _
  have eq : f_Gate_letIn_26 (142 + 2 * m) (158 + p) t M = if gI M0 (142 + 2 * m) 0 = -1 then f_Gate_letIn_65 (158 + p) (mA (mA M 68 6 t) 68 7 0) else gi (gI M0 (142 + 2 * m) 0) 8 (bnd (f_Worker_filter (gA (mA (mA M 68 6 t) 68 7 0) 8 (gI M0 (142 + 2 * m) 0).toNatClampNeg) t (mA (mA M 68 6 t) 68 7 0)) (fun q25 M26 => if q25 = 0 then (some (2, M26)) else (f_Gate_letIn_65 (158 + p) M26))) := by
    unfold f_Gate_letIn_26 f_Worker_setLists
    rw [kM_eq, kM_eq, bnd_eq, gk_pos (kd_m hm), show gI (mA (mA M 68 6 t) 68 7 0) (142 + 2 * m) 0 = gI M0 (142 + 2 * m) 0 from (hc.1.1 _ _ (by unfold XC; omega)).1]
    rfl
  rw [eq]
  generalize mA (mA M 68 6 t) 68 7 0 = M5 at g5 c5 l5 a6 a7 ⊢
  unfold xSf
  rcases (hv.2 m hm).1 with q | ⟨i, hi, ei, hw⟩
  · rw [if_pos q, if_pos q]
    obtain ⟨M', b1, b2⟩ := let65 hv hp0 hx0 hm0 hR hU c5 ht a6 a7 l5 hp
    refine ⟨M', g5.tr (b2.mono Wx_XI), Or.inr ⟨l, rfl, b1, ?_⟩⟩
    exact l5.kp (fun k => (b2 t k (by unfold Wx Wk; omega)).1) (fun k => (b2 (t + 1) k (by unfold Wx Wk; omega)).1)
  · have ne : ¬ gI M0 (142 + 2 * m) 0 = -1 := fun z => by
      rw [ei] at z
      exact absurd (show nI i < 0 by rw [z]; decide) (nI_pos (by omega))
    rw [if_neg ne, if_neg ne, ei, gi_nI hi (by decide), nI_clamp (by omega)]
    have hB : EnvB M5 (u, clO D 16 S, a, b, l, none) none := mkB hR hm0 c5.1.1 hU.2.1 c5.2.1 c5.2.2 c5.1.2.1 c5.1.2.2.1 a6 (Or.inr (by omega)) l5 a7
    obtain ⟨M6, ⟨b1, b2, b3⟩ | ⟨r, b1, b2, b3, b4⟩⟩ := cfilt_ok hp0 hx0 hi hw c5.1.1 hB (by omega) l5
    · refine ⟨M6, g5.tr (b3.mono Wx_XI), Or.inl ⟨b1, ?_⟩⟩
      rw [b2, bnd_eq, if_pos rfl]
    · have g6 : EqK (XI t) M5 M6 := b4.mono fun c k z => by unfold Wx Wk at z; unfold XI Wk; omega
      obtain ⟨M', d1, d2⟩ := let65 hv hp0 hx0 hm0 hR hU (c5.xi ht g6) ht ((b4 68 6 (by unfold Wx Wk; omega)).2.2.trans a6) ((b4 68 7 (by unfold Wx Wk; omega)).2.2.trans a7) b3 hp
      refine ⟨M', (g5.tr g6).tr (d2.mono Wx_XI), Or.inr ⟨r, b1, ?_, ?_⟩⟩
      · rw [b2, bnd_eq, if_neg (by decide)]
        exact d1
      · exact b3.kp (fun k => (d2 t k (by unfold Wx Wk; omega)).1) (fun k => (d2 (t + 1) k (by unfold Wx Wk; omega)).1)
theorem gpl_lt (M : ax_M) {m : Nat} (hm : m < 8) : gpl M m < 10 := by
  unfold gpl
  split
  · omega
  · omega
theorem gof_ok {M0 M : ax_M} (hq : EqK XC M0 M) {m : Nat} (hm : m < 8) : f_Gate_guardOf (nI m) M = some (158 + gpl M0 m, M) := by
  have e8 : 8 + nI m / 4 = nI (8 + m / 4) := by
    have h : ∀ q : Fin 8, 8 + nI q.1 / 4 = nI (8 + q.1 / 4) := by decide +kernel
    exact h ⟨m, hm⟩
  unfold f_Gate_guardOf f_Guard_isThere gpl
  rw [gi_nI (by omega) (by decide), kM_eq, nI_clamp (by omega), gk_pos (lg_10 m (by omega)), (hq (158 + m) 0 (by unfold XC; omega)).1]
  by_cases q : gI M0 (158 + m) 0 = 0
  · rw [if_pos q, if_pos q, bnd_eq, if_pos rfl, e8, gi_nI (by omega) (by decide), nI_clamp (by omega), kM_eq]
  · rw [if_neg q, if_neg q, bnd_eq, if_neg (by decide), kM_eq]
theorem letIn_ok {M0 M : ax_M} {D Wm : Nat → Nat} (hv : S_val M0) (hp0 : S_perm M0) (hx0 : S_expr M0) (hm0 : S_misc M0) (hR : hRoles M0 D Wm) {u a : Int32} {S : Nat} {b : Int64} (hU : UOk u S) (hc : CSt M0 M u S a b) {t : Nat} {l : List Int32} (ht : tOk t) (hl : IRep M t l) {m : Nat} (hm : m < 8) : ∃ M', f_Gate_letIn (142 + 2 * m) (158 + gpl M0 m) t M = some ((xIn M0 m u (clO D 16 S) a b l).1, M') ∧ EqK (XI t) M M' ∧ ((xIn M0 m u (clO D 16 S) a b l).1 = 0 → IRep M' t (xIn M0 m u (clO D 16 S) a b l).2) := by
  have hg := gpl_lt M0 hm
  have eg : ∀ k, gI M (158 + gpl M0 m) k = gI M0 (158 + gpl M0 m) k := fun k => (hc.1.1 _ k (by unfold XC; omega)).1
  have em : ∀ k, gI M (142 + 2 * m) k = gI M0 (142 + 2 * m) k := fun k => (hc.1.1 _ k (by unfold XC; omega)).1
  have on : ¬ (u = -1 ∧ xWt M0 m (gpl M0 m) = 1) → ∃ M', f_Gate_letIn_26 (142 + 2 * m) (158 + gpl M0 m) t M = some ((xIn M0 m u (clO D 16 S) a b l).1, M') ∧ EqK (XI t) M M' ∧ ((xIn M0 m u (clO D 16 S) a b l).1 = 0 → IRep M' t (xIn M0 m u (clO D 16 S) a b l).2) := fun q => by
    have e : xIn M0 m u (clO D 16 S) a b l = match xSf M0 (gI M0 (142 + 2 * m) 0) (u, clO D 16 S, a, b, l, none) l with | none => (2, l) | some r => (if xOp M0 (gpl M0 m) (u, clO D 16 S, a, b, r, none) = 0 then 2 else 0, r) := if_neg q
    obtain ⟨M', b1, ⟨b2, b3⟩ | ⟨r, b2, b3, b4⟩⟩ := let26 hv hp0 hx0 hm0 hR hU hc ht hl hm hg
    · rw [b2] at e
      rw [e]
      exact ⟨M', b3, b1, fun z => absurd (show (2 : Int32) = 0 from z) (by decide)⟩
    · rw [b2] at e
      rw [e]
      exact ⟨M', b3, b1, fun _ => b4⟩
  have out : u = -1 → xWt M0 m (gpl M0 m) = 1 → xIn M0 m u (clO D 16 S) a b l = (3, l) := fun q1 q2 => if_pos ⟨q1, q2⟩
  have no3 : u = -1 → xWt M0 m (gpl M0 m) = 1 → ∃ M', (some (3, M) : Option (Int32 × ax_M)) = some ((xIn M0 m u (clO D 16 S) a b l).1, M') ∧ EqK (XI t) M M' ∧ ((xIn M0 m u (clO D 16 S) a b l).1 = 0 → IRep M' t (xIn M0 m u (clO D 16 S) a b l).2) := fun q1 q2 => by
    rw [out q1 q2]
    exact ⟨M, rfl, EqK.rf M, fun z => absurd (show (3 : Int32) = 0 from z) (by decide)⟩
  unfold f_Gate_letIn f_Ctx_isNobody
  rw [hc.2.1]
  by_cases qu : u = -1
  · rw [if_pos qu, bnd_eq, if_neg (show ¬ (1 : Int32) = 0 by decide), gk_pos (lg_10 _ hg)]
    unfold f_Guard_watches
    rw [gk_pos (lg_10 _ hg), eg 0]
    by_cases w2 : gI M0 (158 + gpl M0 m) 0 = 2
    · rw [if_pos w2, bnd_eq, if_neg (show ¬ (1 : Int32) = 0 by decide)]
      exact no3 qu (if_pos (Or.inl w2))
    rw [if_neg w2]
    by_cases w3 : gI M0 (158 + gpl M0 m) 0 = 3
    · rw [if_pos w3, bnd_eq, if_neg (show ¬ (1 : Int32) = 0 by decide)]
      exact no3 qu (if_pos (Or.inr (Or.inl w3)))
    rw [if_neg w3]
    by_cases w4 : gI M0 (158 + gpl M0 m) 0 = 4
    · rw [if_pos w4, bnd_eq, if_neg (show ¬ (1 : Int32) = 0 by decide)]
      exact no3 qu (if_pos (Or.inr (Or.inr (Or.inl w4))))
    rw [if_neg w4, bnd_eq, if_pos (show (0 : Int32) = 0 from rfl), gk_pos (kd_m hm)]
    unfold f_Meth_hasRule
    rw [gk_pos (kd_m hm), em 0, em 1, em 2]
    by_cases r0 : gI M0 (142 + 2 * m) 0 = -1
    · rw [if_pos r0]
      by_cases r1 : gI M0 (142 + 2 * m) 1 = -1
      · rw [if_pos r1]
        by_cases r2 : gI M0 (142 + 2 * m) 2 = -1
        · rw [if_pos r2, bnd_eq, if_pos (show (0 : Int32) = 0 from rfl)]
          refine on (fun z => absurd z.2 ?_)
          unfold xWt
          rw [if_neg (fun z => by rcases z with z | z | z | z | z | z <;> contradiction)]
          decide
        · rw [if_neg r2, bnd_eq, if_neg (show ¬ (1 : Int32) = 0 by decide)]
          exact no3 qu (if_pos (Or.inr (Or.inr (Or.inr (Or.inr (Or.inr r2))))))
      · rw [if_neg r1, bnd_eq, if_neg (show ¬ (1 : Int32) = 0 by decide)]
        exact no3 qu (if_pos (Or.inr (Or.inr (Or.inr (Or.inr (Or.inl r1))))))
    · rw [if_neg r0, bnd_eq, if_neg (show ¬ (1 : Int32) = 0 by decide)]
      exact no3 qu (if_pos (Or.inr (Or.inr (Or.inr (Or.inl r0)))))
  · rw [if_neg qu, bnd_eq, if_pos (show (0 : Int32) = 0 from rfl)]
    exact on (fun z => qu z.1)
