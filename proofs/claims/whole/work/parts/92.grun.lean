/-! The class's call: one round of it, and the recursion. -/
theorem fin_ok {M0 M : ax_M} {u a : Int32} {S : Nat} {b : Int64} (hc : CSt M0 M u S a b) {f : xCnt} (hf : CntC M f) {m j : Nat} (hm : m < 8) (hj : j < 6) : CSt M0 (mI (mI M (143 + 2 * m) j (gI M (143 + 2 * m) j + 1)) 135 9 (nI j)) u S a b ∧ CntC (mI (mI M (143 + 2 * m) j (gI M (143 + 2 * m) j + 1)) 135 9 (nI j)) (bump f m j) ∧ EqK (fun c k => c = 143 + 2 * m ∨ (c = 135 ∧ k = 9)) M (mI (mI M (143 + 2 * m) j (gI M (143 + 2 * m) j + 1)) 135 9 (nI j)) := by
  have e : EqK (fun c k => c = 143 + 2 * m ∨ (c = 135 ∧ k = 9)) M (mI (mI M (143 + 2 * m) j (gI M (143 + 2 * m) j + 1)) 135 9 (nI j)) := ((EqK.rf M).mI (S := fun c k => c = 143 + 2 * m ∨ (c = 135 ∧ k = 9)) (Or.inl rfl)).mI (Or.inr ⟨rfl, rfl⟩)
  refine ⟨⟨⟨hc.1.1.tr (e.mono fun c k z => by unfold XC; omega), (e 68 4 (by omega)).1.trans hc.1.2.1, (e 68 5 (by omega)).2.1.trans hc.1.2.2.1, (e 135 7 (by omega)).1.trans hc.1.2.2.2⟩, (e 63 2 (by omega)).1.trans hc.2.1, (e 63 3 (by omega)).1.trans hc.2.2⟩, ?_, e⟩
  exact (hf.up hm hj).kp fun p q hp => mIc (by omega)
theorem run61 {M0 M : ax_M} {D Wm : Nat → Nat} (hv : S_val M0) (hp0 : S_perm M0) (hx0 : S_expr M0) (hm0 : S_misc M0) (hR : hRoles M0 D Wm) {u a : Int32} {S : Nat} {b : Int64} (hU : UOk u S) (hc : CS0 M0 M a b) {d m : Nat} (hd : d < 8) (hm : m < 8) {l : List Int32} {w : xRes} (hl : w.1 = 0 → IRep M (168 + 2 * d) l) (hw : XR w) (he : CEnd M w) (v : Int32 → Int32 → ax_M → Option (Int32 × ax_M)) : ∃ M', f_Gate_run_61 v (nI d) (142 + 2 * m) u (nI S) w.1 M = some ((xFin M0 D a b m l u S w).1, M') ∧ CSt M0 M' u S a b ∧ CEnd M' (xFin M0 D a b m l u S w) ∧ gI M' 135 9 = (xFin M0 D a b m l u S w).1 ∧ LowC d M M' := by
  have g1 : EqO (fun c => c = 63) M (mI (mI M 63 2 u) 63 3 (nI S)) := ((EqO.rf M).mI (S := fun c => c = 63) rfl).mI rfl
  have c1 : CSt M0 (mI (mI M 63 2 u) 63 3 (nI S)) u S a b := ⟨hc.ctx u (nI S), (mIk (by decide)).trans (mIs _ _ _ _), mIs _ _ _ _⟩
  unfold f_Gate_run_61 f_Ctx_become xFin
  rw [kM_eq, kM_eq, bnd_eq]
  generalize mI (mI M 63 2 u) 63 3 (nI S) = M1 at g1 c1 ⊢
  have f1 : CntC M1 w.2.2 := he.1.kp fun p q hp => (g1 _ (by omega) q).1
  have w1 : LowC d M M1 := fun c k x1 x2 => (g1 c (by omega) k).1
  by_cases q : w.1 = 0
  · rw [if_pos q, if_pos q, gi_nI hd (by decide), kM_eq, nI_clamp (by omega)]
    have hl1 : IRep M1 (168 + 2 * d) l := (hl q).kp (fun k => (g1 _ (by omega) k).1) (fun k => (g1 _ (by omega) k).1)
    have hx1 : VRep M1 139 w.2.1 := (he.2.1 q).kp (fun k => (g1 _ (by omega) k).1) (fun k => (g1 _ (by omega) k).2.1) (fun k => (g1 _ (by omega) k).1) (fun k => (g1 _ (by omega) k).1)
    obtain ⟨M2, a1, a2, a3⟩ := letOut_ok hv hp0 hx0 hm0 hR hU c1 (t := 168 + 2 * d) (Or.inl (by omega)) hl1 hx1 hm
    have xo := (xout_ok (M := M0) (m := m) (ρ := (u, clO D 16 S, a, b, l, some w.2.1)) (show XW w.2.1 by
      rcases hw with h | h | h | h | h
      · exact h.2
      · rw [q] at h; exact absurd h.1 (by decide)
      · rw [q] at h; exact absurd h (by decide)
      · rw [q] at h; exact absurd h (by decide)
      · rw [q] at h; exact absurd h (by decide))).1
    generalize xOut M0 m (u, clO D 16 S, a, b, l, some w.2.1) w.2.1 = o at a1 a3 xo ⊢
    obtain ⟨j, hj, ej⟩ : ∃ j, j < 6 ∧ o.1 = nI j := by
      rcases xo with z | z
      · exact ⟨0, by decide, z⟩
      · exact ⟨4, by decide, z⟩
    have c2 := c1.xi (t := 140) (Or.inr rfl) a2
    have f2 : CntC M2 w.2.2 := f1.kp fun p q hp => (a2 _ q (by unfold XI Wk; omega)).1
    obtain ⟨c3, f3, g3⟩ := fin_ok c2 f2 hm hj
    rw [a1, bnd_eq, gk_pos (kd_m hm), ej, note_ok hm hj, bnd_eq, kM_eq, nI_clamp (by omega)]
    refine ⟨_, rfl, c3, ⟨f3, fun z => ?_, fun z => ?_⟩, mIs _ _ _ _, fun c k x1 x2 => ?_⟩
    · exact (a3 (ej.trans z)).kp (fun k => (g3 139 k (by omega)).1) (fun k => (g3 139 k (by omega)).2.1) (fun k => (g3 140 k (by omega)).1) (fun k => (g3 141 k (by omega)).1)
    · have z2 : o.1 = 1 := ej.trans z
      rcases xo with y | y
      · rw [y] at z2
        exact absurd z2 (by decide)
      · rw [y] at z2
        exact absurd z2 (by decide)
    · exact ((g3 c k (by omega)).1.trans (a2 c k (by unfold XI Wk; omega)).1).trans (w1 c k x1 x2)
  · rw [if_neg q, if_neg q]
    obtain ⟨j, hj, ej⟩ := xr_n hw
    obtain ⟨c3, f3, g3⟩ := fin_ok c1 f1 hm (show j < 6 by omega)
    rw [gk_pos (kd_m hm), ej, note_ok hm (by omega), bnd_eq, kM_eq, nI_clamp (by omega)]
    refine ⟨_, rfl, c3, ⟨f3, fun z => absurd (ej.trans z) q, fun z => ?_⟩, mIs _ _ _ _, fun c k x1 x2 => (g3 c k (by omega)).1.trans (w1 c k x1 x2)⟩
    rw [(g3 135 8 (by omega)).1, (g1 135 (by omega) 8).1]
    exact he.2.2 (ej.trans z)
theorem grun_b {M0 : ax_M} {D Wm : Nat → Nat} (hv : S_val M0) (hp0 : S_perm M0) (hx0 : S_expr M0) (hm0 : S_misc M0) (hR : hRoles M0 D Wm) {a : Int32} {b : Int64} {R : xFn} (hF : XF R) {d : Nat} (hd : d < 8) {v : Int32 → Int32 → ax_M → Option (Int32 × ax_M)} (hs : (d + 1 < 8 ∧ CSpec M0 a b R (d + 1) v) ∨ (d = 7 ∧ R = xDeep)) : CSpec M0 a b (xRunB M0 D a b R) d (fb_Gate_run v) := by
  intro m l u S f M hm hU hc hl hf
  obtain ⟨M1, a1, a2, a3⟩ := letIn_ok hv hp0 hx0 hm0 hR hU hc (t := 168 + 2 * d) (Or.inl (by omega)) hl hm
  obtain ⟨i1, i2⟩ := xin_ok (M := M0) (m := m) (u := u) (s := clO D 16 S) (a := a) (b := b) hl.2.1
  have c1 := hc.xi (t := 168 + 2 * d) (Or.inl (by omega)) a2
  have f1 : CntC M1 f := hf.kp fun p q hp => (a2 _ q (by unfold XI Wk; omega)).1
  have w1 : LowC d M M1 := fun c k x1 x2 => (a2 c k (by unfold XI Wk; omega)).1
  unfold fb_Gate_run xRunB
  rw [gi_nI hm (by decide), kM_eq, kM_eq, kM_eq, gof_ok hc.1.1 hm, bnd_eq, gi_nI hd (by decide), kM_eq, nI_clamp (show d < 2 ^ 31 by omega), nI_clamp (show m < 2 ^ 31 by omega), a1, bnd_eq, hc.2.1, hc.2.2]
  generalize xIn M0 m u (clO D 16 S) a b l = z at a1 a3 i1 i2 ⊢
  by_cases q : z.1 = 0
  · rw [if_pos q, if_pos q, show f_Meth_note (142 + 2 * m) 5 M1 = _ from note_ok (j := 5) hm (by decide) M1, bnd_eq]
    have g2 : EqK (fun c _ => c = 143 + 2 * m) M1 (mI M1 (143 + 2 * m) 5 (gI M1 (143 + 2 * m) 5 + 1)) := (EqK.rf M1).mI (S := fun c _ => c = 143 + 2 * m) rfl
    have c2 : CSt M0 (mI M1 (143 + 2 * m) 5 (gI M1 (143 + 2 * m) 5 + 1)) u S a b := ⟨⟨c1.1.1.tr (g2.mono fun c k z => by unfold XC; omega), (g2 68 4 (by omega)).1.trans c1.1.2.1, (g2 68 5 (by omega)).2.1.trans c1.1.2.2.1, (g2 135 7 (by omega)).1.trans c1.1.2.2.2⟩, (g2 63 2 (by omega)).1.trans c1.2.1, (g2 63 3 (by omega)).1.trans c1.2.2⟩
    have l2 : IRep (mI M1 (143 + 2 * m) 5 (gI M1 (143 + 2 * m) 5 + 1)) (168 + 2 * d) z.2 := (a3 q).kp (fun k => (g2 _ k (by omega)).1) (fun k => (g2 _ k (by omega)).1)
    have f2 := f1.up hm (show 5 < 6 by decide)
    generalize mI M1 (143 + 2 * m) 5 (gI M1 (143 + 2 * m) 5 + 1) = M2 at g2 c2 l2 f2 ⊢
    obtain ⟨M3, b1, b2, b3, b4⟩ := gwork_ok hv hd hs hm hU c2 l2 f2
    rw [b1, bnd_eq]
    obtain ⟨M4, d1, d2, d3, d4, d5⟩ := run61 hv hp0 hx0 hm0 hR hU b2 hd hm (l := z.2) (fun _ => l2.kp (fun k => b4 _ k (by omega) (by omega)) (fun k => b4 _ k (by omega) (by omega))) (xwork_ok hF i2) b3 v
    exact ⟨M4, d1, d2, d3, d4, fun c k x1 x2 => (((d5 c k x1 x2).trans (b4 c k x1 (by omega))).trans (g2 c k (by omega)).1).trans (w1 c k x1 x2)⟩
  · rw [if_neg q, if_neg q]
    have xr : XR (z.1, xErr, f) := by
      rcases i1 with y | y | y
      · exact absurd y q
      · exact Or.inr (Or.inr (Or.inl y))
      · exact Or.inr (Or.inr (Or.inr (Or.inl y)))
    have ce : CEnd M1 (z.1, xErr, f) := by
      refine ⟨f1, fun y => absurd y q, fun y => ?_⟩
      have y : z.1 = 1 := y
      rcases i1 with y1 | y1 | y1
      · exact absurd y1 q
      · rw [y1] at y
        exact absurd y (by decide)
      · rw [y1] at y
        exact absurd y (by decide)
    obtain ⟨M4, d1, d2, d3, d4, d5⟩ := run61 hv hp0 hx0 hm0 hR hU c1.1 hd hm (l := z.2) (fun y => absurd y q) xr ce v
    have ex : xFin M0 D a b m z.2 u S (z.1, xErr, f) = (z.1, xErr, bump f m z.1.toNatClampNeg) := if_neg q
    rw [ex] at d1 d3 d4
    exact ⟨M4, d1, d2, d3, d4, fun c k x1 x2 => (d5 c k x1 x2).trans (w1 c k x1 x2)⟩
theorem grun_ok {M0 : ax_M} {D Wm : Nat → Nat} (hv : S_val M0) (hp0 : S_perm M0) (hx0 : S_expr M0) (hm0 : S_misc M0) (hR : hRoles M0 D Wm) {a : Int32} {b : Int64} : ∀ n d, n + d = 7 → CSpec M0 a b (xRun M0 D a b n) d (f_Gate_run (n + 2))
  | 0, d, h => grun_b (v := f_Gate_run 1) hv hp0 hx0 hm0 hR xdeep_ok (by omega) (Or.inr ⟨by omega, rfl⟩)
  | n + 1, d, h => grun_b (v := f_Gate_run (n + 2)) hv hp0 hx0 hm0 hR (xrun_ok n) (by omega) (Or.inl ⟨by omega, grun_ok hv hp0 hx0 hm0 hR n (d + 1) (by omega)⟩)
