/-! The reference's call: the frames, and the call of both sides. -/
theorem mrun_b {M0 : ax_M} {D Wm : Nat → Nat} (hg : S_guard M0) (hmm : S_meth M0) (hv0 : S_val M0) (hp0 : S_perm M0) (hx0 : S_expr M0) (hR : hRoles M0 D Wm) {a : Int32} {b : Int64} {R : xFn} (hX : XF R) {d : Nat} (hd : d < 8) (hs : (d + 1 < 8 ∧ MSpec M0 a b R (d + 1)) ∨ (d = 7 ∧ R = xDeep)) : MSpec M0 a b (xRunB M0 D a b R) d := by
  intro m l u S f M hm hU h0 h52 hF hf
  obtain ⟨i1, i2⟩ := xin_ok (M := M0) (m := m) (u := u) (s := clO D 16 S) (a := a) (b := b) hF.2.2.1
  obtain ⟨x, M1, k, M2, e1, e2, e3, e4, e5, e6, e7, e8⟩ := enter_ok hg hmm hv0 hp0 hx0 hR hd hs hm hU h0 h52 hF hf
  unfold xRunB
  generalize xIn M0 m u (clO D 16 S) a b l = z at i1 i2 e3 e6 e7 ⊢
  have xw : XR (if z.1 = 0 then xWork M0 a R m z.2 u S (bump f m 5) else (z.1, xErr, f)) := by
    by_cases q : z.1 = 0
    · rw [if_pos q]
      exact xwork_ok hX i2
    · rw [if_neg q]
      rcases i1 with y | y | y
      · exact absurd y q
      · exact Or.inr (Or.inr (Or.inl y))
      · exact Or.inr (Or.inr (Or.inr (Or.inl y)))
  have ex : (if z.1 = 0 then xFin M0 D a b m z.2 u S (xWork M0 a R m z.2 u S (bump f m 5)) else (z.1, xErr, bump f m z.1.toNatClampNeg)) = xFin M0 D a b m z.2 u S (if z.1 = 0 then xWork M0 a R m z.2 u S (bump f m 5) else (z.1, xErr, f)) := by
    by_cases q : z.1 = 0
    · rw [if_pos q, if_pos q]
    · rw [if_neg q, if_neg q]
      exact (if_neg q).symm
  rw [ex]
  generalize (if z.1 = 0 then xWork M0 a R m z.2 u S (bump f m 5) else (z.1, xErr, f)) = w at xw e3 e7 ⊢
  obtain ⟨M3, c1, c2, c3, c4, c5⟩ := leave_ok hmm hv0 hp0 hx0 hR hU e4 hd e5 hm e6 xw e7
  refine ⟨k + 2, M3, by omega, fun F => ?_, c2, c3, c4, e8.tr c5⟩
  have s1 : f_Mod_call_39 (F + (k + 2)) (-1) M = f_Mod_call_39 (F + 1 + k) x M1 := by
    rw [show F + (k + 2) = (F + 1 + k) + 1 by omega]
    show f_Mod_call_39_b (f_Mod_call_39 (F + 1 + k)) (-1) M = _
    unfold f_Mod_call_39_b
    rw [h52, if_neg (nI_nle (by omega) (by omega)), if_neg (show ¬ (0 : Int32) ≤ -1 by decide), e1, bnd_eq]
  have s2 : f_Mod_call_39 (F + 1) w.1 M2 = f_Mod_call_39 F (xFin M0 D a b m z.2 u S w).1 M3 := by
    show f_Mod_call_39_b (f_Mod_call_39 F) w.1 M2 = _
    obtain ⟨j, hj, ej⟩ := xr_n xw
    unfold f_Mod_call_39_b
    rw [e5, if_neg (nI_nle (by omega) (by omega)), if_pos (show 0 ≤ w.1 by rw [ej]; exact nI_pos' (by omega)), c1, bnd_eq]
  rw [s1, e3 (F + 1), s2]
theorem mrun_ok {M0 : ax_M} {D Wm : Nat → Nat} (hg : S_guard M0) (hmm : S_meth M0) (hv0 : S_val M0) (hp0 : S_perm M0) (hx0 : S_expr M0) (hR : hRoles M0 D Wm) {a : Int32} {b : Int64} : ∀ n d, n + d = 7 → MSpec M0 a b (xRun M0 D a b n) d
  | 0, d, h => mrun_b hg hmm hv0 hp0 hx0 hR xdeep_ok (by omega) (Or.inr ⟨by omega, rfl⟩)
  | n + 1, d, h => mrun_b hg hmm hv0 hp0 hx0 hR (xrun_ok n) (by omega) (Or.inl ⟨by omega, mrun_ok hg hmm hv0 hp0 hx0 hR n (d + 1) (by omega)⟩)
theorem call135 {M : ax_M} (e : Int32) : ∃ M', f_Mod_call_135 64 e 0 M = some (e, M') ∧ EqK (fun c _ => c = 221) M M' ∧ ∀ j, j < 5 → gI M' 221 j = gI M 220 j := by
  obtain ⟨M4, b1, b2, b3⟩ := cp_ok (L := fun f j M => f_Mod_call_135 f e j M) (fin := fun M => some (e, M)) (dst := 221) (od := 0) (n := 5) (val := fun j => gI M 220 j) (Ms := M) (by decide) (fun f j M4 hj hE _ => by
      show f_Mod_call_135_b (f_Mod_call_135 f) e (nI j) M4 = _
      unfold f_Mod_call_135_b
      rw [if_neg (show ¬ (5 : Int32) ≤ nI j from nI_ge (b := 5) hj (by decide)), gi_nI hj (by decide), nI_clamp (show j < 2 ^ 31 by omega), (hE 220 j (by unfold Cp; omega)).1, kM_eq, kM_eq, nI_1, Nat.zero_add]) (fun f M4 hE => by
      show f_Mod_call_135_b (f_Mod_call_135 f) e (nI 5) M4 = _
      unfold f_Mod_call_135_b
      rw [if_pos (show (5 : Int32) ≤ nI 5 by decide)])
  refine ⟨M4, b1, b2.mono fun c k z => z.1, fun j hj => ?_⟩
  have := b3 j hj
  rw [Nat.zero_add] at this
  exact this
theorem call104 {M : ax_M} (e s : Int32) : ∃ M', f_Mod_call_104 e s M = some (e, M') ∧ EqK (fun c k => c = 221 ∨ (c = 184 ∧ (k = 57 ∨ k = 58))) M M' ∧ gI M' 184 57 = s ∧ gI M' 184 58 = (if 1 < e then 0 else if s = 0 then 0 else gI M 184 55) ∧ ∀ j, j < 5 → gI M' 221 j = gI M 220 j := by
  have st : ∀ y : Int32, ∃ M', f_Mod_call_135 64 e 0 (mI (mI M 184 57 s) 184 58 y) = some (e, M') ∧ EqK (fun c k => c = 221 ∨ (c = 184 ∧ (k = 57 ∨ k = 58))) M M' ∧ gI M' 184 57 = s ∧ gI M' 184 58 = y ∧ ∀ j, j < 5 → gI M' 221 j = gI M 220 j := fun y => by
    obtain ⟨M', a1, a2, a3⟩ := call135 (M := mI (mI M 184 57 s) 184 58 y) e
    refine ⟨M', a1, EqK.tr (((EqK.rf M).mI (S := fun c k => c = 221 ∨ (c = 184 ∧ (k = 57 ∨ k = 58))) (Or.inr ⟨rfl, Or.inl rfl⟩)).mI (Or.inr ⟨rfl, Or.inr rfl⟩)) (a2.mono fun c k z => Or.inl z), ?_, ?_, fun j hj => ?_⟩
    · rw [(a2 184 57 (by omega)).1, mIk (by decide)]
      exact mIs _ _ _ _
    · rw [(a2 184 58 (by omega)).1]
      exact mIs _ _ _ _
    · rw [a3 j hj, mIc (by decide), mIc (by decide)]
  unfold f_Mod_call_104
  rw [kM_eq, mIs, show gI (mI M 184 57 s) 184 55 = gI M 184 55 from mIk (by decide)]
  by_cases q : 1 < e
  · rw [if_pos q, if_pos q, kM_eq]
    exact st 0
  · rw [if_neg q, if_neg q]
    by_cases q2 : s = 0
    · rw [if_pos q2, if_pos q2, kM_eq]
      exact st 0
    · rw [if_neg q2, if_neg q2, kM_eq]
      exact st _
