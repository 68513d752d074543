/-! The reference's call: its pieces. -/
def MS0 (M0 M : ax_M) (a : Int32) (b : Int64) : Prop := EqK XM M0 M ∧ gI M 184 40 = a ∧ gJ M 184 41 = b
def MSt (M0 M : ax_M) (u : Int32) (S : Nat) (a : Int32) (b : Int64) : Prop := MS0 M0 M a b ∧ gI M 184 13 = u ∧ gI M 184 14 = nI S
def CntM (M : ax_M) (f : xCnt) : Prop := ∀ m e, m < 8 → e < 6 → gI M 201 (6 * m + e) = f m e
def Frm (M : ax_M) (d m : Nat) (l : List Int32) (u : Int32) (S : Nat) : Prop := gI M 214 d = nI m ∧ gI M 216 d = nI l.length ∧ l.length ≤ 5 ∧ (∀ j, j < l.length → gI M 215 (5 * d + j) = l.getD j 0) ∧ gI M 217 d = u ∧ gI M 218 d = nI S
def RM (M : ax_M) (x : xV) : Prop := gI M 184 54 = x.1 ∧ (x.1 = 4 → gI M 184 55 = nI x.2.2.length ∧ x.2.2.length ≤ 5 ∧ ∀ j, j < x.2.2.length → gI M 220 j = x.2.2.getD j 0) ∧ (x.1 ≠ 4 → x.2.1 = (gI M 184 55).toInt64)
def MEnd (M : ax_M) (r : xRes) : Prop := CntM M r.2.2 ∧ (r.1 = 0 → RM M r.2.1) ∧ (r.1 = 1 → r.2.1 = xI (gI M 184 55))
def fr (d c k : Nat) : Prop := ((c = 214 ∨ c = 216 ∨ c = 217 ∨ c = 218) ∧ k < d) ∨ (c = 215 ∧ k < 5 * d) ∨ c < 184
def LowM (d : Nat) (M M' : ax_M) : Prop := ∀ c k, fr d c k → gI M' c k = gI M c k ∧ gJ M' c k = gJ M c k ∧ gA M' c k = gA M c k
theorem LowM.tr {d : Nat} {M M' M'' : ax_M} (h : LowM d M M') (g : LowM d M' M'') : LowM d M M'' := fun c k z => ⟨(g c k z).1.trans (h c k z).1, (g c k z).2.1.trans (h c k z).2.1, (g c k z).2.2.trans (h c k z).2.2⟩
theorem LowM.dn {d : Nat} {M M' : ax_M} (h : LowM (d + 1) M M') : LowM d M M' := fun c k z => h c k (by unfold fr at *; omega)
theorem LowM.of {d : Nat} {S : Nat → Nat → Prop} {M M' : ax_M} (h : EqK S M M') (hs : ∀ c k, fr d c k → ¬ S c k) : LowM d M M' := fun c k z => h c k (hs c k z)
theorem Frm.kp {M M' : ax_M} {d m : Nat} {l : List Int32} {u : Int32} {S : Nat} (h : Frm M d m l u S) (hE : LowM (d + 1) M M') : Frm M' d m l u S := by
  obtain ⟨h1, h2, h3, h4, h5, h6⟩ := h
  exact ⟨(hE 214 d (by unfold fr; omega)).1.trans h1, (hE 216 d (by unfold fr; omega)).1.trans h2, h3, fun j hj => (hE 215 _ (by unfold fr; omega)).1.trans (h4 j hj), (hE 217 d (by unfold fr; omega)).1.trans h5, (hE 218 d (by unfold fr; omega)).1.trans h6⟩
theorem MS0.kp {M0 M M' : ax_M} {a : Int32} {b : Int64} (h : MS0 M0 M a b) {S : Nat → Nat → Prop} (hE : EqK S M M') (hs : ∀ c k, S c k → XM c k ∧ (c ≠ 184 ∨ (k ≠ 40 ∧ k ≠ 41))) : MS0 M0 M' a b :=
  ⟨h.1.tr (hE.mono fun c k z => (hs c k z).1), (hE 184 40 (fun z => by have := (hs _ _ z).2; omega)).1.trans h.2.1, (hE 184 41 (fun z => by have := (hs _ _ z).2; omega)).2.1.trans h.2.2⟩
theorem CntM.kp {M M' : ax_M} {f : xCnt} (h : CntM M f) {S : Nat → Nat → Prop} (hE : EqK S M M') (hs : ∀ k, ¬ S 201 k) : CntM M' f := fun m e hm he => (hE 201 _ (hs _)).1.trans (h m e hm he)
def Xe (c k : Nat) : Prop := c = 212 ∨ (c = 184 ∧ (k = 38 ∨ k = 43 ∨ k = 44 ∨ k = 45))
theorem see_ok {M : ax_M} {d m : Nat} {l : List Int32} {u : Int32} {S : Nat} (hd : d < 8) (h52 : gI M 184 52 = nI (d + 1)) (hF : Frm M d m l u S) : ∃ M', f_Mod_see M = some ((), M') ∧ EqK Xe M M' ∧ gI M' 184 43 = nI l.length ∧ (∀ j, j < l.length → gI M' 212 j = l.getD j 0) ∧ gI M' 184 38 = 0 ∧ gI M' 184 44 = -1 := by
  obtain ⟨h1, h2, h3, h4, h5, h6⟩ := hF
  unfold f_Mod_see
  rw [kM_eq, h52, nI_m1, gi_nI hd (by decide), kM_eq, nI_clamp (by omega), h2]
  have n43 : ∀ M', EqK (Cp 212 0 l.length) (mI M 184 43 (nI l.length)) M' → gI M' 184 43 = nI l.length := fun M' h => by
    rw [(h 184 43 (by unfold Cp; omega)).1]
    exact mIs _ _ _ _
  obtain ⟨M1, a1, a2, a3⟩ := cp_ok (L := fun f j M => f_Mod_see_19 f (nI d) j M) (fin := fun m => some ((), mI (mI (mI m 184 38 0) 184 44 (-1)) 184 45 0)) (dst := 212) (od := 0) (val := fun j => l.getD j 0) (Ms := mI M 184 43 (nI l.length)) h3 (fun f j M1 hj hE _ => by
      show f_Mod_see_19_b (f_Mod_see_19 f) (nI d) (nI j) M1 = _
      unfold f_Mod_see_19_b
      rw [n43 M1 hE, if_neg (nI_ge hj (by omega)), i5 (by omega) (by omega), gi_nI (by omega) (by decide), gi_nI (by omega) (by decide), nI_clamp (show 5 * d + j < 2 ^ 31 by omega), nI_clamp (show j < 2 ^ 31 by omega), (hE 215 _ (by unfold Cp; omega)).1, mIc (by decide), h4 j hj, kM_eq, kM_eq, nI_1, Nat.zero_add]) (fun f M1 hE => by
      show f_Mod_see_19_b (f_Mod_see_19 f) (nI d) (nI l.length) M1 = _
      unfold f_Mod_see_19_b
      rw [n43 M1 hE, if_pos (nI_le (Nat.le_refl _) (by omega)), kM_eq, kM_eq, kM_eq])
  refine ⟨_, a1, ?_, ?_, fun j hj => ?_, ?_, ?_⟩
  · have x : ∀ k, k = 38 ∨ k = 43 ∨ k = 44 ∨ k = 45 → Xe 184 k := fun k hk => Or.inr ⟨rfl, hk⟩
    have e1 : EqK Xe M (mI M 184 43 (nI l.length)) := (EqK.rf M).mI (x 43 (by omega))
    have e2 : EqK Xe M M1 := e1.tr (a2.mono fun c k z => Or.inl z.1)
    exact ((e2.mI (x 38 (by omega))).mI (x 44 (by omega))).mI (x 45 (by omega))
  · rw [mIk (by decide), mIk (by decide), mIk (by decide)]
    exact n43 M1 a2
  · rw [mIc (by decide), mIc (by decide), mIc (by decide)]
    have := a3 j hj
    rw [Nat.zero_add] at this
    exact this
  · rw [mIk (by decide), mIk (by decide)]
    exact mIs _ _ _ _
  · rw [mIk (by decide)]
    exact mIs _ _ _ _
def Xo (d c k : Nat) : Prop := (c = 184 ∧ k = 52) ∨ ((c = 214 ∨ c = 216 ∨ c = 217 ∨ c = 218) ∧ k = d) ∨ (c = 215 ∧ 5 * d ≤ k)
theorem open_ok {M : ax_M} {d m : Nat} {l : List Int32} {u : Int32} {S : Nat} (hd : d < 8) (h52 : gI M 184 52 = nI d) (h13 : gI M 184 13 = u) (h14 : gI M 184 14 = nI S) (h43 : gI M 184 43 = nI l.length) (hl : l.length ≤ 5) (hv : ∀ j, j < l.length → gI M 212 j = l.getD j 0) : ∃ M', f_Mod_open (nI m) M = some ((), M') ∧ EqK (Xo d) M M' ∧ gI M' 184 52 = nI (d + 1) ∧ Frm M' d m l u S := by
  unfold f_Mod_open
  rw [kM_eq, h52, gi_nI hd (by decide), kM_eq, kM_eq, nI_clamp (by omega), show gI (mI M 214 d (nI m)) 184 43 = nI l.length from (mIc (by decide)).trans h43]
  have e0 : EqK (Xo d) M (mI (mI M 214 d (nI m)) 216 d (nI l.length)) := ((EqK.rf M).mI (S := Xo d) (Or.inr (Or.inl ⟨Or.inl rfl, rfl⟩))).mI (Or.inr (Or.inl ⟨Or.inr (Or.inl rfl), rfl⟩))
  have f1 : gI (mI (mI M 214 d (nI m)) 216 d (nI l.length)) 214 d = nI m := (mIc (by decide)).trans (mIs _ _ _ _)
  have f2 : gI (mI (mI M 214 d (nI m)) 216 d (nI l.length)) 216 d = nI l.length := mIs _ _ _ _
  have g52 : gI (mI (mI M 214 d (nI m)) 216 d (nI l.length)) 184 52 = nI d := (mIc (by decide)).trans ((mIc (by decide)).trans h52)
  generalize mI (mI M 214 d (nI m)) 216 d (nI l.length) = M1 at e0 f1 f2 g52 ⊢
  have k1 : ∀ k, k ≠ 52 → gI M1 184 k = gI M 184 k := fun k hk => (e0 184 k (by unfold Xo; omega)).1
  have k2 : ∀ M', EqK (Cp 215 (5 * d) l.length) M1 M' → ∀ k, gI M' 184 k = gI M1 184 k := fun M' h k => (h 184 k (by unfold Cp; omega)).1
  obtain ⟨M2, a1, a2, a3⟩ := cp_ok (L := fun f j M => f_Mod_open_24 f (nI d) j M) (fin := fun m => some ((), mI (mI (mI m 217 d u) 218 d (nI S)) 184 52 (nI (d + 1)))) (dst := 215) (od := 5 * d) (val := fun j => l.getD j 0) (Ms := M1) hl (fun f j M2 hj hE _ => by
      show f_Mod_open_24_b (f_Mod_open_24 f) (nI d) (nI j) M2 = _
      unfold f_Mod_open_24_b
      rw [k2 M2 hE, k1 43 (by decide), h43, if_neg (nI_ge hj (by omega)), gi_nI (by omega) (by decide), i5 (by omega) (by omega), gi_nI (by omega) (by decide), nI_clamp (show 5 * d + j < 2 ^ 31 by omega), nI_clamp (show j < 2 ^ 31 by omega), (hE 212 _ (by unfold Cp; omega)).1, (e0 212 j (by unfold Xo; omega)).1, hv j hj, kM_eq, kM_eq, nI_1]) (fun f M2 hE => by
      show f_Mod_open_24_b (f_Mod_open_24 f) (nI d) (nI l.length) M2 = _
      unfold f_Mod_open_24_b
      rw [k2 M2 hE, k1 43 (by decide), h43, if_pos (nI_le (Nat.le_refl _) (by omega)), gi_nI hd (by decide), nI_clamp (by omega), kM_eq, kM_eq, kM_eq, k2 M2 hE, k1 13 (by decide), h13, show gI (mI M2 217 d u) 184 14 = nI S from (mIc (by decide)).trans ((k2 M2 hE 14).trans ((k1 14 (by decide)).trans h14)), show gI (mI (mI M2 217 d u) 218 d (nI S)) 184 52 = nI d from (mIc (by decide)).trans ((mIc (by decide)).trans ((k2 M2 hE 52).trans g52)), nI_1])
  have e2 : EqK (Xo d) M M2 := e0.tr (a2.mono fun c k z => by unfold Cp at z; unfold Xo; omega)
  refine ⟨_, a1, ((e2.mI (Or.inr (Or.inl ⟨by omega, rfl⟩))).mI (Or.inr (Or.inl ⟨by omega, rfl⟩))).mI (Or.inl ⟨rfl, rfl⟩), mIs _ _ _ _, ⟨?_, ?_, hl, fun j hj => ?_, ?_, ?_⟩⟩
  · rw [mIc (by decide), mIc (by decide), mIc (by decide), (a2 214 d (by unfold Cp; omega)).1]
    exact f1
  · rw [mIc (by decide), mIc (by decide), mIc (by decide), (a2 216 d (by unfold Cp; omega)).1]
    exact f2
  · rw [mIc (by decide), mIc (by decide), mIc (by decide)]
    exact a3 j hj
  · rw [mIc (by decide), mIc (by decide)]
    exact mIs _ _ _ _
  · rw [mIc (by decide)]
    exact mIs _ _ _ _
theorem menv {M0 M : ax_M} {D Wm : Nat → Nat} (hR : hRoles M0 D Wm) {u a : Int32} {S : Nat} {b : Int64} (hU : UOk u S) (hs : MSt M0 M u S a b) {l : List Int32} (h43 : gI M 184 43 = nI l.length) (hl : l.length ≤ 5) (hv : ∀ j, j < l.length → gI M 212 j = l.getD j 0) {r : Option xV} (hr : RetM M r) (h38 : gI M 184 38 = 0) : EnvM M (u, clO D 16 S, a, b, l, r) none :=
  mkM (fun k hk => ⟨(hR k hk).1, (hs.1.1 191 k (by unfold XM XC; omega)).1.trans (hR k hk).2.2.1⟩) hU.2.1 hs.2.1 hU.1 hs.2.2 hU.2.2 hs.1.2.1 hs.1.2.2 h43 hl hv hr h38
theorem holds_ok {M0 M : ax_M} (hp : S_perm M0) (hx : S_expr M0) {i : Nat} (hi : i < 8) (hw : 0 < gI M0 188 i) (hq : EqK XM M0 M) {ρ : xEnv} (hr : WfR ρ.r) (hE : EnvM M ρ none) : ∃ M', f_Mod_holds (nI i) M = some (xTr (sl M0 i ρ none), M') ∧ EqK Fq M M' ∧ gI M' 184 38 = gI M 184 38 := by
  obtain ⟨M', w1, w2, w3, w4, -⟩ := mslot_ok hp hx hi hw (hq.mono XM_XQ) hr hE
  refine ⟨M', ?_, w3, w4⟩
  unfold f_Mod_holds xTr
  rw [w1, bnd_eq, show Int32.toNatClampNeg 0 = 0 from rfl, w2.1]
  generalize sl M0 i ρ none = x at w2 ⊢
  by_cases q : x.1 = 1
  · rw [if_pos q, w2.2.1 (Or.inl q)]
    by_cases q2 : x.2.1 = 1
    · rw [if_pos ((lgc_eq _ _).mpr q2), if_pos ⟨q, q2⟩]
    · rw [if_neg (fun z => q2 ((lgc_eq _ _).mp z)), if_neg (fun z => q2 z.2)]
  · rw [if_neg q, if_neg (fun z => q z.1)]
theorem xTr_01 (x : xV) : xTr x = 0 ∨ xTr x = 1 := by
  unfold xTr
  split
  · exact Or.inr rfl
  · exact Or.inl rfl
theorem opens_ok {M0 M : ax_M} {D Wm : Nat → Nat} (hg : S_guard M0) (hv0 : S_val M0) (hp : S_perm M0) (hx : S_expr M0) (hR : hRoles M0 D Wm) {u a : Int32} {S : Nat} {b : Int64} (hU : UOk u S) (hs : MSt M0 M u S a b) {l : List Int32} (h43 : gI M 184 43 = nI l.length) (hl : l.length ≤ 5) (hv : ∀ j, j < l.length → gI M 212 j = l.getD j 0) (h44 : gI M 184 44 = -1) (h38 : gI M 184 38 = 0) {p : Nat} (hp10 : p < 10) : ∃ M', f_Mod_opens (nI p) M = some (xOp M0 p (u, clO D 16 S, a, b, l, none), M') ∧ EqK Fq M M' := by
  obtain ⟨g1, g2, g3, g4⟩ := hg p hp10
  have e1 : gI M 193 p = gI M0 (158 + p) 0 := (hs.1.1 193 p (by unfold XM XC; omega)).1.trans g1
  have e2 : gI M 194 p = gI M0 (158 + p) 1 := (hs.1.1 194 p (by unfold XM XC; omega)).1.trans g2
  obtain ⟨j, hj, ej⟩ := nI_of2 (n := 4) (M := 4) (by decide) (Int32.not_lt.mpr g3) g4
  unfold f_Mod_opens xOp
  rw [gi_nI hp10 (by decide), nI_clamp (by omega), kM_eq, kM_eq, e1, e2, hs.2.1, hs.2.2]
  have c : j = 0 ∨ j = 1 ∨ j = 2 ∨ j = 3 ∨ j = 4 := by omega
  rcases c with rfl | rfl | rfl | rfl | rfl
  · rw [ej, if_pos (show nI 0 < 2 by decide), if_neg (show ¬ nI 0 = 4 by decide), if_neg (show ¬ nI 0 = 3 by decide), if_neg (show ¬ nI 0 = 2 by decide)]
    exact ⟨M, rfl, EqK.rf M⟩
  · rw [ej, if_pos (show nI 1 < 2 by decide), if_neg (show ¬ nI 1 = 4 by decide), if_neg (show ¬ nI 1 = 3 by decide), if_neg (show ¬ nI 1 = 2 by decide)]
    exact ⟨M, rfl, EqK.rf M⟩
  · rw [ej, if_neg (show ¬ nI 2 < 2 by decide), if_neg (show ¬ nI 2 = 3 by decide), if_neg (show ¬ nI 2 = 4 by decide), if_neg (show ¬ nI 2 = 3 by decide), if_pos (show nI 2 = 2 by decide)]
    exact ⟨M, rfl, EqK.rf M⟩
  · rw [ej, if_neg (show ¬ nI 3 < 2 by decide), if_pos (show nI 3 = 3 by decide), if_neg (show ¬ nI 3 = 4 by decide), if_pos (show nI 3 = 3 by decide)]
    have o44 : ∀ x, f_Mod_opens_44 (nI 3) x M = some (0, M) := fun x => if_neg (show ¬ nI 3 = 4 by decide)
    by_cases q : u < 0
    · rw [if_pos q, o44]
      have um : u = -1 := by
        rcases hU.1 with z | z
        · exact z
        · exact absurd z (Int32.not_le.mpr q)
      have s0 : clO D 16 S = 0 := by
        rw [hU.2.2 um]
        exact clO_0 (fun k hk => (hR k hk).1)
      refine ⟨M, ?_, EqK.rf M⟩
      rw [if_pos (show nI (clO D 16 S) &&& gI M0 (158 + p) 1 = 0 by rw [s0]; exact Int32.zero_and)]
    · rw [if_neg q]
      have cl : f_Mod_closure (nI S) M = some (nI (clO D 16 S), M) := clO_m (fun k hk => ⟨(hR k hk).1, (hs.1.1 191 k (by unfold XM XC; omega)).1.trans (hR k hk).2.2.1⟩) 16 64 S (by omega) (by omega) hU.2.1
      rw [cl, bnd_eq]
      refine ⟨M, ?_, EqK.rf M⟩
      by_cases q2 : nI (clO D 16 S) &&& gI M0 (158 + p) 1 = 0
      · rw [if_pos q2, if_pos q2, o44]
      · rw [if_neg q2, if_neg q2]
  · have ej4 : gI M0 (158 + p) 0 = 4 := ej
    obtain ⟨i, hi, ei, hw⟩ := hv0.1 p hp10 ej4
    rw [ej, if_neg (show ¬ nI 4 < 2 by decide), if_neg (show ¬ nI 4 = 3 by decide), if_pos (show nI 4 = 4 by decide), ei, nI_clamp (by omega)]
    unfold f_Mod_opens_44
    obtain ⟨M', b1, b2, -⟩ := holds_ok (ρ := (u, clO D 16 S, a, b, l, none)) hp hx hi hw hs.1.1 trivial (menv hR hU hs h43 hl hv h44 h38)
    rw [if_pos (show nI 4 = 4 by decide), b1, bnd_eq]
    refine ⟨M', ?_, b2⟩
    rcases xTr_01 (sl M0 i (u, clO D 16 S, a, b, l, none) none) with z | z
    · rw [z, if_pos rfl]
    · rw [z, if_neg (by decide)]
theorem mgof_ok {M0 M : ax_M} (hg : S_guard M0) (hq : EqK XM M0 M) {m : Nat} (hm : m < 8) : f_Mod_guardOf (nI m) M = some (nI (gpl M0 m), M) := by
  unfold f_Mod_guardOf gpl
  rw [gi_nI (by omega) (by decide), nI_clamp (by omega), (hq 193 m (by unfold XM XC; omega)).1, (hg m (by omega)).1]
  by_cases q : gI M0 (158 + m) 0 = 0
  · rw [if_pos q, if_pos q]
    by_cases q4 : 4 ≤ m
    · rw [if_pos (show (4 : Int32) ≤ nI m from nI_le (a := 4) q4 (by omega)), show 8 + m / 4 = 9 by omega]
      rfl
    · rw [if_neg (show ¬ (4 : Int32) ≤ nI m from nI_ge (b := 4) (by omega) (by decide)), show 8 + m / 4 = 8 by omega]
      rfl
  · rw [if_neg q, if_neg q]
