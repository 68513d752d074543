/-! The reference's call: entering, whole. -/
theorem m78 {M0 M : ax_M} {D Wm : Nat → Nat} (hg : S_guard M0) (hmm : S_meth M0) (hv0 : S_val M0) (hp0 : S_perm M0) (hx0 : S_expr M0) (hR : hRoles M0 D Wm) {a : Int32} {b : Int64} {R : xFn} {d : Nat} (hd : d < 8) (hs : (d + 1 < 8 ∧ MSpec M0 a b R (d + 1)) ∨ (d = 7 ∧ R = xDeep)) {m : Nat} (hm : m < 8) {l : List Int32} {u : Int32} {S : Nat} (hU : UOk u S) (h0 : MSt M0 M u S a b) (h52 : gI M 184 52 = nI (d + 1)) (hF : Frm M d m l u S) {f : xCnt} (hf : CntM M f) : (xSf M0 (gI M0 (142 + 2 * m) 0) (u, clO D 16 S, a, b, l, none) l = none ∧ MGo M0 a b d m l u S (2, xErr, f) M (f_Mod_enter_78 (nI d) (nI m) (nI (gpl M0 m)) M)) ∨ ∃ r, xSf M0 (gI M0 (142 + 2 * m) 0) (u, clO D 16 S, a, b, l, none) l = some r ∧ MGo M0 a b d m r u S (if xOp M0 (gpl M0 m) (u, clO D 16 S, a, b, r, none) = 0 then (2, xErr, f) else xWork M0 a R m r u S (bump f m 5)) M (f_Mod_enter_78 (nI d) (nI m) (nI (gpl M0 m)) M) := by
  obtain ⟨m0, -, -, -, -, -⟩ := (hmm m hm).1
  obtain ⟨M1, s1, s2, s3, s4, s5, s6⟩ := see_ok hd h52 hF
  have x1 : ∀ c k, Xe c k → XM c k ∧ (c ≠ 184 ∨ (k ≠ 40 ∧ k ≠ 41)) := fun c k z => by
    unfold Xe at z
    unfold XM
    omega
  have lw1 : LowM (d + 1) M M1 := LowM.of s2 (fun c k z => by unfold fr at z; unfold Xe; omega)
  have k1 : ∀ k, k ≠ 38 → k ≠ 43 → k ≠ 44 → k ≠ 45 → gI M1 184 k = gI M 184 k := fun k _ _ _ _ => (s2 184 k (by unfold Xe; omega)).1
  have t1 : MSt M0 M1 u S a b := ⟨h0.1.kp s2 x1, (k1 13 (by decide) (by decide) (by decide) (by decide)).trans h0.2.1, (k1 14 (by decide) (by decide) (by decide) (by decide)).trans h0.2.2⟩
  have h52a : gI M1 184 52 = nI (d + 1) := (k1 52 (by decide) (by decide) (by decide) (by decide)).trans h52
  have f1 : CntM M1 f := hf.kp s2 (fun k => by unfold Xe; omega)
  have e0 : gI M1 195 m = gI M0 (142 + 2 * m) 0 := (t1.1.1 195 m (by unfold XM XC; omega)).1.trans m0
  unfold f_Mod_enter_78 xSf
  rw [s1, bnd_eq, gi_nI hm (by decide), nI_clamp (by omega), e0]
  rcases (hv0.2 m hm).1 with q | ⟨i, hi, ei, hw⟩
  · rw [if_pos q, if_pos (show gI M0 (142 + 2 * m) 0 < 0 by rw [q]; decide)]
    exact Or.inr ⟨l, rfl, MGo.pre lw1.dn (m157 hg hmm hv0 hp0 hx0 hR hd hs hm hU t1 h52a (hF.kp lw1) s3 s4 s6 s5 f1)⟩
  · rw [if_neg (ne_m1 hi ei), ei, if_neg (nI_pos (by omega)), nI_clamp (by omega)]
    have hE : EnvM M1 (u, clO D 16 S, a, b, l, none) none := menv hR hU t1 s3 hF.2.2.1 s4 s6 s5
    obtain ⟨M2, a1, ⟨a2, a3⟩ | ⟨r, a2, a3, a4, a5⟩⟩ := msift_ok (ρ := (u, clO D 16 S, a, b, l, none)) (s := 0) hp0 hx0 hi hw (t1.1.1.mono XM_XQ) trivial hE hF.2.2.1 (by rw [if_pos rfl]; exact s3) (fun j hj => by unfold srcS; rw [if_pos rfl]; exact s4 j hj)
    · refine Or.inl ⟨a2, -1 + 3, M2, 0, M2, ?_, by omega, fun F => rfl, t1.1.kp a1 (fun c k z => ?_), (a1 184 52 (by unfold Fs Fq; omega)).1.trans h52a, hF.kp (lw1.tr (LowM.of a1 (fun c k z => by unfold fr at z; unfold Fs Fq; omega))), ⟨f1.kp a1 (fun k => by unfold Fs Fq; omega), fun z => absurd (show (2 : Int32) = 0 from z) (by decide), fun z => absurd (show (2 : Int32) = 1 from z) (by decide)⟩, (lw1.tr (LowM.of a1 (fun c k z => by unfold fr at z; unfold Fs Fq; omega))).dn⟩
      · rw [a3, bnd_eq, if_neg (by decide)]
        rfl
      · unfold Fs Fq at z
        unfold XM
        omega
    · have xs : ∀ c k, Fs c k → XM c k ∧ (c ≠ 184 ∨ (k ≠ 40 ∧ k ≠ 41)) := fun c k z => by
        unfold Fs Fq at z
        unfold XM
        omega
      have t2 : MS0 M0 M2 a b := t1.1.kp a1 xs
      have lw2 : LowM (d + 1) M M2 := lw1.tr (LowM.of a1 (fun c k z => by unfold fr at z; unfold Fs Fq; omega))
      have g3 : EqK (fun c k => c = 216 ∧ k = d) M2 (mI M2 216 d (nI r.length)) := (EqK.rf M2).mI (S := fun c k => c = 216 ∧ k = d) ⟨rfl, rfl⟩
      have e216 : gI (mI M2 216 d (nI r.length)) 216 d = nI r.length := mIs _ _ _ _
      have eqq : bnd (f_Mod_sift (nI i) 0 M1) (fun q40 M41 => if 0 ≤ q40 then (gi (nI d) 8 (kM (mI M41 216 (nI d).toNatClampNeg q40) (fun M44 => f_Mod_enter_122 64 (nI d) (nI m) (nI (gpl M0 m)) q40 0 M44))) else (some (2, M41))) = f_Mod_enter_122 64 (nI d) (nI m) (nI (gpl M0 m)) (nI r.length) (nI 0) (mI M2 216 d (nI r.length)) := by
        rw [a3, bnd_eq, if_pos (nI_pos' (by omega)), gi_nI hd (by decide), nI_clamp (by omega), kM_eq]
        rfl
      rw [eqq]
      generalize mI M2 216 d (nI r.length) = M3 at g3 e216 ⊢
      obtain ⟨M4, b1, b2, b3⟩ := cp_ok (L := fun f j M => f_Mod_enter_122 f (nI d) (nI m) (nI (gpl M0 m)) (nI r.length) j M) (fin := fun M => bnd (f_Mod_see M) (fun _ M47 => f_Mod_enter_157 (nI m) (nI (gpl M0 m)) M47)) (dst := 215) (od := 5 * d) (n := r.length) (val := fun j => r.getD j 0) (Ms := M3) a4 (fun f j M4 hj hE _ => by
          show f_Mod_enter_122_b (f_Mod_enter_122 f) (nI d) (nI m) (nI (gpl M0 m)) (nI r.length) (nI j) M4 = _
          unfold f_Mod_enter_122_b
          rw [if_neg (nI_ge hj (by omega)), gi_nI (by omega) (by decide), i5 (by omega) (by omega), gi_nI (by omega) (by decide), nI_clamp (show 5 * d + j < 2 ^ 31 by omega), nI_clamp (show j < 2 ^ 31 by omega), (hE 219 j (by unfold Cp; omega)).1, (g3 219 j (by omega)).1, a5 j hj, kM_eq, kM_eq, nI_1]) (fun f M4 hE => by
          show f_Mod_enter_122_b (f_Mod_enter_122 f) (nI d) (nI m) (nI (gpl M0 m)) (nI r.length) (nI r.length) M4 = _
          unfold f_Mod_enter_122_b
          rw [if_pos (nI_le (Nat.le_refl _) (by omega))])
      have lw4 : LowM d M M4 := (lw2.dn.tr (LowM.of g3 (fun c k z => by unfold fr at z; omega))).tr (LowM.of b2 (fun c k z => by unfold fr at z; unfold Cp; omega))
      have kk : ∀ c k, c ≠ 215 → c ≠ 216 → gI M4 c k = gI M2 c k := fun c k h1 h2 => (b2 c k (by unfold Cp; omega)).1.trans (g3 c k (by omega)).1
      have hF2 := hF.kp lw2
      have hF4 : Frm M4 d m r u S := ⟨(kk 214 d (by decide) (by decide)).trans hF2.1, (b2 216 d (by unfold Cp; omega)).1.trans e216, a4, b3, (kk 217 d (by decide) (by decide)).trans hF2.2.2.2.2.1, (kk 218 d (by decide) (by decide)).trans hF2.2.2.2.2.2⟩
      have k4 : ∀ k, k ≠ 29 → k ≠ 37 → k ≠ 38 → k ≠ 39 → gI M4 184 k = gI M1 184 k := fun k _ _ _ _ => (kk 184 k (by decide) (by decide)).trans (a1 184 k (by unfold Fs Fq; omega)).1
      have h52b : gI M4 184 52 = nI (d + 1) := (k4 52 (by decide) (by decide) (by decide) (by decide)).trans h52a
      have t4 : MSt M0 M4 u S a b := ⟨(t2.kp g3 (fun c k z => by unfold XM; omega)).kp b2 (fun c k z => by unfold Cp at z; unfold XM; omega), (k4 13 (by decide) (by decide) (by decide) (by decide)).trans t1.2.1, (k4 14 (by decide) (by decide) (by decide) (by decide)).trans t1.2.2⟩
      have f4 : CntM M4 f := ((f1.kp a1 (fun k => by unfold Fs Fq; omega)).kp g3 (fun k => by omega)).kp b2 (fun k => by unfold Cp; omega)
      obtain ⟨M5, p1, p2, p3, p4, p5, p6⟩ := see_ok hd h52b hF4
      have lw5 : LowM (d + 1) M4 M5 := LowM.of p2 (fun c k z => by unfold fr at z; unfold Xe; omega)
      have k5 : ∀ k, k ≠ 38 → k ≠ 43 → k ≠ 44 → k ≠ 45 → gI M5 184 k = gI M4 184 k := fun k _ _ _ _ => (p2 184 k (by unfold Xe; omega)).1
      have t5 : MSt M0 M5 u S a b := ⟨t4.1.kp p2 x1, (k5 13 (by decide) (by decide) (by decide) (by decide)).trans t4.2.1, (k5 14 (by decide) (by decide) (by decide) (by decide)).trans t4.2.2⟩
      refine Or.inr ⟨r, a2, ?_⟩
      have b1' : f_Mod_enter_122 64 (nI d) (nI m) (nI (gpl M0 m)) (nI r.length) (nI 0) M3 = f_Mod_enter_157 (nI m) (nI (gpl M0 m)) M5 := by
        refine b1.trans ?_
        show bnd (f_Mod_see M4) _ = _
        rw [p1, bnd_eq]
      rw [b1']
      exact MGo.pre (lw4.tr lw5.dn) (m157 hg hmm hv0 hp0 hx0 hR hd hs hm hU t5 ((k5 52 (by decide) (by decide) (by decide) (by decide)).trans h52b) (hF4.kp lw5) p3 p4 p6 p5 (f4.kp p2 (fun k => by unfold Xe; omega)))
theorem wt_eq {M0 M : ax_M} (hg : S_guard M0) (hmm : S_meth M0) (hv0 : S_val M0) (hq : EqK XM M0 M) {m : Nat} (hm : m < 8) {d p : Nat} (hp : p < 10) (K : Option (Int32 × ax_M)) (hK : f_Mod_enter_57 (nI d) (nI m) (nI p) M = if 0 ≤ gI M 184 13 then K else some (3, M)) : (if 1 < gI M 193 p then f_Mod_enter_57 (nI d) (nI m) (nI p) M else gi (nI m) 8 (if 0 ≤ gI M 195 m then f_Mod_enter_57 (nI d) (nI m) (nI p) M else if 0 ≤ gI M 196 m then f_Mod_enter_57 (nI d) (nI m) (nI p) M else if gI M 197 m < 0 then K else f_Mod_enter_57 (nI d) (nI m) (nI p) M)) = if xWt M0 m p = 1 then (if 0 ≤ gI M 184 13 then K else some (3, M)) else K := by
  obtain ⟨m0, m1, m2, -, -, -⟩ := (hmm m hm).1
  obtain ⟨g1, g2, g3, g4⟩ := hg p hp
  obtain ⟨r0, r1, r2, -⟩ := hv0.2 m hm
  have neg : ∀ {x : Int32}, rl M0 x → (x = -1 ∧ ¬ 0 ≤ x ∧ x < 0) ∨ (¬ x = -1 ∧ 0 ≤ x ∧ ¬ x < 0) := fun h => by
    rcases h with z | ⟨i, hi, ei, -⟩
    · exact Or.inl ⟨z, by rw [z]; decide, by rw [z]; decide⟩
    · exact Or.inr ⟨ne_m1 hi ei, by rw [ei]; exact nI_pos' (by omega), by rw [ei]; exact nI_pos (by omega)⟩
  rw [(hq 193 p (by unfold XM XC; omega)).1, g1, (hq 195 m (by unfold XM XC; omega)).1, m0, (hq 196 m (by unfold XM XC; omega)).1, m1, (hq 197 m (by unfold XM XC; omega)).1, m2, hK]
  generalize (if 0 ≤ gI M 184 13 then K else some (3, M)) = N
  have yes : (gI M0 (158 + p) 0 = 2 ∨ gI M0 (158 + p) 0 = 3 ∨ gI M0 (158 + p) 0 = 4 ∨ ¬ gI M0 (142 + 2 * m) 0 = -1 ∨ ¬ gI M0 (142 + 2 * m) 1 = -1 ∨ ¬ gI M0 (142 + 2 * m) 2 = -1) → N = if xWt M0 m p = 1 then N else K := fun h => by
    have e : xWt M0 m p = 1 := if_pos h
    rw [if_pos e]
  obtain ⟨j, hj, ej⟩ := nI_of2 (n := 4) (M := 4) (by decide) (Int32.not_lt.mpr g3) g4
  by_cases q : 1 < gI M0 (158 + p) 0
  · rw [if_pos q]
    refine yes ?_
    rw [ej] at q ⊢
    have q2 : 1 < j := (nI_ltI (a := 1) (b := j) (by decide) (by omega)).mp q
    have : j = 2 ∨ j = 3 ∨ j = 4 := by omega
    rcases this with rfl | rfl | rfl
    · exact Or.inl rfl
    · exact Or.inr (Or.inl rfl)
    · exact Or.inr (Or.inr (Or.inl rfl))
  · rw [if_neg q, gi_nI hm (by decide)]
    rcases neg r0 with ⟨z1, z2, z3⟩ | ⟨z1, z2, z3⟩
    · rw [if_neg z2]
      rcases neg r1 with ⟨y1, y2, y3⟩ | ⟨y1, y2, y3⟩
      · rw [if_neg y2]
        rcases neg r2 with ⟨w1, w2, w3⟩ | ⟨w1, w2, w3⟩
        · rw [if_pos w3]
          have e : ¬ xWt M0 m p = 1 := by
            unfold xWt
            rw [if_neg (fun h => by
              rcases h with h | h | h | h | h | h
              · exact q (by rw [h]; decide)
              · exact q (by rw [h]; decide)
              · exact q (by rw [h]; decide)
              · exact h z1
              · exact h y1
              · exact h w1)]
            decide
          rw [if_neg e]
        · rw [if_neg w3]
          exact yes (Or.inr (Or.inr (Or.inr (Or.inr (Or.inr w1)))))
      · rw [if_pos y2]
        exact yes (Or.inr (Or.inr (Or.inr (Or.inr (Or.inl y1)))))
    · rw [if_pos z2]
      exact yes (Or.inr (Or.inr (Or.inr (Or.inl z1))))
theorem enter_ok {M0 M : ax_M} {D Wm : Nat → Nat} (hg : S_guard M0) (hmm : S_meth M0) (hv0 : S_val M0) (hp0 : S_perm M0) (hx0 : S_expr M0) (hR : hRoles M0 D Wm) {a : Int32} {b : Int64} {R : xFn} {d : Nat} (hd : d < 8) (hs : (d + 1 < 8 ∧ MSpec M0 a b R (d + 1)) ∨ (d = 7 ∧ R = xDeep)) {m : Nat} (hm : m < 8) {l : List Int32} {u : Int32} {S : Nat} (hU : UOk u S) (h0 : MSt M0 M u S a b) (h52 : gI M 184 52 = nI (d + 1)) (hF : Frm M d m l u S) {f : xCnt} (hf : CntM M f) : MGo M0 a b d m (xIn M0 m u (clO D 16 S) a b l).2 u S (if (xIn M0 m u (clO D 16 S) a b l).1 = 0 then xWork M0 a R m (xIn M0 m u (clO D 16 S) a b l).2 u S (bump f m 5) else ((xIn M0 m u (clO D 16 S) a b l).1, xErr, f)) M (f_Mod_enter M) := by
  have hgl := gpl_lt M0 hm
  have eq : f_Mod_enter M = if xWt M0 m (gpl M0 m) = 1 then (if 0 ≤ gI M 184 13 then f_Mod_enter_78 (nI d) (nI m) (nI (gpl M0 m)) M else some (3, M)) else f_Mod_enter_78 (nI d) (nI m) (nI (gpl M0 m)) M := by
    rw [← wt_eq hg hmm hv0 h0.1.1 hm (d := d) hgl (f_Mod_enter_78 (nI d) (nI m) (nI (gpl M0 m)) M) (by unfold f_Mod_enter_57; rw [if_neg (show ¬ (1 : Int32) = 0 by decide)])]
    unfold f_Mod_enter
    rw [kM_eq, h52, nI_m1, gi_nI hd (by decide), kM_eq, nI_clamp (show d < 2 ^ 31 by omega), hF.1, mgof_ok hg h0.1.1 hm, bnd_eq, gi_nI hgl (by decide), nI_clamp (show gpl M0 m < 2 ^ 31 by omega), nI_clamp (show m < 2 ^ 31 by omega), if_pos (show (0 : Int32) = 0 from rfl)]
  have on : ¬ (u = -1 ∧ xWt M0 m (gpl M0 m) = 1) → MGo M0 a b d m (xIn M0 m u (clO D 16 S) a b l).2 u S (if (xIn M0 m u (clO D 16 S) a b l).1 = 0 then xWork M0 a R m (xIn M0 m u (clO D 16 S) a b l).2 u S (bump f m 5) else ((xIn M0 m u (clO D 16 S) a b l).1, xErr, f)) M (f_Mod_enter_78 (nI d) (nI m) (nI (gpl M0 m)) M) := fun q => by
    have e : xIn M0 m u (clO D 16 S) a b l = match xSf M0 (gI M0 (142 + 2 * m) 0) (u, clO D 16 S, a, b, l, none) l with | none => (2, l) | some r => (if xOp M0 (gpl M0 m) (u, clO D 16 S, a, b, r, none) = 0 then 2 else 0, r) := if_neg q
    rcases m78 hg hmm hv0 hp0 hx0 hR hd hs hm hU h0 h52 hF hf with ⟨b1, b2⟩ | ⟨r, b1, b2⟩
    · rw [b1] at e
      rw [e]
      exact b2
    · rw [b1] at e
      have e2 : xIn M0 m u (clO D 16 S) a b l = (if xOp M0 (gpl M0 m) (u, clO D 16 S, a, b, r, none) = 0 then 2 else 0, r) := e
      by_cases z : xOp M0 (gpl M0 m) (u, clO D 16 S, a, b, r, none) = 0
      · rw [if_pos z] at b2 e2
        rw [e2]
        exact b2
      · rw [if_neg z] at b2 e2
        rw [e2]
        exact b2
  rw [eq]
  by_cases qw : xWt M0 m (gpl M0 m) = 1
  · rw [if_pos qw, h0.2.1]
    by_cases qu : 0 ≤ u
    · rw [if_pos qu]
      exact on (fun z => by
        have z1 := z.1
        rw [z1] at qu
        exact absurd qu (by decide))
    · rw [if_neg qu]
      have um : u = -1 := hU.1.resolve_right qu
      have e : xIn M0 m u (clO D 16 S) a b l = (3, l) := if_pos ⟨um, qw⟩
      rw [e]
      exact ⟨3, M, 0, M, rfl, by omega, fun F => rfl, h0.1, h52, hF, ⟨hf, fun z => absurd (show (3 : Int32) = 0 from z) (by decide), fun z => absurd (show (3 : Int32) = 1 from z) (by decide)⟩, fun c k _ => ⟨rfl, rfl, rfl⟩⟩
  · rw [if_neg qw]
    exact on (fun z => qw z.2)
