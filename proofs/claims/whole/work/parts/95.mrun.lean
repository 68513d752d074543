/-! The reference's call: one frame. -/
def MSpec (M0 : ax_M) (a : Int32) (b : Int64) (R : xFn) (d : Nat) : Prop :=
  ∀ m l u S f M, m < 8 → UOk u S → MSt M0 M u S a b → gI M 184 52 = nI (d + 1) → Frm M d m l u S → CntM M f → ∃ k M', k ≤ 2 * (8 - d) ∧ (∀ F, f_Mod_call_39 (F + k) (-1) M = f_Mod_call_39 F (R m l u S f).1 M') ∧ MSt M0 M' u S a b ∧ gI M' 184 52 = nI d ∧ MEnd M' (R m l u S f) ∧ LowM d M M'
/-- what entering comes to -/
def MGo (M0 : ax_M) (a : Int32) (b : Int64) (d m : Nat) (l : List Int32) (u : Int32) (S : Nat) (w : xRes) (M : ax_M) (o : Option (Int32 × ax_M)) : Prop :=
  ∃ x M1 k M', o = some (x, M1) ∧ k ≤ 2 * (7 - d) ∧ (∀ F, f_Mod_call_39 (F + k) x M1 = f_Mod_call_39 F w.1 M') ∧ MS0 M0 M' a b ∧ gI M' 184 52 = nI (d + 1) ∧ Frm M' d m l u S ∧ MEnd M' w ∧ LowM d M M'
theorem MGo.pre {M0 : ax_M} {a : Int32} {b : Int64} {d m : Nat} {l : List Int32} {u : Int32} {S : Nat} {w : xRes} {M Mp : ax_M} {o : Option (Int32 × ax_M)} (hl : LowM d Mp M) (h : MGo M0 a b d m l u S w M o) : MGo M0 a b d m l u S w Mp o := by
  obtain ⟨x, M1, k, M', h1, h2, h3, h4, h5, h6, h7, h8⟩ := h
  exact ⟨x, M1, k, M', h1, h2, h3, h4, h5, h6, h7, hl.tr h8⟩
theorem m261 {M0 M : ax_M} (hmm : S_meth M0) (hv0 : S_val M0) {a : Int32} {b : Int64} {R : xFn} {d : Nat} (hd : d < 8) (hs : (d + 1 < 8 ∧ MSpec M0 a b R (d + 1)) ∨ (d = 7 ∧ R = xDeep)) (h0 : MS0 M0 M a b) {m : Nat} (hm : m < 8) {l : List Int32} {u : Int32} {S : Nat} (hU : UOk u (lend M0 m u S)) (h52 : gI M 184 52 = nI (d + 1)) (hF : Frm M d m l u S) (h43 : gI M 184 43 = nI l.length) (hv : ∀ j, j < l.length → gI M 212 j = l.getD j 0) {f : xCnt} (hf : CntM M f) (hc5 : gI M0 (142 + 2 * m) 3 = 5 → gI M 184 13 = u ∧ gI M 184 14 = nI (lend M0 m u S)) (hc6 : gI M0 (142 + 2 * m) 3 = 6 → gI M 184 13 = -1 ∧ gI M 184 14 = nI 0) : MGo M0 a b d m l u S (xWork M0 a R m l u S f) M (f_Mod_enter_261 (nI m) M) := by
  obtain ⟨-, -, -, m3, m4, -⟩ := (hmm m hm).1
  obtain ⟨-, -, -, w1, w2, -, w4, -⟩ := hv0.2 m hm
  have e3 : gI M 198 m = gI M0 (142 + 2 * m) 3 := (h0.1 198 m (by unfold XM XC; omega)).1.trans m3
  have dir : gI M0 (142 + 2 * m) 3 < 5 ∨ R = xDeep → MGo M0 a b d m l u S (xWork M0 a R m l u S f) M (bnd (f_Mod_give (nI m) M) (fun q27 M28 => some (q27, M28))) := fun hr => by
    obtain ⟨M', a1, a2, a3⟩ := give_ok hmm hv0 h0 hm h43 hF.2.2.1 hv hr (u := u) (S := S) hf
    have lw : LowM (d + 1) M M' := LowM.of a2 (fun c k z => by unfold fr at z; unfold Xg; omega)
    refine ⟨_, M', 0, M', by rw [a1, bnd_eq], by omega, fun F => rfl, h0.kp a2 (fun c k z => ?_), (a2 184 52 (by unfold Xg; omega)).1.trans h52, hF.kp lw, a3, lw.dn⟩
    unfold Xg at z
    unfold XM
    omega
  unfold f_Mod_enter_261
  rw [gi_nI hm (by decide), nI_clamp (by omega), e3]
  by_cases q : gI M0 (142 + 2 * m) 3 < 5
  · rw [if_pos q]
    exact dir (Or.inl q)
  · rw [if_neg q, h52]
    rcases hs with ⟨hd1, hs⟩ | ⟨hd7, hs⟩
    · rw [if_neg (show ¬ (8 : Int32) ≤ nI (d + 1) from nI_ge (b := 8) hd1 (by decide))]
      obtain ⟨k, hk, ek⟩ := w4 (Int32.not_lt.mp q)
      obtain ⟨M1, s1, s2, s3, s4, s5, s6⟩ := see_ok hd h52 hF
      have x1 : ∀ c k, Xe c k → XM c k ∧ (c ≠ 184 ∨ (k ≠ 40 ∧ k ≠ 41)) := fun c k z => by
        unfold Xe at z
        unfold XM
        omega
      have lw1 : LowM (d + 1) M M1 := LowM.of s2 (fun c k z => by unfold fr at z; unfold Xe; omega)
      have ek1 : gI M1 199 m = nI k := ((s2 199 m (by unfold Xe; omega)).1.trans ((h0.1 199 m (by unfold XM XC; omega)).1.trans m4)).trans ek
      have go : ∀ u' S', UOk u' S' → gI M 184 13 = u' → gI M 184 14 = nI S' → xWork M0 a R m l u S f = R k l u' S' f → MGo M0 a b d m l u S (xWork M0 a R m l u S f) M (bnd (f_Mod_see M) (fun q32 M33 => bnd (f_Mod_open (gI M33 199 m) M33) (fun q34 M35 => some ((-1), M35)))) := fun u' S' hU' h13 h14 hw => by
        obtain ⟨M2, o1, o2, o3, o4⟩ := open_ok (M := M1) (d := d + 1) (m := k) (l := l) (u := u') (S := S') hd1 ((s2 184 52 (by unfold Xe; omega)).1.trans h52) ((s2 184 13 (by unfold Xe; omega)).1.trans h13) ((s2 184 14 (by unfold Xe; omega)).1.trans h14) s3 hF.2.2.1 s4
        have x2 : ∀ c k, Xo (d + 1) c k → XM c k ∧ (c ≠ 184 ∨ (k ≠ 40 ∧ k ≠ 41)) := fun c k z => by
          unfold Xo at z
          unfold XM
          omega
        have lw2 : LowM (d + 1) M1 M2 := LowM.of o2 (fun c k z => by unfold fr at z; unfold Xo; omega)
        have t2 : MSt M0 M2 u' S' a b := ⟨(h0.kp s2 x1).kp o2 x2, (o2 184 13 (by unfold Xo; omega)).1.trans ((s2 184 13 (by unfold Xe; omega)).1.trans h13), (o2 184 14 (by unfold Xo; omega)).1.trans ((s2 184 14 (by unfold Xe; omega)).1.trans h14)⟩
        obtain ⟨n, M', r1, r2, r3, r4, r5, r6⟩ := hs k l u' S' f M2 hk hU' t2 o3 o4 ((hf.kp s2 (fun k => by unfold Xe; omega)).kp o2 (fun k => by unfold Xo; omega))
        refine ⟨-1, M2, n, M', by rw [s1, bnd_eq, ek1, o1, bnd_eq], by omega, fun F => by rw [hw]; exact r2 F, r3.1, r4, hF.kp ((lw1.tr lw2).tr r6), by rw [hw]; exact r5, ((lw1.tr lw2).tr r6).dn⟩
      have c56 : gI M0 (142 + 2 * m) 3 = 5 ∨ gI M0 (142 + 2 * m) 3 = 6 := by
        obtain ⟨j, hj, ej⟩ := nI_of2 (n := 6) (M := 6) (by decide) (Int32.not_lt.mpr w1) w2
        rw [ej] at q ⊢
        have : j = 5 ∨ j = 6 := by
          have q2 : ¬ j < 5 := fun z => q (nI_lt (b := 5) z (by decide))
          omega
        rcases this with rfl | rfl
        · exact Or.inl rfl
        · exact Or.inr rfl
      rcases c56 with z | z
      · refine go u (lend M0 m u S) hU (hc5 z).1 (hc5 z).2 ?_
        unfold xWork
        rw [if_neg (show ¬ gI M0 (142 + 2 * m) 3 = 1 by rw [z]; decide), if_neg (show ¬ gI M0 (142 + 2 * m) 3 = 2 by rw [z]; decide), if_neg (show ¬ gI M0 (142 + 2 * m) 3 = 3 by rw [z]; decide), if_neg (show ¬ gI M0 (142 + 2 * m) 3 = 4 by rw [z]; decide), if_pos z, ek, nI_clamp (by omega)]
      · refine go (-1) 0 ⟨Or.inl rfl, by decide, fun _ => rfl⟩ (hc6 z).1 (hc6 z).2 ?_
        unfold xWork
        rw [if_neg (show ¬ gI M0 (142 + 2 * m) 3 = 1 by rw [z]; decide), if_neg (show ¬ gI M0 (142 + 2 * m) 3 = 2 by rw [z]; decide), if_neg (show ¬ gI M0 (142 + 2 * m) 3 = 3 by rw [z]; decide), if_neg (show ¬ gI M0 (142 + 2 * m) 3 = 4 by rw [z]; decide), if_neg (show ¬ gI M0 (142 + 2 * m) 3 = 5 by rw [z]; decide), if_pos z, ek, nI_clamp (by omega)]
    · rw [if_pos (show (8 : Int32) ≤ nI (d + 1) by rw [hd7]; decide)]
      exact dir (Or.inr hs)
def Xc2 (c k : Nat) : Prop := c = 184 ∧ (k = 13 ∨ k = 14)
theorem m208 {M0 M : ax_M} (hmm : S_meth M0) (hv0 : S_val M0) {a : Int32} {b : Int64} {R : xFn} {d : Nat} (hd : d < 8) (hs : (d + 1 < 8 ∧ MSpec M0 a b R (d + 1)) ∨ (d = 7 ∧ R = xDeep)) (h0 : MS0 M0 M a b) {m : Nat} (hm : m < 8) {l : List Int32} {u : Int32} {S : Nat} (hU : UOk u (lend M0 m u S)) (h52 : gI M 184 52 = nI (d + 1)) (hF : Frm M d m l u S) (h43 : gI M 184 43 = nI l.length) (hv : ∀ j, j < l.length → gI M 212 j = l.getD j 0) {f : xCnt} (hf : CntM M f) (h13 : gI M 184 13 = u) : MGo M0 a b d m l u S (xWork M0 a R m l u S f) M (f_Mod_enter_208 (nI m) (nI (lend M0 m u S)) M) := by
  obtain ⟨-, -, -, m3, m4, -⟩ := (hmm m hm).1
  have e3 : gI (mI M 184 14 (nI (lend M0 m u S))) 198 m = gI M0 (142 + 2 * m) 3 := (mIc (by decide)).trans ((h0.1 198 m (by unfold XM XC; omega)).1.trans m3)
  have st : ∀ M', EqK Xc2 M M' → (gI M0 (142 + 2 * m) 3 = 5 → gI M' 184 13 = u ∧ gI M' 184 14 = nI (lend M0 m u S)) → (gI M0 (142 + 2 * m) 3 = 6 → gI M' 184 13 = -1 ∧ gI M' 184 14 = nI 0) → MGo M0 a b d m l u S (xWork M0 a R m l u S f) M (f_Mod_enter_261 (nI m) M') := fun M' hE h5 h6 => by
    have lw : LowM (d + 1) M M' := LowM.of hE (fun c k z => by unfold fr at z; unfold Xc2; omega)
    refine MGo.pre lw.dn (m261 hmm hv0 hd hs (h0.kp hE (fun c k z => ?_)) hm hU ((hE 184 52 (by unfold Xc2; omega)).1.trans h52) (hF.kp lw) ((hE 184 43 (by unfold Xc2; omega)).1.trans h43) (fun j hj => (hE 212 j (by unfold Xc2; omega)).1.trans (hv j hj)) (hf.kp hE (fun k => by unfold Xc2; omega)) h5 h6)
    unfold Xc2 at z
    unfold XM
    omega
  unfold f_Mod_enter_208
  rw [kM_eq, gi_nI hm (by decide), nI_clamp (by omega), e3]
  have x : ∀ k, k = 13 ∨ k = 14 → Xc2 184 k := fun k hk => ⟨rfl, hk⟩
  by_cases q4 : gI M0 (142 + 2 * m) 3 = 4
  · rw [if_pos q4, kM_eq, kM_eq]
    refine st _ ((((EqK.rf M).mI (S := Xc2) (x 14 (by omega))).mI (x 13 (by omega))).mI (x 14 (by omega))) (fun z => ?_) (fun z => ?_)
    · rw [q4] at z
      exact absurd z (by decide)
    · rw [q4] at z
      exact absurd z (by decide)
  · rw [if_neg q4]
    by_cases q6 : gI M0 (142 + 2 * m) 3 = 6
    · rw [if_pos q6, kM_eq, kM_eq]
      refine st _ ((((EqK.rf M).mI (S := Xc2) (x 14 (by omega))).mI (x 13 (by omega))).mI (x 14 (by omega))) (fun z => ?_) (fun z => ⟨(mIk (by decide)).trans (mIs _ _ _ _), mIs _ _ _ _⟩)
      rw [q6] at z
      exact absurd z (by decide)
    · rw [if_neg q6]
      exact st _ ((EqK.rf M).mI (S := Xc2) (x 14 (by omega))) (fun z => ⟨(mIk (by decide)).trans h13, mIs _ _ _ _⟩) (fun z => absurd z q6)
/-- entering from the guard on -/
theorem m157 {M0 M : ax_M} {D Wm : Nat → Nat} (hg : S_guard M0) (hmm : S_meth M0) (hv0 : S_val M0) (hp0 : S_perm M0) (hx0 : S_expr M0) (hR : hRoles M0 D Wm) {a : Int32} {b : Int64} {R : xFn} {d : Nat} (hd : d < 8) (hs : (d + 1 < 8 ∧ MSpec M0 a b R (d + 1)) ∨ (d = 7 ∧ R = xDeep)) {m : Nat} (hm : m < 8) {l : List Int32} {u : Int32} {S : Nat} (hU : UOk u S) (h0 : MSt M0 M u S a b) (h52 : gI M 184 52 = nI (d + 1)) (hF : Frm M d m l u S) (h43 : gI M 184 43 = nI l.length) (hv : ∀ j, j < l.length → gI M 212 j = l.getD j 0) (h44 : gI M 184 44 = -1) (h38 : gI M 184 38 = 0) {f : xCnt} (hf : CntM M f) : MGo M0 a b d m l u S (if xOp M0 (gpl M0 m) (u, clO D 16 S, a, b, l, none) = 0 then (2, xErr, f) else xWork M0 a R m l u S (bump f m 5)) M (f_Mod_enter_157 (nI m) (nI (gpl M0 m)) M) := by
  obtain ⟨-, -, -, -, -, m5⟩ := (hmm m hm).1
  obtain ⟨-, -, -, -, -, -, -, x1, x2⟩ := hv0.2 m hm
  obtain ⟨T, hT, eT⟩ := nI_of2 (n := 65535) (M := 65535) (by decide) (Int32.not_lt.mpr x1) x2
  obtain ⟨M1, a1, a2⟩ := opens_ok hg hv0 hp0 hx0 hR hU h0 h43 hF.2.2.1 hv h44 h38 (gpl_lt M0 hm)
  have xq : ∀ c k, Fq c k → XM c k ∧ (c ≠ 184 ∨ (k ≠ 40 ∧ k ≠ 41)) := fun c k z => by
    unfold Fq at z
    unfold XM
    omega
  have lw1 : LowM (d + 1) M M1 := LowM.of a2 (fun c k z => by unfold fr at z; unfold Fq; omega)
  have f1 : CntM M1 f := hf.kp a2 (fun k => by unfold Fq; omega)
  have t1 : MS0 M0 M1 a b := h0.1.kp a2 xq
  unfold f_Mod_enter_157
  rw [a1, bnd_eq]
  by_cases q : xOp M0 (gpl M0 m) (u, clO D 16 S, a, b, l, none) = 0
  · rw [if_pos q, if_pos q]
    exact ⟨2, M1, 0, M1, rfl, by omega, fun F => rfl, t1, (a2 184 52 (by unfold Fq; omega)).1.trans h52, hF.kp lw1, ⟨f1, fun z => absurd (show (2 : Int32) = 0 from z) (by decide), fun z => absurd (show (2 : Int32) = 1 from z) (by decide)⟩, lw1.dn⟩
  · rw [if_neg q, if_neg q, kM_eq, show 6 * nI m + 5 = nI (6 * m + 5) from i6 m 5, gi_nI (by omega) (by decide), nI_clamp (by omega), kM_eq]
    have g2 : EqK (fun c _ => c = 201) M1 (mI M1 201 (6 * m + 5) (gI M1 201 (6 * m + 5) + 1)) := (EqK.rf M1).mI (S := fun c _ => c = 201) rfl
    have f2 := f1.up hm (show 5 < 6 by decide)
    generalize mI M1 201 (6 * m + 5) (gI M1 201 (6 * m + 5) + 1) = M2 at g2 f2 ⊢
    have k2 : ∀ k, (k ≠ 29 ∧ k ≠ 37 ∧ k ≠ 38 ∧ k ≠ 39) → gI M2 184 k = gI M 184 k := fun k hk => (g2 184 k (by omega)).1.trans (a2 184 k (by unfold Fq; omega)).1
    have h13 : gI M2 184 13 = u := (k2 13 (by omega)).trans h0.2.1
    have h14 : gI M2 184 14 = nI S := (k2 14 (by omega)).trans h0.2.2
    have lw2 : LowM (d + 1) M M2 := lw1.tr (LowM.of g2 (fun c k z => by unfold fr at z; omega))
    have e5 : gI M2 200 m = nI T := ((g2 200 m (by omega)).1.trans ((t1.1 200 m (by unfold XM XC; omega)).1.trans m5)).trans eT
    have hL : lend M0 m u S = if u = -1 then S else S ||| T := by
      unfold lend
      rw [eT, nI_clamp (by omega)]
    have hUL : UOk u (lend M0 m u S) := by
      rw [hL]
      by_cases z : u = -1
      · rw [if_pos z]
        exact hU
      · rw [if_neg z]
        exact ⟨hU.1, or16 hU.2.1 (by omega), fun y => absurd y z⟩
    have fin : MGo M0 a b d m l u S (xWork M0 a R m l u S (bump f m 5)) M (f_Mod_enter_208 (nI m) (nI (lend M0 m u S)) M2) :=
      MGo.pre lw2.dn (m208 hmm hv0 hd hs (t1.kp g2 (fun c k z => by unfold XM; omega)) hm hUL ((k2 52 (by omega)).trans h52) (hF.kp lw2) ((k2 43 (by omega)).trans h43) (fun j hj => ((g2 212 j (by omega)).1.trans (a2 212 j (by unfold Fq; omega)).1).trans (hv j hj)) f2 h13)
    rw [h13, h14]
    by_cases z : 0 ≤ u
    · have nz : ¬ u = -1 := fun y => by
        rw [y] at z
        exact absurd z (by decide)
      rw [if_pos z, gi_nI hm (by decide), nI_clamp (by omega), e5, rb_or]
      rw [hL, if_neg nz] at fin
      exact fin
    · have nz : u = -1 := hU.1.resolve_right z
      rw [if_neg z]
      rw [hL, if_pos nz] at fin
      exact fin
