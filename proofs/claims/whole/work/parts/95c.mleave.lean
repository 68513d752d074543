/-! The reference's call: leaving, and the run of the frames. -/
theorem l168 {M0 M : ax_M} {u a : Int32} {S : Nat} {b : Int64} (h0 : MSt M0 M u S a b) {d m j : Nat} (h52 : gI M 184 52 = nI (d + 1)) (hm : m < 8) (hj : j < 6) {f : xCnt} (hf : CntM M f) : ∃ M', f_Mod_leave_168 (nI m) (nI j) M = some (nI j, M') ∧ MSt M0 M' u S a b ∧ gI M' 184 52 = nI d ∧ CntM M' (bump f m j) ∧ EqK (fun c k => c = 201 ∨ (c = 184 ∧ k = 52)) M M' := by
  have e : EqK (fun c k => c = 201 ∨ (c = 184 ∧ k = 52)) M (mI (mI M 201 (6 * m + j) (gI M 201 (6 * m + j) + 1)) 184 52 (nI d)) := ((EqK.rf M).mI (S := fun c k => c = 201 ∨ (c = 184 ∧ k = 52)) (Or.inl rfl)).mI (Or.inr ⟨rfl, rfl⟩)
  refine ⟨mI (mI M 201 (6 * m + j) (gI M 201 (6 * m + j) + 1)) 184 52 (nI d), ?_, ⟨h0.1.kp e (fun c k z => by unfold XM; omega), (e 184 13 (by omega)).1.trans h0.2.1, (e 184 14 (by omega)).1.trans h0.2.2⟩, mIs _ _ _ _, fun p q hp hq => (mIc (by decide)).trans (hf.up hm hj p q hp hq), e⟩
  unfold f_Mod_leave_168
  rw [kM_eq, i6, gi_nI (by omega) (by decide), nI_clamp (by omega), kM_eq, show gI (mI M 201 (6 * m + j) (gI M 201 (6 * m + j) + 1)) 184 52 = nI (d + 1) from (mIc (by decide)).trans h52, kM_eq, nI_m1]
theorem sifted_ok {M0 M : ax_M} (hp : S_perm M0) (hx : S_expr M0) {i : Nat} (hi : i < 8) (hw : 0 < gI M0 188 i) (hq : EqK XM M0 M) {ρ : xEnv} (hr : WfR ρ.r) (hE : EnvM M ρ none) {l : List Int32} (hl : l.length ≤ 5) (h55 : gI M 184 55 = nI l.length) (hs : ∀ j, j < l.length → gI M 220 j = l.getD j 0) : ∃ M', EqK (fun c k => Fs c k ∨ c = 220 ∨ (c = 184 ∧ k = 55)) M M' ∧ ((xSift (fun k => sl M0 i ρ (some k)) l = none ∧ f_Mod_sifted (nI i) M = some (0, M')) ∨ ∃ r, xSift (fun k => sl M0 i ρ (some k)) l = some r ∧ f_Mod_sifted (nI i) M = some (1, M') ∧ r.length ≤ 5 ∧ gI M' 184 55 = nI r.length ∧ ∀ j, j < r.length → gI M' 220 j = r.getD j 0) := by
  obtain ⟨M1, a1, ⟨a2, a3⟩ | ⟨r, a2, a3, a4, a5⟩⟩ := msift_ok (s := 1) hp hx hi hw (hq.mono XM_XQ) hr hE hl (by rw [if_neg (by decide)]; exact h55) (fun j hj => by unfold srcS; rw [if_neg (by decide)]; exact hs j hj)
  · refine ⟨mI M1 184 55 (gI M1 184 55), EqK.mI (S := fun c k => Fs c k ∨ c = 220 ∨ (c = 184 ∧ k = 55)) (a1.mono fun c k z => Or.inl z) (Or.inr (Or.inr ⟨rfl, rfl⟩)), Or.inl ⟨a2, ?_⟩⟩
    unfold f_Mod_sifted
    rw [a3, bnd_eq]
    show f_Mod_sifted_9_b (f_Mod_sifted_9 63) (-1) 0 M1 = _
    unfold f_Mod_sifted_9_b
    rw [if_pos (by decide), if_neg (by decide), kM_eq, if_pos (by decide)]
  · obtain ⟨M2, b1, b2, b3⟩ := cp_ok (L := fun f j M => f_Mod_sifted_9 f (nI r.length) j M) (fin := fun M => some (1, mI M 184 55 (nI r.length))) (dst := 220) (od := 0) (n := r.length) (val := fun j => r.getD j 0) (Ms := M1) a4 (fun f j M4 hj hE _ => by
        show f_Mod_sifted_9_b (f_Mod_sifted_9 f) (nI r.length) (nI j) M4 = _
        unfold f_Mod_sifted_9_b
        rw [if_neg (nI_ge hj (by omega)), gi_nI (by omega) (by decide), nI_clamp (show j < 2 ^ 31 by omega), (hE 219 j (by unfold Cp; omega)).1, a5 j hj, kM_eq, kM_eq, nI_1, Nat.zero_add]) (fun f M4 hE => by
        show f_Mod_sifted_9_b (f_Mod_sifted_9 f) (nI r.length) (nI r.length) M4 = _
        unfold f_Mod_sifted_9_b
        rw [if_pos (nI_le (Nat.le_refl _) (by omega)), if_pos (nI_pos' (by omega)), kM_eq, if_neg (nI_pos (by omega))])
    refine ⟨mI M2 184 55 (nI r.length), EqK.mI (S := fun c k => Fs c k ∨ c = 220 ∨ (c = 184 ∧ k = 55)) (EqK.tr (a1.mono fun c k z => Or.inl z) (b2.mono fun c k z => Or.inr (Or.inl z.1))) (Or.inr (Or.inr ⟨rfl, rfl⟩)), Or.inr ⟨r, a2, ?_, a4, mIs _ _ _ _, fun j hj => ?_⟩⟩
    · unfold f_Mod_sifted
      rw [a3, bnd_eq]
      exact b1
    · rw [mIc (by decide)]
      have := b3 j hj
      rw [Nat.zero_add] at this
      exact this
/-- from the filter of what goes out on -/
theorem l117 {M0 M : ax_M} {D Wm : Nat → Nat} (hmm : S_meth M0) (hv0 : S_val M0) (hp0 : S_perm M0) (hx0 : S_expr M0) (hR : hRoles M0 D Wm) {u a : Int32} {S : Nat} {b : Int64} (hU : UOk u S) (h0 : MSt M0 M u S a b) {d m : Nat} (h52 : gI M 184 52 = nI (d + 1)) (hm : m < 8) {f : xCnt} (hf : CntM M f) {l : List Int32} {x : xV} (hx : XW x) (hE : EnvM M (u, clO D 16 S, a, b, l, some x) none) (hM : RM M x) (hk : ¬ (¬ gI M0 (142 + 2 * m) 1 = -1 ∧ xTr (sl M0 (gI M0 (142 + 2 * m) 1).toNatClampNeg (u, clO D 16 S, a, b, l, some x) none) = 0)) : ∃ M', f_Mod_leave_117 (nI m) 1 M = some ((xOut M0 m (u, clO D 16 S, a, b, l, some x) x).1, M') ∧ MSt M0 M' u S a b ∧ gI M' 184 52 = nI d ∧ CntM M' (bump f m (xOut M0 m (u, clO D 16 S, a, b, l, some x) x).1.toNatClampNeg) ∧ ((xOut M0 m (u, clO D 16 S, a, b, l, some x) x).1 = 0 → RM M' (xOut M0 m (u, clO D 16 S, a, b, l, some x) x).2) ∧ LowM d M M' := by
  obtain ⟨-, -, m2, -, -, -⟩ := (hmm m hm).1
  have e2 : gI M 197 m = gI M0 (142 + 2 * m) 2 := (h0.1.1 197 m (by unfold XM XC; omega)).1.trans m2
  have d0 : ∀ M1 y, MSt M0 M1 u S a b → gI M1 184 52 = nI (d + 1) → CntM M1 f → RM M1 y → LowM d M M1 → ∃ M', f_Mod_leave_168 (nI m) 0 M1 = some (0, M') ∧ MSt M0 M' u S a b ∧ gI M' 184 52 = nI d ∧ CntM M' (bump f m (Int32.toNatClampNeg 0)) ∧ ((0 : Int32) = 0 → RM M' y) ∧ LowM d M M' := fun M1 y t1 t2 t3 t4 t5 => by
    obtain ⟨M', a1, a2, a3, a4, a5⟩ := l168 (j := 0) t1 t2 hm (by decide) t3
    refine ⟨M', a1, a2, a3, a4, fun _ => ⟨(a5 184 54 (by omega)).1.trans t4.1, fun q => ⟨(a5 184 55 (by omega)).1.trans (t4.2.1 q).1, (t4.2.1 q).2.1, fun j hj => (a5 220 j (by omega)).1.trans ((t4.2.1 q).2.2 j hj)⟩, fun q => by rw [(a5 184 55 (by omega)).1]; exact t4.2.2 q⟩, t5.tr (LowM.of a5 (fun c k z => by unfold fr at z; omega))⟩
  have d4 : ∀ M1 y, MSt M0 M1 u S a b → gI M1 184 52 = nI (d + 1) → CntM M1 f → LowM d M M1 → ∃ M', f_Mod_leave_168 (nI m) 4 M1 = some (4, M') ∧ MSt M0 M' u S a b ∧ gI M' 184 52 = nI d ∧ CntM M' (bump f m (Int32.toNatClampNeg 4)) ∧ ((4 : Int32) = 0 → RM M' y) ∧ LowM d M M' := fun M1 y t1 t2 t3 t5 => by
    obtain ⟨M', a1, a2, a3, a4, a5⟩ := l168 (j := 4) t1 t2 hm (by decide) t3
    exact ⟨M', a1, a2, a3, a4, fun q => absurd q (by decide), t5.tr (LowM.of a5 (fun c k z => by unfold fr at z; omega))⟩
  have lr : LowM d M M := fun c k _ => ⟨rfl, rfl, rfl⟩
  unfold f_Mod_leave_117 xOut
  rw [if_neg hk, if_neg (show ¬ (1 : Int32) = 0 by decide), gi_nI hm (by decide), nI_clamp (by omega), e2, hM.1]
  rcases (hv0.2 m hm).2.2.1 with q | ⟨i, hi, ei, hw⟩
  · rw [if_pos q, if_pos (show gI M0 (142 + 2 * m) 2 < 0 by rw [q]; decide)]
    exact d0 M x h0 h52 hf hM lr
  · rw [if_neg (ne_m1 hi ei), if_neg (show ¬ gI M0 (142 + 2 * m) 2 < 0 by rw [ei]; exact nI_pos (by omega))]
    by_cases q0 : x.1 = 0
    · rw [if_pos q0, if_pos q0]
      exact d0 M x h0 h52 hf hM lr
    · rw [if_neg q0, if_neg q0]
      by_cases q4 : x.1 = 4
      · rw [if_pos q4, if_pos q4, ei, nI_clamp (by omega)]
        obtain ⟨n1, n2, n3⟩ := hM.2.1 q4
        obtain ⟨M1, a1, ⟨a2, a3⟩ | ⟨r, a2, a3, a4, a5, a6⟩⟩ := sifted_ok (ρ := (u, clO D 16 S, a, b, l, some x)) hp0 hx0 hi hw h0.1.1 hx.wf hE n2 n1 n3
        · have xs : ∀ c k, (Fs c k ∨ c = 220 ∨ (c = 184 ∧ k = 55)) → XM c k ∧ (c ≠ 184 ∨ (k ≠ 40 ∧ k ≠ 41)) := fun c k z => by
            unfold Fs Fq at z
            unfold XM
            omega
          rw [a2, a3, bnd_eq, if_pos rfl]
          exact d4 M1 x ⟨h0.1.kp a1 xs, (a1 184 13 (by unfold Fs Fq; omega)).1.trans h0.2.1, (a1 184 14 (by unfold Fs Fq; omega)).1.trans h0.2.2⟩ ((a1 184 52 (by unfold Fs Fq; omega)).1.trans h52) (hf.kp a1 (fun k => by unfold Fs Fq; omega)) (LowM.of a1 (fun c k z => by unfold fr at z; unfold Fs Fq; omega))
        · have xs : ∀ c k, (Fs c k ∨ c = 220 ∨ (c = 184 ∧ k = 55)) → XM c k ∧ (c ≠ 184 ∨ (k ≠ 40 ∧ k ≠ 41)) := fun c k z => by
            unfold Fs Fq at z
            unfold XM
            omega
          rw [a2, a3, bnd_eq, if_neg (show ¬ (1 : Int32) = 0 by decide)]
          refine d0 M1 (xL r) ⟨h0.1.kp a1 xs, (a1 184 13 (by unfold Fs Fq; omega)).1.trans h0.2.1, (a1 184 14 (by unfold Fs Fq; omega)).1.trans h0.2.2⟩ ((a1 184 52 (by unfold Fs Fq; omega)).1.trans h52) (hf.kp a1 (fun k => by unfold Fs Fq; omega)) ⟨?_, fun _ => ⟨a5, a4, a6⟩, fun z => absurd (show (4 : Int32) = 4 from rfl) z⟩ (LowM.of a1 (fun c k z => by unfold fr at z; unfold Fs Fq; omega))
          rw [(a1 184 54 (by unfold Fs Fq; omega)).1, hM.1]
          exact q4
      · rw [if_neg q4, if_neg q4]
        exact d4 M x h0 h52 hf lr
theorem leave_ok {M0 M : ax_M} {D Wm : Nat → Nat} (hmm : S_meth M0) (hv0 : S_val M0) (hp0 : S_perm M0) (hx0 : S_expr M0) (hR : hRoles M0 D Wm) {u a : Int32} {S : Nat} {b : Int64} (hU : UOk u S) (h0 : MS0 M0 M a b) {d m : Nat} (hd : d < 8) (h52 : gI M 184 52 = nI (d + 1)) (hm : m < 8) {l : List Int32} (hF : Frm M d m l u S) {w : xRes} (hw : XR w) (hN : MEnd M w) : ∃ M', f_Mod_leave w.1 M = some ((xFin M0 D a b m l u S w).1, M') ∧ MSt M0 M' u S a b ∧ gI M' 184 52 = nI d ∧ MEnd M' (xFin M0 D a b m l u S w) ∧ LowM d M M' := by
  have g1 : EqK Xc2 M (mI (mI M 184 13 u) 184 14 (nI S)) := ((EqK.rf M).mI (S := Xc2) ⟨rfl, Or.inl rfl⟩).mI ⟨rfl, Or.inr rfl⟩
  have t1 : MSt M0 (mI (mI M 184 13 u) 184 14 (nI S)) u S a b := ⟨h0.kp g1 (fun c k z => by unfold Xc2 at z; unfold XM; omega), (mIk (by decide)).trans (mIs _ _ _ _), mIs _ _ _ _⟩
  unfold f_Mod_leave
  rw [kM_eq, h52, nI_m1, gi_nI hd (by decide), kM_eq, nI_clamp (by omega), hF.1, kM_eq, hF.2.2.2.2.1, kM_eq, show gI (mI M 184 13 u) 218 d = nI S from (mIc (by decide)).trans hF.2.2.2.2.2]
  generalize mI (mI M 184 13 u) 184 14 (nI S) = M1 at g1 t1 ⊢
  have lw1 : LowM (d + 1) M M1 := LowM.of g1 (fun c k z => by unfold fr at z; unfold Xc2; omega)
  have f1 : CntM M1 w.2.2 := hN.1.kp g1 (fun k => by unfold Xc2; omega)
  have h52a : gI M1 184 52 = nI (d + 1) := (g1 184 52 (by unfold Xc2; omega)).1.trans h52
  unfold xFin
  by_cases q : w.1 = 0
  · have hx : XW w.2.1 := by
      rcases hw with h | h | h | h | h
      · exact h.2
      · rw [q] at h; exact absurd h.1 (by decide)
      · rw [q] at h; exact absurd h (by decide)
      · rw [q] at h; exact absurd h (by decide)
      · rw [q] at h; exact absurd h (by decide)
    have hM1 : RM M w.2.1 := hN.2.1 q
    rw [if_pos q, if_pos q]
    generalize w.2.1 = x at hx hM1 ⊢
    obtain ⟨M2, s1, s2, s3, s4, s5, s6⟩ := see_ok hd h52a (hF.kp lw1)
    rw [s1, bnd_eq, kM_eq, kM_eq]
    have g3 : EqK (fun c k => c = 184 ∧ (k = 44 ∨ k = 45)) M2 (mI (mI M2 184 44 (gI M2 184 54)) 184 45 (gI (mI M2 184 44 (gI M2 184 54)) 184 55)) := ((EqK.rf M2).mI (S := fun c k => c = 184 ∧ (k = 44 ∨ k = 45)) ⟨rfl, Or.inl rfl⟩).mI ⟨rfl, Or.inr rfl⟩
    have h44 : gI (mI (mI M2 184 44 (gI M2 184 54)) 184 45 (gI (mI M2 184 44 (gI M2 184 54)) 184 55)) 184 44 = gI M2 184 54 := (mIk (by decide)).trans (mIs _ _ _ _)
    have h45 : gI (mI (mI M2 184 44 (gI M2 184 54)) 184 45 (gI (mI M2 184 44 (gI M2 184 54)) 184 55)) 184 45 = gI M2 184 55 := (mIs _ _ _ _).trans (mIk (by decide))
    generalize mI (mI M2 184 44 (gI M2 184 54)) 184 45 (gI (mI M2 184 44 (gI M2 184 54)) 184 55) = M3 at g3 h44 h45 ⊢
    obtain ⟨M4, b1, b2, b3⟩ := cp_ok (L := fun f j M => f_Mod_leave_64 f (nI m) j M) (fin := fun M => gi (nI m) 8 (if (gI M 196 m) < 0 then (f_Mod_leave_117 (nI m) 1 M) else (bnd (f_Mod_holds (gI M 196 m) M) (fun q26 M27 => if q26 = 0 then (f_Mod_leave_117 (nI m) 0 M27) else (f_Mod_leave_117 (nI m) 1 M27))))) (dst := 213) (od := 0) (n := 5) (val := fun j => gI M3 220 j) (Ms := M3) (by decide) (fun f j M4 hj hE _ => by
        show f_Mod_leave_64_b (f_Mod_leave_64 f) (nI m) (nI j) M4 = _
        unfold f_Mod_leave_64_b
        rw [if_neg (show ¬ (5 : Int32) ≤ nI j from nI_ge (b := 5) hj (by decide)), gi_nI hj (by decide), nI_clamp (show j < 2 ^ 31 by omega), (hE 220 j (by unfold Cp; omega)).1, kM_eq, kM_eq, nI_1, Nat.zero_add]) (fun f M4 hE => by
        show f_Mod_leave_64_b (f_Mod_leave_64 f) (nI m) (nI 5) M4 = _
        unfold f_Mod_leave_64_b
        rw [if_pos (show (5 : Int32) ≤ nI 5 by decide), nI_clamp (show m < 2 ^ 31 by omega)])
    rw [show f_Mod_leave_64 64 (nI m) 0 M3 = _ from b1]
    have kk : ∀ c k, c ≠ 212 → c ≠ 213 → (c ≠ 184 ∨ (k ≠ 13 ∧ k ≠ 14 ∧ k ≠ 38 ∧ k ≠ 43 ∧ k ≠ 44 ∧ k ≠ 45)) → gI M4 c k = gI M c k := fun c k h1 h2 h3 => (((b2 c k (by unfold Cp; omega)).1.trans (g3 c k (by omega)).1).trans (s2 c k (by unfold Xe; omega)).1).trans (g1 c k (by unfold Xc2; omega)).1
    have t4 : MSt M0 M4 u S a b := by
      refine ⟨((t1.1.kp s2 (fun c k z => ?_)).kp g3 (fun c k z => ?_)).kp b2 (fun c k z => ?_), ?_, ?_⟩
      · unfold Xe at z
        unfold XM
        omega
      · unfold XM
        omega
      · unfold Cp at z
        unfold XM
        omega
      · exact (((b2 184 13 (by unfold Cp; omega)).1.trans (g3 184 13 (by omega)).1).trans (s2 184 13 (by unfold Xe; omega)).1).trans t1.2.1
      · exact (((b2 184 14 (by unfold Cp; omega)).1.trans (g3 184 14 (by omega)).1).trans (s2 184 14 (by unfold Xe; omega)).1).trans t1.2.2
    have lw4 : LowM (d + 1) M M4 := ((lw1.tr (LowM.of s2 (fun c k z => by unfold fr at z; unfold Xe; omega))).tr (LowM.of g3 (fun c k z => by unfold fr at z; omega))).tr (LowM.of b2 (fun c k z => by unfold fr at z; unfold Cp; omega))
    have f4 : CntM M4 w.2.2 := fun p e hp he => (kk 201 _ (by decide) (by decide) (by omega)).trans (hN.1 p e hp he)
    have hM4 : RM M4 x := ⟨(kk 184 54 (by decide) (by decide) (by omega)).trans hM1.1, fun z => ⟨(kk 184 55 (by decide) (by decide) (by omega)).trans (hM1.2.1 z).1, (hM1.2.1 z).2.1, fun j hj => (kk 220 j (by decide) (by decide) (by omega)).trans ((hM1.2.1 z).2.2 j hj)⟩, fun z => by rw [kk 184 55 (by decide) (by decide) (by omega)]; exact hM1.2.2 z⟩
    have h52b : gI M4 184 52 = nI (d + 1) := (kk 184 52 (by decide) (by decide) (by omega)).trans h52
    have s54 : gI M2 184 54 = gI M 184 54 := (s2 184 54 (by unfold Xe; omega)).1.trans (g1 184 54 (by unfold Xc2; omega)).1
    have s55 : gI M2 184 55 = gI M 184 55 := (s2 184 55 (by unfold Xe; omega)).1.trans (g1 184 55 (by unfold Xc2; omega)).1
    have r44 : gI M4 184 44 = gI M 184 54 := ((b2 184 44 (by unfold Cp; omega)).1.trans h44).trans s54
    have r45 : gI M4 184 45 = gI M 184 55 := ((b2 184 45 (by unfold Cp; omega)).1.trans h45).trans s55
    have hret : RetM M4 (some x) := ⟨r44.trans hM1.1, fun z => ⟨r45.trans (hM1.2.1 z).1, (hM1.2.1 z).2.1, fun j hj => by
      have l5 := (hM1.2.1 z).2.1
      have := b3 j (by omega)
      rw [Nat.zero_add] at this
      rw [this]
      show gI M3 220 j = _
      rw [(g3 220 j (by omega)).1, (s2 220 j (by unfold Xe; omega)).1, (g1 220 j (by unfold Xc2; omega)).1]
      exact (hM1.2.1 z).2.2 j hj⟩, fun z => by rw [r45]; exact hM1.2.2 z⟩
    have k4 : ∀ k, k ≠ 44 → k ≠ 45 → gI M4 184 k = gI M2 184 k := fun k _ _ => (b2 184 k (by unfold Cp; omega)).1.trans (g3 184 k (by omega)).1
    have hE4 : EnvM M4 (u, clO D 16 S, a, b, l, some x) none := menv hR hU t4 ((k4 43 (by decide) (by decide)).trans s3) hF.2.2.1 (fun j hj => ((b2 212 j (by unfold Cp; omega)).1.trans (g3 212 j (by omega)).1).trans (s4 j hj)) hret ((k4 38 (by decide) (by decide)).trans s5)
    obtain ⟨-, m1, -, -, -, -⟩ := (hmm m hm).1
    have e1 : gI M4 196 m = gI M0 (142 + 2 * m) 1 := (t4.1.1 196 m (by unfold XM XC; omega)).1.trans m1
    have ng : ∀ {o : Int32 × xV}, (o.1 = 0 ∨ o.1 = 4) → o.1 = 1 → False := fun h1 h2 => by
      rcases h1 with h1 | h1 <;> rw [h1] at h2 <;> exact absurd h2 (by decide)
    have xo := (xout_ok (M := M0) (m := m) (ρ := (u, clO D 16 S, a, b, l, some x)) hx).1
    rw [gi_nI hm (by decide), e1]
    rcases (hv0.2 m hm).2.1 with z | ⟨i, hi, ei, hw1⟩
    · rw [if_pos (show gI M0 (142 + 2 * m) 1 < 0 by rw [z]; decide)]
      obtain ⟨M5, c1, c2, c3, c4, c5, c6⟩ := l117 hmm hv0 hp0 hx0 hR hU t4 h52b hm f4 hx hE4 hM4 (fun y => y.1 z)
      exact ⟨M5, c1, c2, c3, ⟨c4, c5, fun y => (ng xo y).elim⟩, lw4.dn.tr c6⟩
    · rw [if_neg (show ¬ gI M0 (142 + 2 * m) 1 < 0 by rw [ei]; exact nI_pos (by omega)), ei]
      obtain ⟨M5, v1, v2, v3⟩ := holds_ok (ρ := (u, clO D 16 S, a, b, l, some x)) hp0 hx0 hi hw1 t4.1.1 hx.wf hE4
      have es : (gI M0 (142 + 2 * m) 1).toNatClampNeg = i := by rw [ei, nI_clamp (by omega)]
      have t5 : MSt M0 M5 u S a b := ⟨t4.1.kp v2 (fun c k z => by unfold Fq at z; unfold XM; omega), (v2 184 13 (by unfold Fq; omega)).1.trans t4.2.1, (v2 184 14 (by unfold Fq; omega)).1.trans t4.2.2⟩
      have lw5 : LowM d M M5 := lw4.dn.tr (LowM.of v2 (fun c k z => by unfold fr at z; unfold Fq; omega))
      have f5 : CntM M5 w.2.2 := f4.kp v2 (fun k => by unfold Fq; omega)
      have h52c : gI M5 184 52 = nI (d + 1) := (v2 184 52 (by unfold Fq; omega)).1.trans h52b
      rw [v1, bnd_eq]
      by_cases y : xTr (sl M0 i (u, clO D 16 S, a, b, l, some x) none) = 0
      · rw [if_pos y]
        have e4 : xOut M0 m (u, clO D 16 S, a, b, l, some x) x = (4, x) := if_pos ⟨ne_m1 hi ei, by rw [es]; exact y⟩
        rw [e4]
        unfold f_Mod_leave_117
        rw [if_pos rfl]
        obtain ⟨M6, c1, c2, c3, c4, c5⟩ := l168 (j := 4) t5 h52c hm (by decide) f5
        exact ⟨M6, c1, c2, c3, ⟨c4, fun z => absurd (show (4 : Int32) = 0 from z) (by decide), fun z => absurd (show (4 : Int32) = 1 from z) (by decide)⟩, lw5.tr (LowM.of c5 (fun c k z => by unfold fr at z; omega))⟩
      · rw [if_neg y]
        have hM5 : RM M5 x := ⟨(v2 184 54 (by unfold Fq; omega)).1.trans hM4.1, fun z => ⟨(v2 184 55 (by unfold Fq; omega)).1.trans (hM4.2.1 z).1, (hM4.2.1 z).2.1, fun j hj => (v2 220 j (by unfold Fq; omega)).1.trans ((hM4.2.1 z).2.2 j hj)⟩, fun z => by rw [(v2 184 55 (by unfold Fq; omega)).1]; exact hM4.2.2 z⟩
        have hret5 : RetM M5 (some x) := ⟨(v2 184 44 (by unfold Fq; omega)).1.trans hret.1, fun z => ⟨(v2 184 45 (by unfold Fq; omega)).1.trans (hret.2.1 z).1, (hret.2.1 z).2.1, fun j hj => (v2 213 j (by unfold Fq; omega)).1.trans ((hret.2.1 z).2.2 j hj)⟩, fun z => by rw [(v2 184 45 (by unfold Fq; omega)).1]; exact hret.2.2 z⟩
        have hE5 : EnvM M5 (u, clO D 16 S, a, b, l, some x) none := menv hR hU t5 ((v2 184 43 (by unfold Fq; omega)).1.trans ((k4 43 (by decide) (by decide)).trans s3)) hF.2.2.1 (fun j hj => (v2 212 j (by unfold Fq; omega)).1.trans (((b2 212 j (by unfold Cp; omega)).1.trans (g3 212 j (by omega)).1).trans (s4 j hj))) hret5 (v3.trans ((k4 38 (by decide) (by decide)).trans s5))
        obtain ⟨M6, c1, c2, c3, c4, c5, c6⟩ := l117 hmm hv0 hp0 hx0 hR hU t5 h52c hm f5 hx hE5 hM5 (fun z => y (by rw [← es]; exact z.2))
        exact ⟨M6, c1, c2, c3, ⟨c4, c5, fun z => (ng xo z).elim⟩, lw5.tr c6⟩
  · rw [if_neg q, if_neg q]
    obtain ⟨j, hj, ej⟩ := xr_n hw
    rw [ej, nI_clamp (by omega)]
    obtain ⟨M6, c1, c2, c3, c4, c5⟩ := l168 (j := j) t1 h52a hm (by omega) f1
    refine ⟨M6, c1, c2, c3, ⟨c4, fun z => absurd (ej.trans z) q, fun z => ?_⟩, lw1.dn.tr (LowM.of c5 (fun c k z => by unfold fr at z; omega))⟩
    rw [(c5 184 55 (by omega)).1, (g1 184 55 (by unfold Xc2; omega)).1]
    exact hN.2.2 (ej.trans z)
