/-! define, both sides -/
theorem Cmp.cg {E E' : xRow} {n : Nat} {c c' : Nat → Int32} {ar ar' : Nat → Int64} {m : Nat} (hE : ∀ p, p < n → E'.1 p = E.1 p ∧ E'.2.1 p = E.2.1 p ∧ E'.2.2.1 p = E.2.2.1 p ∧ E'.2.2.2.1 p = E.2.2.2.1 p ∧ (E.1 p ≤ 3 → E'.2.2.2.2 p = E.2.2.2.2 p)) (hc : ∀ k, k < m → c' k = c k ∧ (rel (c k) → ar' k = ar k)) (h : Cmp E n c ar m) : Cmp E' n c' ar' m := by
  obtain ⟨h1, h2, h3, lo, be, en, h4, h5, h6, h7⟩ := h
  refine ⟨h1, h2, h3, lo, be, en, fun p hp => ⟨(h4 p hp).1, ?_⟩, h5, h6, h7⟩
  obtain ⟨a1, a2, a3, a4, a5⟩ := hE p hp
  refine Node.cg (fun q hq => (h4 q (by omega)).1) (fun q hq => be_en h4 q (by omega)) a1 a2 a3 a4 a5 (fun q hq => ⟨rfl, rfl, rfl⟩) (fun k k1 k2 => hc k ?_) (h4 p hp).2
  have := (sub_rng h4 (n - 1) (by omega) p (by rw [h5]; exact Nat.zero_le _) (by omega)).2
  omega
theorem copy42 {i m : Nat} (hi : i < 8) (hm : m ≤ 48) : ∀ (r f : Nat) (M : ax_M), r ≤ m → r < f → gI M 188 8 = nI m → ∃ M', f_Mod_define_42 f (nI i) (-1) (nI (m - r)) M = some (-1, M') ∧ EqK (fun c k => (c = 186 ∨ c = 187) ∧ 48 * i ≤ k ∧ k < 48 * i + m) M M' ∧ (∀ k, k < m - r → gI M' 186 (48 * i + k) = gI M 186 (48 * i + k) ∧ gJ M' 187 (48 * i + k) = gJ M 187 (48 * i + k)) ∧ ∀ k, m - r ≤ k → k < m → gI M' 186 (48 * i + k) = gI M 186 (384 + k) ∧ gJ M' 187 (48 * i + k) = gJ M 187 (384 + k) := by
  intro r
  induction r with
  | zero =>
    intro f M _ hf h8
    obtain ⟨g, rfl⟩ : ∃ g, f = g + 1 := ⟨f - 1, by omega⟩
    refine ⟨M, ?_, EqK.rf M, fun k hk => ⟨rfl, rfl⟩, fun k h1 h2 => absurd h1 (by omega)⟩
    show f_Mod_define_42_b (f_Mod_define_42 g) (nI i) (-1) (nI (m - 0)) M = _
    unfold f_Mod_define_42_b
    rw [show Int32.toNatClampNeg 8 = 8 from rfl, h8, if_pos (nI_le (by omega) (by omega))]
  | succ r ih =>
    intro f M hr hf h8
    obtain ⟨g, rfl⟩ : ∃ g, f = g + 1 := ⟨f - 1, by omega⟩
    have e48 : 48 * nI i + nI (m - (r + 1)) = nI (48 * i + (m - (r + 1))) := by
      show nI 48 * nI i + _ = _
      rw [← nI_add, show nI 48 * nI i = nI (48 * i) from (Int32.ofNat_mul 48 i).symm]
    have x : EqK (fun c k => (c = 186 ∨ c = 187) ∧ k = 48 * i + (m - (r + 1))) M (mJ (mI M 186 (48 * i + (m - (r + 1))) (gI M 186 (384 + (m - (r + 1))))) 187 (48 * i + (m - (r + 1))) (gJ M 187 (384 + (m - (r + 1))))) := EqK.mJ (S := fun c k => (c = 186 ∨ c = 187) ∧ k = 48 * i + (m - (r + 1))) (EqK.mI (EqK.rf M) ⟨Or.inl rfl, rfl⟩) ⟨Or.inr rfl, rfl⟩
    have v1 : gI (mJ (mI M 186 (48 * i + (m - (r + 1))) (gI M 186 (384 + (m - (r + 1))))) 187 (48 * i + (m - (r + 1))) (gJ M 187 (384 + (m - (r + 1))))) 186 (48 * i + (m - (r + 1))) = gI M 186 (384 + (m - (r + 1))) := mIs M 186 _ _
    have v2 : gJ (mJ (mI M 186 (48 * i + (m - (r + 1))) (gI M 186 (384 + (m - (r + 1))))) 187 (48 * i + (m - (r + 1))) (gJ M 187 (384 + (m - (r + 1))))) 187 (48 * i + (m - (r + 1))) = gJ M 187 (384 + (m - (r + 1))) := mJs _ _ _ _
    have st : f_Mod_define_42 (g + 1) (nI i) (-1) (nI (m - (r + 1))) M = f_Mod_define_42 g (nI i) (-1) (nI (m - r)) (mJ (mI M 186 (48 * i + (m - (r + 1))) (gI M 186 (384 + (m - (r + 1))))) 187 (48 * i + (m - (r + 1))) (gJ M 187 (384 + (m - (r + 1))))) := by
      show f_Mod_define_42_b (f_Mod_define_42 g) (nI i) (-1) (nI (m - (r + 1))) M = _
      unfold f_Mod_define_42_b
      rw [show Int32.toNatClampNeg 8 = 8 from rfl, h8, if_neg (nI_ge (by omega) (by omega)), n384, gi_nI (by omega) (by decide), e48, gi_nI (by omega) (by decide), nI_clamp (show 384 + (m - (r + 1)) < 2 ^ 31 by omega), nI_clamp (show 48 * i + (m - (r + 1)) < 2 ^ 31 by omega), kM_eq, kM_eq, kM_eq, nI_1, show m - (r + 1) + 1 = m - r by omega]
      rfl
    rw [st]
    generalize mJ (mI M 186 (48 * i + (m - (r + 1))) (gI M 186 (384 + (m - (r + 1))))) 187 (48 * i + (m - (r + 1))) (gJ M 187 (384 + (m - (r + 1)))) = M1 at x v1 v2
    obtain ⟨M', a1, a2, a3, a4⟩ := ih g M1 (by omega) (by omega) ((x 188 8 (by omega)).1.trans h8)
    refine ⟨M', a1, EqK.tr (x.mono fun c k z => ⟨z.1, by omega, by omega⟩) a2, fun k hk => ⟨(a3 k (by omega)).1.trans (x 186 _ (by omega)).1, (a3 k (by omega)).2.trans (x 187 _ (by omega)).2.1⟩, fun k h1 h2 => ?_⟩
    by_cases z : k = m - (r + 1)
    · subst z
      exact ⟨(a3 _ (by omega)).1.trans v1, (a3 _ (by omega)).2.trans v2⟩
    · exact ⟨(a4 k (by omega) h2).1.trans (x 186 _ (by omega)).1, (a4 k (by omega) h2).2.trans (x 187 _ (by omega)).2.1⟩
/-! Sim behind define -/
def TD (e c k : Nat) : Prop := c = 3 ∨ (c = 5 ∨ c = 6 ∨ c = 7) ∨ (e ≤ c ∧ c < e + 6) ∨ c = 8 ∨ (c = 2 ∧ k = 3) ∨ (c = 184 ∧ (k = 1 ∨ k = 5 ∨ k = 6 ∨ k = 7 ∨ k = 10 ∨ k = 11)) ∨ (186 ≤ c ∧ c ≤ 190)
theorem Sim.dfn {M M' : ax_M} (h : Sim M) {e : Nat} (he : eOk e) (hE : EqK (TD e) M M') (t1 : gI M' 3 1 = nI 0) (t2 : gI M' 184 1 = nI 0) (hw : ∀ i, i < 8 → 0 < gI M 188 i → 0 < gI M' 188 i) (hp : S_perm M') (hx : S_expr M') : Sim M' := by
  obtain ⟨h_text, h_list, h_ctx, h_roles, h_guard, h_meth, h_val, h_perm, h_expr, h_gate, h_ask, h_misc⟩ := h
  obtain ⟨e1, e2, e3⟩ := he
  have ew : ∀ x, wr M x → wr M' x := fun x ⟨i, a, b, c⟩ => ⟨i, a, b, hw i a c⟩
  have er : ∀ x, rl M x → rl M' x := fun x hx => hx.imp id (ew x)
  have em : ∀ m k, m < 8 → gI M' (142 + 2 * m) k = gI M (142 + 2 * m) k := fun m k hm => (hE _ k (by unfold TD; omega)).1
  have eg : ∀ p k, p < 10 → gI M' (158 + p) k = gI M (158 + p) k := fun p k hp => (hE _ k (by unfold TD; omega)).1
  refine ⟨⟨0, by decide, t1, t2, fun k hk => absurd hk (by omega)⟩, S_list.cg (M := M) (fun c k hf => ?_) h_list, S_ctx.cg (M := M) (fun c k hf => ?_) h_ctx, S_roles.cg (M := M) (fun c k hf => ?_) h_roles, S_guard.cg (M := M) (fun c k hf => ?_) h_guard, S_meth.cg (M := M) (fun c k hf => ?_) h_meth, ⟨fun p hp => ?_, fun m hm => ?_⟩, hp, hx, S_gate.cg (M := M) (fun c k hf => ?_) (hE 139 1 (by unfold TD; omega)).2.1 h_gate, ?_, S_misc.cg (M := M) (hE 68 8 (by unfold TD; omega)).1 (hE 70 0 (by unfold TD; omega)).1 (hE 70 1 (by unfold TD; omega)).2.1 h_misc⟩
  · exact (hE c k (by unfold F_list at hf; unfold TD; omega)).1
  · exact (hE c k (by unfold F_ctx at hf; unfold TD; omega)).1
  · exact (hE c k (by unfold F_roles at hf; unfold TD; omega)).1
  · exact (hE c k (by unfold F_guard at hf; unfold TD; omega)).1
  · exact (hE c k (by unfold F_meth at hf; unfold TD; omega)).1
  · rw [eg p 0 hp, eg p 1 hp]
    exact fun q => ew _ (h_val.1 p hp q)
  · rw [em m 0 hm, em m 1 hm, em m 2 hm, em m 3 hm, em m 4 hm, em m 5 hm]
    obtain ⟨a1, a2, a3, a4⟩ := h_val.2 m hm
    exact ⟨er _ a1, er _ a2, er _ a3, a4⟩
  · exact (hE c k (by unfold F_gate at hf; unfold TD; omega)).1
  · show gJ M' 184 60 = gJ M' 2 8
    rw [(hE 184 60 (by unfold TD; omega)).2.1, (hE 2 8 (by unfold TD; omega)).2.1]
    exact h_ask
def exC (M : ax_M) (i : Nat) : Prop := (gI M (eOf M i) 5 = 0 ∧ gI M 188 i = 0) ∨ ∃ n m, gI M (eOf M i) 5 = nI n ∧ gI M 188 i = nI m ∧ Cmp (rowOf M (eOf M i)) n (fun k => gI M 186 (48 * i + k)) (fun k => gJ M 187 (48 * i + k)) m
theorem exC.kp {M M' : ax_M} {q : Nat} (he : eOf M' q = eOf M q) (h8 : gI M' 188 q = gI M 188 q) (hc : ∀ j, j < 6 → ∀ k, gI M' (eOf M q + j) k = gI M (eOf M q + j) k ∧ gJ M' (eOf M q + j) k = gJ M (eOf M q + j) k) (hk : ∀ k, k < 48 → gI M' 186 (48 * q + k) = gI M 186 (48 * q + k) ∧ gJ M' 187 (48 * q + k) = gJ M 187 (48 * q + k)) (h : exC M q) : exC M' q := by
  have h5 : gI M' (eOf M q) 5 = gI M (eOf M q) 5 := (hc 0 (by decide) 5).1
  unfold exC
  rw [he, h5, h8, rowOf.cg (M := M) hc]
  rcases h with h | ⟨n, m, a1, a2, a3⟩
  · exact Or.inl h
  · refine Or.inr ⟨n, m, a1, a2, Cmp.cg (fun p _ => ⟨rfl, rfl, rfl, rfl, fun _ => rfl⟩) (fun k hk2 => ?_) a3⟩
    have m48 := a3.2.2.1
    exact ⟨(hk k (by omega)).1, fun _ => (hk k (by omega)).2⟩
def X57 (e c k : Nat) : Prop := Xd e c k ∨ (c = 5 ∧ k = 7)
/-- both readers over the same text -/
theorem read_both {e : Nat} (he : eOk e) {tx : Nat → Int32} {n : Nat} (hn : n ≤ 48) {Mc : ax_M} (hTc : TxC Mc tx n) :
    (∃ k M1, k ≤ 48 ∧ f_Reader_read e Mc = some (nI k, M1) ∧ EqK (X57 e) Mc M1 ∧ ∀ M, TxM M tx n → ∃ M2, f_Mod_read M = some (nI k, M2) ∧ EqK Xr M M2) ∨
    ∃ E sz c ar m M1, Cmp E sz c ar m ∧ f_Reader_read e Mc = some (-1, M1) ∧ EqK (X57 e) Mc M1 ∧ gI M1 e 5 = nI sz ∧ RowC M1 e E sz ∧ ∀ M, TxM M tx n → ∃ M2, f_Mod_read M = some (-1, M2) ∧ EqK Xr M M2 ∧ gI M2 188 8 = nI m ∧ ∀ k, k < m → gI M2 186 (384 + k) = c k ∧ (rel (c k) → gJ M2 187 (384 + k) = ar k) := by
  obtain ⟨e1, e2, e3⟩ := he
  have he : eOk e := ⟨e1, e2, e3⟩
  have eq : f_Reader_read e Mc = f_Reader_read_35 64 (nI 0) (mI (mI (mI (mI (mI (mA (mI Mc e 5 0) 5 7 e) 5 1 0) 5 3 0) 5 6 0) 5 4 0) 3 2 0) := by
    unfold f_Reader_read f_Expr_clear f_Text_rewind
    rw [gk_pos e1, gk_pos e1, kM_eq, bnd_eq, kM_eq, kM_eq, kM_eq, kM_eq, kM_eq, kM_eq, bnd_eq]
    rfl
  have x0 : EqK (X57 e) Mc (mI (mI (mI (mI (mI (mA (mI Mc e 5 0) 5 7 e) 5 1 0) 5 3 0) 5 6 0) 5 4 0) 3 2 0) := by
    refine EqK.mI (EqK.mI (EqK.mI (EqK.mI (EqK.mI (EqK.tr (EqK.mI (EqK.rf Mc) ?_) (mA_eqk ?_)) ?_) ?_) ?_) ?_) ?_
    all_goals
      unfold X57 Xd X3 Xp
      omega
  have c0 : CR (mI (mI (mI (mI (mI (mA (mI Mc e 5 0) 5 7 e) 5 1 0) 5 3 0) 5 6 0) 5 4 0) 3 2 0) e [] [] (rowOf Mc e) 0 0 (gI Mc 5 5) 0 := by
    refine ⟨mAs (mI Mc e 5 0) 5 7 e, ?_, trivial, ?_, trivial, ?_, fun p hp => absurd hp (by omega), ?_, ?_, ?_⟩
    · rw [mIc (by decide), mIk (by decide), mIk (by decide), mIk (by decide)]
      exact mIs _ _ _ _
    · rw [mIc (by decide), mIk (by decide), mIk (by decide)]
      exact mIs _ _ _ _
    · rw [mIc (by omega), mIc (by omega), mIc (by omega), mIc (by omega), mIc (by omega)]
      exact mIs Mc e 5 0
    · rw [mIc (by decide)]
      exact mIs _ _ _ _
    · rw [mIc (by decide), mIk (by decide), mIk (by decide), mIk (by decide), mIk (by decide)]
      show gI (mI Mc e 5 0) 5 5 = _
      rw [mIc (by omega)]
    · rw [mIc (by decide), mIk (by decide)]
      exact mIs _ _ _ _
  have t0 : TxC (mI (mI (mI (mI (mI (mA (mI Mc e 5 0) 5 7 e) 5 1 0) 5 3 0) 5 6 0) 5 4 0) 3 2 0) tx n := ⟨(x0 3 1 (by unfold X57 Xd X3 Xp; omega)).1.trans hTc.1, fun k hk => (x0 4 k (by unfold X57 Xd X3 Xp; omega)).1.trans (hTc.2 k hk)⟩
  have p0 : gI (mI (mI (mI (mI (mI (mA (mI Mc e 5 0) 5 7 e) 5 1 0) 5 3 0) 5 6 0) 5 4 0) 3 2 0) 3 2 = nI 0 := mIs _ _ _ _
  generalize mI (mI (mI (mI (mI (mA (mI Mc e 5 0) 5 7 e) 5 1 0) 5 3 0) 5 6 0) 5 4 0) 3 2 0 = Ma at eq x0 c0 t0 p0
  have mm : ∀ M, TxM M tx n → ∃ Mb, f_Mod_read M = f_Mod_read_30 64 (nI 0) Mb ∧ EqK Xr M Mb ∧ TxM Mb tx n ∧ gI Mb 184 5 = nI 0 ∧ MR Mb [] (fun _ => 0) (fun _ => 0) 0 0 (gI Mc 5 5) 0 := fun M hT => by
    have x : EqK Xr M (mI (mI (mI (mI (mI M 184 5 0) 184 7 0) 184 10 0) 184 11 0) 188 8 0) := by
      refine EqK.mI (EqK.mI (EqK.mI (EqK.mI (EqK.mI (EqK.rf M) ?_) ?_) ?_) ?_) ?_
      all_goals
        unfold Xr X5 Xq
        omega
    refine ⟨_, ?_, x, ⟨(x 184 1 (by unfold Xr X5 Xq; omega)).1.trans hT.1, fun k hk => (x 185 k (by unfold Xr X5 Xq; omega)).1.trans (hT.2 k hk)⟩, ?_, ?_, trivial, mIs _ _ _ _, fun k hk => absurd hk (by omega), ?_, ?_⟩
    · unfold f_Mod_read
      rw [kM_eq, kM_eq, kM_eq, kM_eq, kM_eq]
      rfl
    · rw [mIc (by decide), mIk (by decide), mIk (by decide), mIk (by decide)]
      exact mIs _ _ _ _
    · rw [mIc (by decide), mIk (by decide)]
      exact mIs _ _ _ _
    · rw [stM_0, mIc (by decide), mIk (by decide), mIk (by decide)]
      exact mIs _ _ _ _
    · rw [mIc (by decide)]
      exact mIs _ _ _ _
  have inv : Inv 0 (gI Mc 5 5) [] [] (rowOf Mc e) 0 (fun _ => 0) (fun _ => 0) 0 (fun _ => 0) (fun _ => 0) (fun _ => 0) 0 0 := ⟨fun p hp => absurd hp (by omega), Or.inl ⟨Or.inl rfl, rfl, rfl, rfl⟩, rfl, by decide, by decide, Nat.le_refl _, fun z => absurd z (by decide)⟩
  rcases read_lp he (tx := tx) hn n 0 0 0 (gI Mc 5 5) [] [] (rowOf Mc e) 0 (fun _ => 0) (fun _ => 0) 0 (fun _ => 0) (fun _ => 0) (fun _ => 0) 0 (by omega) (by omega) (Nat.le_refl _) inv with ⟨k, k1, hC, hM⟩ | ⟨E', sz', c', ar', m', k1, hC, hM⟩
  · obtain ⟨M1, a1, a2, -⟩ := hC 64 Ma (by omega) t0 p0 c0
    refine Or.inl ⟨k, M1, k1, by rw [eq]; exact a1, x0.tr (a2.mono fun c k z => Or.inl z), fun M hT => ?_⟩
    obtain ⟨Mb, b1, b2, b3, b4, b5⟩ := mm M hT
    obtain ⟨M2, d1, d2, -⟩ := hM 64 Mb (by omega) b3 b4 b5
    exact ⟨M2, by rw [b1]; exact d1, b2.tr d2⟩
  · obtain ⟨M1, a1, a2, a3, a4⟩ := hC 64 Ma (by omega) t0 p0 c0
    refine Or.inr ⟨E', sz', c', ar', m', M1, k1, by rw [eq]; exact a1, x0.tr (a2.mono fun c k z => Or.inl z), a3, a4, fun M hT => ?_⟩
    obtain ⟨Mb, b1, b2, b3, b4, b5⟩ := mm M hT
    obtain ⟨M2, d1, d2, d3, d4⟩ := hM 64 Mb (by omega) b3 b4 b5
    exact ⟨M2, by rw [b1]; exact d1, b2.tr d2, d3, d4⟩
