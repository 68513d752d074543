/-! Both sides work an expression out, whole; the filters. -/
def Fq (c k : Nat) : Prop := (202 ≤ c ∧ c ≤ 211) ∨ (c = 184 ∧ (k = 29 ∨ k = 37 ∨ k = 38 ∨ k = 39))
theorem w_end {M : ax_M} {i m : Nat} {c : Nat → Int32} {ar : Nat → Int64} (h : CodeM M i c ar m) (F : Nat) : f_Mod_work_17 (F + 1) (nI i) (nI (48 * i)) (nI m) M = some ((), M) := by
  obtain ⟨h1, h2, h3, h4⟩ := h
  show f_Mod_work_17_b (f_Mod_work_17 F) (nI i) (nI (48 * i)) (nI m) M = _
  unfold f_Mod_work_17_b
  rw [gi_nI (by omega) (by decide), nI_clamp (by omega), h3, if_pos (nI_le (Nat.le_refl _) (by omega))]
theorem run_end {M M' : ax_M} {i m B : Nat} {c : Nat → Int32} {ar : Nat → Int64} (h : CodeM M' i c ar m) (r : Runs i 0 m M M' B) : ∀ F, B < F → f_Mod_work_17 F (nI i) (nI (48 * i)) (nI 0) M = some ((), M') := by
  intro F hF
  obtain ⟨k, k1, k2⟩ := r
  obtain ⟨G, rfl⟩ : ∃ G, F = G + 1 + k := ⟨F - k - 1, by omega⟩
  rw [k2 (G + 1)]
  exact w_end h G
theorem p7_lt : 7 ^ 20 < 1000000000000000000 := by decide
theorem mwork_eq (i : Nat) (M : ax_M) : f_Mod_work (nI i) M = f_Mod_work_17 1000000000000000000 (nI i) (nI (48 * i)) (nI 0) (mI (mI M 184 29 0) 184 37 0) := by
  unfold f_Mod_work
  rw [kM_eq, kM_eq, kM_eq, show (48 : Int32) * nI i = nI (48 * i) from (Int32.ofNat_mul 48 i).symm]
  rfl
theorem mwork_ok {M : ax_M} {i m n : Nat} {c : Nat → Int32} {ar : Nat → Int64} {E : xRow} {ρ : xEnv} {it : Option Int32} {lo be en : Nat → Nat} (h0 : 0 < n) (hn : n ≤ 20) (hw : WfR ρ.r) (hN : ∀ p, p < n → lo p ≤ p ∧ Node E c ar lo be en p) (hl : lo (n - 1) = 0) (hb : be (n - 1) = 0) (he : en (n - 1) + 1 = m) (hE : EnvM M ρ it) (hC : CodeM M i c ar m) : ∃ M', f_Mod_work (nI i) M = some ((), M') ∧ TRep M' 0 (evv E ρ (n - 1) it) ∧ EqK Fq M M' ∧ gI M' 184 38 = gI M 184 38 ∧ gI M' 184 39 = gI M 184 39 := by
  have f1 : EqK Fr M (mI (mI M 184 29 0) 184 37 0) := ((EqK.rf M).mI (S := Fr) (Or.inr ⟨rfl, Or.inl rfl⟩)).mI (Or.inr ⟨rfl, Or.inr rfl⟩)
  have hC1 : CodeM (mI (mI M 184 29 0) 184 37 0) i c ar m := hC.eq (S := Fr) (fun c k q => by unfold Fr at q; omega) f1
  obtain ⟨M', r, t, g, q⟩ := step_ok (i := i) (m := m) hn hw hN (n - 1) (by omega) 0 0 (by omega) (by omega) (by omega) it _ (hE.eq f1) hC1 (by rw [mIk (by decide)]; exact mIs _ _ _ _) (mIs _ _ _ _)
  rw [hb, he] at r
  have bd : 7 ^ (n - 1 + 1 - lo (n - 1)) ≤ 7 ^ 20 := Nat.pow_le_pow_right (by decide) (by omega)
  refine ⟨M', ?_, t, ?_, ?_, ?_⟩
  · rw [mwork_eq]
    exact run_end (q.code hC1) r _ (Nat.lt_of_le_of_lt bd p7_lt)
  · refine EqK.tr (f1.mono fun c k z => ?_) (q.1.mono fun c k z => ?_)
    · unfold Fr at z
      unfold Fq
      omega
    · unfold Xi Xc Xs at z
      unfold Fq
      omega
  · rw [q.2.2.1, mIk (by decide), mIk (by decide)]
  · rw [q.2.2.2, mIk (by decide), mIk (by decide)]
/-- the value of the expression of a slot -/
def sl (M : ax_M) (i : Nat) (ρ : xEnv) (it : Option Int32) : xV := evv (rowOf M (gA M 8 i)) ρ ((gI M (gA M 8 i) 5).toNatClampNeg - 1) it
/-- cells that a call of the class may change -/
def XC (c k : Nat) : Prop := (c = 63 ∧ (k = 2 ∨ k = 3)) ∨ (c = 68 ∧ k ≠ 8) ∨ (73 ≤ c ∧ c ≤ 134) ∨ (c = 135 ∧ (k = 7 ∨ k = 8 ∨ k = 9)) ∨ (139 ≤ c ∧ c ≤ 141) ∨ (c % 2 = 1 ∧ 143 ≤ c ∧ c < 158) ∨ (168 ≤ c ∧ c < 184)
/-- the reference's -/
def XM (c k : Nat) : Prop := XC c k ∨ (c = 184 ∧ k ≠ 1 ∧ k ≠ 16 ∧ k ≠ 60) ∨ (201 ≤ c ∧ c ≤ 221)
/-- all but the code -/
def XQ (c k : Nat) : Prop := c < 186 ∨ 188 < c
theorem XM_XQ : ∀ c k, XM c k → XQ c k := fun c k z => by unfold XM XC at z; unfold XQ; omega
theorem slot_cmp {M : ax_M} (hp : S_perm M) (he : S_expr M) {i : Nat} (hi : i < 8) (hw : 0 < gI M 188 i) : ∃ j n m, j < 9 ∧ gA M 8 i = 9 + 6 * j ∧ gI M (gA M 8 i) 5 = nI n ∧ gI M 188 i = nI m ∧ Cmp (rowOf M (gA M 8 i)) n (fun k => gI M 186 (48 * i + k)) (fun k => gJ M 187 (48 * i + k)) m := by
  have e0 : eOf M i = gA M 8 i := by unfold eOf; rw [if_pos hi]
  obtain ⟨j, hj, ej⟩ := hp.1 i (by omega)
  rw [e0] at ej
  rcases he i hi with ⟨h1, h2⟩ | ⟨n, m, h1, h2, h3⟩
  · rw [h2] at hw
    exact absurd hw (by decide)
  · rw [e0] at h1 h3
    exact ⟨j, n, m, hj, ej, h1, h2, h3⟩
theorem mslot_ok {M0 M : ax_M} (hp : S_perm M0) (hx : S_expr M0) {i : Nat} (hi : i < 8) (hw : 0 < gI M0 188 i) (hq : EqK XQ M0 M) {ρ : xEnv} {it : Option Int32} (hr : WfR ρ.r) (hE : EnvM M ρ it) : ∃ M', f_Mod_work (nI i) M = some ((), M') ∧ TRep M' 0 (sl M0 i ρ it) ∧ EqK Fq M M' ∧ gI M' 184 38 = gI M 184 38 ∧ gI M' 184 39 = gI M 184 39 := by
  obtain ⟨j, n, m, hj, ej, h1, h2, h3, h4, h5, lo, be, en, h6, h7, h8, h9⟩ := slot_cmp hp hx hi hw
  have x : ∀ c k, 186 ≤ c → c ≤ 188 → ¬ XQ c k := fun c k a b z => by unfold XQ at z; omega
  have hC : CodeM M i (fun k => gI M0 186 (48 * i + k)) (fun k => gJ M0 187 (48 * i + k)) m := ⟨hi, h5, (hq 188 i (x _ _ (by omega) (by omega))).1.trans h2, fun k _ => ⟨(hq 186 _ (x _ _ (by omega) (by omega))).1, (hq 187 _ (x _ _ (by omega) (by omega))).2.1⟩⟩
  have e : sl M0 i ρ it = evv (rowOf M0 (gA M0 8 i)) ρ (n - 1) it := by
    unfold sl
    rw [h1, nI_clamp (by omega)]
  rw [e]
  exact mwork_ok h3 h4 hr h6 h7 h8 h9 hE hC
/-! the class -/
def EnvB (M : ax_M) (ρ : xEnv) (it : Option Int32) : Prop :=
  (gI M 63 2 = ρ.u) ∧ (f_Ctx_reachable M = some (nI ρ.s, M)) ∧ (ρ.s < 65536) ∧ (gI M 68 4 = ρ.a) ∧ (gJ M 68 5 = ρ.b) ∧ (IRep M (gA M 68 6) ρ.l) ∧ (gA M 68 6 + 1 < 68 ∨ 135 ≤ gA M 68 6) ∧ (RetC M ρ.r) ∧ (ItC M it) ∧ (VRep M 70 xErr)
def Wx (c k : Nat) : Prop := (c = 68 ∧ k = 3) ∨ Wk c
theorem EnvB.eq {M M' : ax_M} {ρ : xEnv} {it : Option Int32} (h : EnvB M ρ it) (hE : EqK Wx M M') : EnvB M' ρ it := by
  have w : ∀ c k, (c < 73 ∨ 134 < c) → (c ≠ 68 ∨ k ≠ 3) → ¬ Wx c k := fun c k hc hk q => by unfold Wx Wk at q; omega
  have eI : ∀ c k, (c < 73 ∨ 134 < c) → (c ≠ 68 ∨ k ≠ 3) → gI M' c k = gI M c k := fun c k hc hk => (hE c k (w c k hc hk)).1
  have eJ : ∀ c k, (c < 73 ∨ 134 < c) → (c ≠ 68 ∨ k ≠ 3) → gJ M' c k = gJ M c k := fun c k hc hk => (hE c k (w c k hc hk)).2.1
  have eA : ∀ c k, (c < 73 ∨ 134 < c) → (c ≠ 68 ∨ k ≠ 3) → gA M' c k = gA M c k := fun c k hc hk => (hE c k (w c k hc hk)).2.2
  obtain ⟨b1, b2, b3, b4, b5, b6, b7, b8, b9, b10⟩ := h
  refine ⟨(eI 63 2 (by omega) (by omega)).trans b1, reach_cg (eI 63 3 (by omega) (by omega)) (fun k => eI 65 k (by omega) (by omega)) 64 0 0 _ b2, b3, (eI 68 4 (by omega) (by omega)).trans b4, (eJ 68 5 (by omega) (by omega)).trans b5, ?_, ?_, ?_, ?_, ?_⟩
  · rw [eA 68 6 (by omega) (by omega)]
    exact b6.kp (fun k => eI _ k (by omega) (by omega)) (fun k => eI _ k (by omega) (by omega))
  · rw [eA 68 6 (by omega) (by omega)]
    exact b7
  · revert b8
    generalize ρ.r = z
    intro rv
    match z, rv with
    | none, rv => exact (eA 68 7 (by omega) (by omega)).trans rv
    | some x, rv => exact ⟨(eA 68 7 (by omega) (by omega)).trans rv.1, rv.2.kp (fun k => eI _ k (by omega) (by omega)) (fun k => eJ _ k (by omega) (by omega)) (fun k => eI _ k (by omega) (by omega)) (fun k => eI _ k (by omega) (by omega))⟩
  · match it, b9 with
    | none, iv => exact (eI 68 8 (by omega) (by omega)).trans iv
    | some k, iv => exact ⟨(eI 68 8 (by omega) (by omega)).trans iv.1, (eI 68 9 (by omega) (by omega)).trans iv.2⟩
  · exact b10.kp (fun k => eI _ k (by omega) (by omega)) (fun k => eJ _ k (by omega) (by omega)) (fun k => eI _ k (by omega) (by omega)) (fun k => eI _ k (by omega) (by omega))
theorem mA_eqk {S : Nat → Nat → Prop} {M : ax_M} {c k v : Nat} (hc : S c k) : EqK S M (mA M c k v) := fun a j ha => ⟨rfl, rfl, if_neg (fun (q : a = c ∧ j = k) => ha (by rw [q.1, q.2]; exact hc))⟩
theorem EqO.k {S : Nat → Prop} {T : Nat → Nat → Prop} {M M' : ax_M} (h : EqO S M M') (hs : ∀ c k, S c → T c k) : EqK T M M' := fun c k hc => h c (fun z => hc (hs c k z)) k
theorem cenv {M0 M : ax_M} (hq : EqK XC M0 M) {i j : Nat} (hj : j < 9) (ej : gA M0 8 i = 9 + 6 * j) {ρ : xEnv} {it : Option Int32} (hB : EnvB M ρ it) : gA M 8 i = gA M0 8 i ∧ EnvC (mA M 68 3 (gA M0 8 i)) (gA M0 8 i) (rowOf M0 (gA M0 8 i)) ρ it ∧ ∀ k, gI (mA M 68 3 (gA M0 8 i)) (gA M0 8 i) k = gI M0 (gA M0 8 i) k := by
  have x : ∀ c k, c < 63 → ¬ XC c k := fun c k a z => by unfold XC at z; omega
  refine ⟨(hq 8 i (x _ _ (by omega))).2.2, ⟨mAs _ _ _ _, by rw [ej]; exact ke j hj, by omega, ?_, ?_⟩, fun k => (hq _ k (x _ _ (by omega))).1⟩
  · exact rowOf.cg (M := M0) (fun q hq2 k => ⟨(hq _ k (x _ _ (by omega))).1, (hq _ k (x _ _ (by omega))).2.1⟩)
  · exact hB.eq (mA_eqk (S := Wx) (Or.inl ⟨rfl, rfl⟩))
theorem cslot_ok {M0 M : ax_M} (hp : S_perm M0) (hx : S_expr M0) {i : Nat} (hi : i < 8) (hw : 0 < gI M0 188 i) (hq : EqK XC M0 M) {ρ : xEnv} {it : Option Int32} (hB : EnvB M ρ it) : ∃ v M', f_Worker_workOut (gA M 8 i) M = some (v, M') ∧ VRep M' v (sl M0 i ρ it) ∧ EqK Wx M M' := by
  obtain ⟨j, n, m, hj, ej, h1, h2, h3, h4, h5, lo, be, en, h6, h7, h8, h9⟩ := slot_cmp hp hx hi hw
  obtain ⟨c1, c2, c3⟩ := cenv hq hj ej hB
  have e : sl M0 i ρ it = evv (rowOf M0 (gA M0 8 i)) ρ (n - 1) it := by
    unfold sl
    rw [h1, nI_clamp (by omega)]
  have en1 : nI n - 1 = nI (n - 1) := by
    obtain ⟨p, rfl⟩ : ∃ p, n = p + 1 := ⟨n - 1, by omega⟩
    exact nI_m1 p
  obtain ⟨v, M', a1, a2, a3, a4⟩ := vo_ok h6 21 (n - 1) n (by omega) (by omega) (by omega) h4 it _ c2
  rw [e]
  refine ⟨v, M', ?_, a2, EqK.tr (mA_eqk (S := Wx) (Or.inl ⟨rfl, rfl⟩)) (a3.k fun c k z => ?_)⟩
  · unfold f_Worker_workOut
    rw [c1, kM_eq, gk_pos (by rw [ej]; exact ke j hj), c3 5, h1, en1, a1, bnd_eq]
  · unfold Rws at z
    unfold Wx Wk
    omega
theorem kd73 : kd 73 = 5 := by decide
theorem cfilt_ok {M0 M : ax_M} (hp : S_perm M0) (hx : S_expr M0) {i : Nat} (hi : i < 8) (hw : 0 < gI M0 188 i) (hq : EqK XC M0 M) {ρ : xEnv} {it : Option Int32} (hB : EnvB M ρ it) {t : Nat} {l : List Int32} (ht : 135 ≤ t) (hl : IRep M t l) : ∃ M', (xSift (fun k => sl M0 i ρ (some k)) l = none ∧ f_Worker_filter (gA M 8 i) t M = some (0, M') ∧ EqK Wx M M') ∨ ∃ r, xSift (fun k => sl M0 i ρ (some k)) l = some r ∧ f_Worker_filter (gA M 8 i) t M = some (1, M') ∧ IRep M' t r ∧ EqK (fun c k => Wx c k ∨ c = t ∨ c = t + 1) M M' := by
  obtain ⟨j, n, m, hj, ej, h1, h2, h3, h4, h5, lo, be, en, h6, h7, h8, h9⟩ := slot_cmp hp hx hi hw
  obtain ⟨c1, c2, c3⟩ := cenv hq hj ej hB
  have e : (fun k => sl M0 i ρ (some k)) = fun k => evv (rowOf M0 (gA M0 8 i)) ρ (n - 1) (some k) := by
    funext k
    unfold sl
    rw [h1, nI_clamp (by omega)]
  have en1 : nI n - 1 = nI (n - 1) := by
    obtain ⟨p, rfl⟩ : ∃ p, n = p + 1 := ⟨n - 1, by omega⟩
    exact nI_m1 p
  have g1 : EqK Wx M (mA M 68 3 (gA M0 8 i)) := mA_eqk (S := Wx) (Or.inl ⟨rfl, rfl⟩)
  obtain ⟨M', a1, a2⟩ := sift_ok (lo := lo (n - 1)) (q := n - 1) (s := t) (t := 73) (l := l) (v := f_Worker_valueOf 21) (a := nI (n - 1)) (b := nI n) (by omega) (fun it M h => vo_ok h6 21 (n - 1) n (by omega) (by omega) (by omega) h4 it M h) (by unfold SS Rws; omega) (by unfold SS Rws; omega) (by unfold Rws; omega) (by unfold Rws; omega) ⟨by unfold Wk; omega, by unfold Wk; omega⟩ kd73 c2 (hl.kp (fun k => rfl) (fun k => rfl))
  have gg : EqK Wx M M' := g1.tr (a1.k fun c k z => by unfold SS Rws at z; unfold Wx Wk; omega)
  have eq : ∀ r, f_Worker_sift (f_Worker_valueOf 21) (nI (n - 1)) (nI n) t 73 (mA M 68 3 (gA M0 8 i)) = some (r, M') → f_Worker_filter (gA M 8 i) t M = if r = 0 then g2 r (some (r, M')) else gk t 5 (bnd (f_Items_copyFrom t 73 M') (fun _ m => g2 r (some (r, m)))) := fun r hr => by
    unfold f_Worker_filter
    rw [c1, kM_eq, gk_pos (by rw [ej]; exact ke j hj), c3 5, h1, en1, hr, bnd_eq]
  rw [e]
  rcases a2 with ⟨b1, b2⟩ | ⟨r, b1, b2, b3⟩
  · refine ⟨M', Or.inl ⟨b1, ?_, gg⟩⟩
    rw [eq 0 b2]
    rfl
  · obtain ⟨M2, d1, d2, d3⟩ := copy_ok (M := M') (l0 := t) (l1 := 73) hl.1 b3 (by omega) (by omega) (by omega)
    refine ⟨M2, Or.inr ⟨r, b1, ?_, d3, EqK.tr (gg.mono fun c k z => Or.inl z) (d2.k fun c k z => Or.inr z)⟩⟩
    rw [eq 1 b2, if_neg (show ¬ (1 : Int32) = 0 by decide), gk_pos hl.1, d1, bnd_eq]
    rfl
