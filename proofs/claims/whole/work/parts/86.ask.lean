/-! ask -/
def Cp (dst od n c k : Nat) : Prop := c = dst ∧ od ≤ k ∧ k < od + n
theorem cp_lp {α : Type} {L : Nat → Int32 → ax_M → Option α} {fin : ax_M → Option α} {dst od n : Nat} {val : Nat → Int32} {Ms : ax_M}
    (hstep : ∀ f j M, j < n → EqK (Cp dst od n) Ms M → (∀ q, j ≤ q → gI M dst (od + q) = gI Ms dst (od + q)) → L (f + 1) (nI j) M = L f (nI (j + 1)) (mI M dst (od + j) (val j)))
    (hend : ∀ f M, EqK (Cp dst od n) Ms M → L (f + 1) (nI n) M = fin M) : ∀ (r f : Nat) (M : ax_M), r ≤ n → r < f → EqK (Cp dst od n) Ms M → (∀ q, n - r ≤ q → gI M dst (od + q) = gI Ms dst (od + q)) → (∀ j, j < n - r → gI M dst (od + j) = val j) →
      ∃ M', L f (nI (n - r)) M = fin M' ∧ EqK (Cp dst od n) Ms M' ∧ ∀ j, j < n → gI M' dst (od + j) = val j := by
  intro r
  induction r with
  | zero =>
    intro f M _ hf hE ho hv
    obtain ⟨g, rfl⟩ : ∃ g, f = g + 1 := ⟨f - 1, by omega⟩
    exact ⟨M, hend g M hE, hE, hv⟩
  | succ r ih =>
    intro f M hr hf hE ho hv
    obtain ⟨g, rfl⟩ : ∃ g, f = g + 1 := ⟨f - 1, by omega⟩
    rw [hstep g (n - (r + 1)) M (by omega) hE ho, show n - (r + 1) + 1 = n - r by omega]
    refine ih g _ (by omega) (by omega) (hE.mI ⟨rfl, by omega, by omega⟩) (fun q hq => by rw [mIk (by omega)]; exact ho q (by omega)) (fun j hj => ?_)
    by_cases z : j = n - (r + 1)
    · rw [z, mIs]
    · rw [mIk (by omega)]
      exact hv j (by omega)
theorem cp_ok {α : Type} {L : Nat → Int32 → ax_M → Option α} {fin : ax_M → Option α} {dst od n : Nat} {val : Nat → Int32} {Ms : ax_M} (hn : n ≤ 5)
    (hstep : ∀ f j M, j < n → EqK (Cp dst od n) Ms M → (∀ q, j ≤ q → gI M dst (od + q) = gI Ms dst (od + q)) → L (f + 1) (nI j) M = L f (nI (j + 1)) (mI M dst (od + j) (val j)))
    (hend : ∀ f M, EqK (Cp dst od n) Ms M → L (f + 1) (nI n) M = fin M) : ∃ M', L 64 (nI 0) Ms = fin M' ∧ EqK (Cp dst od n) Ms M' ∧ ∀ j, j < n → gI M' dst (od + j) = val j := by
  have h := cp_lp (L := L) (fin := fin) (dst := dst) (od := od) (n := n) (val := val) (Ms := Ms) hstep hend n 64 Ms (Nat.le_refl _) (by omega) (EqK.rf Ms) (fun q _ => rfl) (fun j hj => absurd hj (by omega))
  rw [Nat.sub_self] at h
  exact h
def lst (M : ax_M) (c n : Nat) : List Int32 := (List.range n).map (fun k => gI M c k)
theorem lst_len (M : ax_M) (c n : Nat) : (lst M c n).length = n := by
  unfold lst
  rw [List.length_map, List.length_range]
theorem lst_get (M : ax_M) (c : Nat) {n k : Nat} (hk : k < n) : (lst M c n).getD k 0 = gI M c k := by
  unfold lst
  rw [List.getD_eq_getElem?_getD, List.getElem?_map, List.getElem?_range hk]
  rfl
theorem giveList_ok {M : ax_M} {l : List Int32} (hl : l.length ≤ 5) (hn : gI M 184 16 = nI l.length) (hv : ∀ j, j < l.length → gI M 192 j = l.getD j 0) : ∃ M', f_Mod_giveList M = some ((), M') ∧ EqK (fun c k => c = 212 ∨ (c = 184 ∧ k = 43)) M M' ∧ gI M' 184 43 = nI l.length ∧ ∀ j, j < l.length → gI M' 212 j = l.getD j 0 := by
  unfold f_Mod_giveList
  rw [kM_eq, hn]
  have n16 : ∀ M', EqK (Cp 212 0 l.length) (mI M 184 43 (nI l.length)) M' → gI M' 184 16 = nI l.length := fun M' h => by
    rw [(h 184 16 (by unfold Cp; omega)).1, mIk (by decide)]
    exact hn
  obtain ⟨M', a1, a2, a3⟩ := cp_ok (L := f_Mod_giveList_10) (fin := fun m => some ((), m)) (dst := 212) (od := 0) (val := fun j => l.getD j 0) (Ms := mI M 184 43 (nI l.length)) hl (fun f j M1 hj hE _ => by
      show f_Mod_giveList_10_b (f_Mod_giveList_10 f) (nI j) M1 = _
      unfold f_Mod_giveList_10_b
      rw [n16 M1 hE, if_neg (nI_ge hj (by omega)), gi_nI (by omega) (by decide), nI_clamp (by omega), (hE 192 j (by unfold Cp; omega)).1, mIc (by decide), hv j hj, kM_eq, kM_eq, nI_1, Nat.zero_add]) (fun f M1 hE => by
      show f_Mod_giveList_10_b (f_Mod_giveList_10 f) (nI l.length) M1 = _
      unfold f_Mod_giveList_10_b
      rw [n16 M1 hE, if_pos (nI_le (Nat.le_refl _) (by omega))])
  refine ⟨M', a1, EqK.tr ((EqK.rf M).mI (S := fun c k => c = 212 ∨ (c = 184 ∧ k = 43)) (Or.inr ⟨rfl, rfl⟩)) (a2.mono fun c k z => Or.inl z.1), ?_, fun j hj => ?_⟩
  · rw [(a2 184 43 (by unfold Cp; omega)).1]
    exact mIs _ _ _ _
  · have := a3 j hj
    rw [Nat.zero_add] at this
    exact this
/-! errors have the number 0 -/
def WfE (x : xV) : Prop := x.1 = -1 → x.2.1 = 0
def WeR : Option xV → Prop
  | none => True
  | some x => WfE x
theorem we_err : WfE xErr := fun _ => rfl
theorem we_k {a : Int32} (h : a ≠ -1) (b : Int64) (l : List Int32) : WfE (a, b, l) := fun q => absurd q h
theorem we_no : WfE xNo := we_k (by decide) _ _
theorem we_T (z : Int64) : WfE (xT z) := we_k (by decide) _ _
theorem we_I (z : Int32) : WfE (xI z) := we_k (by decide) _ _
theorem we_J (z : Int64) : WfE (xJ z) := we_k (by decide) _ _
theorem we_L (z : List Int32) : WfE (xL z) := we_k (by decide) _ _
theorem we_leaf {ρ : xEnv} (hr : WeR ρ.r) (it : Option Int32) (o : Int32) (n : Int64) : WfE (xLeaf ρ it o n) := by
  unfold xLeaf
  repeat' split
  all_goals first
    | exact we_I _
    | exact we_J _
    | exact we_T _
    | exact we_no
    | exact we_err
    | exact we_L _
    | skip
  rename_i h
  rw [h] at hr
  exact hr
theorem we_one {s : Nat} {o : Int32} {x : xV} (h : WfE x) : WfE (xOne s o x) := by
  unfold xOne xRole xSize xNot xNeg
  repeat' split
  all_goals first
    | exact we_T _
    | exact we_err
    | exact we_I _
    | exact we_J _
    | exact h
theorem we_two {o : Int32} {x y : xV} : WfE (xTwo o x y) := by
  unfold xTwo xItem xNums
  repeat' split
  all_goals first
    | exact we_I _
    | exact we_err
    | exact we_J _
    | exact we_T _
theorem we_find (v : Int32 → xV) : ∀ l, WfE (xFind v l)
  | [] => we_no
  | k :: r => by
    unfold xFind
    repeat' split
    · exact we_I _
    · exact we_find v r
    · exact we_err
theorem we_B {E : xRow} {ρ : xEnv} {V : Nat → Option Int32 → xV} (hr : WeR ρ.r) (hV : ∀ q j, WfE (V q j)) (p : Nat) (it : Option Int32) : WfE (evB E ρ V p it) := by
  unfold evB
  split
  · exact we_leaf hr _ _ _
  split
  · unfold xLogic
    repeat' split
    all_goals first
      | exact hV _ _
      | exact we_err
  split
  · split
    all_goals exact hV _ _
  split
  · unfold xSearch
    split
    · split
      · split
        · exact we_err
        · exact we_L _
      · exact we_find _ _
    · exact we_err
  split
  · unfold xChoice
    repeat' split
    all_goals first
      | exact hV _ _
      | exact we_err
  split
  · exact we_err
  split
  · exact we_one (hV _ _)
  split
  · exact we_err
  · exact we_two
theorem we_ev {E : xRow} {ρ : xEnv} (hr : WeR ρ.r) : ∀ n p it, WfE (ev E ρ n p it)
  | 0, _, _ => we_err
  | n + 1, p, it => by
    show WfE (evB E ρ (fun q j => if q < p then ev E ρ n q j else xErr) p it)
    apply we_B hr
    intro q j
    show WfE (if q < p then ev E ρ n q j else xErr)
    split
    · exact we_ev hr n q j
    · exact we_err
/-! the two environments -/
abbrev hRoles (M : ax_M) (D Wm : Nat → Nat) : Prop := ∀ k, k < 16 → D k < 65536 ∧ gI M 64 k = nI (D k) ∧ gI M 191 k = nI (D k) ∧ Wm k < 65536 ∧ gI M 65 k = nI (Wm k) ∧ ∀ y, y < 16 → ((Wm k).testBit y = true ↔ ∃ n, rch D n k y)
theorem clO_0 {D : Nat → Nat} (hD : ∀ k, k < 16 → D k < 65536) : clO D 16 0 = 0 := by
  refine ext16 (clO_lt hD 16 0 (by decide)) (by decide) (fun i hi => ?_)
  rw [clo_tb hD (by decide) hi]
  constructor
  · rintro ⟨k, -, h, -⟩
    rw [Nat.zero_testBit] at h
    cases h
  · intro h
    rw [Nat.zero_testBit] at h
    cases h
theorem mkB {M0 M : ax_M} {D Wm : Nat → Nat} (hR : hRoles M0 D Wm) (hm : S_misc M0) (hq : EqK XC M0 M) {u a : Int32} {b : Int64} {S t : Nat} {l : List Int32} {r : Option xV} (hS : S < 65536) (h2 : gI M 63 2 = u) (h3 : gI M 63 3 = nI S) (ha : gI M 68 4 = a) (hb : gJ M 68 5 = b) (ht : gA M 68 6 = t) (htt : t + 1 < 68 ∨ 135 ≤ t) (hl : IRep M t l) (hr : RetC M r) : EnvB M (u, clO D 16 S, a, b, l, r) none := by
  have hR' : hRoles M D Wm := fun k hk => by
    obtain ⟨x1, x2, x3, x4, x5, x6⟩ := hR k hk
    exact ⟨x1, (hq 64 k (by unfold XC; omega)).1.trans x2, (hq 191 k (by unfold XC; omega)).1.trans x3, x4, (hq 65 k (by unfold XC; omega)).1.trans x5, x6⟩
  obtain ⟨r1, -, r3⟩ := roles_both hR' hS
  refine ⟨h2, r3 h3, r1, ha, hb, by rw [ht]; exact hl, by rw [ht]; exact htt, hr, (hq 68 8 (by unfold XC; omega)).1.trans hm.1, ⟨by decide, (hq 70 0 (by unfold XC; omega)).1.trans hm.2.1, fun _ => (hq 70 1 (by unfold XC; omega)).2.1.trans hm.2.2, fun q => absurd q (by decide)⟩⟩
theorem mkM {M : ax_M} {D : Nat → Nat} (hD : ∀ k, k < 16 → D k < 65536 ∧ gI M 191 k = nI (D k)) {u a : Int32} {b : Int64} {S : Nat} {l : List Int32} {r : Option xV} (hS : S < 65536) (h13 : gI M 184 13 = u) (hu : u = -1 ∨ 0 ≤ u) (h14 : gI M 184 14 = nI S) (hus : u = -1 → S = 0) (ha : gI M 184 40 = a) (hb : gJ M 184 41 = b) (hn : gI M 184 43 = nI l.length) (hl : l.length ≤ 5) (hv : ∀ j, j < l.length → gI M 212 j = l.getD j 0) (hr : RetM M r) (h38 : gI M 184 38 = 0) : EnvM M (u, clO D 16 S, a, b, l, r) none := by
  refine ⟨⟨h13, hu⟩, ⟨D, S, hD, h14, hS, rfl⟩, clO_lt (fun k hk => (hD k hk).1) 16 S hS, fun q => ?_, ha, hb, ⟨hn, hl, hv⟩, hr, h38⟩
  show clO D 16 S = 0
  rw [hus q]
  exact clO_0 (fun k hk => (hD k hk).1)
