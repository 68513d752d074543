/-! The reference's leaves and operators of one value. -/
def RetM (M : ax_M) : Option xV → Prop
  | none => gI M 184 44 = -1
  | some x => gI M 184 44 = x.1 ∧ (x.1 = 4 → gI M 184 45 = nI x.2.2.length ∧ x.2.2.length ≤ 5 ∧ ∀ j, j < x.2.2.length → gI M 213 j = x.2.2.getD j 0) ∧ (x.1 ≠ 4 → x.2.1 = (gI M 184 45).toInt64)
def ItM (M : ax_M) : Option Int32 → Prop
  | none => gI M 184 38 = 0
  | some k => gI M 184 38 = 1 ∧ gI M 184 39 = k
def EnvM (M : ax_M) (ρ : xEnv) (it : Option Int32) : Prop :=
  (gI M 184 13 = ρ.u ∧ (ρ.u = -1 ∨ 0 ≤ ρ.u)) ∧ (∃ (D : Nat → Nat) (S : Nat), (∀ k, k < 16 → D k < 65536 ∧ gI M 191 k = nI (D k)) ∧ gI M 184 14 = nI S ∧ S < 65536 ∧ clO D 16 S = ρ.s) ∧ ρ.s < 65536 ∧ (ρ.u = -1 → ρ.s = 0) ∧ gI M 184 40 = ρ.a ∧ gJ M 184 41 = ρ.b ∧ (gI M 184 43 = nI ρ.l.length ∧ ρ.l.length ≤ 5 ∧ ∀ j, j < ρ.l.length → gI M 212 j = ρ.l.getD j 0) ∧ RetM M ρ.r ∧ ItM M it
/-- cells that the environment does not look at -/
def Fr (c k : Nat) : Prop := (202 ≤ c ∧ c ≤ 211) ∨ (c = 184 ∧ (k = 29 ∨ k = 37))
theorem EnvM.eq {M M' : ax_M} {ρ : xEnv} {it : Option Int32} (h : EnvM M ρ it) (hE : EqK Fr M M') : EnvM M' ρ it := by
  have w : ∀ c k, (c < 202 ∨ 211 < c) → (c ≠ 184 ∨ (k ≠ 29 ∧ k ≠ 37)) → ¬ Fr c k := fun c k h1 h2 q => by unfold Fr at q; omega
  have eI : ∀ c k, (c < 202 ∨ 211 < c) → (c ≠ 184 ∨ (k ≠ 29 ∧ k ≠ 37)) → gI M' c k = gI M c k := fun c k h1 h2 => (hE c k (w c k h1 h2)).1
  have eJ : ∀ c k, (c < 202 ∨ 211 < c) → (c ≠ 184 ∨ (k ≠ 29 ∧ k ≠ 37)) → gJ M' c k = gJ M c k := fun c k h1 h2 => (hE c k (w c k h1 h2)).2.1
  obtain ⟨⟨a1, a2⟩, ⟨D, S, b1, b2, b3, b4⟩, c1, c2, d1, d2, ⟨e1, e2, e3⟩, rv, iv⟩ := h
  refine ⟨⟨(eI 184 13 (by omega) (by omega)).trans a1, a2⟩, ⟨D, S, fun k hk => ⟨(b1 k hk).1, (eI 191 k (by omega) (by omega)).trans (b1 k hk).2⟩, (eI 184 14 (by omega) (by omega)).trans b2, b3, b4⟩, c1, c2, (eI 184 40 (by omega) (by omega)).trans d1, (eJ 184 41 (by omega) (by omega)).trans d2, ⟨(eI 184 43 (by omega) (by omega)).trans e1, e2, fun j hj => (eI 212 j (by omega) (by omega)).trans (e3 j hj)⟩, ?_, ?_⟩
  · revert rv
    generalize ρ.r = z
    intro rv
    match z, rv with
    | none, rv => exact (eI 184 44 (by omega) (by omega)).trans rv
    | some x, rv => exact ⟨(eI 184 44 (by omega) (by omega)).trans rv.1, fun q => ⟨(eI 184 45 (by omega) (by omega)).trans (rv.2.1 q).1, (rv.2.1 q).2.1, fun j hj => (eI 213 j (by omega) (by omega)).trans ((rv.2.1 q).2.2 j hj)⟩, fun q => by rw [eI 184 45 (by omega) (by omega)]; exact rv.2.2 q⟩
  · match it, iv with
    | none, iv => exact (eI 184 38 (by omega) (by omega)).trans iv
    | some k, iv => exact ⟨(eI 184 38 (by omega) (by omega)).trans iv.1, (eI 184 39 (by omega) (by omega)).trans iv.2⟩
theorem leaf_cases {o : Int32} (ho : 2 ≤ o ∧ o ≤ 12) : o = 2 ∨ o = 3 ∨ o = 4 ∨ o = 5 ∨ o = 6 ∨ o = 7 ∨ o = 8 ∨ o = 9 ∨ o = 10 ∨ o = 11 ∨ o = 12 := by
  have a1 : (2 : Int) ≤ o.toInt := Int32.le_iff_toInt_le.mp ho.1
  have a2 : o.toInt ≤ (12 : Int) := Int32.le_iff_toInt_le.mp ho.2
  have e (k : Int32) (n : Int) (hk : k.toInt = n) : o.toInt = n → o = k := fun q => Int32.toInt_inj.mp (q.trans hk.symm)
  have h : o.toInt = 2 ∨ o.toInt = 3 ∨ o.toInt = 4 ∨ o.toInt = 5 ∨ o.toInt = 6 ∨ o.toInt = 7 ∨ o.toInt = 8 ∨ o.toInt = 9 ∨ o.toInt = 10 ∨ o.toInt = 11 ∨ o.toInt = 12 := by omega
  rcases h with h | h | h | h | h | h | h | h | h | h | h
  · exact Or.inl (e 2 2 (by decide) h)
  · exact Or.inr (Or.inl (e 3 3 (by decide) h))
  · exact Or.inr (Or.inr (Or.inl (e 4 4 (by decide) h)))
  · exact Or.inr (Or.inr (Or.inr (Or.inl (e 5 5 (by decide) h))))
  · exact Or.inr (Or.inr (Or.inr (Or.inr (Or.inl (e 6 6 (by decide) h)))))
  · exact Or.inr (Or.inr (Or.inr (Or.inr (Or.inr (Or.inl (e 7 7 (by decide) h))))))
  · exact Or.inr (Or.inr (Or.inr (Or.inr (Or.inr (Or.inr (Or.inl (e 8 8 (by decide) h)))))))
  · exact Or.inr (Or.inr (Or.inr (Or.inr (Or.inr (Or.inr (Or.inr (Or.inl (e 9 9 (by decide) h))))))))
  · exact Or.inr (Or.inr (Or.inr (Or.inr (Or.inr (Or.inr (Or.inr (Or.inr (Or.inl (e 10 10 (by decide) h)))))))))
  · exact Or.inr (Or.inr (Or.inr (Or.inr (Or.inr (Or.inr (Or.inr (Or.inr (Or.inr (Or.inl (e 11 11 (by decide) h))))))))))
  · exact Or.inr (Or.inr (Or.inr (Or.inr (Or.inr (Or.inr (Or.inr (Or.inr (Or.inr (Or.inr (e 12 12 (by decide) h))))))))))
theorem ml_1 (n : Int64) (M : ax_M) : f_Mod_leaf 1 n M = f_Mod_push 2 n M := by
  unfold f_Mod_leaf
  rw [if_pos (show (1 : Int32) = 1 from rfl)]
  unfold f_Mod_leaf_10
  rw [if_pos (show (1 : Int32) = 1 from rfl), u_id]
theorem ml_2 (n : Int64) (M : ax_M) : f_Mod_leaf 2 n M = f_Mod_push 3 n M := by
  unfold f_Mod_leaf
  rw [if_neg (show ¬ (2 : Int32) = 1 by decide), if_pos (show (2 : Int32) = 2 from rfl)]
  unfold f_Mod_leaf_10
  rw [if_neg (show ¬ (2 : Int32) = 1 by decide), u_id]
theorem ml_3 (n : Int64) (M : ax_M) : f_Mod_leaf 3 n M = f_Mod_pushTruth 1 M := by
  unfold f_Mod_leaf
  rw [if_neg (show ¬ (3 : Int32) = 1 by decide), if_neg (show ¬ (3 : Int32) = 2 by decide), if_pos (show (3 : Int32) = 3 from rfl)]
  rw [if_pos (show (3 : Int32) = 3 from rfl), u_id]
theorem ml_4 (n : Int64) (M : ax_M) : f_Mod_leaf 4 n M = f_Mod_pushTruth 0 M := by
  unfold f_Mod_leaf
  rw [if_neg (show ¬ (4 : Int32) = 1 by decide), if_neg (show ¬ (4 : Int32) = 2 by decide), if_neg (show ¬ (4 : Int32) = 3 by decide), if_pos (show (4 : Int32) = 4 from rfl)]
  rw [if_neg (show ¬ (4 : Int32) = 3 by decide), u_id]
theorem ml_5 (n : Int64) (M : ax_M) : f_Mod_leaf 5 n M = f_Mod_push 0 0 M := by
  unfold f_Mod_leaf
  rw [if_neg (show ¬ (5 : Int32) = 1 by decide), if_neg (show ¬ (5 : Int32) = 2 by decide), if_neg (show ¬ (5 : Int32) = 3 by decide), if_neg (show ¬ (5 : Int32) = 4 by decide), if_pos (show (5 : Int32) = 5 from rfl)]
  rw [u_id]
theorem ml_6 (n : Int64) (M : ax_M) : f_Mod_leaf 6 n M = (if 0 ≤ gI M 184 13 then f_Mod_push 2 (gI M 184 13).toInt64 M else f_Mod_push 0 0 M) := by
  unfold f_Mod_leaf
  rw [if_neg (show ¬ (6 : Int32) = 1 by decide), if_neg (show ¬ (6 : Int32) = 2 by decide), if_neg (show ¬ (6 : Int32) = 3 by decide), if_neg (show ¬ (6 : Int32) = 4 by decide), if_neg (show ¬ (6 : Int32) = 5 by decide), if_pos (show (6 : Int32) = 6 from rfl)]
  by_cases q : 0 ≤ gI M 184 13
  · rw [if_pos q, if_pos q, if_pos q, u_id]
  · rw [if_neg q, if_neg q, if_neg q, u_id]
theorem ml_7 (n : Int64) (M : ax_M) : f_Mod_leaf 7 n M = f_Mod_push 2 (gI M 184 40).toInt64 M := by
  unfold f_Mod_leaf
  rw [if_neg (show ¬ (7 : Int32) = 1 by decide), if_neg (show ¬ (7 : Int32) = 2 by decide), if_neg (show ¬ (7 : Int32) = 3 by decide), if_neg (show ¬ (7 : Int32) = 4 by decide), if_neg (show ¬ (7 : Int32) = 5 by decide), if_neg (show ¬ (7 : Int32) = 6 by decide), if_pos (show (7 : Int32) = 7 from rfl)]
  rw [u_id]
theorem ml_8 (n : Int64) (M : ax_M) : f_Mod_leaf 8 n M = f_Mod_push 3 (gJ M 184 41) M := by
  unfold f_Mod_leaf
  rw [if_neg (show ¬ (8 : Int32) = 1 by decide), if_neg (show ¬ (8 : Int32) = 2 by decide), if_neg (show ¬ (8 : Int32) = 3 by decide), if_neg (show ¬ (8 : Int32) = 4 by decide), if_neg (show ¬ (8 : Int32) = 5 by decide), if_neg (show ¬ (8 : Int32) = 6 by decide), if_neg (show ¬ (8 : Int32) = 7 by decide), if_pos (show (8 : Int32) = 8 from rfl)]
  rw [u_id]
theorem ml_9 (n : Int64) (M : ax_M) : f_Mod_leaf 9 n M = (if gI M 184 38 = 0 then f_Mod_push (-1) (gI M 184 39).toInt64 M else f_Mod_push 2 (gI M 184 39).toInt64 M) := by
  unfold f_Mod_leaf
  rw [if_neg (show ¬ (9 : Int32) = 1 by decide), if_neg (show ¬ (9 : Int32) = 2 by decide), if_neg (show ¬ (9 : Int32) = 3 by decide), if_neg (show ¬ (9 : Int32) = 4 by decide), if_neg (show ¬ (9 : Int32) = 5 by decide), if_neg (show ¬ (9 : Int32) = 6 by decide), if_neg (show ¬ (9 : Int32) = 7 by decide), if_neg (show ¬ (9 : Int32) = 8 by decide), if_pos (show (9 : Int32) = 9 from rfl)]
  by_cases q : gI M 184 38 = 0
  · rw [if_pos q, if_pos q, u_id]
  · rw [if_neg q, if_neg q, u_id]
theorem ml_10 (n : Int64) (M : ax_M) : f_Mod_leaf 10 n M = (if gI M 184 44 = 4 then f_Mod_pushItems 1 (gI M 184 45) M else f_Mod_push (gI M 184 44) (gI M 184 45).toInt64 M) := by
  unfold f_Mod_leaf
  rw [if_neg (show ¬ (10 : Int32) = 1 by decide), if_neg (show ¬ (10 : Int32) = 2 by decide), if_neg (show ¬ (10 : Int32) = 3 by decide), if_neg (show ¬ (10 : Int32) = 4 by decide), if_neg (show ¬ (10 : Int32) = 5 by decide), if_neg (show ¬ (10 : Int32) = 6 by decide), if_neg (show ¬ (10 : Int32) = 7 by decide), if_neg (show ¬ (10 : Int32) = 8 by decide), if_neg (show ¬ (10 : Int32) = 9 by decide), if_neg (show ¬ (10 : Int32) = 11 by decide)]
  by_cases q : gI M 184 44 = 4
  · rw [if_pos q, if_pos q, u_id]
  · rw [if_neg q, if_neg q, u_id]
theorem ml_11 (n : Int64) (M : ax_M) : f_Mod_leaf 11 n M = f_Mod_pushItems 0 (gI M 184 43) M := by
  unfold f_Mod_leaf
  rw [if_neg (show ¬ (11 : Int32) = 1 by decide), if_neg (show ¬ (11 : Int32) = 2 by decide), if_neg (show ¬ (11 : Int32) = 3 by decide), if_neg (show ¬ (11 : Int32) = 4 by decide), if_neg (show ¬ (11 : Int32) = 5 by decide), if_neg (show ¬ (11 : Int32) = 6 by decide), if_neg (show ¬ (11 : Int32) = 7 by decide), if_neg (show ¬ (11 : Int32) = 8 by decide), if_neg (show ¬ (11 : Int32) = 9 by decide), if_pos (show (11 : Int32) = 11 from rfl)]
  rw [u_id]
theorem xl_2 (ρ : xEnv) (it : Option Int32) (n : Int64) : xLeaf ρ it 2 n = xI n.toInt32 := by
  unfold xLeaf
  rw [if_pos (show (2 : Int32) = 2 from rfl)]
theorem xl_3 (ρ : xEnv) (it : Option Int32) (n : Int64) : xLeaf ρ it 3 n = xJ n := by
  unfold xLeaf
  rw [if_neg (show ¬ (3 : Int32) = 2 by decide), if_pos (show (3 : Int32) = 3 from rfl)]
theorem xl_4 (ρ : xEnv) (it : Option Int32) (n : Int64) : xLeaf ρ it 4 n = xT 1 := by
  unfold xLeaf
  rw [if_neg (show ¬ (4 : Int32) = 2 by decide), if_neg (show ¬ (4 : Int32) = 3 by decide), if_pos (show (4 : Int32) = 4 from rfl)]
theorem xl_5 (ρ : xEnv) (it : Option Int32) (n : Int64) : xLeaf ρ it 5 n = xT 0 := by
  unfold xLeaf
  rw [if_neg (show ¬ (5 : Int32) = 2 by decide), if_neg (show ¬ (5 : Int32) = 3 by decide), if_neg (show ¬ (5 : Int32) = 4 by decide), if_pos (show (5 : Int32) = 5 from rfl)]
theorem xl_6 (ρ : xEnv) (it : Option Int32) (n : Int64) : xLeaf ρ it 6 n = xNo := by
  unfold xLeaf
  rw [if_neg (show ¬ (6 : Int32) = 2 by decide), if_neg (show ¬ (6 : Int32) = 3 by decide), if_neg (show ¬ (6 : Int32) = 4 by decide), if_neg (show ¬ (6 : Int32) = 5 by decide), if_pos (show (6 : Int32) = 6 from rfl)]
theorem xl_7 (ρ : xEnv) (it : Option Int32) (n : Int64) : xLeaf ρ it 7 n = (if ρ.u = -1 then xNo else xI ρ.u) := by
  unfold xLeaf
  rw [if_neg (show ¬ (7 : Int32) = 2 by decide), if_neg (show ¬ (7 : Int32) = 3 by decide), if_neg (show ¬ (7 : Int32) = 4 by decide), if_neg (show ¬ (7 : Int32) = 5 by decide), if_neg (show ¬ (7 : Int32) = 6 by decide), if_pos (show (7 : Int32) = 7 from rfl)]
theorem xl_8 (ρ : xEnv) (it : Option Int32) (n : Int64) : xLeaf ρ it 8 n = xI ρ.a := by
  unfold xLeaf
  rw [if_neg (show ¬ (8 : Int32) = 2 by decide), if_neg (show ¬ (8 : Int32) = 3 by decide), if_neg (show ¬ (8 : Int32) = 4 by decide), if_neg (show ¬ (8 : Int32) = 5 by decide), if_neg (show ¬ (8 : Int32) = 6 by decide), if_neg (show ¬ (8 : Int32) = 7 by decide), if_pos (show (8 : Int32) = 8 from rfl)]
theorem xl_9 (ρ : xEnv) (it : Option Int32) (n : Int64) : xLeaf ρ it 9 n = xJ ρ.b := by
  unfold xLeaf
  rw [if_neg (show ¬ (9 : Int32) = 2 by decide), if_neg (show ¬ (9 : Int32) = 3 by decide), if_neg (show ¬ (9 : Int32) = 4 by decide), if_neg (show ¬ (9 : Int32) = 5 by decide), if_neg (show ¬ (9 : Int32) = 6 by decide), if_neg (show ¬ (9 : Int32) = 7 by decide), if_neg (show ¬ (9 : Int32) = 8 by decide), if_pos (show (9 : Int32) = 9 from rfl)]
theorem xl_10 (ρ : xEnv) (it : Option Int32) (n : Int64) : xLeaf ρ it 10 n = (match it with | none => xErr | some k => xI k) := by
  unfold xLeaf
  rw [if_neg (show ¬ (10 : Int32) = 2 by decide), if_neg (show ¬ (10 : Int32) = 3 by decide), if_neg (show ¬ (10 : Int32) = 4 by decide), if_neg (show ¬ (10 : Int32) = 5 by decide), if_neg (show ¬ (10 : Int32) = 6 by decide), if_neg (show ¬ (10 : Int32) = 7 by decide), if_neg (show ¬ (10 : Int32) = 8 by decide), if_neg (show ¬ (10 : Int32) = 9 by decide), if_pos (show (10 : Int32) = 10 from rfl)]
  rfl
theorem xl_11 (ρ : xEnv) (it : Option Int32) (n : Int64) : xLeaf ρ it 11 n = (match ρ.r with | none => xErr | some x => x) := by
  unfold xLeaf
  rw [if_neg (show ¬ (11 : Int32) = 2 by decide), if_neg (show ¬ (11 : Int32) = 3 by decide), if_neg (show ¬ (11 : Int32) = 4 by decide), if_neg (show ¬ (11 : Int32) = 5 by decide), if_neg (show ¬ (11 : Int32) = 6 by decide), if_neg (show ¬ (11 : Int32) = 7 by decide), if_neg (show ¬ (11 : Int32) = 8 by decide), if_neg (show ¬ (11 : Int32) = 9 by decide), if_neg (show ¬ (11 : Int32) = 10 by decide), if_pos (show (11 : Int32) = 11 from rfl)]
  rfl
theorem xl_12 (ρ : xEnv) (it : Option Int32) (n : Int64) : xLeaf ρ it 12 n = xL ρ.l := by
  unfold xLeaf
  rw [if_neg (show ¬ (12 : Int32) = 2 by decide), if_neg (show ¬ (12 : Int32) = 3 by decide), if_neg (show ¬ (12 : Int32) = 4 by decide), if_neg (show ¬ (12 : Int32) = 5 by decide), if_neg (show ¬ (12 : Int32) = 6 by decide), if_neg (show ¬ (12 : Int32) = 7 by decide), if_neg (show ¬ (12 : Int32) = 8 by decide), if_neg (show ¬ (12 : Int32) = 9 by decide), if_neg (show ¬ (12 : Int32) = 10 by decide), if_neg (show ¬ (12 : Int32) = 11 by decide)]
theorem mleaf_ok {M : ax_M} {ρ : xEnv} {it : Option Int32} {h : Nat} {o : Int32} {n : Int64} (hE : EnvM M ρ it) (hw : WfR ρ.r) (hh : gI M 184 29 = nI h) (hb : h < 48) (ho : 2 ≤ o ∧ o ≤ 12) (h2 : o = 2 → n = n.toInt32.toInt64) : TOk h M (xLeaf ρ it o n) (f_Mod_leaf (o - 1) n M) := by
  obtain ⟨⟨a1, a2⟩, -, c1, c2, d1, d2, ⟨e1, e2, e3⟩, rv, iv⟩ := hE
  rcases leaf_cases ho with z | z | z | z | z | z | z | z | z | z | z
  · subst z
    rw [xl_2, show (2 : Int32) - 1 = 1 by decide, ml_1]
    have e : xI n.toInt32 = ((2 : Int32), n, ([] : List Int32)) := by unfold xI; rw [← h2 rfl]
    rw [e]
    exact push_num hh hb n (by decide)
  · subst z
    rw [xl_3, show (3 : Int32) - 1 = 2 by decide, ml_2]
    exact push_num hh hb n (by decide)
  · subst z
    rw [xl_4, show (4 : Int32) - 1 = 3 by decide, ml_3]
    exact push_truth hh hb 1
  · subst z
    rw [xl_5, show (5 : Int32) - 1 = 4 by decide, ml_4]
    exact push_truth hh hb 0
  · subst z
    rw [xl_6, show (6 : Int32) - 1 = 5 by decide, ml_5]
    exact push_num hh hb 0 (by decide)
  · subst z
    rw [xl_7, show (7 : Int32) - 1 = 6 by decide, ml_6, a1]
    rcases a2 with q | q
    · rw [if_pos q, q, if_neg (show ¬ (0 : Int32) ≤ -1 by decide)]
      exact push_num hh hb 0 (by decide)
    · rw [if_pos q, if_neg (show ¬ ρ.u = -1 from fun z => by rw [z] at q; revert q; decide)]
      exact push_num hh hb _ (by decide)
  · subst z
    rw [xl_8, show (8 : Int32) - 1 = 7 by decide, ml_7, d1]
    exact push_num hh hb _ (by decide)
  · subst z
    rw [xl_9, show (9 : Int32) - 1 = 8 by decide, ml_8, d2]
    exact push_num hh hb _ (by decide)
  · subst z
    rw [xl_10, show (10 : Int32) - 1 = 9 by decide, ml_9]
    match it, iv with
    | none, iv =>
      rw [if_pos (show gI M 184 38 = 0 from iv)]
      exact push_any hh hb _ rfl (Or.inl rfl)
    | some k, iv =>
      rw [if_neg (show ¬ gI M 184 38 = 0 by rw [iv.1]; decide), show gI M 184 39 = k from iv.2]
      exact push_num hh hb _ (by decide)
  · subst z
    rw [xl_11, show (11 : Int32) - 1 = 10 by decide, ml_10]
    revert rv hw
    generalize ρ.r = z
    intro hw rv
    match z, rv, hw with
    | none, rv, _ =>
      have rv : gI M 184 44 = -1 := rv
      rw [rv, if_neg (show ¬ (-1 : Int32) = 4 by decide)]
      exact push_any hh hb _ rfl (Or.inl rfl)
    | some x, rv, hw =>
      by_cases q : x.1 = 4
      · obtain ⟨g1, g2, g3⟩ := rv.2.1 q
        rw [if_pos (show gI M 184 44 = 4 from rv.1.trans q), g1]
        obtain ⟨M2, b1, b2, b3, b4⟩ := items_ok (s := 1) hb g2 hh (Or.inr (Or.inl rfl)) (fun j hj => by unfold srcI; rw [if_neg (by decide), if_pos rfl]; exact g3 j hj)
        refine ⟨M2, b1, ⟨b2.1.trans q.symm, fun z => ?_, fun _ => b2.2.2 rfl⟩, b3, b4⟩
        rw [q] at z
        exact absurd z (by decide)
      · rw [if_neg (show ¬ gI M 184 44 = 4 by rw [rv.1]; exact q), rv.1, ← rv.2.2 q]
        obtain ⟨M2, b1, b2, b3, b4⟩ := push_num (M := M) hh hb x.2.1 q
        exact ⟨M2, b1, ⟨b2.1, b2.2.1, fun z => absurd z q⟩, b3, b4⟩
  · subst z
    rw [xl_12, show (12 : Int32) - 1 = 11 by decide, ml_11, e1]
    exact items_ok hb e2 hh (Or.inl rfl) (fun j hj => by unfold srcI; rw [if_pos rfl]; exact e3 j hj)
