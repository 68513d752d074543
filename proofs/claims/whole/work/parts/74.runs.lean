/-! The reference's run over the code. -/
def Runs (i a b : Nat) (M M' : ax_M) (B : Nat) : Prop := ∃ k, k ≤ B ∧ ∀ F, f_Mod_work_17 (F + k) (nI i) (nI (48 * i)) (nI a) M = f_Mod_work_17 F (nI i) (nI (48 * i)) (nI b) M'
theorem Runs.tr {i a b c : Nat} {M M' M'' : ax_M} {A B C : Nat} (h : Runs i a b M M' A) (g : Runs i b c M' M'' B) (hC : A + B ≤ C) : Runs i a c M M'' C := by
  obtain ⟨k, k1, k2⟩ := h
  obtain ⟨l, l1, l2⟩ := g
  refine ⟨k + l, by omega, fun F => ?_⟩
  rw [← l2 F, ← k2 (F + l)]
  congr 1
  omega
theorem Runs.mono {i a b : Nat} {M M' : ax_M} {A C : Nat} (h : Runs i a b M M' A) (hC : A ≤ C) : Runs i a b M M' C := by
  obtain ⟨k, k1, k2⟩ := h
  exact ⟨k, by omega, k2⟩
def CodeM (M : ax_M) (i : Nat) (c : Nat → Int32) (ar : Nat → Int64) (m : Nat) : Prop := i < 8 ∧ m ≤ 48 ∧ gI M 188 i = nI m ∧ ∀ k, k < m → gI M 186 (48 * i + k) = c k ∧ gJ M 187 (48 * i + k) = ar k
theorem CodeM.eq {M M' : ax_M} {i m : Nat} {c : Nat → Int32} {ar : Nat → Int64} (h : CodeM M i c ar m) {S : Nat → Nat → Prop} (hS : ∀ c k, S c k → c < 186 ∨ 188 < c) (hE : EqK S M M') : CodeM M' i c ar m := by
  have n : ∀ c k, 186 ≤ c → c ≤ 188 → ¬ S c k := fun c k h1 h2 q => by have := hS c k q; omega
  refine ⟨h.1, h.2.1, (hE 188 i (n _ _ (by omega) (by omega))).1.trans h.2.2.1, fun k hk => ⟨(hE 186 _ (n _ _ (by omega) (by omega))).1.trans (h.2.2.2 k hk).1, (hE 187 _ (n _ _ (by omega) (by omega))).2.1.trans (h.2.2.2 k hk).2⟩⟩
theorem w_step {M : ax_M} {i m a : Nat} {c : Nat → Int32} {ar : Nat → Int64} (h : CodeM M i c ar m) (ha : a < m) (F : Nat) : f_Mod_work_17 (F + 1) (nI i) (nI (48 * i)) (nI a) M = if c a < 16 then f_Mod_work_61 (f_Mod_work_17 F) (nI i) (nI (48 * i)) (nI a) (c a) M else if 18 < c a then f_Mod_work_61 (f_Mod_work_17 F) (nI i) (nI (48 * i)) (nI a) (c a) M else bnd (f_Mod_begin (nI a) (nI (48 * i)) M) (fun q m => f_Mod_work_17 F (nI i) (nI (48 * i)) q m) := by
  obtain ⟨h1, h2, h3, h4⟩ := h
  show f_Mod_work_17_b (f_Mod_work_17 F) (nI i) (nI (48 * i)) (nI a) M = _
  unfold f_Mod_work_17_b
  rw [gi_nI (by omega) (by decide), nI_clamp (by omega), h3, if_neg (nI_ge (by omega) (by omega)), nI_add, gi_nI (by omega) (by decide), nI_clamp (by omega), (h4 a ha).1, kM_eq]
/-- one step of an operator that goes on to the next place -/
theorem run_u {M M' : ax_M} {i m a : Nat} {c : Nat → Int32} {ar : Nat → Int64} (h : CodeM M i c ar m) (ha : a < m) (hx : c a < 16 ∨ 18 < c a) {op : Option (Unit × ax_M)} (ho : op = some ((), M')) (hs : ∀ K : Int32 → Int32 → Int32 → ax_M → Option (Unit × ax_M), f_Mod_work_61 K (nI i) (nI (48 * i)) (nI a) (c a) M = bnd op (fun _ m => K (nI i) (nI (48 * i)) (nI a + 1) m)) : Runs i a (a + 1) M M' 1 := by
  refine ⟨1, Nat.le_refl _, fun F => ?_⟩
  rw [w_step h ha F]
  have e : f_Mod_work_61 (f_Mod_work_17 F) (nI i) (nI (48 * i)) (nI a) (c a) M = f_Mod_work_17 F (nI i) (nI (48 * i)) (nI (a + 1)) M' := by
    rw [hs, ho, ← nI_1]
    rfl
  rcases hx with q | q
  · rw [if_pos q, e]
  · by_cases r : c a < 16
    · rw [if_pos r, e]
    · rw [if_neg r, if_pos q, e]
theorem s_leaf {M : ax_M} {i m a : Nat} {c : Nat → Int32} {ar : Nat → Int64} (h : CodeM M i c ar m) (ha : a < m) (hc : c a ≤ 11) (K : Int32 → Int32 → Int32 → ax_M → Option (Unit × ax_M)) : f_Mod_work_61 K (nI i) (nI (48 * i)) (nI a) (c a) M = bnd (f_Mod_leaf (c a) (ar a) M) (fun _ m => K (nI i) (nI (48 * i)) (nI a + 1) m) := by
  obtain ⟨h1, h2, h3, h4⟩ := h
  unfold f_Mod_work_61
  rw [if_neg (show ¬ c a = 19 from fun q => by rw [q] at hc; revert hc; decide), if_neg (Int32.not_lt.mpr hc), nI_add, gi_nI (by omega) (by decide), nI_clamp (by omega), (h4 a ha).2]
  rfl
theorem s_one {M : ax_M} {x l1 l2 l3 : Int32} (hx : x = 12 ∨ x = 13 ∨ x = 14 ∨ x = 20 ∨ x = 21) (K : Int32 → Int32 → Int32 → ax_M → Option (Unit × ax_M)) : f_Mod_work_61 K l1 l2 l3 x M = bnd (f_Mod_single x M) (fun _ m => K l1 l2 (l3 + 1) m) := by
  rcases hx with z | z | z | z | z <;> subst z <;> rfl
theorem s_choose {M : ax_M} {x l1 l2 l3 : Int32} (hx : x = 22 ∨ x = 23 ∨ x = 35 ∨ x = 36) (K : Int32 → Int32 → Int32 → ax_M → Option (Unit × ax_M)) : f_Mod_work_61 K l1 l2 l3 x M = bnd (f_Mod_choose x M) (fun _ m => K l1 l2 (l3 + 1) m) := by
  rcases hx with z | z | z | z <;> subst z <;> rfl
theorem s_pair {M : ax_M} {x l1 l2 l3 : Int32} (hx : x = 15 ∨ x = 24 ∨ x = 25 ∨ x = 26 ∨ x = 27 ∨ x = 28 ∨ x = 29 ∨ x = 30 ∨ x = 31 ∨ x = 32 ∨ x = 33 ∨ x = 34) (K : Int32 → Int32 → Int32 → ax_M → Option (Unit × ax_M)) : f_Mod_work_61 K l1 l2 l3 x M = bnd (f_Mod_pair x M) (fun _ m => K l1 l2 (l3 + 1) m) := by
  rcases hx with z | z | z | z | z | z | z | z | z | z | z | z <;> subst z <;> rfl
