/-! Two values: put into the row, or an error. -/
def Res (M : ax_M) (t : Nat) (x : xV) (o : Option (Nat × ax_M)) : Prop := Put M t x o ∨ (x = xErr ∧ o = some (70, M))
theorem i64_under {n : Int64} {L : Nat} (hL : L ≤ 5) (h1 : ¬ n < 0) (h2 : ¬ (nI L).toInt64 ≤ n) : ∃ k : Nat, k < L ∧ n.toInt32 = nI k := by
  rw [nI_l (by omega)] at h2
  rw [Int64.lt_iff_toInt_lt] at h1
  rw [Int64.le_iff_toInt_le, lN_toInt (by omega)] at h2
  have e0 : (0 : Int64).toInt = 0 := by decide
  rw [e0] at h1
  have hn : n = lN n.toInt.toNat := by
    apply Int64.toInt_inj.mp
    rw [lN_toInt (by omega)]
    omega
  refine ⟨n.toInt.toNat, by omega, ?_⟩
  conv => lhs; rw [hn]
  exact lN_i _
theorem item_ok {M : ax_M} {v w t : Nat} {x y : xV} (h : VRep M v x) (g : VRep M w y) (ht : kd t = 7) : Res M t (xItem x y) (f_Worker_itemOf v w t M) := by
  unfold f_Worker_itemOf
  rw [gk_pos h.1, is_list h, bnd_eq]
  by_cases q : x.1 = 4
  · rw [if_pos q, if_neg (show ¬ (1 : Int32) = 0 by decide), gk_pos g.1, is_num g, bnd_eq]
    by_cases r : y.1 = 2 ∨ y.1 = 3
    · rw [if_pos r, if_neg (show ¬ (1 : Int32) = 0 by decide), g.2.2.1 (n4 r)]
      have hl := h.2.2.2 q
      unfold f_Items_has
      by_cases h1 : y.2.1 < 0
      · rw [if_pos ((lgc_lt0 _ _).mpr h1), bnd_eq, if_pos rfl]
        exact Or.inr ⟨if_neg (fun z => z.2.2.1 h1), rfl⟩
      · rw [if_neg (fun z => h1 ((lgc_lt0 _ _).mp z)), gk_pos hl.1, hl.2.2.1]
        by_cases h2 : (nI x.2.2.length).toInt64 ≤ y.2.1
        · rw [if_pos ((lgc_ge0 _ _).mpr h2), bnd_eq, if_pos rfl]
          exact Or.inr ⟨if_neg (fun z => z.2.2.2 h2), rfl⟩
        · rw [if_neg (fun z => h2 ((lgc_ge0 _ _).mp z)), bnd_eq, if_neg (show ¬ (1 : Int32) = 0 by decide), g.2.2.1 (n4 r)]
          obtain ⟨k, k1, k2⟩ := i64_under hl.2.1 h1 h2
          have e : xItem x y = xI (x.2.2.getD k 0) := by
            unfold xItem
            rw [if_pos ⟨q, r, h1, h2⟩, k2, nI_clamp (by have := hl.2.1; omega)]
          rw [e, k2, get_ok hl k1, bnd_eq, gk_pos ht]
          obtain ⟨M2, a1, a2⟩ := be_int (M := M) ht (x.2.2.getD k 0)
          exact Or.inl ⟨M2, by rw [a1]; rfl, a2⟩
    · rw [if_neg r, if_pos rfl]
      exact Or.inr ⟨if_neg (fun z => r z.2.1), rfl⟩
  · rw [if_neg q, if_pos rfl]
    exact Or.inr ⟨if_neg (fun z => q z.1), rfl⟩
theorem reck_ok {M : ax_M} {o : Int32} (ho : 29 ≤ o ∧ o ≤ 33) (a b : Int64) (hb : ¬ (b = 0 ∧ (o = 32 ∨ o = 33))) : f_Worker_reckoned o a b M = some (xCalc o a b, M) := by
  unfold f_Worker_reckoned xCalc
  by_cases h1 : o = 29
  · rw [if_pos h1, if_pos h1]
  rw [if_neg h1, if_neg h1]
  by_cases h2 : o = 30
  · rw [if_pos h2, if_pos h2]
  rw [if_neg h2, if_neg h2]
  by_cases h3 : o = 31
  · rw [if_pos h3, if_pos h3]
  rw [if_neg h3, if_neg h3]
  by_cases h4 : o = 32
  · have hb0 : ¬ b = 0 := fun z => hb ⟨z, Or.inl h4⟩
    rw [if_pos h4, if_pos h4, if_neg (fun z => hb0 ((lgc_eq _ _).mp z)), gz_pos hb0]
  rw [if_neg h4, if_neg h4]
  have h5 : o = 33 := by
    have a1 := Int32.le_iff_toInt_le.mp ho.1
    have a2 := Int32.le_iff_toInt_le.mp ho.2
    have e (k : Int32) (n : Int) (hk : k.toInt = n) (z : ¬ o = k) : o.toInt ≠ n := fun q => z (Int32.toInt_inj.mp (q.trans hk.symm))
    have b1 := e 29 29 (by decide) h1
    have b2 := e 30 30 (by decide) h2
    have b3 := e 31 31 (by decide) h3
    have b4 := e 32 32 (by decide) h4
    have c1 : (29 : Int32).toInt = 29 := by decide
    have c2 : (33 : Int32).toInt = 33 := by decide
    rw [c1] at a1
    rw [c2] at a2
    apply Int32.toInt_inj.mp
    rw [c2]
    omega
  have hb0 : ¬ b = 0 := fun z => hb ⟨z, Or.inr h5⟩
  rw [if_pos h5, if_neg (fun z => hb0 ((lgc_eq _ _).mp z)), gz_pos hb0]
theorem res_truth {M : ax_M} {t : Nat} (ht : kd t = 7) {z : Int32} {b : Int64} (h : (if z = 0 then (0 : Int64) else 1) = b) : Res M t (xT b) (gk t 7 (bnd (f_Val_beTruth t z M) (fun q m => some (q, m)))) := by
  rw [gk_pos ht, ← h]
  obtain ⟨M2, a1, a2⟩ := be_truth (M := M) ht z
  exact Or.inl ⟨M2, by rw [a1]; rfl, a2⟩
theorem cond_truth {M : ax_M} {t : Nat} (ht : kd t = 7) {p c : Prop} [Decidable p] [Decidable c] (h : c ↔ ¬ p) : Res M t (xT (if p then 1 else 0)) (if c then (gk t 7 (bnd (f_Val_beTruth t 0 M) (fun q m => some (q, m)))) else (gk t 7 (bnd (f_Val_beTruth t 1 M) (fun q m => some (q, m))))) := by
  by_cases q : p
  · rw [if_pos q, if_neg (fun z => h.mp z q)]
    exact res_truth ht rfl
  · rw [if_neg q, if_pos (h.mpr q)]
    exact res_truth ht rfl
theorem nums_ok {M : ax_M} {v w t : Nat} {x y : xV} {o : Int32} (h : VRep M v x) (g : VRep M w y) (ht : kd t = 7) (hx : x.1 = 2 ∨ x.1 = 3) (hy : y.1 = 2 ∨ y.1 = 3) (ho : 25 ≤ o ∧ o ≤ 33) : Res M t (xNums o x y) (f_Worker_valueOfNumbers o v w t M) := by
  have ex := h.2.2.1 (n4 hx)
  have ey := g.2.2.1 (n4 hy)
  have calc1 : (29 ≤ o ∧ o ≤ 33) → ¬ (y.2.1 = 0 ∧ (o = 32 ∨ o = 33)) → Res M t (if x.1 = 2 ∧ y.1 = 2 then xI (xCalc o x.2.1 y.2.1).toInt32 else xJ (xCalc o x.2.1 y.2.1)) (f_Worker_valueOfNumbers_150 o v w t M) := by
    intro h9 hb
    unfold f_Worker_valueOfNumbers_150
    rw [gk_pos h.1, gk_pos g.1, ex, ey, reck_ok h9 _ _ hb, bnd_eq, h.2.1, g.2.1]
    by_cases p : x.1 = 2
    · rw [if_pos p]
      by_cases q : y.1 = 2
      · rw [if_pos q, if_neg (show ¬ (1 : Int32) = 0 by decide), gk_pos ht, if_pos (show x.1 = 2 ∧ y.1 = 2 from ⟨p, q⟩)]
        obtain ⟨M2, a1, a2⟩ := be_int (M := M) ht (xCalc o x.2.1 y.2.1).toInt32
        exact Or.inl ⟨M2, by rw [a1]; rfl, a2⟩
      · rw [if_neg q, if_pos (show (0 : Int32) = 0 from rfl), gk_pos ht, if_neg (show ¬ (x.1 = 2 ∧ y.1 = 2) from fun z => q z.2)]
        obtain ⟨M2, a1, a2⟩ := be_long (M := M) ht (xCalc o x.2.1 y.2.1)
        exact Or.inl ⟨M2, by rw [a1]; rfl, a2⟩
    · rw [if_neg p, if_pos (show (0 : Int32) = 0 from rfl), gk_pos ht, if_neg (show ¬ (x.1 = 2 ∧ y.1 = 2) from fun z => p z.1)]
      obtain ⟨M2, a1, a2⟩ := be_long (M := M) ht (xCalc o x.2.1 y.2.1)
      exact Or.inl ⟨M2, by rw [a1]; rfl, a2⟩
  unfold f_Worker_valueOfNumbers xNums
  by_cases h25 : o = 25
  · rw [if_pos h25, if_pos h25, gk_pos h.1, gk_pos g.1, ex, ey]
    exact cond_truth ht ((lgc_ge0 _ _).trans Int64.not_lt.symm)
  rw [if_neg h25, if_neg h25]
  by_cases h26 : o = 26
  · rw [if_pos h26, if_pos h26, gk_pos h.1, gk_pos g.1, ex, ey]
    exact cond_truth ht ((lgc_gt0 _ _).trans Int64.not_le.symm)
  rw [if_neg h26, if_neg h26]
  by_cases h27 : o = 27
  · rw [if_pos h27, if_pos h27, gk_pos h.1, gk_pos g.1, ex, ey]
    exact cond_truth ht ((lgc_le0 _ _).trans Int64.not_lt.symm)
  rw [if_neg h27, if_neg h27]
  by_cases h28 : o = 28
  · rw [if_pos h28, if_pos h28, gk_pos h.1, gk_pos g.1, ex, ey]
    exact cond_truth ht ((lgc_lt0 _ _).trans Int64.not_le.symm)
  rw [if_neg h28, if_neg h28, gk_pos g.1, ey]
  have h9 : 29 ≤ o ∧ o ≤ 33 := by
    refine ⟨?_, ho.2⟩
    have a1 := Int32.le_iff_toInt_le.mp ho.1
    have e (k : Int32) (n : Int) (hk : k.toInt = n) (z : ¬ o = k) : o.toInt ≠ n := fun q => z (Int32.toInt_inj.mp (q.trans hk.symm))
    have b1 := e 25 25 (by decide) h25
    have b2 := e 26 26 (by decide) h26
    have b3 := e 27 27 (by decide) h27
    have b4 := e 28 28 (by decide) h28
    have c1 : (25 : Int32).toInt = 25 := by decide
    have c2 : (29 : Int32).toInt = 29 := by decide
    rw [c1] at a1
    apply Int32.le_iff_toInt_le.mpr
    rw [c2]
    omega
  by_cases hz : y.2.1 = 0
  · rw [if_pos ((lgc_eq _ _).mpr hz)]
    by_cases h32 : o = 32
    · rw [if_pos h32]
      exact Or.inr ⟨if_pos ⟨hz, Or.inl h32⟩, rfl⟩
    · rw [if_neg h32]
      by_cases h33 : o = 33
      · rw [if_pos h33]
        exact Or.inr ⟨if_pos ⟨hz, Or.inr h33⟩, rfl⟩
      · have hn : ¬ (y.2.1 = 0 ∧ (o = 32 ∨ o = 33)) := fun z => z.2.elim h32 h33
        rw [if_neg h33, if_neg hn]
        exact calc1 h9 hn
  · have hn : ¬ (y.2.1 = 0 ∧ (o = 32 ∨ o = 33)) := fun z => hz z.1
    rw [if_neg (fun z => hz ((lgc_eq _ _).mp z)), if_neg hn]
    exact calc1 h9 hn
theorem two_ok {M : ax_M} {v w t : Nat} {x y : xV} {o : Int32} (h : VRep M v x) (g : VRep M w y) (ht : kd t = 7) (ho : o = 17 ∨ (23 ≤ o ∧ o ≤ 33)) : Res M t (xTwo o x y) (f_Worker_valueOfTwo o v w t M) := by
  unfold f_Worker_valueOfTwo xTwo
  by_cases h17 : o = 17
  · rw [if_pos h17, if_pos h17]
    rcases item_ok h g ht with ⟨M2, a1, a2⟩ | ⟨a1, a2⟩
    · exact Or.inl ⟨M2, by rw [a1]; rfl, a2⟩
    · exact Or.inr ⟨a1, by rw [a2]; rfl⟩
  rw [if_neg h17, if_neg h17]
  obtain ⟨z, z1, z2, z3⟩ := sameV_ok h g
  by_cases h23 : o = 23
  · rw [if_pos h23, if_pos h23, gk_pos h.1, z1, bnd_eq]
    exact res_truth ht z3
  rw [if_neg h23, if_neg h23]
  by_cases h24 : o = 24
  · rw [if_pos h24, if_pos h24, gk_pos h.1, z1, bnd_eq, ← z3]
    rcases z2 with e | e
    · rw [if_pos e, if_pos e]
      exact res_truth ht rfl
    · rw [e, if_neg (by decide), if_neg (by decide)]
      exact res_truth ht rfl
  rw [if_neg h24, if_neg h24, gk_pos h.1, is_num h, bnd_eq]
  by_cases hx : x.1 = 2 ∨ x.1 = 3
  · rw [if_pos hx, if_neg (show ¬ (1 : Int32) = 0 by decide), gk_pos g.1, is_num g, bnd_eq]
    by_cases hy : y.1 = 2 ∨ y.1 = 3
    · rw [if_pos hy, if_neg (show ¬ (1 : Int32) = 0 by decide), if_pos (show (x.1 = 2 ∨ x.1 = 3) ∧ (y.1 = 2 ∨ y.1 = 3) from ⟨hx, hy⟩)]
      have h9 : 25 ≤ o ∧ o ≤ 33 := by
        obtain ⟨k1, k2⟩ := ho.resolve_left h17
        refine ⟨?_, k2⟩
        have a1 := Int32.le_iff_toInt_le.mp k1
        have e (k : Int32) (n : Int) (hk : k.toInt = n) (z : ¬ o = k) : o.toInt ≠ n := fun q => z (Int32.toInt_inj.mp (q.trans hk.symm))
        have b1 := e 23 23 (by decide) h23
        have b2 := e 24 24 (by decide) h24
        have c1 : (23 : Int32).toInt = 23 := by decide
        have c2 : (25 : Int32).toInt = 25 := by decide
        rw [c1] at a1
        apply Int32.le_iff_toInt_le.mpr
        rw [c2]
        omega
      rcases nums_ok h g ht hx hy h9 with ⟨M2, a1, a2⟩ | ⟨a1, a2⟩
      · exact Or.inl ⟨M2, by rw [a1]; rfl, a2⟩
      · exact Or.inr ⟨a1, by rw [a2]; rfl⟩
    · rw [if_neg hy, if_pos rfl, if_neg (show ¬ ((x.1 = 2 ∨ x.1 = 3) ∧ (y.1 = 2 ∨ y.1 = 3)) from fun z => hy z.2)]
      exact Or.inr ⟨rfl, rfl⟩
  · rw [if_neg hx, if_pos rfl, if_neg (show ¬ ((x.1 = 2 ∨ x.1 = 3) ∧ (y.1 = 2 ∨ y.1 = 3)) from fun z => hx z.1)]
    exact Or.inr ⟨rfl, rfl⟩
