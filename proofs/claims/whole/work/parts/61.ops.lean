/-! What the worker does with one or two values, as functions of values. -/
def isN (x : xV) : Prop := x.1 = 2 ∨ x.1 = 3
/-- a role that is reached: 1 -/
def rcB (s : Nat) (n : Int64) : Int64 := if n < 0 then 0 else if 16 ≤ n then 0 else if s.testBit n.toInt32.toNatClampNeg then 1 else 0
def xSize (x : xV) : xV := if x.1 = 4 then xI (nI x.2.2.length) else xErr
def xNeg (x : xV) : xV := if x.1 = 2 then xI (-x.2.1).toInt32 else if x.1 = 3 then xJ (-x.2.1) else xErr
def xNot (x : xV) : xV := if x.1 = 1 then xT (if x.2.1 = 1 then 0 else 1) else xErr
def xRole (s : Nat) (x : xV) : xV := if x.1 = 2 ∨ x.1 = 3 then xT (rcB s x.2.1) else xErr
def xOne (s : Nat) (o : Int32) (x : xV) : xV := if o = 13 then xRole s x else if o = 14 then xSize x else if o = 34 then xNot x else if o = 41 then xNeg x else if x.1 = 0 then x else xSize x
def lgB (p : Prop) [Decidable p] : Int64 := if p then 1 else 0
theorem size_ok {M : ax_M} {v t : Nat} {x : xV} (h : VRep M v x) (ht : kd t = 7) : (x.1 = 4 → Put M t (xSize x) (f_Worker_sizeOf v t M)) ∧ (x.1 ≠ 4 → f_Worker_sizeOf v t M = some (70, M)) := by
  unfold f_Worker_sizeOf
  rw [gk_pos h.1, is_list h, bnd_eq]
  refine ⟨fun q => ?_, fun q => ?_⟩
  · rw [if_pos q, if_neg (by decide), gk_pos ht, (h.2.2.2 q).2.2.1]
    obtain ⟨M2, a1, a2, a3⟩ := be_int (M := M) ht (nI x.2.2.length)
    refine ⟨M2, by rw [a1]; rfl, ?_, a3⟩
    unfold xSize
    rw [if_pos q]
    exact a2
  · rw [if_neg q, if_pos rfl]
theorem neg_ok {M : ax_M} {v t : Nat} {x : xV} (h : VRep M v x) (ht : kd t = 7) : (x.1 = 2 ∨ x.1 = 3 → Put M t (xNeg x) (f_Worker_negated v t M)) ∧ (¬ (x.1 = 2 ∨ x.1 = 3) → f_Worker_negated v t M = some (70, M)) := by
  unfold f_Worker_negated
  rw [gk_pos h.1, is_num h, bnd_eq]
  refine ⟨fun q => ?_, fun q => ?_⟩
  · have h4 : x.1 ≠ 4 := by rintro e; rw [e] at q; revert q; decide
    rw [if_pos q, if_neg (by decide), h.2.1, h.2.2.1 h4]
    unfold xNeg
    by_cases h2 : x.1 = 2
    · rw [if_pos h2, if_pos h2, gk_pos ht]
      obtain ⟨M2, a1, a2⟩ := be_int (M := M) ht (-x.2.1).toInt32
      exact ⟨M2, by rw [a1]; rfl, a2⟩
    · have h3 : x.1 = 3 := q.resolve_left h2
      rw [if_neg h2, if_neg h2, if_pos h3, gk_pos ht]
      obtain ⟨M2, a1, a2⟩ := be_long (M := M) ht (-x.2.1)
      exact ⟨M2, by rw [a1]; rfl, a2⟩
  · rw [if_neg q, if_pos rfl]
theorem lgc_lt0 (x y : Int64) : lg_cmp x y < 0 ↔ x < y := by
  unfold lg_cmp
  by_cases h1 : x > y
  · rw [if_pos h1]
    exact ⟨fun q => absurd q (by decide), fun q => absurd q (Int64.lt_asymm h1)⟩
  · rw [if_neg h1]
    by_cases h2 : x = y
    · rw [if_pos h2]
      exact ⟨fun q => absurd q (by decide), fun q => absurd q (by rw [h2]; exact Int64.lt_irrefl)⟩
    · rw [if_neg h2]
      refine ⟨fun _ => ?_, fun _ => by decide⟩
      have h3 := Int64.not_lt.mp h1
      rw [Int64.lt_iff_toInt_lt]
      rw [Int64.le_iff_toInt_le] at h3
      have h4 : x.toInt ≠ y.toInt := fun e => h2 (Int64.toInt_inj.mp e)
      omega
theorem lgc_ge0 (x y : Int64) : 0 ≤ lg_cmp x y ↔ y ≤ x := lg_cmp_ge x y
theorem lgc_gt0 (x y : Int64) : 0 < lg_cmp x y ↔ y < x := by
  unfold lg_cmp
  by_cases h1 : x > y
  · rw [if_pos h1]
    exact ⟨fun _ => h1, fun _ => by decide⟩
  · rw [if_neg h1]
    by_cases h2 : x = y
    · rw [if_pos h2]
      exact ⟨fun q => absurd q (by decide), fun q => absurd q h1⟩
    · rw [if_neg h2]
      exact ⟨fun q => absurd q (by decide), fun q => absurd q h1⟩
theorem lgc_le0 (x y : Int64) : lg_cmp x y ≤ 0 ↔ x ≤ y := by
  rw [← Int32.not_lt, lgc_gt0, Int64.not_lt]
theorem i64_small {n : Int64} (h1 : ¬ n < 0) (h2 : ¬ 16 ≤ n) : ∃ k : Nat, k < 16 ∧ n.toInt32 = nI k := by
  rw [Int64.lt_iff_toInt_lt] at h1
  rw [Int64.le_iff_toInt_le] at h2
  have e0 : (0 : Int64).toInt = 0 := by decide
  have e16 : (16 : Int64).toInt = 16 := by decide
  rw [e0] at h1
  rw [e16] at h2
  have hn : n = lN n.toInt.toNat := by
    apply Int64.toInt_inj.mp
    rw [lN_toInt (by omega)]
    omega
  refine ⟨n.toInt.toNat, by omega, ?_⟩
  conv => lhs; rw [hn]
  exact lN_i _
/-- reaching, where the set of what is reached is known -/
theorem reaches_ok {M : ax_M} {s : Nat} (hs : s < 65536) (hr : f_Ctx_reachable M = some (nI s, M)) (n : Int64) : ∃ z : Int32, f_Ctx_reaches n M = some (z, M) ∧ (if z = 0 then (0 : Int64) else 1) = rcB s n := by
  unfold f_Ctx_reaches rcB
  by_cases h1 : n < 0
  · rw [if_pos ((lgc_lt0 _ _).mpr h1), if_pos h1]
    exact ⟨0, rfl, rfl⟩
  · rw [if_neg (fun q => h1 ((lgc_lt0 _ _).mp q)), if_neg h1]
    by_cases h2 : 16 ≤ n
    · rw [if_pos ((lgc_ge0 _ _).mpr h2), if_pos h2]
      exact ⟨0, rfl, rfl⟩
    · rw [if_neg (fun q => h2 ((lgc_ge0 _ _).mp q)), if_neg h2, hr, bnd_eq]
      obtain ⟨k, hk, e⟩ := i64_small h1 h2
      rw [e, nI_clamp (by omega)]
      by_cases h3 : s.testBit k = true
      · rw [if_pos ((rb_bit hs (by omega)).mpr h3), if_pos h3]
        exact ⟨1, rfl, rfl⟩
      · rw [if_neg (fun q => h3 ((rb_bit hs (by omega)).mp q)), if_neg h3]
        exact ⟨0, rfl, rfl⟩
/-- one value: put into the row, or an error, or the value itself -/
theorem one_ok {M : ax_M} {v t s : Nat} {x : xV} {o : Int32} (h : VRep M v x) (ht : kd t = 7) (hs : s < 65536) (hr : f_Ctx_reachable M = some (nI s, M)) (ho : o = 13 ∨ o = 14 ∨ o = 34 ∨ o = 41 ∨ o = 43) : Put M t (xOne s o x) (f_Worker_valueOfOne o v t M) ∨ (xOne s o x = xErr ∧ f_Worker_valueOfOne o v t M = some (70, M)) ∨ (xOne s o x = x ∧ f_Worker_valueOfOne o v t M = some (v, M)) := by
  unfold f_Worker_valueOfOne xOne
  by_cases h13 : o = 13
  · rw [if_pos h13, if_pos h13, gk_pos h.1, is_num h, bnd_eq]
    unfold xRole
    by_cases hn : x.1 = 2 ∨ x.1 = 3
    · have h4 : x.1 ≠ 4 := by rintro e; rw [e] at hn; revert hn; decide
      obtain ⟨z, z1, z2⟩ := reaches_ok hs hr x.2.1
      rw [if_pos hn, if_pos hn, if_neg (by decide), h.2.2.1 h4, z1, bnd_eq, gk_pos ht, ← z2]
      obtain ⟨M2, a1, a2⟩ := be_truth (M := M) ht z
      exact Or.inl ⟨M2, by rw [a1]; rfl, a2⟩
    · rw [if_neg hn, if_neg hn, if_pos rfl]
      exact Or.inr (Or.inl ⟨rfl, rfl⟩)
  rw [if_neg h13, if_neg h13]
  by_cases h14 : o = 14
  · rw [if_pos h14, if_pos h14]
    by_cases q : x.1 = 4
    · obtain ⟨M2, a1, a2⟩ := (size_ok h ht).1 q
      exact Or.inl ⟨M2, by rw [a1]; rfl, a2⟩
    · rw [(size_ok h ht).2 q]
      exact Or.inr (Or.inl ⟨if_neg q, rfl⟩)
  rw [if_neg h14, if_neg h14]
  by_cases h34 : o = 34
  · rw [if_pos h34, if_pos h34, gk_pos h.1, is_truth h, bnd_eq]
    unfold xNot
    by_cases q : x.1 = 1
    · rw [if_pos q, if_pos q, if_neg (show ¬ (1 : Int32) = 0 by decide), is_true h, bnd_eq]
      by_cases q2 : x.2.1 = 1
      · rw [if_pos (show x.1 = 1 ∧ x.2.1 = 1 from ⟨q, q2⟩), if_pos q2, if_neg (show ¬ (1 : Int32) = 0 by decide), gk_pos ht]
        obtain ⟨M2, a1, a2⟩ := be_truth (M := M) ht 0
        exact Or.inl ⟨M2, by rw [a1]; rfl, a2⟩
      · rw [if_neg (show ¬ (x.1 = 1 ∧ x.2.1 = 1) from fun z => q2 z.2), if_neg q2, if_pos (show (0 : Int32) = 0 from rfl), gk_pos ht]
        obtain ⟨M2, a1, a2⟩ := be_truth (M := M) ht 1
        exact Or.inl ⟨M2, by rw [a1]; rfl, a2⟩
    · rw [if_neg q, if_neg q, if_pos rfl]
      exact Or.inr (Or.inl ⟨rfl, rfl⟩)
  rw [if_neg h34, if_neg h34]
  by_cases h41 : o = 41
  · rw [if_pos h41, if_pos h41]
    by_cases q : x.1 = 2 ∨ x.1 = 3
    · obtain ⟨M2, a1, a2⟩ := (neg_ok h ht).1 q
      exact Or.inl ⟨M2, by rw [a1]; rfl, a2⟩
    · rw [(neg_ok h ht).2 q]
      refine Or.inr (Or.inl ⟨?_, rfl⟩)
      unfold xNeg
      rw [if_neg (fun z => q (Or.inl z)), if_neg (fun z => q (Or.inr z))]
  rw [if_neg h41, if_neg h41]
  have h43 : o = 43 := by
    rcases ho with z | z | z | z | z
    · exact absurd z h13
    · exact absurd z h14
    · exact absurd z h34
    · exact absurd z h41
    · exact z
  rw [if_pos h43, gk_pos h.1, is_no h, bnd_eq]
  by_cases q0 : x.1 = 0
  · rw [if_pos q0, if_pos q0, if_neg (by decide)]
    exact Or.inr (Or.inr ⟨rfl, rfl⟩)
  · rw [if_neg q0, if_neg q0, if_pos rfl]
    by_cases q : x.1 = 4
    · obtain ⟨M2, a1, a2⟩ := (size_ok h ht).1 q
      exact Or.inl ⟨M2, by rw [a1]; rfl, a2⟩
    · rw [(size_ok h ht).2 q]
      exact Or.inr (Or.inl ⟨if_neg q, rfl⟩)
/-! two values -/
def xSame (x y : xV) : Int64 := if (x.1 = 2 ∨ x.1 = 3) ∧ (y.1 = 2 ∨ y.1 = 3) then (if x.2.1 = y.2.1 then 1 else 0) else if x.1 = y.1 then (if x.1 = 4 then (if x.2.2 = y.2.2 then 1 else 0) else if x.2.1 = y.2.1 then 1 else 0) else 0
def xItem (x y : xV) : xV := if x.1 = 4 ∧ (y.1 = 2 ∨ y.1 = 3) ∧ ¬ y.2.1 < 0 ∧ ¬ (nI x.2.2.length).toInt64 ≤ y.2.1 then xI (x.2.2.getD y.2.1.toInt32.toNatClampNeg 0) else xErr
def xCalc (o : Int32) (a b : Int64) : Int64 := if o = 29 then a + b else if o = 30 then a - b else if o = 31 then a * b else if o = 32 then a / b else a - a / b * b
def xNums (o : Int32) (x y : xV) : xV :=
  if o = 25 then xT (if x.2.1 < y.2.1 then 1 else 0) else if o = 26 then xT (if x.2.1 ≤ y.2.1 then 1 else 0) else if o = 27 then xT (if y.2.1 < x.2.1 then 1 else 0) else if o = 28 then xT (if y.2.1 ≤ x.2.1 then 1 else 0)
  else if y.2.1 = 0 ∧ (o = 32 ∨ o = 33) then xErr else if x.1 = 2 ∧ y.1 = 2 then xI (xCalc o x.2.1 y.2.1).toInt32 else xJ (xCalc o x.2.1 y.2.1)
def xTwo (o : Int32) (x y : xV) : xV := if o = 17 then xItem x y else if o = 23 then xT (xSame x y) else if o = 24 then xT (1 - xSame x y) else if (x.1 = 2 ∨ x.1 = 3) ∧ (y.1 = 2 ∨ y.1 = 3) then xNums o x y else xErr
theorem n4 {x : xV} (h : x.1 = 2 ∨ x.1 = 3) : x.1 ≠ 4 := by
  rintro e
  rw [e] at h
  revert h
  decide
theorem same_lp {M : ax_M} {t u : Nat} {l k : List Int32} (hl : IRep M t l) (hk : IRep M u k) (hlen : l.length = k.length) : ∀ (j f : Nat), j ≤ l.length → j < f → (∀ q, q < l.length - j → l.getD q 0 = k.getD q 0) → f_Items_sameAs_15 f t u (nI (l.length - j)) M = some (if l = k then 1 else 0, M)
  | j, 0, _, hf, _ => absurd hf (by omega)
  | 0, f + 1, _, _, h => by
    obtain ⟨b1, b2, b3, b4⟩ := hl
    show f_Items_sameAs_15_b (f_Items_sameAs_15 f) t u (nI (l.length - 0)) M = _
    unfold f_Items_sameAs_15_b
    have e : l = k := by
      apply List.ext_getElem hlen
      intro i h1 h2
      have h3 := h i (by omega)
      rw [List.getD_eq_getElem?_getD, List.getD_eq_getElem?_getD, List.getElem?_eq_getElem h1, List.getElem?_eq_getElem h2] at h3
      exact h3
    rw [gk_pos b1, b3, if_pos (nI_le (by omega) (by omega)), if_pos e]
  | j + 1, f + 1, hj, hf, h => by
    obtain ⟨b1, b2, b3, b4⟩ := hl
    obtain ⟨c1, c2, c3, c4⟩ := hk
    have e1 : nI (l.length - (j + 1)) + 1 = nI (l.length - j) := by rw [nI_1]; congr 1; omega
    show f_Items_sameAs_15_b (f_Items_sameAs_15 f) t u (nI (l.length - (j + 1))) M = _
    unfold f_Items_sameAs_15_b
    rw [gk_pos b1, b3, if_neg (nI_ge (by omega) (by omega)), gi_nI (by omega) (by decide), gk_pos c1, nI_clamp (by omega), b4 _ (by omega), c4 _ (by omega)]
    by_cases q : l.getD (l.length - (j + 1)) 0 = k.getD (l.length - (j + 1)) 0
    · rw [if_pos q, kM_eq, e1]
      refine same_lp ⟨b1, b2, b3, b4⟩ ⟨c1, c2, c3, c4⟩ hlen j f (by omega) (by omega) (fun i hi => ?_)
      by_cases e : i = l.length - (j + 1)
      · rw [e]; exact q
      · exact h i (by omega)
    · rw [if_neg q, if_neg (fun z => q (by rw [z]))]
theorem same_ok {M : ax_M} {t u : Nat} {l k : List Int32} (hl : IRep M t l) (hk : IRep M u k) : f_Items_sameAs t u M = some (if l = k then 1 else 0, M) := by
  unfold f_Items_sameAs
  have b2 := hl.2.1
  have c2 := hk.2.1
  rw [gk_pos hl.1, gk_pos hk.1, hl.2.2.1, hk.2.2.1]
  by_cases q : l.length = k.length
  · rw [if_pos (by rw [q])]
    have h := same_lp hl hk q l.length 64 (Nat.le_refl _) (by omega) (fun i hi => absurd hi (by omega))
    rw [Nat.sub_self] at h
    exact h
  · rw [if_neg (fun z => q ((nI_eq (by omega) (by omega)).mp z)), if_neg (fun z => q (by rw [z]))]
theorem sameV_ok {M : ax_M} {v w : Nat} {x y : xV} (h : VRep M v x) (g : VRep M w y) : ∃ z : Int32, f_Val_sameAs v w M = some (z, M) ∧ (z = 0 ∨ z = 1) ∧ (if z = 0 then (0 : Int64) else 1) = xSame x y := by
  have low : ¬ ((x.1 = 2 ∨ x.1 = 3) ∧ (y.1 = 2 ∨ y.1 = 3)) → ∃ z : Int32, f_Val_sameAs_32 v w M = some (z, M) ∧ (z = 0 ∨ z = 1) ∧ (if z = 0 then (0 : Int64) else 1) = xSame x y := by
    intro hn
    unfold f_Val_sameAs_32 xSame
    rw [if_neg hn, gk_pos h.1, gk_pos g.1, h.2.1, g.2.1]
    by_cases e : x.1 = y.1
    · rw [if_pos e, if_pos e, is_list h, bnd_eq]
      by_cases q : x.1 = 4
      · rw [if_pos q, if_pos q, if_neg (by decide), same_ok (h.2.2.2 q) (g.2.2.2 (e.symm.trans q)), bnd_eq]
        by_cases r : x.2.2 = y.2.2
        · rw [if_pos r, if_pos r]
          exact ⟨1, rfl, Or.inr rfl, rfl⟩
        · rw [if_neg r, if_neg r]
          exact ⟨0, rfl, Or.inl rfl, rfl⟩
      · rw [if_neg q, if_neg q, if_pos rfl, h.2.2.1 q, g.2.2.1 (fun z => q (e.trans z))]
        by_cases r : x.2.1 = y.2.1
        · rw [if_pos ((lgc_eq _ _).mpr r), if_pos r]
          exact ⟨1, rfl, Or.inr rfl, rfl⟩
        · rw [if_neg (fun z => r ((lgc_eq _ _).mp z)), if_neg r]
          exact ⟨0, rfl, Or.inl rfl, rfl⟩
    · rw [if_neg e, if_neg e]
      exact ⟨0, rfl, Or.inl rfl, rfl⟩
  unfold f_Val_sameAs
  rw [gk_pos h.1, is_num h, bnd_eq]
  by_cases hx : x.1 = 2 ∨ x.1 = 3
  · rw [if_pos hx, if_neg (show ¬ (1 : Int32) = 0 by decide), gk_pos g.1, is_num g, bnd_eq]
    by_cases hy : y.1 = 2 ∨ y.1 = 3
    · rw [if_pos hy, if_neg (show ¬ (1 : Int32) = 0 by decide), h.2.2.1 (n4 hx), g.2.2.1 (n4 hy)]
      have e : xSame x y = if x.2.1 = y.2.1 then 1 else 0 := if_pos ⟨hx, hy⟩
      rw [e]
      by_cases r : x.2.1 = y.2.1
      · rw [if_pos ((lgc_eq _ _).mpr r), if_pos r]
        exact ⟨1, rfl, Or.inr rfl, rfl⟩
      · rw [if_neg (fun z => r ((lgc_eq _ _).mp z)), if_neg r]
        exact ⟨0, rfl, Or.inl rfl, rfl⟩
    · rw [if_neg hy, if_pos rfl]
      exact low (fun q => hy q.2)
  · rw [if_neg hx, if_pos rfl]
    exact low (fun q => hx q.1)
