/-! Values of expressions: sort, number, items; how the rows hold them; what the worker does at one part. -/
abbrev xV : Type := Int32 × Int64 × List Int32
def xErr : xV := (-1, 0, [])
def xNo : xV := (0, 0, [])
def xT (z : Int64) : xV := (1, z, [])
def xI (x : Int32) : xV := (2, x.toInt64, [])
def xJ (n : Int64) : xV := (3, n, [])
def xL (l : List Int32) : xV := (4, 0, l)
def IRep (M : ax_M) (t : Nat) (l : List Int32) : Prop := kd t = 5 ∧ l.length ≤ 5 ∧ gI M t 1 = nI l.length ∧ ∀ k, k < l.length → gI M (t + 1) k = l.getD k 0
def VRep (M : ax_M) (v : Nat) (x : xV) : Prop := kd v = 7 ∧ gI M v 0 = x.1 ∧ (x.1 ≠ 4 → gJ M v 1 = x.2.1) ∧ (x.1 = 4 → IRep M (v + 1) x.2.2)
theorem IRep.kp {M M' : ax_M} {t : Nat} {l : List Int32} (h : IRep M t l) (h0 : ∀ k, gI M' t k = gI M t k) (h1 : ∀ k, gI M' (t + 1) k = gI M (t + 1) k) : IRep M' t l :=
  ⟨h.1, h.2.1, (h0 1).trans h.2.2.1, fun k hk => (h1 k).trans (h.2.2.2 k hk)⟩
theorem VRep.kp {M M' : ax_M} {v : Nat} {x : xV} (h : VRep M v x) (h0 : ∀ k, gI M' v k = gI M v k) (hj : ∀ k, gJ M' v k = gJ M v k) (h1 : ∀ k, gI M' (v + 1) k = gI M (v + 1) k) (h2 : ∀ k, gI M' (v + 2) k = gI M (v + 2) k) : VRep M' v x :=
  ⟨h.1, (h0 0).trans h.2.1, fun q => (hj 1).trans (h.2.2.1 q), fun q => (h.2.2.2 q).kp h1 h2⟩
theorem VRep.eq {M M' : ax_M} {v : Nat} {x : xV} (h : VRep M v x) {S : Nat → Prop} (hE : EqO S M M') (a : ¬ S v) (b : ¬ S (v + 1)) (c : ¬ S (v + 2)) : VRep M' v x :=
  h.kp (fun k => (hE v a k).1) (fun k => (hE v a k).2.1) (fun k => (hE _ b k).1) (fun k => (hE _ c k).1)
theorem IRep.eq {M M' : ax_M} {t : Nat} {l : List Int32} (h : IRep M t l) {S : Nat → Prop} (hE : EqO S M M') (a : ¬ S t) (b : ¬ S (t + 1)) : IRep M' t l :=
  h.kp (fun k => (hE t a k).1) (fun k => (hE _ b k).1)
/-- the three cells of a value -/
def Rw (t c : Nat) : Prop := t ≤ c ∧ c ≤ t + 2
/-- a value is put into the row t -/
def Put (M : ax_M) (t : Nat) (x : xV) (o : Option (Nat × ax_M)) : Prop := ∃ M', o = some (t, M') ∧ VRep M' t x ∧ EqO (Rw t) M M'
theorem put_num {M : ax_M} {t : Nat} (ht : kd t = 7) {s : Int32} (hs : s ≠ 4) (n : Int64) : Put M t (s, n, []) (some (t, mJ (mI M t 0 s) t 1 n)) :=
  ⟨_, rfl, ⟨ht, mIs _ _ _ _, fun _ => mJs _ _ _ _, fun q => absurd q hs⟩, ((EqO.rf M).mI ⟨Nat.le_refl _, by omega⟩).mJ ⟨Nat.le_refl _, by omega⟩⟩
theorem be_nothing {M : ax_M} {t : Nat} (ht : kd t = 7) : Put M t xNo (f_Val_beNothing t M) := by
  unfold f_Val_beNothing
  rw [gk_pos ht]
  exact put_num ht (by decide) 0
theorem be_int {M : ax_M} {t : Nat} (ht : kd t = 7) (a : Int32) : Put M t (xI a) (f_Val_beInt t a M) := by
  unfold f_Val_beInt
  rw [gk_pos ht]
  exact put_num ht (by decide) _
theorem be_long {M : ax_M} {t : Nat} (ht : kd t = 7) (a : Int64) : Put M t (xJ a) (f_Val_beLong t a M) := by
  unfold f_Val_beLong
  rw [gk_pos ht]
  exact put_num ht (by decide) _
theorem be_truth {M : ax_M} {t : Nat} (ht : kd t = 7) (a : Int32) : Put M t (xT (if a = 0 then 0 else 1)) (f_Val_beTruth t a M) := by
  unfold f_Val_beTruth
  rw [gk_pos ht, kM_eq]
  by_cases h : a = 0
  · rw [if_pos h, if_pos h]
    exact put_num ht (by decide) 0
  · rw [if_neg h, if_neg h]
    exact put_num ht (by decide) 1
/-! lists -/
theorem copy_lp {l0 l1 n : Nat} (h0 : kd l0 = 5) (h1 : kd l1 = 5) (hn : n ≤ 5) (h01 : l1 + 1 ≠ l0 + 1) (h02 : l0 ≠ l0 + 1) : ∀ (j f : Nat) (M : ax_M), j ≤ n → j < f → gI M l0 1 = nI n → ∃ M', f_Items_copyFrom_10 f l0 l1 (nI (n - j)) M = some ((), M') ∧ EqO (fun c => c = l0 + 1) M M' ∧ (∀ k, k < n - j → gI M' (l0 + 1) k = gI M (l0 + 1) k) ∧ ∀ k, n - j ≤ k → k < n → gI M' (l0 + 1) k = gI M (l1 + 1) k
  | j, 0, M, _, hf, _ => absurd hf (by omega)
  | 0, f + 1, M, _, _, e => by
    refine ⟨M, ?_, EqO.rf M, fun k _ => rfl, fun k h2 h3 => absurd h3 (by omega)⟩
    show f_Items_copyFrom_10_b (f_Items_copyFrom_10 f) l0 l1 (nI (n - 0)) M = _
    unfold f_Items_copyFrom_10_b
    rw [gk_pos h0, e, if_pos (nI_le (by omega) (by omega))]
  | j + 1, f + 1, M, hj, hf, e => by
    have e1 : nI (n - (j + 1)) + 1 = nI (n - j) := by rw [nI_1]; congr 1; omega
    obtain ⟨M2, a1, a2, a3, a4⟩ := copy_lp h0 h1 hn h01 h02 j f (mI M (l0 + 1) (n - (j + 1)) (gI M (l1 + 1) (n - (j + 1)))) (by omega) (by omega) (by rw [mIc h02]; exact e)
    refine ⟨M2, ?_, EqO.tr (EqO.mI (S := fun c => c = l0 + 1) (EqO.rf M) rfl) a2, fun k hk => ?_, fun k hk1 hk2 => ?_⟩
    · show f_Items_copyFrom_10_b (f_Items_copyFrom_10 f) l0 l1 (nI (n - (j + 1))) M = _
      unfold f_Items_copyFrom_10_b
      rw [gk_pos h0, e, if_neg (nI_ge (by omega) (by omega)), gk_pos h1, gi_nI (by omega) (by decide), kM_eq, kM_eq, nI_clamp (by omega), e1]
      exact a1
    · rw [a3 k (by omega), mIk (by omega)]
    · by_cases h : k = n - (j + 1)
      · rw [a3 k (by omega), h, mIs]
      · rw [a4 k (by omega) hk2, mIc h01]
theorem copy_ok {M : ax_M} {l0 l1 : Nat} {l : List Int32} (h0 : kd l0 = 5) (hl : IRep M l1 l) (h01 : l1 + 1 ≠ l0 + 1) (h10 : l1 + 1 ≠ l0) (h11 : l1 ≠ l0 + 1) : ∃ M', f_Items_copyFrom l0 l1 M = some ((), M') ∧ EqO (fun c => c = l0 ∨ c = l0 + 1) M M' ∧ IRep M' l0 l := by
  obtain ⟨b1, b2, b3, b4⟩ := hl
  obtain ⟨M2, a1, a2, a3, a4⟩ := copy_lp h0 b1 b2 h01 (by omega) l.length 64 (mI M l0 1 (nI l.length)) (Nat.le_refl _) (by omega) (mIs _ _ _ _)
  rw [Nat.sub_self] at a1 a4
  refine ⟨M2, ?_, ((EqO.rf M).mI (Or.inl rfl)).tr (a2.mono fun c hc => Or.inr hc), h0, b2, ?_, fun k hk => ?_⟩
  · unfold f_Items_copyFrom
    rw [gk_pos b1, gk_pos h0, kM_eq, b3]
    exact a1
  · rw [(a2 l0 (by omega) 1).1, mIs]
  · rw [a4 k (by omega) hk, mIc h10, b4 k hk]
theorem be_list {M : ax_M} {t l1 : Nat} {l : List Int32} (ht : kd t = 7) (hl : IRep M l1 l) (hs : ¬ Rw t l1) (hs2 : ¬ Rw t (l1 + 1)) : Put M t (xL l) (f_Val_beList t l1 M) := by
  unfold Rw at hs hs2
  have e1 : EqO (Rw t) M (mJ (mI M t 0 4) t 1 0) := ((EqO.rf M).mI ⟨Nat.le_refl _, by omega⟩).mJ ⟨Nat.le_refl _, by omega⟩
  have hl2 : IRep (mJ (mI M t 0 4) t 1 0) l1 l := hl.eq e1 hs hs2
  obtain ⟨M2, a1, a2, a3⟩ := copy_ok (l0 := t + 1) (lf_Val_1 ht).1 hl2 (by omega) (by omega) (by omega)
  refine ⟨M2, ?_, ⟨ht, ?_, fun q => absurd rfl q, fun _ => a3⟩, e1.tr (a2.mono fun c hc => by unfold Rw; omega)⟩
  · unfold f_Val_beList
    rw [gk_pos ht, kM_eq, kM_eq, a1]
    rfl
  · rw [(a2 t (by omega) 0).1]
    exact mIs _ _ _ _
theorem be_empty {M : ax_M} {t : Nat} (ht : kd t = 7) : Put M t (xL []) (f_Val_beEmptyList t M) := by
  refine ⟨mI (mJ (mI M t 0 4) t 1 0) (t + 1) 1 0, ?_, ⟨ht, ?_, fun q => absurd rfl q, fun _ => ⟨(lf_Val_1 ht).1, by decide, mIs _ _ _ _, fun k hk => absurd hk (by simp [xL])⟩⟩, (((EqO.rf M).mI ⟨Nat.le_refl _, by omega⟩).mJ ⟨Nat.le_refl _, by omega⟩).mI ⟨by omega, by omega⟩⟩
  · unfold f_Val_beEmptyList f_Items_clear
    rw [gk_pos ht, kM_eq, kM_eq, gk_pos (lf_Val_1 ht).1, kM_eq, bnd_eq]
  · rw [mIc (by omega)]
    exact mIs _ _ _ _
theorem app_ok {M : ax_M} {t : Nat} {l : List Int32} (hl : IRep M t l) (h5 : l.length < 5) (c : Int32) : ∃ M', f_Items_append t c M = some (1, M') ∧ EqO (fun q => q = t ∨ q = t + 1) M M' ∧ IRep M' t (l ++ [c]) := by
  obtain ⟨b1, b2, b3, b4⟩ := hl
  refine ⟨mI (mI M (t + 1) l.length c) t 1 (nI (l.length + 1)), ?_, ((EqO.rf M).mI (Or.inr rfl)).mI (Or.inl rfl), b1, by simp; omega, ?_, fun k hk => ?_⟩
  · unfold f_Items_append
    rw [gk_pos b1, b3, if_pos (show nI l.length < 5 from (lt_lit (by omega) (by decide) (b := 5)).mpr h5), gi_nI h5 (by decide), kM_eq, kM_eq, nI_clamp (by omega), mIc (by omega), b3, nI_1]
  · rw [mIs]
    simp
  · rw [List.length_append, List.length_singleton] at hk
    rw [mIc (by omega)]
    by_cases h : k = l.length
    · rw [h, mIs]
      simp
    · rw [mIk h, b4 k (by omega)]
      rw [List.getD_eq_getElem?_getD, List.getD_eq_getElem?_getD, List.getElem?_append_left (by omega)]
theorem get_ok {M : ax_M} {t : Nat} {l : List Int32} (hl : IRep M t l) {k : Nat} (hk : k < l.length) : f_Items_get t (nI k) M = some (l.getD k 0, M) := by
  obtain ⟨b1, b2, b3, b4⟩ := hl
  unfold f_Items_get
  rw [if_neg (nI_pos (by omega)), gk_pos b1, b3, if_neg (nI_ge hk (by omega)), gi_nI (by omega) (by decide), nI_clamp (by omega), b4 k hk]
/-! questions to a value -/
theorem is_err {M : ax_M} {v : Nat} {x : xV} (h : VRep M v x) : f_Val_isError v M = some (if x.1 = -1 then 1 else 0, M) := by
  unfold f_Val_isError
  rw [gk_pos h.1, h.2.1]
  split <;> rfl
theorem is_no {M : ax_M} {v : Nat} {x : xV} (h : VRep M v x) : f_Val_isNothing v M = some (if x.1 = 0 then 1 else 0, M) := by
  unfold f_Val_isNothing
  rw [gk_pos h.1, h.2.1]
  split <;> rfl
theorem is_truth {M : ax_M} {v : Nat} {x : xV} (h : VRep M v x) : f_Val_isTruth v M = some (if x.1 = 1 then 1 else 0, M) := by
  unfold f_Val_isTruth
  rw [gk_pos h.1, h.2.1]
  split <;> rfl
theorem is_list {M : ax_M} {v : Nat} {x : xV} (h : VRep M v x) : f_Val_isList v M = some (if x.1 = 4 then 1 else 0, M) := by
  unfold f_Val_isList
  rw [gk_pos h.1, h.2.1]
  split <;> rfl
theorem is_num {M : ax_M} {v : Nat} {x : xV} (h : VRep M v x) : f_Val_isNumber v M = some (if x.1 = 2 ∨ x.1 = 3 then 1 else 0, M) := by
  unfold f_Val_isNumber
  rw [gk_pos h.1, h.2.1]
  by_cases h2 : x.1 = 2
  · rw [if_pos h2, if_pos (Or.inl h2)]
  · rw [if_neg h2]
    by_cases h3 : x.1 = 3
    · rw [if_pos h3, if_pos (Or.inr h3)]
    · rw [if_neg h3, if_neg (fun q => q.elim h2 h3)]
theorem lgc_eq (x y : Int64) : lg_cmp x y = 0 ↔ x = y := by
  unfold lg_cmp
  by_cases h1 : x > y
  · rw [if_pos h1]
    exact ⟨fun q => absurd q (by decide), fun q => absurd h1 (by rw [q]; exact Int64.lt_irrefl)⟩
  · rw [if_neg h1]
    by_cases h2 : x = y
    · rw [if_pos h2]
      exact ⟨fun _ => h2, fun _ => rfl⟩
    · rw [if_neg h2]
      exact ⟨fun q => absurd q (by decide), fun q => absurd q h2⟩
theorem is_true {M : ax_M} {v : Nat} {x : xV} (h : VRep M v x) : f_Val_isTrue v M = some (if x.1 = 1 ∧ x.2.1 = 1 then 1 else 0, M) := by
  unfold f_Val_isTrue
  rw [gk_pos h.1, h.2.1]
  by_cases h1 : x.1 = 1
  · rw [if_pos h1, h.2.2.1 (by rw [h1]; decide)]
    by_cases h2 : x.2.1 = 1
    · rw [if_pos ((lgc_eq _ _).mpr h2), if_pos ⟨h1, h2⟩]
    · rw [if_neg (fun q => h2 ((lgc_eq _ _).mp q)), if_neg (fun q => h2 q.2)]
  · rw [if_neg h1, if_neg (fun q => h1 q.1)]
