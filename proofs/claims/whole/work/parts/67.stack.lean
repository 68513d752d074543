/-! The reference's stack of values. -/
def EqK (S : Nat → Nat → Prop) (M M' : ax_M) : Prop := ∀ c k, ¬ S c k → gI M' c k = gI M c k ∧ gJ M' c k = gJ M c k ∧ gA M' c k = gA M c k
theorem EqK.rf {S : Nat → Nat → Prop} (M : ax_M) : EqK S M M := fun _ _ _ => ⟨rfl, rfl, rfl⟩
theorem EqK.tr {S : Nat → Nat → Prop} {M M' M'' : ax_M} (h : EqK S M M') (h2 : EqK S M' M'') : EqK S M M'' := fun c k hc => ⟨(h2 c k hc).1.trans (h c k hc).1, (h2 c k hc).2.1.trans (h c k hc).2.1, (h2 c k hc).2.2.trans (h c k hc).2.2⟩
theorem EqK.mono {S T : Nat → Nat → Prop} {M M' : ax_M} (h : EqK S M M') (hs : ∀ c k, S c k → T c k) : EqK T M M' := fun c k hc => h c k (fun z => hc (hs c k z))
theorem EqK.mI {S : Nat → Nat → Prop} {M M' : ax_M} (h : EqK S M M') {c k : Nat} {v : Int32} (hc : S c k) : EqK S M (mI M' c k v) := h.tr (fun a j ha => ⟨if_neg (fun (q : a = c ∧ j = k) => ha (by rw [q.1, q.2]; exact hc)), rfl, rfl⟩)
theorem EqK.mJ {S : Nat → Nat → Prop} {M M' : ax_M} (h : EqK S M M') {c k : Nat} {v : Int64} (hc : S c k) : EqK S M (mJ M' c k v) := h.tr (fun a j ha => ⟨rfl, if_neg (fun (q : a = c ∧ j = k) => ha (by rw [q.1, q.2]; exact hc)), rfl⟩)
/-- a value at a place of the stack -/
def TRep (M : ax_M) (k : Nat) (x : xV) : Prop := gI M 202 k = x.1 ∧ (x.1 = 1 ∨ x.1 = 2 ∨ x.1 = 3 → gJ M 203 k = x.2.1) ∧ (x.1 = 4 → gJ M 203 k = lN x.2.2.length ∧ x.2.2.length ≤ 5 ∧ ∀ j, j < x.2.2.length → gI M 204 (5 * k + j) = x.2.2.getD j 0)
/-- cells of the stack from the height h on -/
def Xs (h c k : Nat) : Prop := (c = 202 ∧ h ≤ k) ∨ (c = 203 ∧ h ≤ k) ∨ (c = 204 ∧ 5 * h ≤ k) ∨ (c = 184 ∧ k = 29)
theorem TRep.kp {M M' : ax_M} {k h : Nat} {x : xV} (t : TRep M k x) (hk : k < h) {S : Nat → Nat → Prop} (hS : ∀ c j, S c j → c = 202 ∨ c = 203 ∨ c = 204 → Xs h c j) (hE : EqK S M M') : TRep M' k x := by
  have n : ∀ c j, (c = 202 ∨ c = 203 ∨ c = 204) → ¬ Xs h c j → ¬ S c j := fun c j hc hx hs => hx (hS c j hs hc)
  refine ⟨(hE 202 k (n _ _ (by omega) (by unfold Xs; omega))).1.trans t.1, fun q => (hE 203 k (n _ _ (by omega) (by unfold Xs; omega))).2.1.trans (t.2.1 q), fun q => ⟨(hE 203 k (n _ _ (by omega) (by unfold Xs; omega))).2.1.trans (t.2.2 q).1, (t.2.2 q).2.1, fun j hj => ?_⟩⟩
  have l5 := (t.2.2 q).2.1
  rw [(hE 204 (5 * k + j) (n _ _ (by omega) (by unfold Xs; omega))).1]
  exact (t.2.2 q).2.2 j hj
def TOk (h : Nat) (M : ax_M) (x : xV) (o : Option (Unit × ax_M)) : Prop := ∃ M', o = some ((), M') ∧ TRep M' h x ∧ gI M' 184 29 = nI (h + 1) ∧ EqK (Xs h) M M'
theorem push_eq {M : ax_M} {h : Nat} (hh : gI M 184 29 = nI h) (hb : h < 48) (a : Int32) (b : Int64) : f_Mod_push a b M = some ((), mI (mJ (mI M 202 h a) 203 h b) 184 29 (nI (h + 1))) := by
  unfold f_Mod_push
  have e1 : gI (mI M 202 h a) 184 29 = nI h := (mIc (by decide)).trans hh
  have e2 : gI (mJ (mI M 202 h a) 203 h b) 184 29 = nI h := e1
  rw [hh, gi_nI hb (by decide), nI_clamp (by omega), kM_eq, e1, gi_nI hb (by decide), nI_clamp (by omega), kM_eq, e2, kM_eq, nI_1]
theorem push_fr {M : ax_M} {h : Nat} {a : Int32} {b : Int64} {n : Int32} : EqK (Xs h) M (mI (mJ (mI M 202 h a) 203 h b) 184 29 n) :=
  (((EqK.rf M).mI (Or.inl ⟨rfl, Nat.le_refl _⟩)).mJ (Or.inr (Or.inl ⟨rfl, Nat.le_refl _⟩))).mI (Or.inr (Or.inr (Or.inr ⟨rfl, rfl⟩)))
theorem push_num {M : ax_M} {h : Nat} (hh : gI M 184 29 = nI h) (hb : h < 48) {a : Int32} (b : Int64) (ha : a ≠ 4) : TOk h M (a, b, []) (f_Mod_push a b M) := by
  refine ⟨_, push_eq hh hb a b, ⟨?_, fun _ => ?_, fun q => absurd q ha⟩, mIs _ _ _ _, push_fr⟩
  · rw [mIc (by decide)]
    exact mIs _ _ _ _
  · exact mJs _ _ _ _
theorem push_any {M : ax_M} {h : Nat} (hh : gI M 184 29 = nI h) (hb : h < 48) {a : Int32} (b : Int64) {x : xV} (hx : x.1 = a) (ha : a = -1 ∨ a = 0) : TOk h M x (f_Mod_push a b M) := by
  refine ⟨_, push_eq hh hb a b, ⟨?_, fun q => ?_, fun q => ?_⟩, mIs _ _ _ _, push_fr⟩
  · rw [mIc (by decide), hx]
    exact mIs _ _ _ _
  · rw [hx] at q
    rcases ha with z | z <;> rw [z] at q <;> exact absurd q (by decide)
  · rw [hx] at q
    rcases ha with z | z <;> rw [z] at q <;> exact absurd q (by decide)
theorem u_id {o : Option (Unit × ax_M)} : bnd o (fun _ m => some ((), m)) = o := by
  cases o with
  | none => rfl
  | some q => rfl
theorem push_truth {M : ax_M} {h : Nat} (hh : gI M 184 29 = nI h) (hb : h < 48) (z : Int32) : TOk h M (xT (if z = 0 then 0 else 1)) (f_Mod_pushTruth z M) := by
  unfold f_Mod_pushTruth
  by_cases q : z = 0
  · rw [if_pos q, if_pos q, u_id]
    exact push_num hh hb 0 (by decide)
  · rw [if_neg q, if_neg q, u_id]
    exact push_num hh hb 1 (by decide)
/-- the row that pushItems copies -/
def srcI (M : ax_M) (s : Int32) (j : Nat) : Int32 := if s = 0 then gI M 212 j else if s = 1 then gI M 213 j else gI M 208 (5 * (gI M 184 37 - 1).toNatClampNeg + j)
theorem i5 {h j : Nat} (hh : h < 48) (hj : j < 5) : 5 * nI h + nI j = nI (5 * h + j) := by
  show nI 5 * nI h + nI j = _
  rw [← nI_add, show nI 5 * nI h = nI (5 * h) from (Int32.ofNat_mul 5 h).symm]
theorem items_lp {h : Nat} (hb : h < 48) {s : Int32} {l : List Int32} (hl : l.length ≤ 5) : ∀ (j f : Nat) (M : ax_M), j ≤ l.length → j < f → gI M 184 29 = nI h → (s = 0 ∨ s = 1 ∨ (s = 2 ∧ ∃ d, d < 16 ∧ gI M 184 37 = nI (d + 1))) → (∀ q, q < l.length → srcI M s q = l.getD q 0) → (∀ q, q < l.length - j → gI M 204 (5 * h + q) = l.getD q 0) → TOk h M (xL l) (f_Mod_pushItems_2 f s (nI l.length) (nI (l.length - j)) M)
  | j, 0, _, _, hf, _, _, _, _ => absurd hf (by omega)
  | 0, f + 1, M, _, _, hh, _, _, hd => by
    show TOk h M (xL l) (f_Mod_pushItems_2_b (f_Mod_pushItems_2 f) s (nI l.length) (nI (l.length - 0)) M)
    unfold f_Mod_pushItems_2_b
    rw [if_pos (nI_le (by omega) (by omega)), u_id, nI_l (by omega)]
    refine ⟨_, push_eq hh hb _ _, ⟨?_, fun q => absurd q (by show ¬ ((4 : Int32) = 1 ∨ (4 : Int32) = 2 ∨ (4 : Int32) = 3); decide), fun q => ⟨mJs _ _ _ _, hl, fun k hk => ?_⟩⟩, mIs _ _ _ _, push_fr⟩
    · rw [mIc (by decide)]
      exact mIs _ _ _ _
    · rw [mIc (by decide)]
      show gI (mI M 202 h 4) 204 (5 * h + k) = _
      rw [mIc (by decide)]
      exact hd k hk
  | j + 1, f + 1, M, hj, hf, hh, hs, hc, hd => by
    have e1 : nI (l.length - (j + 1)) + 1 = nI (l.length - j) := by rw [nI_1]; congr 1; omega
    have h1 : gI (mI M 204 (5 * h + (l.length - (j + 1))) (l.getD (l.length - (j + 1)) 0)) 184 29 = nI h := (mIc (by decide)).trans hh
    have s1 : ∀ q, srcI (mI M 204 (5 * h + (l.length - (j + 1))) (l.getD (l.length - (j + 1)) 0)) s q = srcI M s q := fun q => by
      unfold srcI
      rw [mIc (by decide), mIc (by decide), mIc (by decide), mIc (by decide)]
    have step : f_Mod_pushItems_2 (f + 1) s (nI l.length) (nI (l.length - (j + 1))) M = f_Mod_pushItems_2 f s (nI l.length) (nI (l.length - j)) (mI M 204 (5 * h + (l.length - (j + 1))) (l.getD (l.length - (j + 1)) 0)) := by
      show f_Mod_pushItems_2_b (f_Mod_pushItems_2 f) s (nI l.length) (nI (l.length - (j + 1))) M = _
      have hc1 := hc (l.length - (j + 1)) (by omega)
      unfold f_Mod_pushItems_2_b
      unfold srcI at hc1
      rw [if_neg (nI_ge (by omega) (by omega)), hh, i5 hb (by omega), gi_nI (n := 240) (by omega) (by decide), nI_clamp (n := 5 * h + (l.length - (j + 1))) (by omega)]
      by_cases s0 : s = 0
      · rw [if_pos s0] at hc1 ⊢
        rw [gi_nI (by omega) (by decide), nI_clamp (by omega), hc1, kM_eq, kM_eq, e1]
      · rw [if_neg s0] at hc1 ⊢
        by_cases s1 : s = 1
        · rw [if_pos s1] at hc1 ⊢
          rw [gi_nI (by omega) (by decide), nI_clamp (by omega), hc1, kM_eq, kM_eq, e1, gi_nI (by omega) (by decide)]
        · rw [if_neg s1] at hc1 ⊢
          obtain ⟨d, d1, d2⟩ := (hs.resolve_left s0).resolve_left s1 |>.2
          have e3 : nI (d + 1) - 1 = nI d := by rw [← nI_1, Int32.add_sub_cancel]
          rw [d2, e3, nI_clamp (by omega)] at hc1
          rw [d2, e3, i5 (by omega) (by omega), gi_nI (by omega) (by decide), nI_clamp (by omega), hc1, kM_eq, kM_eq, e1, gi_nI (by omega) (by decide)]
    rw [step]
    obtain ⟨M2, a1, a2, a3, a4⟩ := items_lp hb hl j f _ (by omega) (by omega) h1 (by rw [mIc (by decide)]; exact hs) (fun q hq => (s1 q).trans (hc q hq)) (fun q hq => by
      by_cases e : q = l.length - (j + 1)
      · rw [e, mIs]
      · rw [mIk (by omega)]
        exact hd q (by omega))
    exact ⟨M2, a1, a2, a3, EqK.tr (EqK.mI (S := Xs h) (EqK.rf M) (Or.inr (Or.inr (Or.inl ⟨rfl, by omega⟩)))) a4⟩
theorem items_ok {M : ax_M} {h : Nat} (hb : h < 48) {s : Int32} {l : List Int32} (hl : l.length ≤ 5) (hh : gI M 184 29 = nI h) (hs : s = 0 ∨ s = 1 ∨ (s = 2 ∧ ∃ d, d < 16 ∧ gI M 184 37 = nI (d + 1))) (hc : ∀ q, q < l.length → srcI M s q = l.getD q 0) : TOk h M (xL l) (f_Mod_pushItems s (nI l.length) M) := by
  have z := items_lp hb hl l.length 64 M (Nat.le_refl _) (by omega) hh hs hc (fun q hq => absurd hq (by omega))
  rw [Nat.sub_self] at z
  exact z
