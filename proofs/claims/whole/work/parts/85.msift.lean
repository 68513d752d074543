/-! The reference's filter. -/
def Fs (c k : Nat) : Prop := Fq c k ∨ c = 219
def srcS (s : Int32) : Nat := if s = 0 then 212 else 220
theorem EnvM.fs {M M' : ax_M} {ρ : xEnv} {it it' : Option Int32} (e : EnvM M ρ it) (hE : EqK Fs M M') (g : ItM M' it') : EnvM M' ρ it' := by
  have w : ∀ c k, (c < 202 ∨ 211 < c) → c ≠ 219 → (c ≠ 184 ∨ (k ≠ 29 ∧ k ≠ 37 ∧ k ≠ 38 ∧ k ≠ 39)) → ¬ Fs c k := fun c k h1 h3 h2 q => by unfold Fs Fq at q; omega
  have eI : ∀ c k, (c < 202 ∨ 211 < c) → c ≠ 219 → (c ≠ 184 ∨ (k ≠ 29 ∧ k ≠ 37 ∧ k ≠ 38 ∧ k ≠ 39)) → gI M' c k = gI M c k := fun c k h1 h3 h2 => (hE c k (w c k h1 h3 h2)).1
  have eJ : ∀ c k, (c < 202 ∨ 211 < c) → c ≠ 219 → (c ≠ 184 ∨ (k ≠ 29 ∧ k ≠ 37 ∧ k ≠ 38 ∧ k ≠ 39)) → gJ M' c k = gJ M c k := fun c k h1 h3 h2 => (hE c k (w c k h1 h3 h2)).2.1
  obtain ⟨⟨a1, a2⟩, ⟨D, S, b1, b2, b3, b4⟩, c1, c2, d1, d2, ⟨e1, e2, e3⟩, rv, iv⟩ := e
  refine ⟨⟨(eI 184 13 (by omega) (by omega) (by omega)).trans a1, a2⟩, ⟨D, S, fun k hk => ⟨(b1 k hk).1, (eI 191 k (by omega) (by omega) (by omega)).trans (b1 k hk).2⟩, (eI 184 14 (by omega) (by omega) (by omega)).trans b2, b3, b4⟩, c1, c2, (eI 184 40 (by omega) (by omega) (by omega)).trans d1, (eJ 184 41 (by omega) (by omega) (by omega)).trans d2, ⟨(eI 184 43 (by omega) (by omega) (by omega)).trans e1, e2, fun j hj => (eI 212 j (by omega) (by omega) (by omega)).trans (e3 j hj)⟩, ?_, g⟩
  revert rv
  generalize ρ.r = z
  intro rv
  match z, rv with
  | none, rv => exact (eI 184 44 (by omega) (by omega) (by omega)).trans rv
  | some x, rv => exact ⟨(eI 184 44 (by omega) (by omega) (by omega)).trans rv.1, fun q => ⟨(eI 184 45 (by omega) (by omega) (by omega)).trans (rv.2.1 q).1, (rv.2.1 q).2.1, fun j hj => (eI 213 j (by omega) (by omega) (by omega)).trans ((rv.2.1 q).2.2 j hj)⟩, fun q => by rw [eI 184 45 (by omega) (by omega) (by omega)]; exact rv.2.2 q⟩
theorem Fs_XQ : ∀ c k, Fs c k → XQ c k := fun c k z => by unfold Fs Fq at z; unfold XQ; omega
theorem getD_left {a b : List Int32} {j : Nat} (h : j < a.length) : (a ++ b).getD j 0 = a.getD j 0 := by
  rw [List.getD_eq_getElem?_getD, List.getD_eq_getElem?_getD, List.getElem?_append_left h]
theorem sift49 {K : Int32 → Int32 → Int32 → Int32 → Int32 → ax_M → Option (Int32 × ax_M)} {M M9 : ax_M} {l1 l2 l3 l4 l5 k : Int32} {x : xV} (hw : f_Mod_work l1 (mI (mI M 184 38 1) 184 39 k) = some ((), M9)) (t : TRep M9 0 x) : f_Mod_sift_49 K l1 l2 l3 l4 l5 k M = if x.1 = 1 then (if x.2.1 = 1 then gi l4 5 (K l1 l2 l3 (l4 + 1) (l5 + 1) (mI M9 219 l4.toNatClampNeg k)) else K l1 l2 l3 l4 (l5 + 1) M9) else some (-1, M9) := by
  unfold f_Mod_sift_49
  rw [kM_eq, kM_eq, hw, bnd_eq, show Int32.toNatClampNeg 0 = 0 from rfl, t.1]
  by_cases q : x.1 = 1
  · rw [if_pos q, if_pos q, t.2.1 (Or.inl q)]
    by_cases q2 : x.2.1 = 1
    · rw [if_pos q2, if_pos ((lgc_eq _ _).mpr q2)]
      rfl
    · rw [if_neg q2, if_neg (fun z => q2 ((lgc_eq _ _).mp z))]
      rfl
  · rw [if_neg q, if_neg q]
theorem msift_lp {M0 : ax_M} (hp : S_perm M0) (hx : S_expr M0) {i : Nat} (hi : i < 8) (hw : 0 < gI M0 188 i) {ρ : xEnv} (hr : WfR ρ.r) {s : Int32} {l : List Int32} (hl : l.length ≤ 5) :
    ∀ (rest pre kept : List Int32) (f : Nat) (M : ax_M), l = pre ++ rest → rest.length < f → kept.length ≤ pre.length → EqK XQ M0 M → (∃ it, EnvM M ρ it) → (∀ j, j < l.length → gI M (srcS s) j = l.getD j 0) → (∀ j, j < kept.length → gI M 219 j = kept.getD j 0) →
      ∃ M', EqK Fs M M' ∧ ((xSift (fun k => sl M0 i ρ (some k)) rest = none ∧ f_Mod_sift_22 f (nI i) s (nI l.length) (nI kept.length) (nI pre.length) M = some (-1, M')) ∨ ∃ r, xSift (fun k => sl M0 i ρ (some k)) rest = some r ∧ f_Mod_sift_22 f (nI i) s (nI l.length) (nI kept.length) (nI pre.length) M = some (nI (kept.length + r.length), M') ∧ kept.length + r.length ≤ 5 ∧ ∀ j, j < (kept ++ r).length → gI M' 219 j = (kept ++ r).getD j 0) := by
  intro rest
  induction rest with
  | nil =>
    intro pre kept f M hL hf hk hq hE hs h9
    obtain ⟨g, rfl⟩ : ∃ g, f = g + 1 := ⟨f - 1, by omega⟩
    have len : pre.length = l.length := by rw [hL, List.append_nil]
    refine ⟨M, EqK.rf M, Or.inr ⟨[], rfl, ?_, by simp only [List.length_nil]; omega, fun j hj => ?_⟩⟩
    · show f_Mod_sift_22_b (f_Mod_sift_22 g) (nI i) s (nI l.length) (nI kept.length) (nI pre.length) M = _
      unfold f_Mod_sift_22_b
      rw [if_pos (nI_le (by omega) (by omega))]
      rfl
    · rw [List.append_nil] at hj ⊢
      exact h9 j hj
  | cons k rest ih =>
    intro pre kept f M hL hf hk hq hE hs h9
    rw [List.length_cons] at hf
    obtain ⟨g, rfl⟩ : ∃ g, f = g + 1 := ⟨f - 1, by omega⟩
    obtain ⟨it, hE⟩ := hE
    have len : l.length = pre.length + (rest.length + 1) := by rw [hL, List.length_append, List.length_cons]
    have ek : gI M (srcS s) pre.length = k := by rw [hs _ (by omega), hL]; exact getD_mid
    have f1 : EqK Fs M (mI (mI M 184 38 1) 184 39 k) := ((EqK.rf M).mI (S := Fs) (Or.inl (Or.inr ⟨rfl, by omega⟩))).mI (Or.inl (Or.inr ⟨rfl, by omega⟩))
    have i1 : ItM (mI (mI M 184 38 1) 184 39 k) (some k) := ⟨by rw [mIk (by decide)]; exact mIs _ _ _ _, mIs _ _ _ _⟩
    obtain ⟨M9, w1, w2, w3, w4, w5⟩ := mslot_ok hp hx hi hw (hq.tr (f1.mono Fs_XQ)) hr (hE.fs f1 i1)
    have f9 : EqK Fs M M9 := f1.tr (w3.mono fun c k z => Or.inl z)
    have i9 : ItM M9 (some k) := ⟨w4.trans i1.1, w5.trans i1.2⟩
    have eq : f_Mod_sift_22 (g + 1) (nI i) s (nI l.length) (nI kept.length) (nI pre.length) M = f_Mod_sift_49 (f_Mod_sift_22 g) (nI i) s (nI l.length) (nI kept.length) (nI pre.length) k M := by
      show f_Mod_sift_22_b (f_Mod_sift_22 g) (nI i) s (nI l.length) (nI kept.length) (nI pre.length) M = _
      unfold f_Mod_sift_22_b
      unfold srcS at ek
      rw [if_neg (nI_ge (by omega) (by omega))]
      by_cases q : s = 0
      · rw [if_pos q] at ek
        rw [if_pos q, gi_nI (by omega) (by decide), nI_clamp (by omega), ek]
      · rw [if_neg q] at ek
        rw [if_neg q, gi_nI (by omega) (by decide), nI_clamp (by omega), ek]
    rw [eq, sift49 w1 w2]
    have sx : xSift (fun k => sl M0 i ρ (some k)) (k :: rest) = if (sl M0 i ρ (some k)).1 = 1 then (match xSift (fun k => sl M0 i ρ (some k)) rest with | none => none | some l => some (if (sl M0 i ρ (some k)).2.1 = 1 then k :: l else l)) else none := rfl
    rw [sx]
    have src : srcS s = 212 ∨ srcS s = 220 := by
      unfold srcS
      by_cases q : s = 0
      · exact Or.inl (if_pos q)
      · exact Or.inr (if_neg q)
    have nf : ∀ j, ¬ Fs (srcS s) j := fun j z => by unfold Fs Fq at z; omega
    generalize hx2 : sl M0 i ρ (some k) = x
    by_cases q1 : x.1 = 1
    · rw [if_pos q1, if_pos q1]
      by_cases q2 : x.2.1 = 1
      · rw [if_pos q2, gi_nI (by omega) (by decide), nI_1, nI_1, nI_clamp (by omega)]
        have f10 : EqK Fs M (mI M9 219 kept.length k) := f9.mI (Or.inr rfl)
        have h9' : ∀ j, j < (kept ++ [k]).length → gI (mI M9 219 kept.length k) 219 j = (kept ++ [k]).getD j 0 := fun j hj => by
          rw [List.length_append, List.length_singleton] at hj
          by_cases z : j = kept.length
          · rw [z, mIs, getD_mid]
          · rw [mIk z, (w3 219 j (by unfold Fq; omega)).1, mIc (by decide), mIc (by decide), getD_left (by omega)]
            exact h9 j (by omega)
        obtain ⟨M', b1, b2⟩ := ih (pre ++ [k]) (kept ++ [k]) g (mI M9 219 kept.length k) (by rw [hL, List.append_assoc]; rfl) (by omega) (by rw [List.length_append, List.length_append, List.length_singleton]; omega) (hq.tr (f10.mono Fs_XQ)) ⟨some k, hE.fs f10 ⟨(mIc (by decide)).trans i9.1, (mIc (by decide)).trans i9.2⟩⟩ (fun j hj => by rw [(f10 _ j (nf j)).1]; exact hs j hj) h9'
        rw [List.length_append, List.length_append, List.length_singleton] at b2
        refine ⟨M', f10.tr b1, ?_⟩
        rcases b2 with ⟨d1, d2⟩ | ⟨r, d1, d2, d3, d4⟩
        · exact Or.inl ⟨by rw [d1], d2⟩
        · refine Or.inr ⟨k :: r, by rw [d1]; show some (if x.2.1 = 1 then k :: r else r) = _; rw [if_pos q2], ?_, by rw [List.length_cons]; omega, ?_⟩
          · rw [d2, List.length_cons]
            congr 3
            omega
          · rw [List.append_assoc] at d4
            exact d4
      · rw [if_neg q2, nI_1]
        obtain ⟨M', b1, b2⟩ := ih (pre ++ [k]) kept g M9 (by rw [hL, List.append_assoc]; rfl) (by omega) (by rw [List.length_append, List.length_singleton]; omega) (hq.tr (f9.mono Fs_XQ)) ⟨some k, hE.fs f9 i9⟩ (fun j hj => by rw [(f9 _ j (nf j)).1]; exact hs j hj) (fun j hj => by rw [(w3 219 j (by unfold Fq; omega)).1, mIc (by decide), mIc (by decide)]; exact h9 j hj)
        rw [List.length_append, List.length_singleton] at b2
        refine ⟨M', f9.tr b1, ?_⟩
        rcases b2 with ⟨d1, d2⟩ | ⟨r, d1, d2, d3, d4⟩
        · exact Or.inl ⟨by rw [d1], d2⟩
        · exact Or.inr ⟨r, by rw [d1]; show some (if x.2.1 = 1 then k :: r else r) = _; rw [if_neg q2], d2, d3, d4⟩
    · rw [if_neg q1, if_neg q1]
      exact ⟨M9, f9, Or.inl ⟨rfl, rfl⟩⟩
theorem msift_ok {M0 M : ax_M} (hp : S_perm M0) (hx : S_expr M0) {i : Nat} (hi : i < 8) (hw : 0 < gI M0 188 i) (hq : EqK XQ M0 M) {ρ : xEnv} {it : Option Int32} (hr : WfR ρ.r) (hE : EnvM M ρ it) {s : Int32} {l : List Int32} (hl : l.length ≤ 5) (hn : (if s = 0 then gI M 184 43 else gI M 184 55) = nI l.length) (hs : ∀ j, j < l.length → gI M (srcS s) j = l.getD j 0) :
    ∃ M', EqK Fs M M' ∧ ((xSift (fun k => sl M0 i ρ (some k)) l = none ∧ f_Mod_sift (nI i) s M = some (-1, M')) ∨ ∃ r, xSift (fun k => sl M0 i ρ (some k)) l = some r ∧ f_Mod_sift (nI i) s M = some (nI r.length, M') ∧ r.length ≤ 5 ∧ ∀ j, j < r.length → gI M' 219 j = r.getD j 0) := by
  have eq : f_Mod_sift (nI i) s M = f_Mod_sift_22 64 (nI i) s (nI l.length) (nI 0) (nI 0) M := by
    unfold f_Mod_sift
    by_cases q : s = 0
    · rw [if_pos q] at hn ⊢
      rw [hn]
      rfl
    · rw [if_neg q] at hn ⊢
      rw [hn]
      rfl
  obtain ⟨M', b1, b2⟩ := msift_lp hp hx hi hw hr hl l [] [] 64 M rfl (by omega) (Nat.le_refl _) hq ⟨it, hE⟩ hs (fun j hj => absurd hj (by simp))
  rw [eq]
  refine ⟨M', b1, ?_⟩
  rcases b2 with ⟨d1, d2⟩ | ⟨r, d1, d2, d3, d4⟩
  · exact Or.inl ⟨d1, d2⟩
  · rw [List.length_nil, Nat.zero_add] at d2 d3
    exact Or.inr ⟨r, d1, d2, d3, d4⟩
