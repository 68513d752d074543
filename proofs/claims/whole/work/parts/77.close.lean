/-! The reference ends a search. -/
theorem again_fin {M : ax_M} {h d : Nat} (hd : d < 16) {l1 s8 s9 : Int32} (h8 : s8 = 0 ∨ s8 = 1) (e0 : gI M 210 d = s8) (e1 : gI M 211 d = s9) (e7 : gI M 184 37 = nI (d + 1)) {r : xV} {op : Option (Unit × ax_M)} (t : TOk h M r op) : ∃ M', bnd op (fun _ m => f_Mod_again_323 l1 (nI d) m) = some (l1 + 1, M') ∧ TRep M' h r ∧ gI M' 184 29 = nI (h + 1) ∧ gI M' 184 37 = nI d ∧ gI M' 184 38 = s8 ∧ gI M' 184 39 = s9 ∧ EqK (Xi h d) M M' := by
  obtain ⟨M2, b1, b2, b3, b4⟩ := t
  have k : ∀ c k, ¬ Xs h c k → gI M2 c k = gI M c k := fun c k hc => (b4 c k hc).1
  have f0 : gI M2 210 d = s8 := (k 210 d (by unfold Xs; omega)).trans e0
  have f1 : gI M2 211 d = s9 := (k 211 d (by unfold Xs; omega)).trans e1
  have f7 : gI M2 184 37 = nI (d + 1) := (k 184 37 (by unfold Xs; omega)).trans e7
  refine ⟨mI (mI (mI M2 184 38 s8) 184 39 s9) 184 37 (nI d), ?_, ?_, ?_, mIs _ _ _ _, ?_, ?_, ?_⟩
  · rw [b1, bnd_eq]
    exact again_323 hd h8 f0 f1 f7
  · refine ⟨?_, b2.2.1, fun q => ⟨(b2.2.2 q).1, (b2.2.2 q).2.1, fun j hj => ?_⟩⟩
    · rw [mIc (by decide), mIc (by decide), mIc (by decide)]
      exact b2.1
    · rw [mIc (by decide), mIc (by decide), mIc (by decide)]
      exact (b2.2.2 q).2.2 j hj
  · rw [mIk (by decide), mIk (by decide), mIk (by decide)]
    exact b3
  · rw [mIk (by decide), mIk (by decide), mIs]
  · rw [mIk (by decide), mIs]
  · have x184 : ∀ k, k = 37 ∨ k = 38 ∨ k = 39 → Xi h d 184 k := fun k hk => Or.inr ⟨rfl, hk⟩
    have b5 : EqK (Xi h d) M M2 := b4.mono fun c k hc => Or.inl (Or.inl hc)
    exact ((b5.mI (x184 38 (by omega))).mI (x184 39 (by omega))).mI (x184 37 (by omega))
theorem again_261 {M : ax_M} {h d : Nat} (hh : gI M 184 29 = nI h) (hb : h < 48) (hd : d < 16) {l kept : List Int32} {pos l1 l4 l6 l8 l9 s8 s9 : Int32} (hk : kept.length ≤ 5) (h8 : s8 = 0 ∨ s8 = 1) (e7 : gI M 184 37 = nI (d + 1)) (L : LoopM M d l kept pos s8 s9) : ∃ M', f_Mod_again_261 l1 l4 (nI d) l6 l8 l9 M = some (l1 + 1, M') ∧ TRep M' h (if l6 = 0 then (if l4 = 16 then xL kept else if l9 = 0 then xNo else xI l8) else xErr) ∧ gI M' 184 29 = nI (h + 1) ∧ gI M' 184 37 = nI d ∧ gI M' 184 38 = s8 ∧ gI M' 184 39 = s9 ∧ EqK (Xi h d) M M' := by
  obtain ⟨a1, a2, a3, a4, a5, a6, a7⟩ := L
  unfold f_Mod_again_261
  by_cases q6 : l6 = 0
  · rw [if_pos q6, if_pos q6]
    by_cases q4 : l4 = 16
    · rw [if_pos q4, if_pos q4, gi_nI hd (by decide), nI_clamp (by omega), a4]
      refine again_fin hd h8 a6 a7 e7 (items_ok (s := 2) hb hk hh (Or.inr (Or.inr ⟨rfl, d, hd, e7⟩)) (fun q hq => ?_))
      unfold srcI
      rw [if_neg (by decide), if_neg (by decide), e7, nI_m1, nI_clamp (by omega)]
      exact a5 q hq
    · rw [if_neg q4, if_neg q4]
      by_cases q9 : l9 = 0
      · rw [if_pos q9, if_pos q9, if_pos q9]
        exact again_fin hd h8 a6 a7 e7 (push_num hh hb 0 (by decide))
      · rw [if_neg q9, if_neg q9, if_neg q9]
        exact again_fin hd h8 a6 a7 e7 (push_num hh hb _ (by decide))
  · rw [if_neg q6, if_neg q6]
    exact again_fin hd h8 a6 a7 e7 (push_any hh hb 0 rfl (Or.inl rfl))
/-- what stays while a part is worked out from the height h at the depth d -/
def REq (h d : Nat) (M M' : ax_M) : Prop := EqK (Xi h d) M M' ∧ gI M' 184 37 = gI M 184 37 ∧ gI M' 184 38 = gI M 184 38 ∧ gI M' 184 39 = gI M 184 39
theorem REq.rf {h d : Nat} (M : ax_M) : REq h d M M := ⟨EqK.rf M, rfl, rfl, rfl⟩
theorem REq.tr {h d : Nat} {M M' M'' : ax_M} (a : REq h d M M') (b : REq h d M' M'') : REq h d M M'' := ⟨a.1.tr b.1, b.2.1.trans a.2.1, b.2.2.1.trans a.2.2.1, b.2.2.2.trans a.2.2.2⟩
theorem Xi.up {h d h' d' : Nat} (hh : h ≤ h') (hd : d ≤ d') : ∀ c k, Xi h' d' c k → Xi h d c k := fun c k q => by
  unfold Xi Xc Xs at *
  omega
theorem REq.up {h d h' d' : Nat} {M M' : ax_M} (hh : h ≤ h') (hd : d ≤ d') (a : REq h' d' M M') : REq h d M M' := ⟨a.1.mono (Xi.up hh hd), a.2⟩
theorem REq.ofs {h d : Nat} {M M' : ax_M} (a : EqK (Xs h) M M') : REq h d M M' :=
  ⟨a.mono fun c k q => Or.inl (Or.inl q), (a 184 37 (by unfold Xs; omega)).1, (a 184 38 (by unfold Xs; omega)).1, (a 184 39 (by unfold Xs; omega)).1⟩
theorem REq.trep {h d k : Nat} {M M' : ax_M} {x : xV} (a : REq h d M M') (t : TRep M k x) (hk : k < h) : TRep M' k x :=
  t.kp hk (S := Xi h d) (fun c j q hc => by unfold Xi Xc at q; unfold Xs at *; omega) a.1
theorem REq.code {h d : Nat} {M M' : ax_M} {i m : Nat} {c : Nat → Int32} {ar : Nat → Int64} (a : REq h d M M') (t : CodeM M i c ar m) : CodeM M' i c ar m :=
  t.eq (S := Xi h d) (fun c k q => by unfold Xi Xc Xs at q; omega) a.1
theorem EnvM.it {M : ax_M} {ρ : xEnv} {it it' : Option Int32} (h : EnvM M ρ it) (g : ItM M it') : EnvM M ρ it' := ⟨h.1, h.2.1, h.2.2.1, h.2.2.2.1, h.2.2.2.2.1, h.2.2.2.2.2.1, h.2.2.2.2.2.2.1, h.2.2.2.2.2.2.2.1, g⟩
theorem EnvM.any {M M' : ax_M} {ρ : xEnv} {it it' : Option Int32} {h d : Nat} (e : EnvM M ρ it) (hE : EqK (Xi h d) M M') (g : ItM M' it') : EnvM M' ρ it' := by
  have w : ∀ c k, (c < 202 ∨ 211 < c) → (c ≠ 184 ∨ (k ≠ 29 ∧ k ≠ 37 ∧ k ≠ 38 ∧ k ≠ 39)) → ¬ Xi h d c k := fun c k h1 h2 q => by unfold Xi Xc Xs at q; omega
  have eI : ∀ c k, (c < 202 ∨ 211 < c) → (c ≠ 184 ∨ (k ≠ 29 ∧ k ≠ 37 ∧ k ≠ 38 ∧ k ≠ 39)) → gI M' c k = gI M c k := fun c k h1 h2 => (hE c k (w c k h1 h2)).1
  have eJ : ∀ c k, (c < 202 ∨ 211 < c) → (c ≠ 184 ∨ (k ≠ 29 ∧ k ≠ 37 ∧ k ≠ 38 ∧ k ≠ 39)) → gJ M' c k = gJ M c k := fun c k h1 h2 => (hE c k (w c k h1 h2)).2.1
  obtain ⟨⟨a1, a2⟩, ⟨D, S, b1, b2, b3, b4⟩, c1, c2, d1, d2, ⟨e1, e2, e3⟩, rv, iv⟩ := e
  refine ⟨⟨(eI 184 13 (by omega) (by omega)).trans a1, a2⟩, ⟨D, S, fun k hk => ⟨(b1 k hk).1, (eI 191 k (by omega) (by omega)).trans (b1 k hk).2⟩, (eI 184 14 (by omega) (by omega)).trans b2, b3, b4⟩, c1, c2, (eI 184 40 (by omega) (by omega)).trans d1, (eJ 184 41 (by omega) (by omega)).trans d2, ⟨(eI 184 43 (by omega) (by omega)).trans e1, e2, fun j hj => (eI 212 j (by omega) (by omega)).trans (e3 j hj)⟩, ?_, g⟩
  revert rv
  generalize ρ.r = z
  intro rv
  match z, rv with
  | none, rv => exact (eI 184 44 (by omega) (by omega)).trans rv
  | some x, rv => exact ⟨(eI 184 44 (by omega) (by omega)).trans rv.1, fun q => ⟨(eI 184 45 (by omega) (by omega)).trans (rv.2.1 q).1, (rv.2.1 q).2.1, fun j hj => (eI 213 j (by omega) (by omega)).trans ((rv.2.1 q).2.2 j hj)⟩, fun q => by rw [eI 184 45 (by omega) (by omega)]; exact rv.2.2 q⟩
theorem REq.env {h d : Nat} {M M' : ax_M} {ρ : xEnv} {it : Option Int32} (a : REq h d M M') (e : EnvM M ρ it) : EnvM M' ρ it := by
  refine e.any a.1 ?_
  have iv := e.2.2.2.2.2.2.2.2
  match it, iv with
  | none, iv => exact a.2.2.1.trans iv
  | some k, iv => exact ⟨a.2.2.1.trans iv.1, a.2.2.2.trans iv.2⟩
