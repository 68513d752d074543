/-! The worker's parts, given that the parts before do as they should. -/
theorem EnvC.s1 {M : ax_M} {e : Nat} {E : xRow} {ρ : xEnv} {it : Option Int32} (h : EnvC M e E ρ it) (k : Nat) : gI M (e + 1) k = E.1 k := by rw [← h.er]; rfl
theorem EnvC.s2 {M : ax_M} {e : Nat} {E : xRow} {ρ : xEnv} {it : Option Int32} (h : EnvC M e E ρ it) (k : Nat) : gI M (e + 2) k = E.2.1 k := by rw [← h.er]; rfl
theorem EnvC.s3 {M : ax_M} {e : Nat} {E : xRow} {ρ : xEnv} {it : Option Int32} (h : EnvC M e E ρ it) (k : Nat) : gI M (e + 3) k = E.2.2.1 k := by rw [← h.er]; rfl
theorem EnvC.s4 {M : ax_M} {e : Nat} {E : xRow} {ρ : xEnv} {it : Option Int32} (h : EnvC M e E ρ it) (k : Nat) : gI M (e + 4) k = E.2.2.2.1 k := by rw [← h.er]; rfl
theorem EnvC.s5 {M : ax_M} {e : Nat} {E : xRow} {ρ : xEnv} {it : Option Int32} (h : EnvC M e E ρ it) (k : Nat) : gJ M (e + 5) k = E.2.2.2.2 k := by rw [← h.er]; rfl
theorem rws_wk {lo p : Nat} (hp : p < 20) : ∀ c, Rws lo p c → Wk c := fun c h => by unfold Rws at h; unfold Wk; omega
theorem rws_in {lo p lo' p' : Nat} (h1 : lo ≤ lo') (h2 : p' ≤ p) : ∀ c, Rws lo' p' c → Rws lo p c := fun c h => by unfold Rws at *; omega
theorem At.in {lo p lo' p' v : Nat} (h1 : lo ≤ lo') (h2 : p' ≤ p) (h : At lo' p' v) : At lo p v := by
  rcases h with h | h | ⟨q, a, b, c⟩
  · exact Or.inl h
  · exact Or.inr (Or.inl h)
  · exact Or.inr (Or.inr ⟨q, by omega, by omega, c⟩)
theorem VOk.in {lo p lo' p' : Nat} {M M1 : ax_M} {x : xV} {o : Option (Nat × ax_M)} (h1 : lo ≤ lo') (h2 : p' ≤ p) (hE : EqO (Rws lo p) M M1) (h : VOk lo' p' M1 x o) : VOk lo p M x o := by
  obtain ⟨v, M2, a1, a2, a3, a4⟩ := h
  exact ⟨v, M2, a1, a2, hE.tr (a3.mono (rws_in h1 h2)), a4.in h1 h2⟩
/-- a value stays while later rows change -/
theorem VRep.at {M M' : ax_M} {lo f lo' q v : Nat} {x : xV} (h : VRep M v x) (ha : At lo f v) (hf : f < lo') (hq : q < 20) (hE : EqO (Rws lo' q) M M') : VRep M' v x := by
  apply h.eq hE
  all_goals
    intro z
    unfold Rws at z
    rcases ha with a | a | ⟨k, a, b, c⟩ <;> omega
def VH (e : Nat) (E : xRow) (ρ : xEnv) (lo : Nat → Nat) (v : Int32 → Int32 → ax_M → Option (Nat × ax_M)) (p0 : Nat) : Prop :=
  ∀ q, q < p0 → ∀ ab, q < ab → ab ≤ 20 → ∀ it M, EnvC M e E ρ it → VOk (lo q) q M (evv E ρ q it) (v (nI q) (nI ab) M)
theorem logic_ok {M : ax_M} {e : Nat} {E : xRow} {ρ : xEnv} {it : Option Int32} {lo : Nat → Nat} {v : Int32 → Int32 → ax_M → Option (Nat × ax_M)} {p f q : Nat} {o a2 : Int32} (hv : VH e E ρ lo v p) (h : EnvC M e E ρ it) (hp : p < 20) (hf : f < p) (hq : q < p) (l1 : lo p ≤ lo f) (l2 : lo p ≤ lo q) (e1 : E.2.1 p = nI f) (e2 : E.2.2.1 p = nI q) (ha : (a2 = 1 ∧ o = 21) ∨ (a2 = 0 ∧ ¬ o = 21)) : VOk (lo p) p M (xLogic o (evv E ρ f it) (evv E ρ q it)) (f_Worker_valueOfLogic v (nI p) a2 M) := by
  unfold f_Worker_valueOfLogic
  rw [kM_eq, h.ex, gk_pos h.ek, gi_nI hp (by decide), nI_clamp (by omega), h.s2, e1]
  obtain ⟨v1, M1, b1, b2, b3, b4⟩ := hv f hf p hf (by omega) it M h
  have h1 := h.eq (b3.mono (rws_wk (by omega)))
  have r1 : EqO (Rws (lo p) p) M M1 := b3.mono (rws_in l1 (by omega))
  rw [b1, bnd_eq, gk_pos b2.1, is_truth b2, bnd_eq]
  unfold xLogic
  by_cases k1 : (evv E ρ f it).1 = 1
  · rw [if_pos k1, if_pos k1, if_neg (show ¬ (1 : Int32) = 0 by decide), is_true b2, bnd_eq]
    by_cases k2 : (evv E ρ f it).2.1 = 1 ↔ o = 21
    · have c : (if (evv E ρ f it).1 = 1 ∧ (evv E ρ f it).2.1 = 1 then (1 : Int32) else 0) = a2 := by
        rcases ha with ⟨z1, z2⟩ | ⟨z1, z2⟩
        · rw [if_pos ⟨k1, k2.mpr z2⟩, z1]
        · rw [if_neg (fun z => z2 (k2.mp z.2)), z1]
      rw [if_pos c, if_pos k2]
      exact ⟨v1, M1, rfl, b2, r1, b4.in l1 (by omega)⟩
    · have c : ¬ (if (evv E ρ f it).1 = 1 ∧ (evv E ρ f it).2.1 = 1 then (1 : Int32) else 0) = a2 := by
        rcases ha with ⟨z1, z2⟩ | ⟨z1, z2⟩
        · rw [if_neg (fun z => k2 ⟨fun _ => z2, fun _ => z.2⟩), z1]
          decide
        · by_cases k3 : (evv E ρ f it).2.1 = 1
          · rw [if_pos ⟨k1, k3⟩, z1]
            decide
          · exact absurd ⟨fun z => absurd z k3, fun z => absurd z z2⟩ k2
      rw [if_neg c, if_neg k2, kM_eq, h1.ex, gk_pos h.ek, h1.s3, e2]
      obtain ⟨v2, M2, c1, c2, c3, c4⟩ := hv q hq p hq (by omega) it M1 h1
      have r2 : EqO (Rws (lo p) p) M M2 := r1.tr (c3.mono (rws_in l2 (by omega)))
      rw [c1, bnd_eq, gk_pos c2.1, is_truth c2, bnd_eq]
      by_cases k4 : (evv E ρ q it).1 = 1
      · rw [if_pos k4, if_pos k4, if_neg (show ¬ (1 : Int32) = 0 by decide)]
        exact ⟨v2, M2, rfl, c2, r2, c4.in l2 (by omega)⟩
      · rw [if_neg k4, if_neg k4, if_pos (show (0 : Int32) = 0 from rfl)]
        exact VOk.err r2 (h.eq (r2.mono (rws_wk hp))).er0 rfl
  · rw [if_neg k1, if_neg k1, if_pos (show (0 : Int32) = 0 from rfl)]
    exact VOk.err r1 h1.er0 rfl
theorem choice_ok {M : ax_M} {e : Nat} {E : xRow} {ρ : xEnv} {it : Option Int32} {lo : Nat → Nat} {v : Int32 → Int32 → ax_M → Option (Nat × ax_M)} {p f q r : Nat} (hv : VH e E ρ lo v p) (h : EnvC M e E ρ it) (hp : p < 20) (hf : f < p) (hq : q < p) (hr : r < p) (l1 : lo p ≤ lo f) (l2 : lo p ≤ lo q) (l3 : lo p ≤ lo r) (e1 : E.2.1 p = nI f) (e2 : E.2.2.1 p = nI q) (e3 : E.2.2.2.1 p = nI r) : VOk (lo p) p M (xChoice (evv E ρ f it) (evv E ρ q it) (evv E ρ r it)) (f_Worker_valueOfChoice v (nI p) M) := by
  unfold f_Worker_valueOfChoice
  rw [kM_eq, h.ex, gk_pos h.ek, gi_nI hp (by decide), nI_clamp (by omega), h.s2, e1]
  obtain ⟨v1, M1, b1, b2, b3, b4⟩ := hv f hf p hf (by omega) it M h
  have h1 := h.eq (b3.mono (rws_wk (by omega)))
  have r1 : EqO (Rws (lo p) p) M M1 := b3.mono (rws_in l1 (by omega))
  rw [b1, bnd_eq, gk_pos b2.1, is_truth b2, bnd_eq]
  unfold xChoice
  by_cases k1 : (evv E ρ f it).1 = 1
  · rw [if_pos k1, if_pos k1, if_neg (show ¬ (1 : Int32) = 0 by decide), is_true b2, bnd_eq]
    by_cases k2 : (evv E ρ f it).2.1 = 1
    · rw [if_pos (show (evv E ρ f it).1 = 1 ∧ (evv E ρ f it).2.1 = 1 from ⟨k1, k2⟩), if_pos k2, if_neg (show ¬ (1 : Int32) = 0 by decide), kM_eq, h1.ex, gk_pos h.ek, h1.s3, e2, bnd_id]
      exact VOk.in l2 (by omega) r1 (hv q hq p hq (by omega) it M1 h1)
    · rw [if_neg (show ¬ ((evv E ρ f it).1 = 1 ∧ (evv E ρ f it).2.1 = 1) from fun z => k2 z.2), if_neg k2, if_pos (show (0 : Int32) = 0 from rfl), kM_eq, h1.ex, gk_pos h.ek, h1.s4, e3, bnd_id]
      exact VOk.in l3 (by omega) r1 (hv r hr p hr (by omega) it M1 h1)
  · rw [if_neg k1, if_neg k1, if_pos (show (0 : Int32) = 0 from rfl)]
    exact VOk.err r1 h1.er0 rfl
theorem ifno_ok {M : ax_M} {e : Nat} {E : xRow} {ρ : xEnv} {it : Option Int32} {lo : Nat → Nat} {v : Int32 → Int32 → ax_M → Option (Nat × ax_M)} {p f q : Nat} (hv : VH e E ρ lo v p) (h : EnvC M e E ρ it) (hp : p < 20) (hf : f < p) (hq : q < p) (l1 : lo p ≤ lo f) (l2 : lo p ≤ lo q) (e1 : E.2.1 p = nI f) (e2 : E.2.2.1 p = nI q) : VOk (lo p) p M (if (evv E ρ f it).1 = 0 then evv E ρ q it else evv E ρ f it) (f_Worker_valueOfIfNothing v (nI p) M) := by
  unfold f_Worker_valueOfIfNothing
  rw [kM_eq, h.ex, gk_pos h.ek, gi_nI hp (by decide), nI_clamp (by omega), h.s2, e1]
  obtain ⟨v1, M1, b1, b2, b3, b4⟩ := hv f hf p hf (by omega) it M h
  have h1 := h.eq (b3.mono (rws_wk (by omega)))
  have r1 : EqO (Rws (lo p) p) M M1 := b3.mono (rws_in l1 (by omega))
  rw [b1, bnd_eq, gk_pos b2.1, is_no b2, bnd_eq]
  by_cases k1 : (evv E ρ f it).1 = 0
  · rw [if_pos k1, if_pos k1, if_neg (show ¬ (1 : Int32) = 0 by decide), kM_eq, h1.ex, gk_pos h.ek, h1.s3, e2, bnd_id]
    exact VOk.in l2 (by omega) r1 (hv q hq p hq (by omega) it M1 h1)
  · rw [if_neg k1, if_neg k1, if_pos (show (0 : Int32) = 0 from rfl)]
    exact ⟨v1, M1, rfl, b2, r1, b4.in l1 (by omega)⟩
/-! a part for an item -/
theorem EnvC.item {M : ax_M} {e : Nat} {E : xRow} {ρ : xEnv} {it : Option Int32} (h : EnvC M e E ρ it) (k : Int32) : EnvC (mI (mI M 68 8 1) 68 9 k) e E ρ (some k) := by
  have eI : ∀ c, c ≠ 68 → ∀ j, gI (mI (mI M 68 8 1) 68 9 k) c j = gI M c j := fun c hc j => (mIc hc).trans (mIc hc)
  have el := h.el
  have lp := h.lp
  refine ⟨h.ex, h.ek, h.el, ?_, (eI 63 (by omega) 2).trans h.us, reach_cg (eI 63 (by omega) 3) (eI 65 (by omega)) 64 0 0 _ h.rc, h.rs, ?_, h.bv, ?_, h.lp, ?_, ⟨?_, mIs _ _ _ _⟩, ?_⟩
  · rw [rowOf.cg (M := M) (fun j hj k => ⟨eI _ (by omega) k, rfl⟩)]
    exact h.er
  · rw [mIk (by decide), mIk (by decide)]
    exact h.av
  · exact h.ll.kp (eI _ (by show gA M 68 6 ≠ 68; omega)) (eI _ (by show gA M 68 6 + 1 ≠ 68; omega))
  · have rv := h.rv
    revert rv
    generalize ρ.r = z
    intro rv
    match z, rv with
    | none, rv => exact rv
    | some x, rv => exact ⟨rv.1, rv.2.kp (eI _ (by omega)) (fun _ => rfl) (eI _ (by omega)) (eI _ (by omega))⟩
  · rw [mIk (by decide), mIs]
  · exact h.er0.kp (eI _ (by omega)) (fun _ => rfl) (eI _ (by omega)) (eI _ (by omega))
theorem ans_ok {M : ax_M} {e : Nat} {E : xRow} {ρ : xEnv} {it : Option Int32} {v : Int32 → Int32 → ax_M → Option (Nat × ax_M)} {lo q : Nat} {a b : Int32} (hq : q < 20) (hv : ∀ it M, EnvC M e E ρ it → VOk lo q M (evv E ρ q it) (v a b M)) (h : EnvC M e E ρ it) (k : Int32) : VOk lo q M (evv E ρ q (some k)) (f_Worker_answerFor v k a b M) := by
  unfold f_Worker_answerFor
  rw [kM_eq, kM_eq, kM_eq, kM_eq]
  obtain ⟨v1, M1, b1, b2, b3, b4⟩ := hv (some k) _ (h.item k)
  have g : gI M 68 8 = 0 ∨ gI M 68 8 = 1 := by
    have iv := h.iv
    match it, iv with
    | none, iv => exact Or.inl iv
    | some j, iv => exact Or.inr iv.1
  rw [b1, bnd_eq, g2_pos g, kM_eq, kM_eq]
  have o : ¬ Rws lo q 68 := fun z => by unfold Rws at z; omega
  refine ⟨v1, _, rfl, ?_, fun c hc j => ?_, b4⟩
  · have hne : ∀ c, c = v1 ∨ c = v1 + 1 ∨ c = v1 + 2 → c ≠ 68 := fun c hc => by
      rcases b4 with z | z | ⟨i, z1, z2, z3⟩ <;> omega
    exact b2.kp (fun j => (mIc (hne _ (Or.inl rfl))).trans (mIc (hne _ (Or.inl rfl)))) (fun _ => rfl) (fun j => (mIc (hne _ (Or.inr (Or.inl rfl)))).trans (mIc (hne _ (Or.inr (Or.inl rfl))))) (fun j => (mIc (hne _ (Or.inr (Or.inr rfl)))).trans (mIc (hne _ (Or.inr (Or.inr rfl)))))
  · obtain ⟨d1, d2, d3⟩ := b3 c hc j
    refine ⟨?_, d2, d3⟩
    by_cases hc8 : c = 68
    · subst hc8
      by_cases j9 : j = 9
      · subst j9
        exact mIs _ _ _ _
      · rw [mIk j9]
        by_cases j8 : j = 8
        · subst j8
          exact mIs _ _ _ _
        · rw [mIk j8, d1, mIk j9, mIk j8]
    · rw [mIc hc8, mIc hc8, d1, mIc hc8, mIc hc8]
