/-! The search's loop of the reference. -/
def StepH (i : Nat) (c : Nat → Int32) (ar : Nat → Int64) (m : Nat) (E : xRow) (ρ : xEnv) (q a b h d B : Nat) : Prop :=
  ∀ it M, EnvM M ρ it → CodeM M i c ar m → gI M 184 29 = nI h → gI M 184 37 = nI d → ∃ M', Runs i a b M M' B ∧ TRep M' h (evv E ρ q it) ∧ gI M' 184 29 = nI (h + 1) ∧ REq h d M M'
theorem run_again {M M' : ax_M} {i m b p : Nat} {c : Nat → Int32} {ar : Nat → Int64} (h : CodeM M i c ar m) (hb : b < m) (h19 : c b = 19) (e : f_Mod_again (nI b) (nI (48 * i)) M = some (nI p, M')) : Runs i b p M M' 1 := by
  refine ⟨1, Nat.le_refl _, fun F => ?_⟩
  rw [w_step h hb F, h19, if_neg (show ¬ (19 : Int32) < 16 by decide), if_pos (show (18 : Int32) < 19 by decide)]
  unfold f_Mod_work_61
  rw [if_pos (show (19 : Int32) = 19 from rfl), e, bnd_eq]
theorem run_begin {M M' : ax_M} {i m a p : Nat} {c : Nat → Int32} {ar : Nat → Int64} (h : CodeM M i c ar m) (ha : a < m) (h1 : ¬ c a < 16) (h2 : ¬ 18 < c a) (e : f_Mod_begin (nI a) (nI (48 * i)) M = some (nI p, M')) : Runs i a p M M' 1 := by
  refine ⟨1, Nat.le_refl _, fun F => ?_⟩
  rw [w_step h ha F, if_neg h1, if_neg h2, e, bnd_eq]
def lRes (o : Int32) (v : Int32 → xV) (kept rest : List Int32) : xV := if o = 16 then (match xSift v rest with | none => xErr | some r => xL (kept ++ r)) else xFind v rest
def ps (o : Int32) (n k : Nat) : Nat := if o = 18 then n - 1 - k else k
theorem ps_get {o : Int32} {l L pre rest : List Int32} {k : Int32} (hL : L = if o = 18 then l.reverse else l) (e : L = pre ++ k :: rest) : ps o l.length pre.length < l.length ∧ l.getD (ps o l.length pre.length) 0 = k := by
  have len : l.length = pre.length + (rest.length + 1) := by
    have e2 : L.length = pre.length + (rest.length + 1) := by rw [e, List.length_append, List.length_cons]
    rw [← e2, hL]
    by_cases q : o = 18
    · rw [if_pos q, List.length_reverse]
    · rw [if_neg q]
  have g : L.getD pre.length 0 = k := by rw [e]; exact getD_mid
  unfold ps
  by_cases q : o = 18
  · rw [if_pos q]
    rw [if_pos q] at hL
    refine ⟨by omega, ?_⟩
    rw [← g, hL, List.getD_eq_getElem?_getD, List.getD_eq_getElem?_getD, List.getElem?_reverse (by omega)]
  · rw [if_neg q]
    rw [if_neg q] at hL
    exact ⟨by omega, by rw [← hL]; exact g⟩
theorem loop_lp {i m a b h d q B : Nat} {c : Nat → Int32} {ar : Nat → Int64} {E : xRow} {ρ : xEnv} (ha : a < m) (hbm : b < m) (h19 : c b = 19) (har : ar b = lN a) (hb : h < 48) (hd : d < 16) {l L : List Int32} (hl : l.length ≤ 5) (hL : L = if c a = 18 then l.reverse else l) {s8 s9 : Int32} (h8 : s8 = 0 ∨ s8 = 1) (hS : StepH i c ar m E ρ q (a + 1) b h (d + 1) B) :
    ∀ (rest pre kept : List Int32) (k : Int32) (M : ax_M), L = pre ++ k :: rest → kept.length ≤ pre.length → EnvM M ρ (some k) → CodeM M i c ar m → gI M 184 29 = nI h → gI M 184 37 = nI (d + 1) → LoopM M d l kept (nI (ps (c a) l.length pre.length)) s8 s9 →
      ∃ M', Runs i (a + 1) (b + 1) M M' ((rest.length + 1) * (B + 1)) ∧ TRep M' h (lRes (c a) (fun k => evv E ρ q (some k)) kept (k :: rest)) ∧ gI M' 184 29 = nI (h + 1) ∧ gI M' 184 37 = nI d ∧ gI M' 184 38 = s8 ∧ gI M' 184 39 = s9 ∧ EqK (Xi h d) M M' := by
  intro rest
  induction rest with
  | nil =>
    intro pre kept k M hLe hkl hE hC hh hdd LM
    obtain ⟨p1, p2⟩ := ps_get hL hLe
    have len : l.length = pre.length + 1 := by
      have e2 : L.length = pre.length + 1 := by rw [hLe, List.length_append]; rfl
      rw [← e2, hL]
      by_cases q : c a = 18
      · rw [if_pos q, List.length_reverse]
      · rw [if_neg q]
    obtain ⟨M1, r1, t1, g1, q1⟩ := hS (some k) M hE hC hh hdd
    have L1 : LoopM M1 d l kept (nI (ps (c a) l.length pre.length)) s8 s9 := LM.kp q1.1 hl (by omega) (fun c k z => by unfold Xi Xc Xs at z; omega)
    have C1 := q1.code hC
    obtain ⟨M2, b1, b2, b3, b4, b5, b6⟩ := magain_1 C1 ha hbm har t1 g1 hb hd (q1.2.1.trans hdd) hl p1 (by omega) L1
    rw [p2] at b1 b6
    have off : f_Mod_again (nI b) (nI (48 * i)) M1 = f_Mod_again_261 (nI b) (c a) (nI d) (if (evv E ρ q (some k)).1 = 1 then 0 else 1) k (if ((evv E ρ q (some k)).1 = 1 ∧ (evv E ρ q (some k)).2.1 = 1) ∧ c a ≠ 16 then 1 else 0) M2 := by
      rw [b1]
      refine again_off hd b6 (Or.inr (Or.inr ?_))
      unfold ps
      by_cases z : c a = 18
      · rw [if_pos z, if_pos z, show l.length - 1 - pre.length = 0 by omega]
        exact Or.inl (by decide)
      · rw [if_neg z, if_neg z]
        exact Or.inr (nI_le (by omega) (by omega))
    have kl : (if ((evv E ρ q (some k)).1 = 1 ∧ (evv E ρ q (some k)).2.1 = 1) ∧ c a = 16 then kept ++ [k] else kept).length ≤ 5 := by
      split
      · rw [List.length_append, List.length_singleton]; omega
      · omega
    obtain ⟨M3, d1, d2, d3, d4, d5, d6, d7⟩ := again_261 (l1 := nI b) (l4 := c a) (l6 := if (evv E ρ q (some k)).1 = 1 then 0 else 1) (l8 := k) (l9 := if ((evv E ρ q (some k)).1 = 1 ∧ (evv E ρ q (some k)).2.1 = 1) ∧ c a ≠ 16 then 1 else 0) b3 hb hd kl h8 b4 b6
    rw [nI_1] at d1
    have r2 := run_again C1 hbm h19 (off.trans d1)
    refine ⟨M3, r1.tr r2 (by simp), ?_, d3, d4, d5, d6, ((q1.1.mono (Xi.up (Nat.le_refl _) (by omega))).tr b2).tr d7⟩
    have ev : (if (if (evv E ρ q (some k)).1 = 1 then (0 : Int32) else 1) = 0 then (if c a = 16 then xL (if ((evv E ρ q (some k)).1 = 1 ∧ (evv E ρ q (some k)).2.1 = 1) ∧ c a = 16 then kept ++ [k] else kept) else if (if ((evv E ρ q (some k)).1 = 1 ∧ (evv E ρ q (some k)).2.1 = 1) ∧ c a ≠ 16 then (1 : Int32) else 0) = 0 then xNo else xI k) else xErr) = lRes (c a) (fun k => evv E ρ q (some k)) kept [k] := by
      unfold lRes xSift xSift xFind xFind
      by_cases y1 : (evv E ρ q (some k)).1 = 1 <;> by_cases y2 : (evv E ρ q (some k)).2.1 = 1 <;> by_cases o1 : c a = 16 <;> simp [y1, y2, o1]
    rw [← ev]
    exact d2
  | cons k2 rest ih =>
    intro pre kept k M hLe hkl hE hC hh hdd LM
    obtain ⟨p1, p2⟩ := ps_get hL hLe
    have hLe2 : L = (pre ++ [k]) ++ k2 :: rest := by rw [hLe, List.append_assoc]; rfl
    obtain ⟨p3, p4⟩ := ps_get hL hLe2
    have lp : (pre ++ [k]).length = pre.length + 1 := by rw [List.length_append]; rfl
    have len : l.length = pre.length + (rest.length + 2) := by
      have e2 : L.length = pre.length + (rest.length + 2) := by rw [hLe, List.length_append]; rfl
      rw [← e2, hL]
      by_cases q : c a = 18
      · rw [if_pos q, List.length_reverse]
      · rw [if_neg q]
    obtain ⟨M1, r1, t1, g1, q1⟩ := hS (some k) M hE hC hh hdd
    have L1 : LoopM M1 d l kept (nI (ps (c a) l.length pre.length)) s8 s9 := LM.kp q1.1 hl (by omega) (fun c k z => by unfold Xi Xc Xs at z; omega)
    have C1 := q1.code hC
    obtain ⟨M2, b1, b2, b3, b4, b5, b6⟩ := magain_1 C1 ha hbm har t1 g1 hb hd (q1.2.1.trans hdd) hl p1 (by omega) L1
    rw [p2] at b1 b6
    have kl : (if ((evv E ρ q (some k)).1 = 1 ∧ (evv E ρ q (some k)).2.1 = 1) ∧ c a = 16 then kept ++ [k] else kept).length ≤ pre.length + 1 := by
      split
      · rw [List.length_append, List.length_singleton]; omega
      · omega
    by_cases go : (evv E ρ q (some k)).1 = 1 ∧ ¬ (((evv E ρ q (some k)).1 = 1 ∧ (evv E ρ q (some k)).2.1 = 1) ∧ c a ≠ 16)
    · rw [if_pos go.1, if_neg go.2] at b1
      have epos : (if c a = 18 then nI (ps (c a) l.length pre.length) - 1 else nI (ps (c a) l.length pre.length + 1)) = nI (ps (c a) l.length (pre ++ [k]).length) := by
        unfold ps
        by_cases z : c a = 18
        · rw [if_pos z, if_pos z, if_pos z, lp, show l.length - 1 - pre.length = (l.length - 1 - (pre.length + 1)) + 1 by omega]
          exact nI_m1 _
        · rw [if_neg z, if_neg z, if_neg z, lp]
      rw [epos] at b6
      rw [again_on hd hl p3 b6, p4, nI_1] at b1
      have r2 := run_again C1 hbm h19 b1
      have f2 : EqK (Xi h d) M M2 := (q1.1.mono (Xi.up (Nat.le_refl _) (by omega))).tr b2
      have f3 : EqK (Xi h d) M (mI M2 184 39 k2) := f2.mI (Or.inr ⟨rfl, by omega⟩)
      have it38 : gI (mI M2 184 39 k2) 184 38 = 1 := by
        rw [mIk (by decide), b5, q1.2.2.1]
        exact hE.2.2.2.2.2.2.2.2.1
      have E3 : EnvM (mI M2 184 39 k2) ρ (some k2) := hE.any f3 ⟨it38, mIs _ _ _ _⟩
      have C3 : CodeM (mI M2 184 39 k2) i c ar m := hC.eq (S := Xi h d) (fun c k z => by unfold Xi Xc Xs at z; omega) f3
      have L3 := b6.kp (EqK.mI (S := fun c k => c = 184 ∧ k = 39) (v := k2) (EqK.rf M2) ⟨rfl, rfl⟩) hl (by omega) (fun c k z => by omega)
      obtain ⟨M4, d1, d2, d3, d4, d5, d6, d7⟩ := ih (pre ++ [k]) _ k2 _ hLe2 (by omega) E3 C3 ((mIk (by decide)).trans b3) ((mIk (by decide)).trans b4) L3
      refine ⟨M4, (r1.tr r2 (Nat.le_refl _)).tr d1 (by rw [List.length_cons, Nat.succ_mul (rest.length + 1)]; omega), ?_, d3, d4, d5, d6, f3.tr d7⟩
      have ev : lRes (c a) (fun k => evv E ρ q (some k)) (if ((evv E ρ q (some k)).1 = 1 ∧ (evv E ρ q (some k)).2.1 = 1) ∧ c a = 16 then kept ++ [k] else kept) (k2 :: rest) = lRes (c a) (fun k => evv E ρ q (some k)) kept (k :: k2 :: rest) := by
        unfold lRes
        rw [show xSift (fun k => evv E ρ q (some k)) (k :: k2 :: rest) = if (evv E ρ q (some k)).1 = 1 then (match xSift (fun k => evv E ρ q (some k)) (k2 :: rest) with | none => none | some l => some (if (evv E ρ q (some k)).2.1 = 1 then k :: l else l)) else none from rfl, show xFind (fun k => evv E ρ q (some k)) (k :: k2 :: rest) = if (evv E ρ q (some k)).1 = 1 then (if (evv E ρ q (some k)).2.1 = 1 then xI k else xFind (fun k => evv E ρ q (some k)) (k2 :: rest)) else xErr from rfl]
        obtain ⟨y1, y2⟩ := go
        by_cases o1 : c a = 16
        · cases xSift (fun k => evv E ρ q (some k)) (k2 :: rest) with
          | none => simp [o1, y1]
          | some r => by_cases y3 : (evv E ρ q (some k)).2.1 = 1 <;> simp [o1, y1, y3]
        · have y3 : ¬ (evv E ρ q (some k)).2.1 = 1 := fun z => y2 ⟨⟨y1, z⟩, o1⟩
          simp [o1, y1, y3]
      rw [← ev]
      exact d2
    · have off : f_Mod_again (nI b) (nI (48 * i)) M1 = f_Mod_again_261 (nI b) (c a) (nI d) (if (evv E ρ q (some k)).1 = 1 then 0 else 1) k (if ((evv E ρ q (some k)).1 = 1 ∧ (evv E ρ q (some k)).2.1 = 1) ∧ c a ≠ 16 then 1 else 0) M2 := by
        rw [b1]
        refine again_off hd b6 ?_
        by_cases y1 : (evv E ρ q (some k)).1 = 1
        · have y2 : ((evv E ρ q (some k)).1 = 1 ∧ (evv E ρ q (some k)).2.1 = 1) ∧ c a ≠ 16 := Classical.not_not.mp (fun z => go ⟨y1, z⟩)
          rw [if_pos y2]
          exact Or.inr (Or.inl (by decide))
        · rw [if_neg y1]
          exact Or.inl (by decide)
      obtain ⟨M3, d1, d2, d3, d4, d5, d6, d7⟩ := again_261 (l1 := nI b) (l4 := c a) (l6 := if (evv E ρ q (some k)).1 = 1 then 0 else 1) (l8 := k) (l9 := if ((evv E ρ q (some k)).1 = 1 ∧ (evv E ρ q (some k)).2.1 = 1) ∧ c a ≠ 16 then 1 else 0) b3 hb hd (by omega) h8 b4 b6
      rw [nI_1] at d1
      have r2 := run_again C1 hbm h19 (off.trans d1)
      refine ⟨M3, (r1.tr r2 (Nat.le_refl _)).mono (by rw [List.length_cons, Nat.succ_mul (rest.length + 1)]; omega), ?_, d3, d4, d5, d6, ((q1.1.mono (Xi.up (Nat.le_refl _) (by omega))).tr b2).tr d7⟩
      have ev : (if (if (evv E ρ q (some k)).1 = 1 then (0 : Int32) else 1) = 0 then (if c a = 16 then xL (if ((evv E ρ q (some k)).1 = 1 ∧ (evv E ρ q (some k)).2.1 = 1) ∧ c a = 16 then kept ++ [k] else kept) else if (if ((evv E ρ q (some k)).1 = 1 ∧ (evv E ρ q (some k)).2.1 = 1) ∧ c a ≠ 16 then (1 : Int32) else 0) = 0 then xNo else xI k) else xErr) = lRes (c a) (fun k => evv E ρ q (some k)) kept (k :: k2 :: rest) := by
        unfold lRes
        rw [show xSift (fun k => evv E ρ q (some k)) (k :: k2 :: rest) = if (evv E ρ q (some k)).1 = 1 then (match xSift (fun k => evv E ρ q (some k)) (k2 :: rest) with | none => none | some l => some (if (evv E ρ q (some k)).2.1 = 1 then k :: l else l)) else none from rfl, show xFind (fun k => evv E ρ q (some k)) (k :: k2 :: rest) = if (evv E ρ q (some k)).1 = 1 then (if (evv E ρ q (some k)).2.1 = 1 then xI k else xFind (fun k => evv E ρ q (some k)) (k2 :: rest)) else xErr from rfl]
        by_cases y1 : (evv E ρ q (some k)).1 = 1
        · have y2 : ((evv E ρ q (some k)).1 = 1 ∧ (evv E ρ q (some k)).2.1 = 1) ∧ c a ≠ 16 := Classical.not_not.mp (fun z => go ⟨y1, z⟩)
          have y3 := y2.1.2
          have o1 := y2.2
          simp [y1, y3, o1]
        · simp [y1]
      rw [← ev]
      exact d2
