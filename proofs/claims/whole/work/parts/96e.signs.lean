/-! Reading: tokens, both sides: the end of a number, signs. -/
def nonneg (o : Option Int64) : Prop := ∀ v, o = some v → ∃ k, k < 9223372036854775808 ∧ v = lN k
theorem lN_big {k : Nat} (h : k < 9223372036854775808) : (lN k).toInt = (k : Int) := lg_ofNat_toInt (by omega)
theorem nonneg_step {o : Option Int64} (h : nonneg o) {j : Nat} (hj : j < 10) : nonneg (nStep o j) := by
  cases o with
  | none => exact fun v z => by cases z
  | some w =>
    obtain ⟨k, h1, h2⟩ := h w rfl
    intro v hv
    have hv : (if w ≤ lim j then some (w * 10 + lN j) else none) = some v := hv
    by_cases q : w ≤ lim j
    · rw [if_pos q] at hv
      have e := Option.some.inj hv
      rw [i64_le, lim_v, h2, lN_big h1] at q
      refine ⟨k * 10 + j, ?_, ?_⟩
      · split at q <;> omega
      · rw [← e, h2]
        show lN k * lN 10 + lN j = _
        rw [lN_mul, lN_add]
    · rw [if_neg q] at hv
      cases hv
theorem nonneg_fold {tx : Nat → Int32} : ∀ r p (o : Option Int64), (∀ j, p ≤ j → j < p + r → isD (tx j)) → nonneg o → nonneg (nFold tx p r o)
  | 0, _, _, _, h => h
  | r + 1, p, o, hD, h => by
    obtain ⟨j, j1, j2, j3⟩ := digit_v (hD p (Nat.le_refl _) (by omega))
    have dj : dig (tx p) = j := by unfold dig; rw [j3, nI_clamp (by omega)]
    show nonneg (nFold tx (p + 1) r (nStep o (dig (tx p))))
    rw [dj]
    exact nonneg_fold r (p + 1) _ (fun k a b => hD k (by omega) (by omega)) (nonneg_step h j1)
theorem c_passes {M : ax_M} {tx : Nat → Int32} {n p : Nat} (hT : TxC M tx n) (hn : n ≤ 48) (hp : p ≤ n) (h2 : gI M 3 2 = nI p) {x : Int32} (hx : ¬ x = 0) : f_Text_passes x M = if txa tx n p = x then some (1, mI M 3 2 (nI (p + 1))) else some (0, M) := by
  unfold f_Text_passes
  rw [hT.1, h2]
  by_cases q : p < n
  · rw [if_neg (nI_ge q (by omega)), gi_nI (by omega) (by decide), nI_clamp (by omega), hT.2 p q, txa_in q, kM_eq, nI_1]
  · rw [if_pos (nI_le (by omega) (by omega)), txa_out (by omega), if_neg (fun z => hx z.symm)]
def nTok (o : Option Int64) (L : Prop) [Decidable L] : Int32 := match o with | none => 1 | some v => if L then 3 else if v ≤ 2147483647 then 2 else 1
theorem lex_num {tx : Nat → Int32} {n p0 : Nat} (hn : n ≤ 48) (hp : p0 < n) (hs : isD (tx p0)) : ∃ t v p1, p0 < p1 ∧ p1 ≤ n ∧ Tk t ∧ (t = 2 → v = v.toInt32.toInt64) ∧ LexR tx n p0 t v p1 f_Text_cutNumber f_Mod_numeral := by
  obtain ⟨p1, h1, h2, h3, h4⟩ := run_ex isD tx n n p0 (by omega) (by omega)
  have h01 : p0 < p1 := by
    rcases h4 with e | ⟨e, ns⟩
    · omega
    · by_cases z : p0 = p1
      · rw [← z] at ns
        exact absurd hs ns
      · omega
  have hnn : nonneg (nFold tx p0 (p1 - p0) (some 0)) := nonneg_fold _ _ _ (fun j a b => h3 j a (by omega)) (fun v z => ⟨0, by decide, (Option.some.inj z).symm⟩)
  have ndig : ¬ isD (txa tx n p1) := by
    rcases h4 with e | ⟨e, ns⟩
    · rw [txa_out (by omega)]; decide
    · rw [txa_in e]; exact ns
  have L1 : txa tx n p1 = 76 → p1 + 1 ≤ n := fun z => by
    by_cases q : p1 < n
    · exact q
    · rw [txa_out (by omega)] at z
      exact absurd z (by decide)
  have cl : ∀ M, TxC M tx n → gI M 3 4 = nI p0 → gI M 3 2 = nI p0 → gJ M 3 5 = 0 → ∃ l M', f_Text_cutNumber M = f_Text_cutNumber_92 l M' ∧ EqK X3 M M' ∧ gI M' 3 4 = nI p0 ∧ gI M' 3 2 = nI p1 ∧ NC M' l (nFold tx p0 (p1 - p0) (some 0)) := fun M hT g4 g2 g5 => by
    obtain ⟨l, M', a1, a2, a3, a4, a5⟩ := cnum_lp hn h2 h4 (p1 - p0) 64 p0 1 (some 0) M (by omega) (by omega) h3 hT g2 ⟨rfl, g5⟩
    exact ⟨l, M', a1, a2, a3.trans g4, a4, a5⟩
  have ml : ∀ M, TxM M tx n → gI M 184 5 = nI p0 → ∃ l g f M', f_Mod_numeral M = f_Mod_numeral_4 (f + 1) l g M' ∧ EqK X5 M M' ∧ gI M' 184 5 = nI p1 ∧ NM l g (nFold tx p0 (p1 - p0) (some 0)) := fun M hT g5 => mnum_lp hn h2 (p1 - p0) 64 p0 0 0 (some 0) M (by omega) (by omega) h3 hT g5 ⟨rfl, rfl⟩
  have mend : ∀ M l g f, TxM M tx n → gI M 184 5 = nI p1 → f_Mod_numeral_4 (f + 1) l g M = if txa tx n p1 = 76 then (if g = 0 then some (2, mI (mJ M 184 6 l) 184 5 (nI (p1 + 1))) else some (0, mI (mJ M 184 6 l) 184 5 (nI (p1 + 1)))) else (if g = 0 then (if (lg_cmp l 2147483647) ≤ 0 then (some (1, mJ M 184 6 l)) else (some (0, mJ M 184 6 l))) else (some (0, mJ M 184 6 l))) := fun M l g f hT g5 => by
    have hT' : TxM (mJ M 184 6 l) tx n := hT.kp ((EqK.rf M).mJ (S := X5) ⟨rfl, Or.inr rfl⟩)
    show f_Mod_numeral_4_b (f_Mod_numeral_4 f) l g M = _
    unfold f_Mod_numeral_4_b
    rw [g5, m_digit hT hn (by omega), if_neg ndig, bnd_eq, if_pos rfl, kM_eq, show gI (mJ M 184 6 l) 184 5 = nI p1 from g5, m_at hT' hn (by omega), bnd_eq, show gI (mJ M 184 6 l) 184 5 = nI p1 from g5, kM_eq, nI_1]
  have cend : ∀ M l, TxC M tx n → gI M 3 2 = nI p1 → f_Text_cutNumber_92 l M = if txa tx n p1 = 76 then (if l = 0 then some (1, mI M 3 2 (nI (p1 + 1))) else some (3, mI M 3 2 (nI (p1 + 1)))) else (if l = 0 then some (1, M) else (if 0 < (lg_cmp (gJ M 3 5) 2147483647) then (some (1, M)) else (some (2, M)))) := fun M l hT g2 => by
    unfold f_Text_cutNumber_92
    rw [c_passes hT hn h2 g2 (show ¬ (76 : Int32) = 0 by decide)]
    by_cases q : txa tx n p1 = 76
    · rw [if_pos q, if_pos q, bnd_eq, if_neg (show ¬ (1 : Int32) = 0 by decide)]
    · rw [if_neg q, if_neg q, bnd_eq, if_pos (show (0 : Int32) = 0 from rfl)]
  have x2 : X3 3 2 := ⟨rfl, by decide⟩
  have y5 : X5 184 5 := ⟨rfl, Or.inl rfl⟩
  have y6 : X5 184 6 := ⟨rfl, Or.inr rfl⟩
  generalize nFold tx p0 (p1 - p0) (some 0) = o at hnn cl ml
  by_cases qL : txa tx n p1 = 76
  · have hp1 := L1 qL
    cases o with
    | none =>
      refine ⟨1, 0, p1 + 1, by omega, hp1, ⟨1, by decide, by decide, rfl⟩, fun z => absurd z (by decide), fun M hT g4 g2 g5 => ?_, fun M hT g5 => ?_⟩
      · obtain ⟨l, M', a1, a2, a3, a4, a5⟩ := cl M hT g4 g2 g5
        have hl : l = 0 := a5
        refine ⟨_, by rw [a1, cend M' l (hT.kp a2) a4, if_pos qL, if_pos hl], a2.mI x2, mIs _ _ _ _, (mIk (by decide)).trans a3, fun z => absurd z (by decide)⟩
      · obtain ⟨l, g, f, M', a1, a2, a3, a4⟩ := ml M hT g5
        have hg : g = 1 := a4
        refine ⟨_, by rw [a1, mend M' l g f (hT.kp a2) a3, if_pos qL, if_neg (by rw [hg]; decide)]; rfl, (a2.mJ y6).mI y5, mIs _ _ _ _, fun z => absurd z (by decide)⟩
    | some v =>
      refine ⟨3, v, p1 + 1, by omega, hp1, ⟨3, by decide, by decide, rfl⟩, fun z => absurd z (by decide), fun M hT g4 g2 g5 => ?_, fun M hT g5 => ?_⟩
      · obtain ⟨l, M', a1, a2, a3, a4, a5⟩ := cl M hT g4 g2 g5
        refine ⟨_, by rw [a1, cend M' l (hT.kp a2) a4, if_pos qL, if_neg (by rw [a5.1]; decide)], a2.mI x2, mIs _ _ _ _, (mIk (by decide)).trans a3, fun _ => a5.2⟩
      · obtain ⟨l, g, f, M', a1, a2, a3, a4⟩ := ml M hT g5
        refine ⟨_, by rw [a1, mend M' l g f (hT.kp a2) a3, if_pos qL, if_pos a4.2]; rfl, (a2.mJ y6).mI y5, mIs _ _ _ _, fun _ => ?_⟩
        rw [← a4.1]
        exact mJs M' 184 6 l
  · cases o with
    | none =>
      refine ⟨1, 0, p1, by omega, h2, ⟨1, by decide, by decide, rfl⟩, fun z => absurd z (by decide), fun M hT g4 g2 g5 => ?_, fun M hT g5 => ?_⟩
      · obtain ⟨l, M', a1, a2, a3, a4, a5⟩ := cl M hT g4 g2 g5
        have hl : l = 0 := a5
        exact ⟨M', by rw [a1, cend M' l (hT.kp a2) a4, if_neg qL, if_pos hl], a2, a4, a3, fun z => absurd z (by decide)⟩
      · obtain ⟨l, g, f, M', a1, a2, a3, a4⟩ := ml M hT g5
        have hg : g = 1 := a4
        exact ⟨mJ M' 184 6 l, by rw [a1, mend M' l g f (hT.kp a2) a3, if_neg qL, if_neg (by rw [hg]; decide)]; rfl, a2.mJ y6, a3, fun z => absurd z (by decide)⟩
    | some v =>
      by_cases qi : v ≤ 2147483647
      · obtain ⟨k, k1, k2⟩ := hnn v rfl
        have k3 : k < 2 ^ 31 := by
          rw [i64_le, k2, lN_big k1, show (2147483647 : Int64).toInt = 2147483647 by decide] at qi
          omega
        refine ⟨2, v, p1, by omega, h2, ⟨2, by decide, by decide, rfl⟩, fun _ => ?_, fun M hT g4 g2 g5 => ?_, fun M hT g5 => ?_⟩
        · rw [k2, lN_i, nI_l k3]
        · obtain ⟨l, M', a1, a2, a3, a4, a5⟩ := cl M hT g4 g2 g5
          exact ⟨M', by rw [a1, cend M' l (hT.kp a2) a4, if_neg qL, if_neg (by rw [a5.1]; decide), if_neg (fun z => by
            have z2 := (lgc_gt0 _ _).mp z
            rw [a5.2, i64_lt] at z2
            rw [i64_le] at qi
            omega)], a2, a4, a3, fun _ => a5.2⟩
        · obtain ⟨l, g, f, M', a1, a2, a3, a4⟩ := ml M hT g5
          exact ⟨mJ M' 184 6 l, by rw [a1, mend M' l g f (hT.kp a2) a3, if_neg qL, if_pos a4.2, if_pos ((lgc_le0 _ _).mpr (by rw [a4.1]; exact qi))]; rfl, a2.mJ y6, a3, fun _ => by rw [mJs, a4.1]⟩
      · refine ⟨1, 0, p1, by omega, h2, ⟨1, by decide, by decide, rfl⟩, fun z => absurd z (by decide), fun M hT g4 g2 g5 => ?_, fun M hT g5 => ?_⟩
        · obtain ⟨l, M', a1, a2, a3, a4, a5⟩ := cl M hT g4 g2 g5
          exact ⟨M', by rw [a1, cend M' l (hT.kp a2) a4, if_neg qL, if_neg (by rw [a5.1]; decide), if_pos ((lgc_gt0 _ _).mpr (by
            rw [a5.2, i64_lt]
            rw [i64_le] at qi
            omega))], a2, a4, a3, fun z => absurd z (by decide)⟩
        · obtain ⟨l, g, f, M', a1, a2, a3, a4⟩ := ml M hT g5
          exact ⟨mJ M' 184 6 l, by rw [a1, mend M' l g f (hT.kp a2) a3, if_neg qL, if_pos a4.2, if_neg (fun z => qi (by rw [← a4.1]; exact (lgc_le0 _ _).mp z))]; rfl, a2.mJ y6, a3, fun z => absurd z (by decide)⟩
