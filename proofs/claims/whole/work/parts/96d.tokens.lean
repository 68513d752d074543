/-! Reading: tokens, both sides: words and numbers. -/
def tokM (t : Int32) : Int32 := if t = 1 then 0 else if t ≤ 14 then t - 1 else if t ≤ 19 then t + 45 else if t = 20 then 65 else if t ≤ 33 then t + 1 else if t = 34 then 21 else if t = 35 then 67 else if t = 36 then 66 else if t = 37 then 36 else t - 22
def LexR (tx : Nat → Int32) (n p0 : Nat) (t : Int32) (v : Int64) (p1 : Nat) (fC fM : ax_M → Option (Int32 × ax_M)) : Prop :=
  (∀ M, TxC M tx n → gI M 3 4 = nI p0 → gI M 3 2 = nI p0 → gJ M 3 5 = 0 → ∃ M', fC M = some (t, M') ∧ EqK X3 M M' ∧ gI M' 3 2 = nI p1 ∧ gI M' 3 4 = nI p0 ∧ (t = 2 ∨ t = 3 → gJ M' 3 5 = v)) ∧
  (∀ M, TxM M tx n → gI M 184 5 = nI p0 → ∃ M', fM M = some (tokM t, M') ∧ EqK X5 M M' ∧ gI M' 184 5 = nI p1 ∧ (t = 2 ∨ t = 3 → gJ M' 184 6 = v))
def Tk (t : Int32) : Prop := ∃ j, 1 ≤ j ∧ j ≤ 40 ∧ t = nI j
theorem small_v {c : Int32} (h : isS c) : ∃ v, 1 ≤ v ∧ v ≤ 26 ∧ c = nI (96 + v) := by
  obtain ⟨j, hj, e⟩ := nI_of2 (x := c) (M := 122) (n := 122) (by decide) (fun z => h.1 (Int32.lt_trans z (by decide))) (Int32.not_lt.mp h.2)
  have h97 : ¬ j < 97 := fun z => h.1 (by rw [e]; exact nI_lt (b := 97) z (by decide))
  exact ⟨j - 96, by omega, by omega, by rw [e]; congr 1; omega⟩
theorem wl_ex {tx : Nat → Int32} {p0 : Nat} : ∀ k, (∀ j, p0 ≤ j → j < p0 + k → isS (tx j)) → ∃ rv, WLr tx p0 rv ∧ rv.length = k
  | 0, _ => ⟨[], trivial, rfl⟩
  | k + 1, h => by
    obtain ⟨rv, h1, h2⟩ := wl_ex k (fun j a b => h j a (by omega))
    obtain ⟨v, v1, v2, v3⟩ := small_v (h (p0 + k) (by omega) (by omega))
    exact ⟨v :: rv, ⟨by rw [h2]; exact v3, v1, v2, h1⟩, by rw [List.length_cons, h2]⟩
theorem word_tok (rv : List Nat) : (if rv.length ≤ 5 then mw4 rv else 0) = tokM (cw rv) := by
  by_cases q0 : rv = [1]
  · subst q0; decide
  by_cases q1 : rv = [2]
  · subst q1; decide
  by_cases q2 : rv = [5, 13]
  · subst q2; decide
  by_cases q3 : rv = [20, 9]
  · subst q3; decide
  by_cases q4 : rv = [20, 5, 18]
  · subst q4; decide
  by_cases q5 : rv = [5, 21, 18, 20]
  · subst q5; decide
  by_cases q6 : rv = [5, 19, 12, 1, 6]
  · subst q6; decide
  by_cases q7 : rv = [12, 12, 21, 14]
  · subst q7; decide
  by_cases q8 : rv = [20, 19, 9, 12]
  · subst q8; decide
  by_cases q9 : rv = [5, 12, 15, 18]
  · subst q9; decide
  by_cases q10 : rv = [5, 26, 9, 19]
  · subst q10; decide
  have e : cw rv = 1 := by
    unfold cw cwSh cwLo
    rw [if_neg q0, if_neg q1, if_neg q2, if_neg q3, if_neg q4, if_neg q5, if_neg q6, if_neg q7, if_neg q8, if_neg q9, if_neg q10]
    split <;> rfl
  have e2 : mw4 rv = 0 := by
    unfold mw4 mw146 mw206
    rw [if_neg q0, if_neg q1, if_neg q2, if_neg q3, if_neg q4, if_neg q5, if_neg q6, if_neg q7, if_neg q8, if_neg q9, if_neg q10]
  rw [e, e2]
  split <;> rfl
theorem cw_tk (rv : List Nat) : Tk (cw rv) ∧ ¬ cw rv = 2 ∧ ¬ cw rv = 3 := by
  unfold cw cwSh cwLo
  repeat' split
  all_goals first
    | exact ⟨⟨1, by decide, by decide, rfl⟩, by decide, by decide⟩
    | exact ⟨⟨4, by decide, by decide, rfl⟩, by decide, by decide⟩
    | exact ⟨⟨5, by decide, by decide, rfl⟩, by decide, by decide⟩
    | exact ⟨⟨6, by decide, by decide, rfl⟩, by decide, by decide⟩
    | exact ⟨⟨7, by decide, by decide, rfl⟩, by decide, by decide⟩
    | exact ⟨⟨8, by decide, by decide, rfl⟩, by decide, by decide⟩
    | exact ⟨⟨9, by decide, by decide, rfl⟩, by decide, by decide⟩
    | exact ⟨⟨10, by decide, by decide, rfl⟩, by decide, by decide⟩
    | exact ⟨⟨11, by decide, by decide, rfl⟩, by decide, by decide⟩
    | exact ⟨⟨12, by decide, by decide, rfl⟩, by decide, by decide⟩
    | exact ⟨⟨13, by decide, by decide, rfl⟩, by decide, by decide⟩
    | exact ⟨⟨14, by decide, by decide, rfl⟩, by decide, by decide⟩
theorem lex_word {tx : Nat → Int32} {n p0 : Nat} (hn : n ≤ 48) (hp : p0 < n) (hs : isS (tx p0)) : ∃ t v p1, p0 < p1 ∧ p1 ≤ n ∧ Tk t ∧ (t = 2 → v = v.toInt32.toInt64) ∧ LexR tx n p0 t v p1 f_Text_cutWord f_Mod_word := by
  obtain ⟨p1, h1, h2, h3, h4⟩ := run_ex isS tx n n p0 (by omega) (by omega)
  have h01 : p0 < p1 := by
    rcases h4 with e | ⟨e, ns⟩
    · omega
    · by_cases z : p0 = p1
      · rw [← z] at ns
        exact absurd hs ns
      · omega
  obtain ⟨rv, w1, w2⟩ := wl_ex (tx := tx) (p0 := p0) (p1 - p0) (fun j a b => h3 j a (by omega))
  obtain ⟨k1, k2, k3⟩ := cw_tk rv
  refine ⟨cw rv, 0, p1, h01, h2, k1, fun z => absurd z k2, fun M hT g4 g2 g5 => ?_, fun M hT g5 => ?_⟩
  · obtain ⟨M', a1, a2, a3⟩ := cutWord_lp hn h2 h3 h4 w1 w2 (p1 - p0) 65 p0 M (by omega) (Nat.le_refl _) (by omega) hT g4 g2
    refine ⟨M', by rw [cutWord_eq]; exact a1, a2.mono fun c k z => by unfold X3; omega, a3, (a2 3 4 (by omega)).1.trans g4, fun z => ?_⟩
    rcases z with z | z
    · exact absurd z k2
    · exact absurd z k3
  · obtain ⟨M', a1, a2, a3⟩ := mword_lp hn h2 h4 w1 w2 (by omega) (p1 - p0) 64 [] M (by rw [List.length_nil]; omega) (by omega) ⟨rv, by rw [List.append_nil], w2⟩ hT g5
    rw [word_tok] at a1
    refine ⟨M', a1, a2, a3, fun z => ?_⟩
    rcases z with z | z
    · exact absurd z k2
    · exact absurd z k3
/-! numbers -/
theorem digit_v {c : Int32} (h : isD c) : ∃ j, j < 10 ∧ c = nI (48 + j) ∧ c - 48 = nI j := by
  obtain ⟨j, hj, e⟩ := nI_of2 (x := c) (M := 57) (n := 57) (by decide) (fun z => h.1 (Int32.lt_trans z (by decide))) (Int32.not_lt.mp h.2)
  have h48 : ¬ j < 48 := fun z => h.1 (by rw [e]; exact nI_lt (b := 48) z (by decide))
  refine ⟨j - 48, by omega, by rw [e]; congr 1; omega, ?_⟩
  rw [e]
  show nI j - nI 48 = _
  rw [nI_sub (by omega)]
def lim (j : Nat) : Int64 := if j ≤ 7 then 922337203685477580 else 922337203685477579
def nStep (o : Option Int64) (j : Nat) : Option Int64 := match o with | none => none | some v => if v ≤ lim j then some (v * 10 + lN j) else none
def dig (c : Int32) : Nat := (c - 48).toNatClampNeg
def nFold (tx : Nat → Int32) : Nat → Nat → Option Int64 → Option Int64
  | _, 0, o => o
  | p, r + 1, o => nFold tx (p + 1) r (nStep o (dig (tx p)))
theorem lim_eq : ∀ j, j < 10 → ((9223372036854775807 : Int64) - lN j) / 10 = lim j := by decide
def NC (M : ax_M) (l : Int32) : Option Int64 → Prop
  | none => l = 0
  | some v => l = 1 ∧ gJ M 3 5 = v
theorem cnum_lp {tx : Nat → Int32} {n p1 : Nat} (hn : n ≤ 48) (h1n : p1 ≤ n) (hE : p1 = n ∨ (p1 < n ∧ ¬ isD (tx p1))) : ∀ (r f p : Nat) (l : Int32) (o : Option Int64) (M : ax_M), p + r = p1 → r < f → (∀ j, p ≤ j → j < p1 → isD (tx j)) → TxC M tx n → gI M 3 2 = nI p → NC M l o → ∃ l' M', f_Text_cutNumber_2 f l M = f_Text_cutNumber_92 l' M' ∧ EqK X3 M M' ∧ gI M' 3 4 = gI M 3 4 ∧ gI M' 3 2 = nI p1 ∧ NC M' l' (nFold tx p r o) := by
  intro r
  induction r with
  | zero =>
    intro f p l o M hp hf hD hT h2 hN
    obtain ⟨g, rfl⟩ : ∃ g, f = g + 1 := ⟨f - 1, by omega⟩
    have hp : p = p1 := by omega
    rw [hp] at h2
    refine ⟨l, M, ?_, EqK.rf M, rfl, h2, hN⟩
    show f_Text_cutNumber_2_b (f_Text_cutNumber_2 g) l M = _
    unfold f_Text_cutNumber_2_b
    rcases hE with e | ⟨e, ns⟩
    · rw [if_pos (show gI M 3 1 ≤ gI M 3 2 by rw [hT.1, h2]; exact nI_le (by omega) (by omega))]
    · rw [if_neg (show ¬ gI M 3 1 ≤ gI M 3 2 by rw [hT.1, h2]; exact nI_ge e (by omega)), h2, gi_nI (by omega) (by decide), nI_clamp (by omega), hT.2 p1 e, c_digit, if_neg ns, bnd_eq, if_pos rfl]
  | succ r ih =>
    intro f p l o M hp hf hD hT h2 hN
    obtain ⟨g, rfl⟩ : ∃ g, f = g + 1 := ⟨f - 1, by omega⟩
    obtain ⟨j, j1, j2, j3⟩ := digit_v (hD p (by omega) (by omega))
    have dj : dig (tx p) = j := by unfold dig; rw [j3, nI_clamp (by omega)]
    have st : f_Text_cutNumber_2 (g + 1) l M = if gJ M 3 5 ≤ lim j then f_Text_cutNumber_2 g l (mI (mJ M 3 5 (gJ M 3 5 * 10 + lN j)) 3 2 (nI (p + 1))) else f_Text_cutNumber_2 g 0 (mI M 3 2 (nI (p + 1))) := by
      show f_Text_cutNumber_2_b (f_Text_cutNumber_2 g) l M = _
      unfold f_Text_cutNumber_2_b
      rw [if_neg (show ¬ gI M 3 1 ≤ gI M 3 2 by rw [hT.1, h2]; exact nI_ge (by omega) (by omega)), h2, gi_nI (by omega) (by decide), nI_clamp (by omega), hT.2 p (by omega), c_digit, if_pos (hD p (by omega) (by omega)), bnd_eq, if_neg (show ¬ (1 : Int32) = 0 by decide), h2, gi_nI (by omega) (by decide), nI_clamp (by omega), hT.2 p (by omega), kM_eq, j3, nI_l (by omega), lim_eq j j1]
      by_cases q : gJ M 3 5 ≤ lim j
      · rw [if_pos q, if_pos ((lgc_le0 _ _).mpr q), kM_eq, show gI (mJ M 3 5 (gJ M 3 5 * 10 + lN j)) 3 2 = nI p from h2, nI_1, kM_eq]
      · rw [if_neg q, if_neg (fun z => q ((lgc_le0 _ _).mp z)), nI_1, kM_eq]
    have x2 : X3 3 2 := ⟨rfl, by decide⟩
    have x5 : X3 3 5 := ⟨rfl, by decide⟩
    have e1 : EqK X3 M (mI (mJ M 3 5 (gJ M 3 5 * 10 + lN j)) 3 2 (nI (p + 1))) := ((EqK.rf M).mJ x5).mI x2
    have e2 : EqK X3 M (mI M 3 2 (nI (p + 1))) := (EqK.rf M).mI x2
    show ∃ l' M', f_Text_cutNumber_2 (g + 1) l M = f_Text_cutNumber_92 l' M' ∧ EqK X3 M M' ∧ gI M' 3 4 = gI M 3 4 ∧ gI M' 3 2 = nI p1 ∧ NC M' l' (nFold tx (p + 1) r (nStep o (dig (tx p))))
    rw [st, dj]
    by_cases q : gJ M 3 5 ≤ lim j
    · rw [if_pos q]
      have hN' : NC (mI (mJ M 3 5 (gJ M 3 5 * 10 + lN j)) 3 2 (nI (p + 1))) l (nStep o j) := by
        cases o with
        | none => exact hN
        | some v =>
          obtain ⟨n1, n2⟩ := hN
          rw [n2] at q
          show NC _ l (if v ≤ lim j then some (v * 10 + lN j) else none)
          rw [if_pos q]
          exact ⟨n1, by rw [← n2]; exact mJs M 3 5 _⟩
      obtain ⟨l', M', a1, a2, a3, a4, a5⟩ := ih g (p + 1) l (nStep o j) _ (by omega) (by omega) (fun k x y => hD k (by omega) y) (hT.kp e1) (mIs _ _ _ _) hN'
      exact ⟨l', M', a1, e1.tr a2, a3.trans (mIk (by decide)), a4, a5⟩
    · rw [if_neg q]
      have hN' : NC (mI M 3 2 (nI (p + 1))) 0 (nStep o j) := by
        cases o with
        | none => rfl
        | some v =>
          obtain ⟨n1, n2⟩ := hN
          rw [n2] at q
          show NC _ 0 (if v ≤ lim j then some (v * 10 + lN j) else none)
          rw [if_neg q]
          rfl
      obtain ⟨l', M', a1, a2, a3, a4, a5⟩ := ih g (p + 1) 0 (nStep o j) _ (by omega) (by omega) (fun k x y => hD k (by omega) y) (hT.kp e2) (mIs _ _ _ _) hN'
      exact ⟨l', M', a1, e2.tr a2, a3.trans (mIk (by decide)), a4, a5⟩
def NM (l : Int64) (g : Int32) : Option Int64 → Prop
  | none => g = 1
  | some v => l = v ∧ g = 0
theorem i64_le {a b : Int64} : a ≤ b ↔ a.toInt ≤ b.toInt := Int64.le_iff_toInt_le
theorem i64_lt {a b : Int64} : a < b ↔ a.toInt < b.toInt := Int64.lt_iff_toInt_lt
theorem lim_v (j : Nat) : (lim j).toInt = if j ≤ 7 then 922337203685477580 else 922337203685477579 := by
  unfold lim
  split
  · decide
  · decide
theorem mnum_st {K : Int64 → Int32 → ax_M → Option (Int32 × ax_M)} {M : ax_M} {l : Int64} {g : Int32} {o : Option Int64} (hN : NM l g o) {j : Nat} (hj : j < 10) : ∃ l' g', NM l' g' (nStep o j) ∧ (if g = 0 then (if 0 < (lg_cmp l 922337203685477580) then (f_Mod_numeral_60 K l (nI j) 1 M) else (if (lg_cmp l 922337203685477580) = 0 then (if nI j ≤ 7 then (f_Mod_numeral_60 K l (nI j) 0 M) else (f_Mod_numeral_60 K l (nI j) 1 M)) else (f_Mod_numeral_60 K l (nI j) 0 M))) else (f_Mod_numeral_60 K l (nI j) 1 M)) = K l' g' (mI M 184 5 (gI M 184 5 + 1)) := by
  have big : f_Mod_numeral_60 K l (nI j) 1 M = K 0 1 (mI M 184 5 (gI M 184 5 + 1)) := by
    unfold f_Mod_numeral_60
    rw [if_neg (by decide), kM_eq]
  have ok : f_Mod_numeral_60 K l (nI j) 0 M = K (l * 10 + lN j) 0 (mI M 184 5 (gI M 184 5 + 1)) := by
    unfold f_Mod_numeral_60
    rw [if_pos rfl, kM_eq, kM_eq, nI_l (by omega), Int64.mul_comm]
  rw [big, ok]
  cases o with
  | none =>
    have hg : g = 1 := hN
    rw [hg, if_neg (by decide)]
    exact ⟨0, 1, rfl, rfl⟩
  | some v =>
    obtain ⟨n1, n2⟩ := hN
    subst n1
    rw [n2, if_pos rfl]
    show ∃ l' g', NM l' g' (if l ≤ lim j then some (l * 10 + lN j) else none) ∧ _
    have lv := lim_v j
    have ey : (922337203685477580 : Int64).toInt = 922337203685477580 := by decide
    by_cases q1 : (922337203685477580 : Int64) < l
    · rw [if_pos ((lgc_gt0 _ _).mpr q1), if_neg (fun z => by
        rw [i64_le, lv] at z
        rw [i64_lt, ey] at q1
        split at z <;> omega)]
      exact ⟨0, 1, rfl, rfl⟩
    · rw [if_neg (fun z => q1 ((lgc_gt0 _ _).mp z))]
      by_cases q2 : l = 922337203685477580
      · rw [if_pos ((lgc_eq _ _).mpr q2)]
        by_cases q3 : j ≤ 7
        · rw [if_pos (show nI j ≤ 7 from nI_le (b := 7) q3 (by decide)), if_pos (by rw [i64_le, lv, if_pos q3, q2, ey]; omega)]
          exact ⟨_, 0, ⟨rfl, rfl⟩, rfl⟩
        · rw [if_neg (show ¬ nI j ≤ 7 from nI_ge (a := 7) (by omega) (by omega)), if_neg (fun z => by
            rw [i64_le, lv, if_neg q3, q2, ey] at z
            omega)]
          exact ⟨0, 1, rfl, rfl⟩
      · rw [if_neg (fun z => q2 ((lgc_eq _ _).mp z)), if_pos (by
          have q4 : l.toInt ≠ 922337203685477580 := fun z => q2 (Int64.toInt_inj.mp (z.trans ey.symm))
          rw [i64_lt, ey] at q1
          rw [i64_le, lv]
          split <;> omega)]
        exact ⟨_, 0, ⟨rfl, rfl⟩, rfl⟩
theorem mnum_lp {tx : Nat → Int32} {n p1 : Nat} (hn : n ≤ 48) (h1n : p1 ≤ n) : ∀ (r f p : Nat) (l : Int64) (g : Int32) (o : Option Int64) (M : ax_M), p + r = p1 → r < f → (∀ j, p ≤ j → j < p1 → isD (tx j)) → TxM M tx n → gI M 184 5 = nI p → NM l g o → ∃ l' g' f' M', f_Mod_numeral_4 f l g M = f_Mod_numeral_4 (f' + 1) l' g' M' ∧ EqK X5 M M' ∧ gI M' 184 5 = nI p1 ∧ NM l' g' (nFold tx p r o) := by
  intro r
  induction r with
  | zero =>
    intro f p l g o M hp hf hD hT h5 hN
    obtain ⟨k, rfl⟩ : ∃ k, f = k + 1 := ⟨f - 1, by omega⟩
    have hp : p = p1 := by omega
    rw [hp] at h5
    exact ⟨l, g, k, M, rfl, EqK.rf M, h5, hN⟩
  | succ r ih =>
    intro f p l g o M hp hf hD hT h5 hN
    obtain ⟨k, rfl⟩ : ∃ k, f = k + 1 := ⟨f - 1, by omega⟩
    have hd := hD p (by omega) (by omega)
    obtain ⟨j, j1, j2, j3⟩ := digit_v hd
    have dj : dig (tx p) = j := by unfold dig; rw [j3, nI_clamp (by omega)]
    obtain ⟨l', g', n1, n2⟩ := mnum_st (K := f_Mod_numeral_4 k) (M := M) hN j1
    have e1 : EqK X5 M (mI M 184 5 (gI M 184 5 + 1)) := (EqK.rf M).mI ⟨rfl, Or.inl rfl⟩
    obtain ⟨l2, g2, f2, M2, a1, a2, a3, a4⟩ := ih k (p + 1) l' g' (nStep o j) (mI M 184 5 (gI M 184 5 + 1)) (by omega) (by omega) (fun k x y => hD k (by omega) y) (hT.kp e1) (by rw [mIs, h5, nI_1]) n1
    refine ⟨l2, g2, f2, M2, ?_, e1.tr a2, a3, by show NM l2 g2 (nFold tx (p + 1) r (nStep o (dig (tx p)))); rw [dj]; exact a4⟩
    rw [← a1, ← n2]
    show f_Mod_numeral_4_b (f_Mod_numeral_4 k) l g M = _
    unfold f_Mod_numeral_4_b
    rw [h5, m_digit hT hn (by omega), txa_in (by omega), if_pos hd, bnd_eq, if_neg (show ¬ (1 : Int32) = 0 by decide), h5, m_at hT hn (by omega), txa_in (by omega), bnd_eq, kM_eq, j3]
