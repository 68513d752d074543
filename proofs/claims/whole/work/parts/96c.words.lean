/-! Reading: words, both sides. -/
theorem nI_sub {a b : Nat} (h : b ≤ a) : nI a - nI b = nI (a - b) := by
  obtain ⟨d, rfl⟩ : ∃ d, a = d + b := ⟨a - b, by omega⟩
  rw [Nat.add_sub_cancel, ← nI_add, Int32.add_sub_cancel]
theorem str_len {i : Nat} (hi : i < 11) (M : ax_M) : f_Str_length (1000 + i) M = some (nI (STLEN.getD i 0), M) := by
  unfold f_Str_length
  rw [if_pos ⟨by omega, by rw [st_small]; omega⟩, Nat.add_sub_cancel_left]
theorem str_at {i j : Nat} (hi : i < 11) (hj : j < STLEN.getD i 0) (h5 : STLEN.getD i 0 ≤ 5) (M : ax_M) : f_Str_charAt (1000 + i) (nI j) M = some ((STBYT.getD i []).getD j 0, M) := by
  unfold f_Str_charAt
  rw [Nat.add_sub_cancel_left, nI_clamp (by omega), if_pos ⟨⟨by omega, by rw [st_small]; omega⟩, fun q => by
    rcases q with q | q
    · exact nI_pos (by omega) q
    · omega⟩]
theorem reads_lp {M : ax_M} {tx : Nat → Int32} {n p0 i : Nat} (hT : TxC M tx n) (hn : n ≤ 48) (h4 : gI M 3 4 = nI p0) (hi : i < 11) (hp : p0 + STLEN.getD i 0 ≤ n) : ∀ r f, r ≤ STLEN.getD i 0 → r < f → (∀ q, q < STLEN.getD i 0 - r → tx (p0 + q) = (STBYT.getD i []).getD q 0) → ((∀ q, q < STLEN.getD i 0 → tx (p0 + q) = (STBYT.getD i []).getD q 0) → f_Text_reads_20 f (1000 + i) (nI (STLEN.getD i 0 - r)) M = some (1, M)) ∧ (¬ (∀ q, q < STLEN.getD i 0 → tx (p0 + q) = (STBYT.getD i []).getD q 0) → f_Text_reads_20 f (1000 + i) (nI (STLEN.getD i 0 - r)) M = some (0, M)) := by
  obtain ⟨w1, w2, w3, w4, w5⟩ := wn_st i hi
  intro r
  induction r with
  | zero =>
    intro f _ hf hq
    obtain ⟨g, rfl⟩ : ∃ g, f = g + 1 := ⟨f - 1, by omega⟩
    refine ⟨fun _ => ?_, fun z => absurd hq z⟩
    show f_Text_reads_20_b (f_Text_reads_20 g) (1000 + i) (nI (STLEN.getD i 0 - 0)) M = _
    unfold f_Text_reads_20_b
    rw [str_len hi, bnd_eq, if_pos (nI_le (by omega) (by omega))]
  | succ r ih =>
    intro f hr hf hq
    obtain ⟨g, rfl⟩ : ∃ g, f = g + 1 := ⟨f - 1, by omega⟩
    have st : f_Text_reads_20 (g + 1) (1000 + i) (nI (STLEN.getD i 0 - (r + 1))) M = if tx (p0 + (STLEN.getD i 0 - (r + 1))) = (STBYT.getD i []).getD (STLEN.getD i 0 - (r + 1)) 0 then f_Text_reads_20 g (1000 + i) (nI (STLEN.getD i 0 - r)) M else some (0, M) := by
      show f_Text_reads_20_b (f_Text_reads_20 g) (1000 + i) (nI (STLEN.getD i 0 - (r + 1))) M = _
      unfold f_Text_reads_20_b
      rw [str_len hi, bnd_eq, if_neg (nI_ge (by omega) (by omega)), h4, nI_add, gi_nI (by omega) (by decide), str_at hi (by omega) w2, bnd_eq, nI_clamp (by omega), hT.2 _ (by omega), kM_eq, nI_1, show STLEN.getD i 0 - (r + 1) + 1 = STLEN.getD i 0 - r by omega]
    rw [st]
    by_cases q : tx (p0 + (STLEN.getD i 0 - (r + 1))) = (STBYT.getD i []).getD (STLEN.getD i 0 - (r + 1)) 0
    · rw [if_pos q]
      refine ih g (by omega) (by omega) (fun k hk => ?_)
      by_cases e : k = STLEN.getD i 0 - (r + 1)
      · rw [e]; exact q
      · exact hq k (by omega)
    · rw [if_neg q]
      exact ⟨fun z => absurd (z _ (by omega)) q, fun _ => rfl⟩
theorem reads_ok {M : ax_M} {tx : Nat → Int32} {n p0 p1 i : Nat} (hT : TxC M tx n) (hn : n ≤ 48) (h4 : gI M 3 4 = nI p0) (h2 : gI M 3 2 = nI p1) (h01 : p0 ≤ p1) (h1n : p1 ≤ n) {rv : List Nat} (hw : WLr tx p0 rv) (hl : rv.length = p1 - p0) (hi : i < 11) : f_Text_reads (1000 + i) M = some (if rv = WN.getD i [] then 1 else 0, M) := by
  obtain ⟨w1, w2, w3, w4, w5⟩ := wn_st i hi
  unfold f_Text_reads
  rw [str_len hi, bnd_eq, h2, h4, nI_sub h01]
  by_cases e : STLEN.getD i 0 = p1 - p0
  · rw [if_pos (by rw [e])]
    obtain ⟨a1, a2⟩ := reads_lp hT hn h4 hi (by omega) (STLEN.getD i 0) 64 (Nat.le_refl _) (by omega) (fun q hq => absurd hq (by omega))
    rw [Nat.sub_self] at a1 a2
    have ix := WLc.ix (tx := tx) (p0 := p0) w4
    rw [w1] at ix
    have eqv : (∀ q, q < STLEN.getD i 0 → tx (p0 + q) = (STBYT.getD i []).getD q 0) ↔ rv = WN.getD i [] := by
      constructor
      · intro h
        refine WLr.eq hw (ix.mp (fun q hq => ?_)) (by rw [w1, hl]; exact e.symm)
        rw [h q hq]
        exact w5 q hq
      · intro h q hq
        have hc := hw.c
        rw [h] at hc
        rw [ix.mpr hc q hq]
        exact (w5 q hq).symm
    by_cases z : rv = WN.getD i []
    · rw [if_pos z]
      exact a1 (eqv.mpr z)
    · rw [if_neg z]
      exact a2 (fun y => z (eqv.mp y))
  · rw [if_neg (fun z => e ((nI_eq (by omega) (by omega)).mp z)), if_neg (fun z => e (by rw [← w1, ← z, hl]))]
def cwSh (rv : List Nat) : Int32 := if rv = [1] then 8 else if rv = [2] then 9 else if rv = [5, 13] then 7 else if rv = [20, 9] then 10 else if rv = [20, 5, 18] then 11 else 1
def cwLo (rv : List Nat) : Int32 := if rv = [5, 21, 18, 20] then 4 else if rv = [5, 19, 12, 1, 6] then 5 else if rv = [12, 12, 21, 14] then 6 else if rv = [20, 19, 9, 12] then 12 else if rv = [5, 12, 15, 18] then 13 else if rv = [5, 26, 9, 19] then 14 else 1
theorem shortWord_ok {M : ax_M} {rv : List Nat} (rd : ∀ i, i < 11 → f_Text_reads (1000 + i) M = some (if rv = WN.getD i [] then 1 else 0, M)) : f_Text_shortWord M = some (cwSh rv, M) := by
  unfold f_Text_shortWord cwSh
  rw [show f_Text_reads 1000 M = some (if rv = [1] then 1 else 0, M) from rd 0 (by decide)]
  by_cases q0 : rv = [1]
  · rw [if_pos q0, if_pos q0, bnd_eq, if_neg (show ¬ (1 : Int32) = 0 by decide)]
  rw [if_neg q0, if_neg q0, bnd_eq, if_pos (show (0 : Int32) = 0 from rfl)]
  rw [show f_Text_reads 1001 M = some (if rv = [2] then 1 else 0, M) from rd 1 (by decide)]
  by_cases q1 : rv = [2]
  · rw [if_pos q1, if_pos q1, bnd_eq, if_neg (show ¬ (1 : Int32) = 0 by decide)]
  rw [if_neg q1, if_neg q1, bnd_eq, if_pos (show (0 : Int32) = 0 from rfl)]
  rw [show f_Text_reads 1002 M = some (if rv = [5, 13] then 1 else 0, M) from rd 2 (by decide)]
  by_cases q2 : rv = [5, 13]
  · rw [if_pos q2, if_pos q2, bnd_eq, if_neg (show ¬ (1 : Int32) = 0 by decide)]
  rw [if_neg q2, if_neg q2, bnd_eq, if_pos (show (0 : Int32) = 0 from rfl)]
  rw [show f_Text_reads 1003 M = some (if rv = [20, 9] then 1 else 0, M) from rd 3 (by decide)]
  by_cases q3 : rv = [20, 9]
  · rw [if_pos q3, if_pos q3, bnd_eq, if_neg (show ¬ (1 : Int32) = 0 by decide)]
  rw [if_neg q3, if_neg q3, bnd_eq, if_pos (show (0 : Int32) = 0 from rfl)]
  rw [show f_Text_reads 1004 M = some (if rv = [20, 5, 18] then 1 else 0, M) from rd 4 (by decide)]
  by_cases q4 : rv = [20, 5, 18]
  · rw [if_pos q4, if_pos q4, bnd_eq, if_neg (show ¬ (1 : Int32) = 0 by decide)]
  rw [if_neg q4, if_neg q4, bnd_eq, if_pos (show (0 : Int32) = 0 from rfl)]
theorem longWord_ok {M : ax_M} {rv : List Nat} (rd : ∀ i, i < 11 → f_Text_reads (1000 + i) M = some (if rv = WN.getD i [] then 1 else 0, M)) : f_Text_longWord M = some (cwLo rv, M) := by
  unfold f_Text_longWord cwLo
  rw [show f_Text_reads 1005 M = some (if rv = [5, 21, 18, 20] then 1 else 0, M) from rd 5 (by decide)]
  by_cases q5 : rv = [5, 21, 18, 20]
  · rw [if_pos q5, if_pos q5, bnd_eq, if_neg (show ¬ (1 : Int32) = 0 by decide)]
  rw [if_neg q5, if_neg q5, bnd_eq, if_pos (show (0 : Int32) = 0 from rfl)]
  rw [show f_Text_reads 1006 M = some (if rv = [5, 19, 12, 1, 6] then 1 else 0, M) from rd 6 (by decide)]
  by_cases q6 : rv = [5, 19, 12, 1, 6]
  · rw [if_pos q6, if_pos q6, bnd_eq, if_neg (show ¬ (1 : Int32) = 0 by decide)]
  rw [if_neg q6, if_neg q6, bnd_eq, if_pos (show (0 : Int32) = 0 from rfl)]
  rw [show f_Text_reads 1007 M = some (if rv = [12, 12, 21, 14] then 1 else 0, M) from rd 7 (by decide)]
  by_cases q7 : rv = [12, 12, 21, 14]
  · rw [if_pos q7, if_pos q7, bnd_eq, if_neg (show ¬ (1 : Int32) = 0 by decide)]
  rw [if_neg q7, if_neg q7, bnd_eq, if_pos (show (0 : Int32) = 0 from rfl)]
  rw [show f_Text_reads 1008 M = some (if rv = [20, 19, 9, 12] then 1 else 0, M) from rd 8 (by decide)]
  by_cases q8 : rv = [20, 19, 9, 12]
  · rw [if_pos q8, if_pos q8, bnd_eq, if_neg (show ¬ (1 : Int32) = 0 by decide)]
  rw [if_neg q8, if_neg q8, bnd_eq, if_pos (show (0 : Int32) = 0 from rfl)]
  rw [show f_Text_reads 1009 M = some (if rv = [5, 12, 15, 18] then 1 else 0, M) from rd 9 (by decide)]
  by_cases q9 : rv = [5, 12, 15, 18]
  · rw [if_pos q9, if_pos q9, bnd_eq, if_neg (show ¬ (1 : Int32) = 0 by decide)]
  rw [if_neg q9, if_neg q9, bnd_eq, if_pos (show (0 : Int32) = 0 from rfl)]
  rw [show f_Text_reads 1010 M = some (if rv = [5, 26, 9, 19] then 1 else 0, M) from rd 10 (by decide)]
  by_cases q10 : rv = [5, 26, 9, 19]
  · rw [if_pos q10, if_pos q10, bnd_eq, if_neg (show ¬ (1 : Int32) = 0 by decide)]
  rw [if_neg q10, if_neg q10, bnd_eq, if_pos (show (0 : Int32) = 0 from rfl)]
def cw (rv : List Nat) : Int32 := if rv.length < 4 then cwSh rv else cwLo rv
theorem cutWord_lp {tx : Nat → Int32} {n p0 p1 : Nat} (hn : n ≤ 48) (h1n : p1 ≤ n) (hS : ∀ j, p0 ≤ j → j < p1 → isS (tx j)) (hE : p1 = n ∨ (p1 < n ∧ ¬ isS (tx p1))) {rv : List Nat} (hw : WLr tx p0 rv) (hl : rv.length = p1 - p0) : ∀ r f p M, p + r = p1 → p0 ≤ p → r < f → TxC M tx n → gI M 3 4 = nI p0 → gI M 3 2 = nI p → ∃ M', f_Text_cutWord_0 f M = some (cw rv, M') ∧ EqK (fun c k => c = 3 ∧ k = 2) M M' ∧ gI M' 3 2 = nI p1 := by
  intro r
  induction r with
  | zero =>
    intro f p M hp h0 hf hT h4 h2
    obtain ⟨g, rfl⟩ : ∃ g, f = g + 1 := ⟨f - 1, by omega⟩
    have hp : p = p1 := by omega
    rw [hp] at h2 h0
    have rd : ∀ i, i < 11 → f_Text_reads (1000 + i) M = some (if rv = WN.getD i [] then 1 else 0, M) := fun i hi => reads_ok hT hn h4 h2 h0 h1n hw hl hi
    have fin : (if 4 ≤ (gI M 3 2 - gI M 3 4) then (bnd (f_Text_longWord M) (fun q M => some (q, M))) else (bnd (f_Text_shortWord M) (fun q M => some (q, M)))) = some (cw rv, M) := by
      rw [h2, h4, nI_sub h0]
      unfold cw
      by_cases z : rv.length < 4
      · rw [if_neg (show ¬ (4 : Int32) ≤ nI (p1 - p0) from nI_ge (b := 4) (by omega) (by decide)), if_pos z, shortWord_ok rd, bnd_eq]
      · rw [if_pos (show (4 : Int32) ≤ nI (p1 - p0) from nI_le (a := 4) (by omega) (by omega)), if_neg z, longWord_ok rd, bnd_eq]
    refine ⟨M, ?_, EqK.rf M, h2⟩
    show f_Text_cutWord_0_b (f_Text_cutWord_0 g) M = _
    unfold f_Text_cutWord_0_b
    rcases hE with e | ⟨e, ns⟩
    · rw [if_pos (show gI M 3 1 ≤ gI M 3 2 by rw [hT.1, h2]; exact nI_le (by omega) (by omega))]
      exact fin
    · rw [if_neg (show ¬ gI M 3 1 ≤ gI M 3 2 by rw [hT.1, h2]; exact nI_ge e (by omega))]
      rw [show gi (gI M 3 2) 48 (bnd (f_Text_isSmallLetter (gI M 4 (gI M 3 2).toNatClampNeg) M) (fun q24 M25 => if q24 = 0 then (if 4 ≤ ((gI M25 3 2) - (gI M25 3 4)) then (bnd (f_Text_longWord  M25) (fun q28 M29 => some (q28, M29))) else (bnd (f_Text_shortWord  M25) (fun q30 M31 => some (q30, M31)))) else (kM (mI M25 3 2 ((gI M25 3 2) + 1)) (fun M32 => f_Text_cutWord_0 g M32)))) = (if 4 ≤ (gI M 3 2 - gI M 3 4) then (bnd (f_Text_longWord M) (fun q M => some (q, M))) else (bnd (f_Text_shortWord M) (fun q M => some (q, M)))) by
        rw [c_small, h2, gi_nI (by omega) (by decide), nI_clamp (by omega), hT.2 p1 e, if_neg ns, bnd_eq, if_pos rfl, h2]]
      exact fin
  | succ r ih =>
    intro f p M hp h0 hf hT h4 h2
    obtain ⟨g, rfl⟩ : ∃ g, f = g + 1 := ⟨f - 1, by omega⟩
    have e0 : EqK (fun c k => c = 3 ∧ k = 2) M (mI M 3 2 (nI (p + 1))) := (EqK.rf M).mI (S := fun c k => c = 3 ∧ k = 2) ⟨rfl, rfl⟩
    obtain ⟨M', a1, a2, a3⟩ := ih g (p + 1) (mI M 3 2 (nI (p + 1))) (by omega) (by omega) (by omega) (hT.kp (e0.mono fun c k z => by unfold X3; omega)) ((mIk (by decide)).trans h4) (mIs _ _ _ _)
    refine ⟨M', ?_, e0.tr a2, a3⟩
    rw [← a1]
    show f_Text_cutWord_0_b (f_Text_cutWord_0 g) M = _
    unfold f_Text_cutWord_0_b
    rw [if_neg (show ¬ gI M 3 1 ≤ gI M 3 2 by rw [hT.1, h2]; exact nI_ge (by omega) (by omega)), c_small, h2, gi_nI (by omega) (by decide), nI_clamp (by omega), hT.2 p (by omega), if_pos (hS p h0 (by omega)), bnd_eq, if_neg (show ¬ (1 : Int32) = 0 by decide), kM_eq, h2, nI_1]
theorem cutWord_eq (M : ax_M) : f_Text_cutWord M = f_Text_cutWord_0 65 M := rfl
/-! the reference -/
theorem wq {rv cst : List Nat} (h1 : okL rv) (h2 : okL cst) (l1 : rv.length ≤ 5) (l2 : cst.length ≤ 5) : nI (er rv) = nI (er cst) ↔ rv = cst := by
  have a1 := er_lt 5 h1 l1
  have a2 := er_lt 5 h2 l2
  refine ⟨fun h => er_inj h1 h2 ((nI_eq (by omega) (by omega)).mp h), fun h => by rw [h]⟩
def mw206 (rv : List Nat) (s : Int32) : Int32 := if rv = [20, 19, 9, 12] then 11 else if rv = [5, 12, 15, 18] then 12 else if rv = [5, 26, 9, 19] then 13 else s
def mw146 (rv : List Nat) (s : Int32) : Int32 := mw206 rv (if rv = [1] then 7 else if rv = [2] then 8 else if rv = [20, 9] then 9 else if rv = [20, 5, 18] then 10 else s)
def mw4 (rv : List Nat) : Int32 := mw146 rv (if rv = [5, 21, 18, 20] then 3 else if rv = [5, 19, 12, 1, 6] then 4 else if rv = [12, 12, 21, 14] then 5 else if rv = [5, 13] then 6 else 0)
def Wq (rv : List Nat) : Prop := ∀ i, i < 11 → (nI (er rv) = nI (er (WN.getD i [])) ↔ rv = WN.getD i [])
theorem w206 {rv : List Nat} (hq : Wq rv) (s : Int32) (M : ax_M) : f_Mod_word_206 (nI (er rv)) s M = some (mw206 rv s, M) := by
  unfold f_Mod_word_206 mw206 f_Mod_letters
  rw [bnd_eq]
  have z8 : nI (er rv) = (((((((12 : Int32) * 32) + 9) * 32) + 19) * 32) + 20) ↔ rv = [20, 19, 9, 12] := by
    rw [show (((((((12 : Int32) * 32) + 9) * 32) + 19) * 32) + 20) = nI (er [20, 19, 9, 12]) by decide]
    exact hq 8 (by decide)
  by_cases q8 : rv = [20, 19, 9, 12]
  · rw [if_pos q8, if_pos (z8.mpr q8)]
  rw [if_neg q8, if_neg (fun z => q8 (z8.mp z))]
  rw [bnd_eq]
  have z9 : nI (er rv) = (((((((18 : Int32) * 32) + 15) * 32) + 12) * 32) + 5) ↔ rv = [5, 12, 15, 18] := by
    rw [show (((((((18 : Int32) * 32) + 15) * 32) + 12) * 32) + 5) = nI (er [5, 12, 15, 18]) by decide]
    exact hq 9 (by decide)
  by_cases q9 : rv = [5, 12, 15, 18]
  · rw [if_pos q9, if_pos (z9.mpr q9)]
  rw [if_neg q9, if_neg (fun z => q9 (z9.mp z))]
  rw [bnd_eq]
  have z10 : nI (er rv) = (((((((19 : Int32) * 32) + 9) * 32) + 26) * 32) + 5) ↔ rv = [5, 26, 9, 19] := by
    rw [show (((((((19 : Int32) * 32) + 9) * 32) + 26) * 32) + 5) = nI (er [5, 26, 9, 19]) by decide]
    exact hq 10 (by decide)
  by_cases q10 : rv = [5, 26, 9, 19]
  · rw [if_pos q10, if_pos (z10.mpr q10)]
  rw [if_neg q10, if_neg (fun z => q10 (z10.mp z))]
theorem w146 {rv : List Nat} (hq : Wq rv) (s : Int32) (M : ax_M) : f_Mod_word_146 (nI (er rv)) s M = some (mw146 rv s, M) := by
  unfold f_Mod_word_146 mw146 f_Mod_letters
  have z0 : nI (er rv) = (1 : Int32) ↔ rv = [1] := by
    rw [show (1 : Int32) = nI (er [1]) by decide]
    exact hq 0 (by decide)
  by_cases q0 : rv = [1]
  · rw [if_pos q0, if_pos (z0.mpr q0), w206 hq]
  rw [if_neg q0, if_neg (fun z => q0 (z0.mp z))]
  have z1 : nI (er rv) = (2 : Int32) ↔ rv = [2] := by
    rw [show (2 : Int32) = nI (er [2]) by decide]
    exact hq 1 (by decide)
  by_cases q1 : rv = [2]
  · rw [if_pos q1, if_pos (z1.mpr q1), w206 hq]
  rw [if_neg q1, if_neg (fun z => q1 (z1.mp z))]
  rw [bnd_eq]
  have z3 : nI (er rv) = (((((((0 : Int32) * 32) + 0) * 32) + 9) * 32) + 20) ↔ rv = [20, 9] := by
    rw [show (((((((0 : Int32) * 32) + 0) * 32) + 9) * 32) + 20) = nI (er [20, 9]) by decide]
    exact hq 3 (by decide)
  by_cases q3 : rv = [20, 9]
  · rw [if_pos q3, if_pos (z3.mpr q3), w206 hq]
  rw [if_neg q3, if_neg (fun z => q3 (z3.mp z))]
  rw [bnd_eq]
  have z4 : nI (er rv) = (((((((0 : Int32) * 32) + 18) * 32) + 5) * 32) + 20) ↔ rv = [20, 5, 18] := by
    rw [show (((((((0 : Int32) * 32) + 18) * 32) + 5) * 32) + 20) = nI (er [20, 5, 18]) by decide]
    exact hq 4 (by decide)
  by_cases q4 : rv = [20, 5, 18]
  · rw [if_pos q4, if_pos (z4.mpr q4), w206 hq]
  rw [if_neg q4, if_neg (fun z => q4 (z4.mp z))]
  rw [w206 hq]
theorem mword_lp {tx : Nat → Int32} {n p0 p1 : Nat} (hn : n ≤ 48) (h1n : p1 ≤ n) (hE : p1 = n ∨ (p1 < n ∧ ¬ isS (tx p1))) {rw' : List Nat} (hw' : WLr tx p0 rw') (hl' : rw'.length = p1 - p0) (h01 : p0 ≤ p1) : ∀ (r f : Nat) (rv : List Nat) (M : ax_M), p0 + rv.length + r = p1 → r < f → (∃ pre, rw' = pre ++ rv ∧ pre.length = r) → TxM M tx n → gI M 184 5 = nI (p0 + rv.length) → ∃ M', f_Mod_word_4 f (if rv.length ≤ 5 then nI (er rv) else 0) (nI rv.length) M = some (if rw'.length ≤ 5 then mw4 rw' else 0, M') ∧ EqK X5 M M' ∧ gI M' 184 5 = nI p1 := by
  intro r
  induction r with
  | zero =>
    intro f rv M hp hf hpre hT h5
    obtain ⟨g, rfl⟩ : ∃ g, f = g + 1 := ⟨f - 1, by omega⟩
    obtain ⟨pre, e1, e2⟩ := hpre
    have e3 : pre = [] := List.length_eq_zero_iff.mp e2
    rw [e3, List.nil_append] at e1
    subst e1
    have hp1 : p0 + rw'.length = p1 := by omega
    rw [hp1] at h5
    refine ⟨M, ?_, EqK.rf M, h5⟩
    have ns : ¬ isS (txa tx n p1) := by
      rcases hE with e | ⟨e, ns⟩
      · rw [txa_out (by omega)]; decide
      · rw [txa_in e]; exact ns
    show f_Mod_word_4_b (f_Mod_word_4 g) _ _ M = _
    unfold f_Mod_word_4_b
    rw [h5, m_small hT hn (by omega), if_neg ns, bnd_eq, if_pos rfl]
    by_cases l5 : rw'.length ≤ 5
    · rw [if_pos l5, if_pos l5, if_pos (show nI rw'.length ≤ 5 from nI_le (b := 5) l5 (by decide))]
      have hq : Wq rw' := fun i hi => wq hw'.ok (wn_ok i hi) l5 (by have := wn_st i hi; omega)
      generalize rw' = rv at hq
      unfold mw4 f_Mod_letters
      rw [bnd_eq]
      have z5 : nI (er rv) = (((((((20 : Int32) * 32) + 18) * 32) + 21) * 32) + 5) ↔ rv = [5, 21, 18, 20] := by
        rw [show (((((((20 : Int32) * 32) + 18) * 32) + 21) * 32) + 5) = nI (er [5, 21, 18, 20]) by decide]
        exact hq 5 (by decide)
      by_cases q5 : rv = [5, 21, 18, 20]
      · rw [if_pos q5, if_pos (z5.mpr q5), w146 hq]
      rw [if_neg q5, if_neg (fun z => q5 (z5.mp z))]
      rw [bnd_eq]
      have z6 : nI (er rv) = (((((((((6 : Int32) * 32) + 1) * 32) + 12) * 32) + 19) * 32) + 5) ↔ rv = [5, 19, 12, 1, 6] := by
        rw [show (((((((((6 : Int32) * 32) + 1) * 32) + 12) * 32) + 19) * 32) + 5) = nI (er [5, 19, 12, 1, 6]) by decide]
        exact hq 6 (by decide)
      by_cases q6 : rv = [5, 19, 12, 1, 6]
      · rw [if_pos q6, if_pos (z6.mpr q6), w146 hq]
      rw [if_neg q6, if_neg (fun z => q6 (z6.mp z))]
      rw [bnd_eq]
      have z7 : nI (er rv) = (((((((14 : Int32) * 32) + 21) * 32) + 12) * 32) + 12) ↔ rv = [12, 12, 21, 14] := by
        rw [show (((((((14 : Int32) * 32) + 21) * 32) + 12) * 32) + 12) = nI (er [12, 12, 21, 14]) by decide]
        exact hq 7 (by decide)
      by_cases q7 : rv = [12, 12, 21, 14]
      · rw [if_pos q7, if_pos (z7.mpr q7), w146 hq]
      rw [if_neg q7, if_neg (fun z => q7 (z7.mp z))]
      rw [bnd_eq]
      have z2 : nI (er rv) = (((((((0 : Int32) * 32) + 0) * 32) + 13) * 32) + 5) ↔ rv = [5, 13] := by
        rw [show (((((((0 : Int32) * 32) + 0) * 32) + 13) * 32) + 5) = nI (er [5, 13]) by decide]
        exact hq 2 (by decide)
      by_cases q2 : rv = [5, 13]
      · rw [if_pos q2, if_pos (z2.mpr q2), w146 hq]
      rw [if_neg q2, if_neg (fun z => q2 (z2.mp z))]
      rw [w146 hq]
    · rw [if_neg l5, if_neg l5, if_neg (show ¬ nI rw'.length ≤ 5 from nI_ge (a := 5) (by omega) (by omega))]
  | succ r ih =>
    intro f rv M hp hf hpre hT h5
    obtain ⟨g, rfl⟩ : ∃ g, f = g + 1 := ⟨f - 1, by omega⟩
    obtain ⟨pre, e1, e2⟩ := hpre
    have ne : pre ≠ [] := fun z => by rw [z] at e2; cases e2
    obtain ⟨pre', v, e3⟩ : ∃ pre' v, pre = pre' ++ [v] := ⟨pre.dropLast, pre.getLast ne, (List.dropLast_concat_getLast ne).symm⟩
    have e4 : rw' = pre' ++ (v :: rv) := by rw [e1, e3, List.append_assoc]; rfl
    have e5 : pre'.length = r := by
      rw [e3, List.length_append, List.length_singleton] at e2
      omega
    have hv : WLr tx p0 (v :: rv) := by
      have h := hw'
      rw [e4] at h
      clear ih e1 e2 e3 e4 e5 ne hp
      induction pre' with
      | nil => exact h
      | cons x xs ihx => exact ihx h.2.2.2
    have hc : tx (p0 + rv.length) = nI (96 + v) := hv.1
    have hv1 := hv.2.1
    have hv2 := hv.2.2.1
    have sm : isS (txa tx n (p0 + rv.length)) := by
      rw [txa_in (by omega), hc]
      exact ⟨nI_nlt (a := 96 + v) (b := 97) (by omega) (by omega), nI_nlt (a := 122) (b := 96 + v) (by omega) (by decide)⟩
    have e0 : EqK X5 M (mI M 184 5 (nI (p0 + rv.length + 1))) := (EqK.rf M).mI (S := X5) ⟨rfl, Or.inl rfl⟩
    obtain ⟨M', a1, a2, a3⟩ := ih g (v :: rv) (mI M 184 5 (nI (p0 + rv.length + 1))) (by rw [List.length_cons]; omega) (by omega) ⟨pre', e4, e5⟩ (hT.kp e0) (by rw [mIs, List.length_cons]; rfl)
    refine ⟨M', ?_, e0.tr a2, a3⟩
    rw [← a1]
    show f_Mod_word_4_b (f_Mod_word_4 g) _ _ M = _
    unfold f_Mod_word_4_b
    rw [h5, m_small hT hn (by omega), if_pos sm, bnd_eq, if_neg (show ¬ (1 : Int32) = 0 by decide), List.length_cons]
    by_cases l5 : rv.length < 5
    · rw [if_neg (show ¬ (5 : Int32) ≤ nI rv.length from nI_ge (b := 5) l5 (by decide)), h5, m_at hT hn (by omega), bnd_eq, txa_in (by omega), hc, kM_eq, kM_eq, h5, kM_eq, nI_1, nI_1, if_pos (show rv.length ≤ 5 by omega), if_pos (show rv.length + 1 ≤ 5 by omega)]
      have ea : nI (er rv) * 32 + nI (96 + v) - 96 = nI (er (v :: rv)) := by
        show nI (er rv) * nI 32 + nI (96 + v) - nI 96 = nI (er rv * 32 + v)
        rw [show nI (er rv) * nI 32 = nI (er rv * 32) from (Int32.ofNat_mul (er rv) 32).symm, nI_add, nI_sub (by omega)]
        congr 1
        omega
      rw [ea]
    · rw [if_pos (show (5 : Int32) ≤ nI rv.length from nI_le (a := 5) (by omega) (by omega)), kM_eq, h5, kM_eq, nI_1, nI_1, if_neg (show ¬ rv.length + 1 ≤ 5 by omega)]
