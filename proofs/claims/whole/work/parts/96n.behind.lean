/-! Reading: one token behind a value, both sides. -/
theorem mt_1 {M : ax_M} (h7 : gI M 184 7 = 1) (x : Int32) : f_Mod_take x M = if x < 22 then (f_Mod_take_201 x M) else (if 34 < x then (f_Mod_take_201 x M) else (bnd (f_Mod_rank x M) (fun q43 M44 => bnd (f_Mod_reduce q43 M44) (fun q45 M46 => bnd (f_Mod_wait x M46) (fun q47 M48 => some (1, M48)))))) := by
  unfold f_Mod_take
  rw [h7, if_neg (by decide), if_neg (by decide), if_pos (by decide)]
def topI : List (Nat × Nat) → Int32
  | [] => 0
  | (s, _) :: _ => nI s
def topJ : List (Nat × Nat) → Int32
  | [] => 0
  | (s, _) :: _ => nI (sgN s)
theorem inner_c {M : ax_M} {e : Nat} {B : List (Nat × Nat)} {O : List Nat} {E : xRow} {sz pc : Nat} {w ws : Int32} (h : CR M e B O E sz w ws pc) (hl : B.length ≤ 48) : f_Reader_innermost M = some (topI B, M) := by
  unfold f_Reader_innermost
  match B, h, hl with
  | [], h, _ => rw [if_pos (show gI M 5 1 ≤ 0 by rw [h.2.1]; decide)]; rfl
  | (s, b) :: B, h, hl =>
    have g1 : gI M 5 1 = nI (B.length + 1) := h.2.1
    rw [List.length_cons] at hl
    rw [g1, if_neg (nI_nle (by omega) (by omega)), nI_m1, gi_nI (by omega) (by decide), nI_clamp (by omega), h.2.2.1.1]
    rfl
theorem waiting_m {M : ax_M} {B : List (Nat × Nat)} {c : Nat → Int32} {ar : Nat → Int64} {m pc : Nat} {w ws : Int32} (h : MR M B c ar m w ws pc) (hl : B.length ≤ 48) : f_Mod_waiting M = some (topJ B, M) := by
  unfold f_Mod_waiting
  match B, h, hl with
  | [], h, _ => rw [if_pos (show gI M 184 10 ≤ 0 by rw [h.1]; decide)]; rfl
  | (s, b) :: B, h, hl =>
    have g1 : gI M 184 10 = nI (B.length + 1) := h.1
    rw [List.length_cons] at hl
    rw [g1, if_neg (nI_nle (by omega) (by omega)), nI_m1, gi_nI (by omega) (by decide), nI_clamp (by omega), h.2.1.1]
    rfl
theorem rk0 : ∀ s, s < 43 → ((s = 13 ∨ s = 15 ∨ s = 17 ∨ (20 ≤ s ∧ s ≤ 34) ∨ (37 ≤ s ∧ s ≤ 42)) ∧ rkN s < 1) → (s = 13 ∨ s = 15 ∨ s = 17 ∨ s = 20 ∨ s = 38 ∨ s = 39 ∨ s = 40) := by decide +kernel
/-- the cells of the class behind the joining of a closing sign -/
theorem cl16 {M M1 : ax_M} {τ : Int32} (h1 : f_Reader_joinDownTo (nI 1) M = some ((), M1)) (h2 : f_Reader_innermost M1 = some (τ, M1)) : f_Reader_takesBehindValue (nI 16) M = bnd (if τ = 13 then (kM (mI M1 5 1 ((gI M1 5 1) - 1)) (fun M8 => bnd (f_Reader_joinNow 13 M8) (fun q9 M10 => g2 q9 (some (q9, M10))))) else (if τ = 15 then (kM (mI M1 5 1 ((gI M1 5 1) - 1)) (fun M7 => some (1, M7))) else (some (0, M1)))) (fun q m => g2 q (some (q, m))) := by
  unfold f_Reader_takesBehindValue f_Reader_closesRound
  rw [if_pos (show nI 16 = 16 by decide), show f_Reader_joinDownTo 1 M = _ from h1, bnd_eq, h2, bnd_eq]
theorem cl18 {M M1 : ax_M} {τ : Int32} (h1 : f_Reader_joinDownTo (nI 1) M = some ((), M1)) (h2 : f_Reader_innermost M1 = some (τ, M1)) : f_Reader_takesBehindValue (nI 18) M = bnd (bnd (f_Tok_opensSquare τ M1) (fun q5 M6 => if q5 = 0 then (some (0, M6)) else (kM (mI M6 5 1 ((gI M6 5 1) - 1)) (fun M8 => bnd (f_Reader_joinNow τ M8) (fun q9 M10 => g2 q9 (some (q9, M10))))))) (fun q m => g2 q (some (q, m))) := by
  unfold f_Reader_takesBehindValue f_Reader_closesSquare
  rw [if_neg (show ¬ nI 18 = 16 by decide), if_neg (show ¬ nI 18 = 17 by decide), if_pos (show nI 18 = 18 by decide), show f_Reader_joinDownTo 1 M = _ from h1, bnd_eq, h2, bnd_eq]
theorem cl19 {M M1 : ax_M} {τ : Int32} (h1 : f_Reader_joinDownTo (nI 1) M = some ((), M1)) (h2 : f_Reader_innermost M1 = some (τ, M1)) : f_Reader_takesBehindValue (nI 19) M = bnd (if τ = 20 then (kM (mI M1 5 1 ((gI M1 5 1) - 1)) (fun M6 => bnd (f_Reader_begin 42 M6) (fun q7 M8 => g2 q7 (some (q7, M8))))) else (some (0, M1))) (fun q m => g2 q (some (q, m))) := by
  unfold f_Reader_takesBehindValue f_Reader_takesColon
  rw [if_neg (show ¬ nI 19 = 16 by decide), if_neg (show ¬ nI 19 = 17 by decide), if_neg (show ¬ nI 19 = 18 by decide), if_pos (show nI 19 = 19 by decide), show f_Reader_joinDownTo 1 M = _ from h1, bnd_eq, h2, bnd_eq]
def shx (x σ : Int32) : Int32 := if x = 61 then (if σ = 50 then 1 else if σ = 51 then 1 else 0) else if x = 63 then (if σ = 52 then 1 else if σ = 53 then 1 else 0) else (if σ = 54 then 1 else 0)
theorem shut_eq {M M1 : ax_M} {x σ : Int32} (h1 : f_Mod_reduce (nI 1 - 1) M = some ((), M1)) (h2 : f_Mod_waiting M1 = some (σ, M1)) : f_Mod_shut x M = f_Mod_shut_73 x σ (shx x σ) M1 := by
  unfold f_Mod_shut shx
  rw [show f_Mod_reduce 0 M = _ from h1, bnd_eq, h2, bnd_eq]
  by_cases q1 : x = 61
  · rw [if_pos q1, if_pos q1]
    by_cases z1 : σ = 50
    · rw [if_pos z1, if_pos z1]
    · rw [if_neg z1, if_neg z1]
      by_cases z2 : σ = 51
      · rw [if_pos z2, if_pos z2]
      · rw [if_neg z2, if_neg z2]
  · rw [if_neg q1, if_neg q1]
    by_cases q2 : x = 63
    · rw [if_pos q2, if_pos q2]
      by_cases z1 : σ = 52
      · rw [if_pos z1, if_pos z1]
      · rw [if_neg z1, if_neg z1]
        by_cases z2 : σ = 53
        · rw [if_pos z2, if_pos z2]
        · rw [if_neg z2, if_neg z2]
    · rw [if_neg q2, if_neg q2]
      by_cases z1 : σ = 54
      · rw [if_pos z1, if_pos z1]
      · rw [if_neg z1, if_neg z1]
theorem take_sh {M : ax_M} (h7 : gI M 184 7 = 1) {x : Int32} (hx : x = 61 ∨ x = 63 ∨ x = 64) : f_Mod_take x M = bnd (f_Mod_shut x (mI M 184 7 1)) (fun q28 M29 => if q28 = 0 then (some (0, M29)) else (some (1, M29))) := by
  rw [mt_1 h7]
  rcases hx with z | z | z <;> subst z <;> rfl
theorem sh73_0 (x σ : Int32) (M : ax_M) : f_Mod_shut_73 x σ 0 M = some (0, M) := rfl
theorem core_close {e : Nat} (he : eOk e) {B : List (Nat × Nat)} {O : List Nat} {E : xRow} {sz : Nat} {c : Nat → Int32} {ar : Nat → Int64} {m : Nat} {lo be en : Nat → Nat} {ws : Int32} {pc pos p1 j : Nat} {v : Int64} (hN : Nds E c ar lo be en sz) (hT : Top c lo be en B O sz m) (hpc : pc = sz + cntp B) (h20 : pc ≤ 20) (h2 : m + cntp B ≤ 2 * pc) (hl : B.length ≤ pos) (hp : pos < p1) (hp48 : pos < 48) (hj : j = 16 ∨ j = 18 ∨ j = 19) : Core e B O E sz c ar m 1 ws pc (nI j) v p1 := by
  obtain ⟨B', O', E', sz', c', ar', m', lo', be', en', n1, n2, n3, n4, n5, n6, n7, n8⟩ := red_ok he (least := 1) (by decide) (by decide) B O E sz c ar m lo be en hN hT (by omega) (by omega) (by omega)
  have cj : ∀ M, CR M e B O E sz 1 ws pc → ∃ M1, f_Reader_joinDownTo (nI 1) M = some ((), M1) ∧ f_Reader_innermost M1 = some (topI B', M1) ∧ CR M1 e B' O' E' sz' 1 ws pc ∧ EqK (Xp e) M M1 := fun M h => by
    obtain ⟨M1, a1, a2, a3⟩ := n7 65 M 1 ws pc (by omega) h
    exact ⟨M1, by rw [jdt_eq]; exact a1, inner_c a2 (by omega), a2, a3⟩
  have tx : tokM (nI j) = 61 ∨ tokM (nI j) = 63 ∨ tokM (nI j) = 64 := by
    rcases hj with z | z | z <;> subst z <;> decide
  have mj : ∀ M, MR M B c ar m 1 ws pc → ∃ M1, f_Mod_take (tokM (nI j)) M = bnd (f_Mod_shut_73 (tokM (nI j)) (topJ B') (shx (tokM (nI j)) (topJ B')) M1) (fun q28 M29 => if q28 = 0 then (some (0, M29)) else (some (1, M29))) ∧ MR M1 B' c' ar' m' 1 ws pc ∧ EqK Xq M M1 := fun M h => by
    obtain ⟨s1, s2⟩ := h.st 1 ws
    rw [stM_1] at s1 s2
    obtain ⟨M1, a1, a2, a3⟩ := n8 65 _ 1 ws pc (by omega) s1
    exact ⟨M1, by rw [take_sh (by rw [h.2.2.2.2.1, stM_1]) tx, shut_eq (by rw [mred_eq]; exact a1) (waiting_m a2 (by omega))], a2, s2.tr a3⟩
  -- both say no
  have no : (∀ M M1, CR M e B O E sz 1 ws pc → f_Reader_joinDownTo (nI 1) M = some ((), M1) → f_Reader_innermost M1 = some (topI B', M1) → f_Reader_takesBehindValue (nI j) M = some (0, M1)) → shx (tokM (nI j)) (topJ B') = 0 → Core e B O E sz c ar m 1 ws pc (nI j) v p1 := fun hC hM => by
    refine Or.inl ⟨fun M v' hv h => ?_, fun M hv h => ?_⟩
    · obtain ⟨M1, a1, a2, a3, a4⟩ := cj M h
      exact ⟨M1, by rw [t24_1 h h20, hC M M1 h a1 a2, bnd_eq, g2_0], a4, trivial⟩
    · obtain ⟨M1, a1, a2, a3⟩ := mj M h
      exact ⟨M1, by rw [a1, hM, sh73_0, bnd_eq, if_pos rfl], a3, trivial⟩
  -- both go on
  have yes : ∀ (w' : Int32) (B2 : List (Nat × Nat)) (O2 : List Nat) (E2 : xRow) (sz2 : Nat) (c2 : Nat → Int32) (ar2 : Nat → Int64) (m2 : Nat) (lo2 be2 en2 : Nat → Nat), Inv w' ws B2 O2 E2 sz2 c2 ar2 m2 lo2 be2 en2 p1 pc → (∀ M M1, CR M1 e B' O' E' sz' 1 ws pc → f_Reader_joinDownTo (nI 1) M = some ((), M1) → f_Reader_innermost M1 = some (topI B', M1) → ∃ M2, f_Reader_takesBehindValue (nI j) M = some (1, M2) ∧ CR M2 e B2 O2 E2 sz2 w' ws pc ∧ EqK (Xp e) M1 M2) → shx (tokM (nI j)) (topJ B') = 1 → (∀ M1, MR M1 B' c' ar' m' 1 ws pc → ∃ M2, f_Mod_shut_73 (tokM (nI j)) (topJ B') 1 M1 = some (1, M2) ∧ MR M2 B2 c2 ar2 m2 w' ws pc ∧ EqK Xq M1 M2) → Core e B O E sz c ar m 1 ws pc (nI j) v p1 := fun w' B2 O2 E2 sz2 c2 ar2 m2 lo2 be2 en2 hI hC hs hM => by
    refine Or.inr ⟨w', ws, B2, O2, E2, sz2, c2, ar2, m2, lo2, be2, en2, hI, fun M v' hv h => ?_, fun M hv h => ?_⟩
    · obtain ⟨M1, a1, a2, a3, a4⟩ := cj M h
      obtain ⟨M2, b1, b2, b3⟩ := hC M M1 a3 a1 a2
      exact ⟨M2, by rw [t24_1 h h20, b1, bnd_eq, g2_1], a4.tr b3, b2⟩
    · obtain ⟨M1, a1, a2, a3⟩ := mj M h
      obtain ⟨M2, b1, b2, b3⟩ := hM M1 a2
      exact ⟨M2, by rw [a1, hs, b1, bnd_eq, if_neg (by decide)], a3.tr b3, b2⟩
  match B', n2, n3, n4, n5, n6, n7, n8, cj, mj, no, yes with
  | [], n2, n3, n4, n5, n6, n7, n8, cj, mj, no, yes =>
    rcases hj with z | z | z <;> subst z
    · exact no (fun M M1 _ a1 a2 => by rw [cl16 a1 a2, if_neg (by decide), if_neg (by decide), bnd_eq, g2_0]) (by decide)
    · exact no (fun M M1 _ a1 a2 => by rw [cl18 a1 a2]; rfl) (by decide)
    · exact no (fun M M1 _ a1 a2 => by rw [cl19 a1 a2, if_neg (by decide), bnd_eq, g2_0]) (by decide)
  | (s, b) :: B1, n2, n3, n4, n5, n6, n7, n8, cj, mj, no, yes =>
    have sk : s = 13 ∨ s = 15 ∨ s = 17 ∨ s = 20 ∨ s = 38 ∨ s = 39 ∨ s = 40 := by
      have hok : okS s := by
        obtain ⟨o, O1, P, m0, -, z, -⟩ := n2
        exact z.ok
      obtain ⟨k1, k2⟩ := okS_r hok
      exact rk0 s k1 ⟨k2, n6 s b B1 rfl⟩
    rw [List.length_cons] at n5
    obtain ⟨tl, tm⟩ := n2.lt n1
    -- a join of one value behind the closing
    rcases hj with z | z | z <;> subst z
    · -- )
      by_cases q13 : s = 13
      · subst q13
        have ec : cntp ((13, b) :: B1) = 1 + cntp B1 := rfl
        rw [ec] at n3 n4
        obtain ⟨o, O1, P, m0, t1, t2, t3, t4, t5, t6⟩ := topre_ab n2 (Or.inr (Or.inl rfl))
        obtain ⟨x1, x2⟩ := one_ab (ar := ar') n1 tm t2 t3 t4 t5 t6 (s := 13) (k := 12) (Or.inl ⟨rfl, rfl⟩)
        refine yes 1 B1 (sz' :: O1) _ (sz' + 1) _ _ (m' + 1) _ _ _ ⟨x1, Or.inr ⟨Or.inl rfl, x2⟩, ?_, h20, ?_, by omega, fun z => absurd z (by decide)⟩ (fun M M1 h a1 a2 => ?_) (show shx (tokM (nI 16)) (nI (sgN 13)) = 1 by decide) (fun M1 h => ?_)
        · show pc = sz' + 1 + cntp B1 + 0
          omega
        · show m' + 1 + cntp B1 + 0 ≤ 2 * pc
          omega
        · obtain ⟨c1, c2⟩ := h.popB he
          rw [t1] at c1
          rw [t1, List.length_cons] at tl
          obtain ⟨M2, j1, j2, j3⟩ := join1_c he c1 (by omega) (by omega) (s := 13) (by decide)
          obtain ⟨d1, d2⟩ := j2.st he 1
          refine ⟨_, ?_, d1, (c2.tr j3).tr d2⟩
          rw [cl16 a1 a2, if_pos (show topI ((13, b) :: B1) = 13 from rfl), show gI M1 5 1 = nI (B1.length + 1) from h.2.1, nI_m1, kM_eq]
          unfold f_Reader_joinNow
          rw [show f_Reader_join 13 (mI M1 5 1 (nI B1.length)) = _ from j1, bnd_eq, kM_eq, bnd_eq, g2_1, bnd_eq, g2_1]
        · obtain ⟨c1, c2⟩ := h.popB
          obtain ⟨M2, j1, j2, j3⟩ := emit_m c1 (by omega) (nI 12) 0
          refine ⟨M2, ?_, j2, c2.tr j3⟩
          show f_Mod_shut_73 61 51 1 M1 = _
          unfold f_Mod_shut_73
          rw [if_neg (by decide), show gI M1 184 10 = nI (B1.length + 1) from h.1, nI_m1, kM_eq, if_neg (by decide), if_neg (by decide), if_neg (by decide), if_pos (by decide), show f_Mod_emit 12 0 (mI M1 184 10 (nI B1.length)) = _ from j1, bnd_eq]
      · by_cases q15 : s = 15
        · subst q15
          have ec : cntp ((15, b) :: B1) = cntp B1 := Nat.zero_add _
          rw [ec] at n3 n4
          refine yes 1 B1 O' E' sz' c' ar' m' lo' be' en' ⟨n1, Or.inr ⟨Or.inl rfl, topre_ab n2 (Or.inl rfl)⟩, ?_, h20, ?_, by omega, fun z => absurd z (by decide)⟩ (fun M M1 h a1 a2 => ?_) (show shx (tokM (nI 16)) (nI (sgN 15)) = 1 by decide) (fun M1 h => ?_)
          · show pc = sz' + cntp B1 + 0
            omega
          · show m' + cntp B1 + 0 ≤ 2 * pc
            omega
          · obtain ⟨c1, c2⟩ := h.popB he
            refine ⟨_, ?_, c1, c2⟩
            rw [cl16 a1 a2, if_neg (show ¬ topI ((15, b) :: B1) = 13 from (show ¬ nI 15 = 13 by decide)), if_pos (show topI ((15, b) :: B1) = 15 from rfl), show gI M1 5 1 = nI (B1.length + 1) from h.2.1, nI_m1, kM_eq, bnd_eq, g2_1]
          · obtain ⟨c1, c2⟩ := h.popB
            refine ⟨_, ?_, c1, c2⟩
            show f_Mod_shut_73 61 50 1 M1 = _
            unfold f_Mod_shut_73
            rw [if_neg (by decide), show gI M1 184 10 = nI (B1.length + 1) from h.1, nI_m1, kM_eq, if_neg (by decide), if_neg (by decide), if_pos (by decide)]
        · refine no (fun M M1 _ a1 a2 => ?_) ?_
          · rw [cl16 a1 a2, if_neg (show ¬ topI ((s, b) :: B1) = 13 from nj (k := 13) (by omega) (by decide) q13), if_neg (show ¬ topI ((s, b) :: B1) = 15 from nj (k := 15) (by omega) (by decide) q15), bnd_eq, g2_0]
          · rcases sk with z | z | z | z | z | z | z
            · exact absurd z q13
            · exact absurd z q15
            all_goals
              subst z
              show shx (tokM (nI 16)) (nI (sgN _)) = 0
              decide
    · -- ]
      by_cases q17 : s = 17
      · subst q17
        have ec : cntp ((17, b) :: B1) = 1 + cntp B1 := rfl
        rw [ec] at n3 n4
        obtain ⟨o, O1, P, m0, t1, t2, t3, t4, t5, t6⟩ := n2
        rcases t2.2 with ⟨a1, a2⟩ | ⟨a1, f, O2, P', m2, a2, a3, a4, a5, a6, a7⟩ | ⟨a1, a2⟩ | ⟨a1, a2⟩
        · unfold preS at a1; omega
        · obtain ⟨x1, x2⟩ := index_ab (ar := ar') n1 tm a3 a4 a5 a6 a7 t3 t4 t5 t6
          refine yes 1 B1 (sz' :: O2) _ (sz' + 1) _ _ (m' + 1) _ _ _ ⟨x1, Or.inr ⟨Or.inl rfl, x2⟩, ?_, h20, ?_, by omega, fun z => absurd z (by decide)⟩ (fun M M1 h a1 a2' => ?_) (show shx (tokM (nI 18)) (nI (sgN 17)) = 1 by decide) (fun M1 h => ?_)
          · show pc = sz' + 1 + cntp B1 + 0
            omega
          · show m' + 1 + cntp B1 + 0 ≤ 2 * pc
            omega
          · obtain ⟨c1, c2⟩ := h.popB he
            rw [t1, a2] at c1
            rw [t1, a2, List.length_cons, List.length_cons] at tl
            obtain ⟨M2, j1, j2, j3⟩ := join2_c he c1 (by omega) (by omega) (s := 17) (by decide) (by decide) (by decide) (by decide)
            obtain ⟨d1, d2⟩ := j2.st he 1
            refine ⟨_, ?_, d1, (c2.tr j3).tr d2⟩
            rw [cl18 a1 a2', show f_Tok_opensSquare (topI ((17, b) :: B1)) M1 = some (1, M1) from rfl, bnd_eq, if_neg (show ¬ (1 : Int32) = 0 by decide), show gI M1 5 1 = nI (B1.length + 1) from h.2.1, nI_m1, kM_eq]
            unfold f_Reader_joinNow
            rw [show f_Reader_join (topI ((17, b) :: B1)) (mI M1 5 1 (nI B1.length)) = _ from j1, bnd_eq, kM_eq, bnd_eq, g2_1, bnd_eq, g2_1]
          · obtain ⟨c1, c2⟩ := h.popB
            obtain ⟨M2, j1, j2, j3⟩ := emit_m c1 (by omega) (nI 15) 0
            refine ⟨M2, ?_, j2, c2.tr j3⟩
            show f_Mod_shut_73 63 52 1 M1 = _
            unfold f_Mod_shut_73
            rw [if_neg (by decide), show gI M1 184 10 = nI (B1.length + 1) from h.1, nI_m1, kM_eq, if_neg (by decide), if_neg (by decide), if_neg (by decide), if_neg (by decide), show f_Mod_emit 15 0 (mI M1 184 10 (nI B1.length)) = _ from j1, bnd_eq]
        · unfold schS at a1; omega
        · omega
      · by_cases qs : schS s
        · have ec : cntp ((s, b) :: B1) = 1 + cntp B1 := by
            show (if s = 15 then 0 else 1) + cntp B1 = _
            rw [if_neg (by unfold schS at qs; omega)]
          rw [ec] at n3 n4
          have qs2 := qs
          unfold schS at qs2
          have sj : sgN s = 53 := by
            unfold sgN
            rw [if_neg (by omega), if_neg (by omega), if_neg (by omega), if_pos qs2]
          have tj : topJ ((s, b) :: B1) = 53 := by
            show nI (sgN s) = 53
            rw [sj]
            rfl
          obtain ⟨o, O1, P, m0, t1, t2, t3, t4, t5, t6⟩ := n2
          have hb0 : b = m0 := t2.1
          rcases t2.2 with ⟨a1, a2⟩ | ⟨a1, a2⟩ | ⟨a1, f, O2, P', m2, a2, a3, a4, a5, a6, a7, a8⟩ | ⟨a1, a2⟩
          · unfold preS at a1; omega
          · unfold binS at a1; omega
          · obtain ⟨x1, x2⟩ := search_ab (ar := ar') n1 tm qs a3 a4 a5 a6 a7 a8 t3 t4 t5 t6
            have lf := (n1 f (by have := (n1 o (by omega)).1; omega)).1
            have bo := be_en n1 o (by omega)
            refine yes 1 B1 (sz' :: O2) _ (sz' + 1) _ _ (m' + 1) _ _ _ ⟨x1, Or.inr ⟨Or.inl rfl, x2⟩, ?_, h20, ?_, by omega, fun z => absurd z (by decide)⟩ (fun M M1 h a1 a2' => ?_) (by rw [tj]; decide) (fun M1 h => ?_)
            · show pc = sz' + 1 + cntp B1 + 0
              omega
            · show m' + 1 + cntp B1 + 0 ≤ 2 * pc
              omega
            · obtain ⟨c1, c2⟩ := h.popB he
              rw [t1, a2] at c1
              rw [t1, a2, List.length_cons, List.length_cons] at tl
              obtain ⟨M2, j1, j2, j3⟩ := join2_c he c1 (by omega) (by omega) (s := s) (by show ¬ (_ ∨ _); omega) (by omega) (by omega) (by omega)
              obtain ⟨d1, d2⟩ := j2.st he 1
              refine ⟨_, ?_, d1, (c2.tr j3).tr d2⟩
              have os : f_Tok_opensSquare (topI ((s, b) :: B1)) M1 = some (1, M1) := by
                have : s = 38 ∨ s = 39 ∨ s = 40 := by omega
                rcases this with z | z | z <;> subst z <;> rfl
              rw [cl18 a1 a2', os, bnd_eq, if_neg (show ¬ (1 : Int32) = 0 by decide), show gI M1 5 1 = nI (B1.length + 1) from h.2.1, nI_m1, kM_eq]
              unfold f_Reader_joinNow
              rw [show f_Reader_join (topI ((s, b) :: B1)) (mI M1 5 1 (nI B1.length)) = _ from j1, bnd_eq, kM_eq, bnd_eq, g2_1, bnd_eq, g2_1]
            · obtain ⟨c1, c2⟩ := h.popB
              have eb : gI M1 190 B1.length = nI (en' f + 1) := by
                rw [h.2.1.2.1, hb0, a7]
                show nI (en' f + 1 + 1) - 1 = _
                rw [nI_m1]
              have mf : en' f + 1 < m' := by omega
              obtain ⟨h1, h2', h3, h4, h5, h6⟩ := c1
              have y0 : EqK (fun c k => c = 187 ∧ k = 384 + (en' f + 1)) (mI M1 184 10 (nI B1.length)) (mJ (mI M1 184 10 (nI B1.length)) 187 (384 + (en' f + 1)) (lN m')) := EqK.mJ (S := fun c k => c = 187 ∧ k = 384 + (en' f + 1)) (EqK.rf _) ⟨rfl, rfl⟩
              have c3 : MR (mJ (mI M1 184 10 (nI B1.length)) 187 (384 + (en' f + 1)) (lN m')) B1 c' (fup ar' (en' f + 1) (lN m')) m' 1 ws pc := by
                refine ⟨h1, StkM.kp (M := mI M1 184 10 (nI B1.length)) (fun k hk => ⟨rfl, rfl⟩) h2', h3, fun k hk => ⟨(h4 k hk).1, fun y => ?_⟩, h5, h6⟩
                by_cases z : k = en' f + 1
                · subst z
                  rw [fup_s]
                  exact mJs _ _ _ _
                · rw [fup_n z, (y0 187 (384 + k) (by omega)).2.1]
                  exact (h4 k hk).2 y
              obtain ⟨M2, j1, j2, j3⟩ := emit_m c3 (by omega) (nI 19) (lN (en' f + 1))
              refine ⟨M2, ?_, j2, (c2.tr (y0.mono fun c k z => by unfold Xq; omega)).tr j3⟩
              rw [tj]
              show f_Mod_shut_73 63 53 1 M1 = _
              unfold f_Mod_shut_73
              rw [if_neg (by decide), show gI M1 184 10 = nI (B1.length + 1) from h.1, nI_m1, kM_eq, if_neg (by decide), if_pos (by decide), h1, gi_nI (by omega) (by decide), nI_clamp (by omega), show gI (mI M1 184 10 (nI B1.length)) 190 B1.length = nI (en' f + 1) from (mIc (by decide)).trans eb, kM_eq, n384, gi_nI (by omega) (by decide), nI_clamp (by omega), show Int32.toNatClampNeg 8 = 8 from rfl, h3, nI_l (by omega), nI_l (by omega), kM_eq, show f_Mod_emit 19 (lN (en' f + 1)) (mJ (mI M1 184 10 (nI B1.length)) 187 (384 + (en' f + 1)) (lN m')) = _ from j1, bnd_eq]
          · omega
        · have sk2 : s = 13 ∨ s = 15 ∨ s = 20 := by
            unfold schS at qs
            omega
          refine no (fun M M1 _ a1 a2 => ?_) ?_
          · rw [cl18 a1 a2]
            rcases sk2 with z | z | z <;> subst z <;> rfl
          · rcases sk2 with z | z | z
            · subst z
              show shx (tokM (nI 18)) (nI (sgN _)) = 0
              decide
            · subst z
              show shx (tokM (nI 18)) (nI (sgN _)) = 0
              decide
            · subst z
              show shx (tokM (nI 18)) (nI (sgN _)) = 0
              decide
    · -- :
      by_cases q20 : s = 20
      · subst q20
        have ec : cntp ((20, b) :: B1) = 1 + cntp B1 := rfl
        rw [ec] at n3 n4
        refine yes 0 ((42, m') :: B1) O' E' sz' c' ar' m' lo' be' en' ⟨n1, Or.inl ⟨Or.inl rfl, colon_ab n2⟩, ?_, h20, ?_, by rw [List.length_cons]; omega, fun z => absurd z (by decide)⟩ (fun M M1 h a1 a2 => ?_) (show shx (tokM (nI 19)) (nI (sgN 20)) = 1 by decide) (fun M1 h => ?_)
        · show pc = sz' + (1 + cntp B1) + 0
          omega
        · show m' + (1 + cntp B1) + 0 ≤ 2 * pc
          omega
        · obtain ⟨c1, c2⟩ := h.popB he
          obtain ⟨M2, j1, j2, j3⟩ := begin_c he c1 (by omega) 42 m'
          refine ⟨M2, ?_, j2, c2.tr j3⟩
          rw [cl19 a1 a2, if_pos (show topI ((20, b) :: B1) = 20 from rfl), show gI M1 5 1 = nI (B1.length + 1) from h.2.1, nI_m1, kM_eq, show f_Reader_begin 42 (mI M1 5 1 (nI B1.length)) = _ from j1, bnd_eq, g2_1, bnd_eq, g2_1]
        · obtain ⟨c1, c2⟩ := h.popB
          obtain ⟨M2, j1, j2, j3⟩ := wait_m c1 (by omega) 42 35 (by decide)
          refine ⟨M2, ?_, j2, c2.tr j3⟩
          show f_Mod_shut_73 64 54 1 M1 = _
          unfold f_Mod_shut_73
          rw [if_neg (by decide), show gI M1 184 10 = nI (B1.length + 1) from h.1, nI_m1, kM_eq, if_pos (by decide), j1, bnd_eq]
      · refine no (fun M M1 _ a1 a2 => ?_) ?_
        · rw [cl19 a1 a2, if_neg (show ¬ topI ((s, b) :: B1) = 20 from nj (k := 20) (by omega) (by decide) q20), bnd_eq, g2_0]
        · rcases sk with z | z | z | z | z | z | z
          · subst z; show shx (tokM (nI 19)) (nI (sgN _)) = 0; decide
          · subst z; show shx (tokM (nI 19)) (nI (sgN _)) = 0; decide
          · subst z; show shx (tokM (nI 19)) (nI (sgN _)) = 0; decide
          · exact absurd z q20
          · subst z; show shx (tokM (nI 19)) (nI (sgN _)) = 0; decide
          · subst z; show shx (tokM (nI 19)) (nI (sgN _)) = 0; decide
          · subst z; show shx (tokM (nI 19)) (nI (sgN _)) = 0; decide
