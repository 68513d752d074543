/-! Reading: one token behind a value, the rest; one token, both sides. -/
theorem redbeg {e : Nat} (he : eOk e) {B : List (Nat × Nat)} {O : List Nat} {E : xRow} {sz : Nat} {c : Nat → Int32} {ar : Nat → Int64} {m : Nat} {lo be en : Nat → Nat} {ws : Int32} {pc pos p1 j : Nat} {v : Int64} (hN : Nds E c ar lo be en sz) (hT : Top c lo be en B O sz m) (hpc : pc = sz + cntp B + 1) (h20 : pc ≤ 20) (h2 : m + cntp B + 2 ≤ 2 * pc) (hl : B.length ≤ pos) (hp : pos < p1) (hp48 : pos < 48) (hj : binS j) (hj15 : j ≠ 15) {least : Nat} (l1 : 1 ≤ least) (l9 : least < 9)
    (hC : ∀ M M1 M2, f_Reader_joinDownTo (nI least) M = some ((), M1) → f_Reader_begin (nI j) M1 = some (1, M2) → f_Reader_takesBehindValue (nI j) M = some (1, M2))
    (hM : ∀ M M1 M2, gI M 184 7 = 1 → f_Mod_reduce (nI least - 1) M = some ((), M1) → f_Mod_wait (nI (sgN j)) M1 = some ((), M2) → f_Mod_take (tokM (nI j)) M = some (1, M2)) : Core e B O E sz c ar m 1 ws pc (nI j) v p1 := by
  obtain ⟨B', O', E', sz', c', ar', m', lo', be', en', n1, n2, n3, n4, n5, n6, n7, n8⟩ := red_ok he l1 l9 B O E sz c ar m lo be en hN hT (by omega) (by omega) (by omega)
  have ec : cntp ((j, m') :: B') = 1 + cntp B' := by
    show (if j = 15 then 0 else 1) + cntp B' = _
    rw [if_neg hj15]
  refine Or.inr ⟨0, ws, (j, m') :: B', O', E', sz', c', ar', m', lo', be', en', ⟨n1, Or.inl ⟨Or.inl rfl, push_ab n2 hj⟩, ?_, h20, ?_, by rw [List.length_cons]; omega, fun z => absurd z (by decide)⟩, fun M v' hv h => ?_, fun M hv h => ?_⟩
  · show pc = sz' + cntp ((j, m') :: B') + 0
    rw [ec]
    omega
  · show m' + cntp ((j, m') :: B') + 0 ≤ 2 * pc
    rw [ec]
    omega
  · obtain ⟨M1, a1, a2, a3⟩ := n7 65 M 1 ws pc (by omega) h
    obtain ⟨M2, b1, b2, b3⟩ := begin_c he a2 (by omega) j m'
    exact ⟨M2, by rw [t24_1 h h20, hC M M1 M2 (by rw [jdt_eq]; exact a1) b1, bnd_eq, g2_1], a3.tr b3, b2⟩
  · obtain ⟨M1, a1, a2, a3⟩ := n8 65 M 1 ws pc (by omega) h
    obtain ⟨M2, b1, b2, b3⟩ := wait_m a2 (by omega) j (nI (sgN j)) rfl
    exact ⟨M2, hM M M1 M2 (by rw [h.2.2.2.2.1, stM_1]) (by rw [mred_eq]; exact a1) b1, a3.tr b3, b2⟩
theorem tb_lit : ∀ j, j < 41 → ((j ≤ 15 ∨ (21 ≤ j ∧ j ≤ 34)) → (¬ nI j = 16 ∧ ¬ nI j = 17 ∧ ¬ nI j = 18 ∧ ¬ nI j = 19 ∧ ¬ nI j = 20 ∧ ¬ nI j = 35) ∧ (¬ nI j = 36 ∧ ¬ nI j = 37 ∧ ¬ nI j = 38 ∧ ¬ nI j = 39 ∧ ¬ nI j = 40)) := fun j h hj => ⟨⟨nj (k := 16) (by omega) (by decide) (by omega), nj (k := 17) (by omega) (by decide) (by omega), nj (k := 18) (by omega) (by decide) (by omega), nj (k := 19) (by omega) (by decide) (by omega), nj (k := 20) (by omega) (by decide) (by omega), nj (k := 35) (by omega) (by decide) (by omega)⟩, nj (k := 36) (by omega) (by decide) (by omega), nj (k := 37) (by omega) (by decide) (by omega), nj (k := 38) (by omega) (by decide) (by omega), nj (k := 39) (by omega) (by decide) (by omega), nj (k := 40) (by omega) (by decide) (by omega)⟩
theorem tb_eq {j : Nat} (hj : j ≤ 15 ∨ (21 ≤ j ∧ j ≤ 34)) (M : ax_M) : f_Reader_takesBehindValue (nI j) M = bnd (f_Reader_takesBetween (nI j) M) (fun q49 M50 => g2 q49 (some (q49, M50))) := by
  obtain ⟨⟨a1, a2, a3, a4, a5, a6⟩, a7, a8, a9, a10, a11⟩ := tb_lit j (by omega) hj
  unfold f_Reader_takesBehindValue
  rw [if_neg a1, if_neg a2, if_neg a3, if_neg a4, if_neg a5, if_neg a6, if_neg a7, if_neg a8, if_neg a9, if_neg a10, if_neg a11]
theorem op_tab : ∀ j, j < 34 → 21 ≤ j → (crk (nI j) = nI (rkN j) ∧ 2 ≤ rkN j ∧ rkN j ≤ 7) ∧ tokM (nI j) = nI (sgN j) ∧ ¬ tokM (nI j) < 22 ∧ ¬ 34 < tokM (nI j) ∧ mrk (tokM (nI j)) = nI (rkN j) - 1 := by decide +kernel
def nq (j : Nat) : Prop := (2 ≤ j ∧ j ≤ 15) ∨ j = 34
theorem nt1 : ∀ j, j < 35 → ((2 ≤ j ∧ j ≤ 15) ∨ j = 34) → (crk (nI j) < 2 ∨ (¬ crk (nI j) < 2 ∧ ¬ crk (nI j) ≤ 7)) := by decide +kernel
theorem nt2 : ∀ j, j < 35 → ((2 ≤ j ∧ j ≤ 15) ∨ j = 34) → (¬ tokM (nI j) = 36 ∧ ¬ tokM (nI j) = 65 ∧ ¬ tokM (nI j) = 62 ∧ ¬ tokM (nI j) = 67) := by decide +kernel
theorem nt3 : ∀ j, j < 35 → ((2 ≤ j ∧ j ≤ 15) ∨ j = 34) → (¬ tokM (nI j) = 66 ∧ ¬ tokM (nI j) = 61 ∧ ¬ tokM (nI j) = 63 ∧ ¬ tokM (nI j) = 64) := by decide +kernel
theorem nt4 : ∀ j, j < 35 → ((2 ≤ j ∧ j ≤ 15) ∨ j = 34) → (tokM (nI j) < 22 ∨ 34 < tokM (nI j)) ∧ (tokM (nI j) < 16 ∨ (¬ tokM (nI j) < 16 ∧ 18 < tokM (nI j))) := by decide +kernel
theorem core1 {e : Nat} (he : eOk e) {B : List (Nat × Nat)} {O : List Nat} {E : xRow} {sz : Nat} {c : Nat → Int32} {ar : Nat → Int64} {m : Nat} {lo be en : Nat → Nat} {ws : Int32} {pc pos p1 j : Nat} {v : Int64} (hN : Nds E c ar lo be en sz) (hT : Top c lo be en B O sz m) (hpc : pc = sz + cntp B + prt j) (h20 : pc ≤ 20) (h2 : m + cntp B + 2 * prt j ≤ 2 * pc) (hl : B.length ≤ pos) (hp : pos < p1) (hp48 : pos < 48) (hj2 : 2 ≤ j) (hj : j ≤ 40) : Core e B O E sz c ar m 1 ws pc (nI j) v p1 := by
  by_cases qc : j = 16 ∨ j = 18 ∨ j = 19
  · have : prt j = 0 := by
      unfold prt
      rw [if_pos (by omega)]
    rw [this] at hpc h2
    exact core_close he hN hT hpc h20 (by omega) hl hp hp48 qc
  by_cases q35 : j = 35
  · subst q35
    rw [show prt 35 = 0 from rfl] at hpc h2
    refine Or.inr ⟨3, 14, B, O, E, sz, c, ar, m, lo, be, en, ⟨hN, Or.inr ⟨Or.inr rfl, hT⟩, hpc, h20, h2, by omega, fun _ => Or.inl rfl⟩, fun M v' hv h => ?_, fun M hv h => ?_⟩
    · obtain ⟨a1, a2⟩ := h.ss he 14
      obtain ⟨b1, b2⟩ := a1.st he 3
      exact ⟨_, by rw [t24_1 h h20]; rfl, a2.tr b2, b1⟩
    · obtain ⟨b1, b2⟩ := h.st 3 14
      exact ⟨_, by rw [mt_1 (by rw [h.2.2.2.2.1, stM_1])]; rfl, b2, b1⟩
  by_cases q36 : j = 36
  · subst q36
    rw [show prt 36 = 0 from rfl] at hpc h2
    refine Or.inr ⟨3, 43, B, O, E, sz, c, ar, m, lo, be, en, ⟨hN, Or.inr ⟨Or.inr rfl, hT⟩, hpc, h20, h2, by omega, fun _ => Or.inr rfl⟩, fun M v' hv h => ?_, fun M hv h => ?_⟩
    · obtain ⟨a1, a2⟩ := h.ss he 43
      obtain ⟨b1, b2⟩ := a1.st he 3
      exact ⟨_, by rw [t24_1 h h20]; rfl, a2.tr b2, b1⟩
    · obtain ⟨b1, b2⟩ := h.st 3 43
      exact ⟨_, by rw [mt_1 (by rw [h.2.2.2.2.1, stM_1])]; rfl, b2, b1⟩
  have hprt : prt j = if j = 15 then 0 else 1 := by
    unfold prt
    by_cases z : j = 15
    · rw [if_pos (Or.inl z), if_pos z]
    · rw [if_neg (by omega), if_neg z]
  by_cases q17 : j = 17
  · subst q17
    rw [show prt 17 = 1 from rfl] at hpc h2
    refine Or.inr ⟨0, ws, (17, m) :: B, O, E, sz, c, ar, m, lo, be, en, ⟨hN, Or.inl ⟨Or.inl rfl, push_ab hT (Or.inr (Or.inl rfl))⟩, ?_, h20, ?_, by rw [List.length_cons]; omega, fun z => absurd z (by decide)⟩, fun M v' hv h => ?_, fun M hv h => ?_⟩
    · show pc = sz + (1 + cntp B) + 0
      omega
    · show m + (1 + cntp B) + 0 ≤ 2 * pc
      omega
    · obtain ⟨M1, a1, a2, a3⟩ := begin_c he h (by omega) 17 m
      refine ⟨M1, ?_, a3, a2⟩
      rw [t24_1 h h20]
      unfold f_Reader_takesBehindValue
      rw [if_neg (show ¬ nI 17 = 16 by decide), if_pos (show nI 17 = 17 by decide), a1, bnd_eq, g2_1, bnd_eq, g2_1]
    · obtain ⟨M1, a1, a2, a3⟩ := wait_m h (by omega) 17 52 (by decide)
      refine ⟨M1, ?_, a3, a2⟩
      rw [mt_1 (by rw [h.2.2.2.2.1, stM_1])]
      show bnd (f_Mod_wait 52 M) (fun q19 M20 => some (1, M20)) = _
      rw [a1, bnd_eq]
  by_cases qs : 38 ≤ j
  · have hs : schS j := ⟨qs, hj⟩
    rw [hprt, if_neg (by omega)] at hpc h2
    obtain ⟨tl, tm⟩ := hT.lt hN
    have ec : cntp ((j, m + 1) :: B) = 1 + cntp B := by
      show (if j = 15 then 0 else 1) + cntp B = _
      rw [if_neg (by omega)]
    have jj : j = 38 ∨ j = 39 ∨ j = 40 := by omega
    refine Or.inr ⟨0, ws, (j, m + 1) :: B, O, E, sz, fup c m (nI (j - 22)), fup ar m 0, m + 1, lo, be, en, ⟨nds_up hN tm _ _, Or.inl ⟨Or.inl rfl, pushS_ab hN hT hs⟩, ?_, h20, ?_, by rw [List.length_cons]; omega, fun z => absurd z (by decide)⟩, fun M v' hv h => ?_, fun M hv h => ?_⟩
    · show pc = sz + cntp ((j, m + 1) :: B) + 0
      rw [ec]
      omega
    · show m + 1 + cntp ((j, m + 1) :: B) + 0 ≤ 2 * pc
      rw [ec]
      omega
    · obtain ⟨M1, a1, a2, a3⟩ := begin_c he h (by omega) j (m + 1)
      refine ⟨M1, ?_, a3, a2⟩
      rw [t24_1 h h20]
      have eq : f_Reader_takesBehindValue (nI j) M = bnd (f_Reader_begin (nI j) M) (fun q38 M39 => g2 q38 (some (q38, M39))) := by
        rcases jj with z | z | z <;> subst z <;> rfl
      rw [eq, a1, bnd_eq, g2_1, bnd_eq, g2_1]
    · obtain ⟨M1, a1, a2, a3⟩ := emit_m h (by omega) (nI (j - 22)) 0
      obtain ⟨M2, b1, b2, b3⟩ := wait_m a2 (by omega) j 53 (by rcases jj with z | z | z <;> subst z <;> decide)
      refine ⟨M2, ?_, a3.tr b3, b2⟩
      rw [mt_1 (by rw [h.2.2.2.2.1, stM_1])]
      have eq : (if tokM (nI j) < 22 then (f_Mod_take_201 (tokM (nI j)) M) else (if 34 < tokM (nI j) then (f_Mod_take_201 (tokM (nI j)) M) else (bnd (f_Mod_rank (tokM (nI j)) M) (fun q43 M44 => bnd (f_Mod_reduce q43 M44) (fun q45 M46 => bnd (f_Mod_wait (tokM (nI j)) M46) (fun q47 M48 => some (1, M48))))))) = bnd (f_Mod_emit (nI (j - 22)) 0 M) (fun _ M41 => bnd (f_Mod_wait 53 M41) (fun q35 M36 => some (1, M36))) := by
        rcases jj with z | z | z <;> subst z <;> rfl
      rw [eq, a1, bnd_eq, b1, bnd_eq]
  by_cases q20 : j = 20
  · subst q20
    rw [show prt 20 = 1 from rfl] at hpc h2
    refine redbeg he hN hT hpc h20 h2 hl hp hp48 (Or.inr (Or.inr (Or.inr rfl))) (by decide) (least := 2) (by decide) (by decide) (fun M M1 M2 a1 a2 => ?_) (fun M M1 M2 h7 a1 a2 => ?_)
    · unfold f_Reader_takesBehindValue
      rw [if_neg (show ¬ nI 20 = 16 by decide), if_neg (show ¬ nI 20 = 17 by decide), if_neg (show ¬ nI 20 = 18 by decide), if_neg (show ¬ nI 20 = 19 by decide), if_pos (show nI 20 = 20 by decide), show f_Reader_joinDownTo 2 M = _ from a1, bnd_eq, a2, bnd_eq, g2_1]
    · rw [mt_1 h7]
      show bnd (f_Mod_reduce 1 M) (fun q6 M7 => bnd (f_Mod_wait 54 M7) (fun q11 M12 => some (1, M12))) = _
      rw [show f_Mod_reduce 1 M = _ from a1, bnd_eq, show f_Mod_wait 54 M1 = _ from a2, bnd_eq]
  by_cases q37 : j = 37
  · subst q37
    rw [show prt 37 = 1 from rfl] at hpc h2
    refine redbeg he hN hT hpc h20 h2 hl hp hp48 (Or.inr (Or.inr (Or.inl rfl))) (by decide) (least := 2) (by decide) (by decide) (fun M M1 M2 a1 a2 => ?_) (fun M M1 M2 h7 a1 a2 => ?_)
    · unfold f_Reader_takesBehindValue
      rw [if_neg (show ¬ nI 37 = 16 by decide), if_neg (show ¬ nI 37 = 17 by decide), if_neg (show ¬ nI 37 = 18 by decide), if_neg (show ¬ nI 37 = 19 by decide), if_neg (show ¬ nI 37 = 20 by decide), if_neg (show ¬ nI 37 = 35 by decide), if_neg (show ¬ nI 37 = 36 by decide), if_pos (show nI 37 = 37 by decide), show f_Reader_joinDownTo 2 M = _ from a1, bnd_eq, a2, bnd_eq, g2_1]
    · rw [mt_1 h7]
      show bnd (f_Mod_reduce 1 M) (fun q6 M7 => bnd (f_Mod_wait 36 M7) (fun q9 M10 => some (1, M10))) = _
      rw [show f_Mod_reduce 1 M = _ from a1, bnd_eq, show f_Mod_wait 36 M1 = _ from a2, bnd_eq]
  by_cases qo : 21 ≤ j ∧ j ≤ 33
  · obtain ⟨⟨t1, t2, t3⟩, t4, t5, t6, t7⟩ := op_tab j (by omega) qo.1
    rw [hprt, if_neg (by omega)] at hpc h2
    refine redbeg he hN hT hpc h20 h2 hl hp hp48 (Or.inl qo) (by omega) (least := rkN j) (by omega) (by omega) (fun M M1 M2 a1 a2 => ?_) (fun M M1 M2 h7 a1 a2 => ?_)
    · rw [tb_eq (Or.inr (by omega))]
      unfold f_Reader_takesBetween
      rw [crk_eq, bnd_eq, t1, if_neg (show ¬ nI (rkN j) < 2 from nI_nlt (a := rkN j) (b := 2) t2 (by omega)), if_pos (show nI (rkN j) ≤ 7 from nI_le (b := 7) t3 (by decide)), a1, bnd_eq, a2, bnd_eq, g2_1, bnd_eq, g2_1]
    · rw [mt_1 h7, if_neg t5, if_neg t6, mrk_eq, bnd_eq, t7, a1, bnd_eq, t4, a2, bnd_eq]
  · have hn : (2 ≤ j ∧ j ≤ 15) ∨ j = 34 := by omega
    have r1 := nt1 j (by omega) hn
    obtain ⟨r2, r3, r4, r5⟩ := nt2 j (by omega) hn
    obtain ⟨r6, r7, r8, r9⟩ := nt3 j (by omega) hn
    obtain ⟨r10, r11⟩ := nt4 j (by omega) hn
    refine Or.inl ⟨fun M v' hv h => ?_, fun M hv h => ?_⟩
    · refine ⟨M, ?_, EqK.rf M, trivial⟩
      rw [t24_1 h h20, tb_eq (by omega)]
      unfold f_Reader_takesBetween
      rw [crk_eq, bnd_eq]
      rcases r1 with z | ⟨z, y⟩
      · rw [if_pos z, bnd_eq, g2_0, bnd_eq, g2_0]
      · rw [if_neg z, if_neg y, bnd_eq, g2_0, bnd_eq, g2_0]
    · refine ⟨mI M 184 7 1, ?_, EqK.mI (S := Xq) (EqK.rf M) (Or.inl ⟨rfl, Or.inl rfl⟩), trivial⟩
      have e255 : f_Mod_take_255 (tokM (nI j)) M = some (0, mI M 184 7 1) := by
        have e292 : f_Mod_take_292 (tokM (nI j)) M = some (0, mI M 184 7 1) := by
          unfold f_Mod_take_292
          rw [if_neg r5, if_neg r6]
          unfold f_Mod_take_314
          rw [kM_eq, if_neg r5, if_neg r6, if_neg r7, if_neg r8, if_neg r9]
        unfold f_Mod_take_255
        rw [if_neg r4]
        rcases r11 with z | ⟨z, y⟩
        · rw [if_pos z, e292]
        · rw [if_neg z, if_pos y, e292]
      have e201 : f_Mod_take_201 (tokM (nI j)) M = some (0, mI M 184 7 1) := by
        unfold f_Mod_take_201
        rw [if_neg r2, if_neg r3]
        rcases r11 with z | ⟨z, y⟩
        · rw [if_pos z, e255]
        · rw [if_neg z, if_pos y, e255]
      rw [mt_1 (by rw [h.2.2.2.2.1, stM_1])]
      rcases r10 with z | z
      · rw [if_pos z, e201]
      · by_cases y : tokM (nI j) < 22
        · rw [if_pos y, e201]
        · rw [if_neg y, if_pos z, e201]
