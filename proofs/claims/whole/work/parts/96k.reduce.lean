/-! Reading: joining what has begun, both sides. -/
theorem i32_n1 (s : Nat) : nI s + 1 = nI (s + 1) := nI_1 s
theorem red_step {e : Nat} (he : eOk e) {s b : Nat} {B : List (Nat × Nat)} {O : List Nat} {E : xRow} {sz : Nat} {c : Nat → Int32} {ar : Nat → Int64} {m : Nat} {lo be en : Nat → Nat} (hN : Nds E c ar lo be en sz) (hT : Top c lo be en ((s, b) :: B) O sz m) (hr : 1 ≤ rkN s) (hs : sz < 20) (hm : m < 48) : ∃ O' E' c' ar' lo' be' en', Nds E' c' ar' lo' be' en' (sz + 1) ∧ Top c' lo' be' en' B O' (sz + 1) (m + 1) ∧
    (∀ M w ws pc, CR M e B O E sz w ws pc → ∃ M', f_Reader_join (nI s) M = some ((), M') ∧ CR M' e B O' E' (sz + 1) w ws pc ∧ EqK (Xp e) M M') ∧
    (∀ M w ws pc, MR M B c ar m w ws pc → ∃ M', f_Mod_emit (nI (sgN s)) 0 M = some ((), M') ∧ MR M' B c' ar' (m + 1) w ws pc ∧ EqK Xq M M') := by
  obtain ⟨tl, tm⟩ := hT.lt hN
  obtain ⟨o, O1, P, m0, h1, h2, h3, h4, h5, h6⟩ := hT
  have lo1 := (hN o (by omega)).1
  have bo := be_en hN o (by omega)
  have no : o ≠ sz := by omega
  have ref : ∀ M w ws pc, MR M B c ar m w ws pc → ∃ M', f_Mod_emit (nI (sgN s)) 0 M = some ((), M') ∧ MR M' B (fup c m (nI (sgN s))) (fup ar m 0) (m + 1) w ws pc ∧ EqK Xq M M' := fun M w ws pc h => emit_m h hm _ _
  rcases h2.2 with ⟨a1, a2⟩ | ⟨a1, f, O2, P', m', a2, a3, a4, a5, a6, a7⟩ | ⟨a1, a2⟩ | ⟨a1, o2, o1, O2, P', m', a2, a3, a4, a5, a6, a7, a8, a9⟩
  · have sk : s = 41 ∨ s = 34 := by
      unfold preS at a1
      rcases a1 with z | z | z | z
      · rw [z] at hr; exact absurd hr (by decide)
      · rw [z] at hr; exact absurd hr (by decide)
      · exact Or.inl z
      · exact Or.inr z
    refine ⟨sz :: O1, upE E sz (nI s) (nI o) (-1) (-1) 0, fup c m (nI (sgN s)), fup ar m 0, fup lo sz P, fup be sz m0, fup en sz m, nds_app hN tm (by omega) ?_, top_app hN (by omega) (by omega) a2 _, fun M w ws pc h => ?_, ref⟩
    · refine Or.inr (Or.inl ⟨o, h5, fup_s _ _ _, ?_, ?_, ?_, ?_⟩)
      · rw [fup_s, fup_n no]; exact h3.symm
      · rw [fup_s, fup_n no]; exact h4.symm
      · rw [fup_s, fup_n no]; exact h6
      · rw [fup_s, fup_s, show (upE E sz (nI s) (nI o) (-1) (-1) 0).1 sz = nI s from fup_s _ _ _]
        rcases sk with z | z
        · subst z
          exact Or.inr (Or.inr (Or.inr (Or.inl ⟨rfl, rfl⟩)))
        · subst z
          exact Or.inr (Or.inr (Or.inr (Or.inr ⟨rfl, rfl⟩)))
    · rw [h1] at h
      rw [h1, List.length_cons] at tl
      exact join1_c he h hs (by omega) (by rcases sk with z | z <;> rw [z] <;> decide)
  · have sk : (21 ≤ s ∧ s ≤ 33) ∨ s = 37 := by
      unfold binS at a1
      rcases a1 with z | z | z | z
      · exact Or.inl z
      · rw [z] at hr; exact absurd hr (by decide)
      · exact Or.inr z
      · rw [z] at hr; exact absurd hr (by decide)
    have lf := (hN f (by omega)).1
    have bf := be_en hN f (by omega)
    have nf : f ≠ sz := by omega
    refine ⟨sz :: O2, upE E sz (nI s) (nI f) (nI o) (-1) 0, fup c m (nI (sgN s)), fup ar m 0, fup lo sz P', fup be sz m', fup en sz m, nds_app hN tm (by omega) ?_, top_app hN (by omega) (by omega) a3 _, fun M w ws pc h => ?_, ref⟩
    · refine Or.inr (Or.inr (Or.inl ⟨f, o, h5, ?_, fup_s _ _ _, fup_s _ _ _, ?_, ?_, ?_, ?_, ?_⟩))
      · rw [fup_n no]; omega
      · rw [fup_s, fup_n nf]; exact a4.symm
      · rw [fup_s, fup_n nf]; exact a5.symm
      · rw [fup_n no, fup_n nf]; omega
      · rw [fup_s, fup_n no]; exact h6
      · rw [fup_s, fup_s, show (upE E sz (nI s) (nI f) (nI o) (-1) 0).1 sz = nI s from fup_s _ _ _]
        rcases sk with z | z
        · refine Or.inl ⟨nI_le (a := 21) z.1 (by omega), nI_le (b := 33) z.2 (by decide), ?_⟩
          rw [i32_n1]
          congr 1
          unfold sgN
          rw [if_neg (by omega), if_neg (by omega), if_neg (by omega), if_neg (by omega), if_neg (by omega), if_neg (by omega), if_neg (by omega), if_neg (by omega), if_neg (by omega)]
        · subst z
          exact Or.inr (Or.inr ⟨rfl, rfl⟩)
    · rw [h1, a2] at h
      rw [h1, a2, List.length_cons, List.length_cons] at tl
      exact join2_c he h hs (by omega) (by show ¬ (_ ∨ _); omega) (by omega) (by omega) (by omega)
  · have : rkN s = 0 := by
      unfold schS at a1
      unfold rkN
      rw [if_neg (by omega), if_neg (by omega), if_neg (by omega), if_neg (by omega), if_neg (by omega), if_neg (by omega), if_neg (by omega), if_neg (by omega)]
    omega
  · subst a1
    have l2 := (hN o2 (by omega)).1
    have b2 := be_en hN o2 (by omega)
    have l1 := (hN o1 (by omega)).1
    have b1 := be_en hN o1 (by omega)
    have n2 : o2 ≠ sz := by omega
    have n1 : o1 ≠ sz := by omega
    refine ⟨sz :: O2, upE E sz (nI 42) (nI o1) (nI o2) (nI o) 0, fup c m (nI (sgN 42)), fup ar m 0, fup lo sz P', fup be sz m', fup en sz m, nds_app hN tm (by omega) ?_, top_app hN (by omega) (by omega) a3 _, fun M w ws pc h => ?_, ref⟩
    · refine Or.inr (Or.inr (Or.inr (Or.inr ⟨o1, o2, o, h5, ?_, ?_, fup_s _ _ _, fup_s _ _ _, fup_s _ _ _, ?_, ?_, ?_, ?_, ?_, fup_s _ _ _, ?_⟩)))
      · rw [fup_n no]; omega
      · rw [fup_n n2]; omega
      · rw [fup_s, fup_n n1]; exact a4.symm
      · rw [fup_s, fup_n n1]; exact a5.symm
      · rw [fup_n n2, fup_n n1]; exact a7
      · rw [fup_n no, fup_n n2]; omega
      · rw [fup_s, fup_n no]; exact h6
      · rw [fup_s, fup_s]; rfl
    · rw [h1, a2] at h
      rw [h1, a2, List.length_cons, List.length_cons, List.length_cons] at tl
      exact join3_c he h hs (by omega)
theorem red_ok {e : Nat} (he : eOk e) {least : Nat} (hl : 1 ≤ least) (hl9 : least < 9) : ∀ (B : List (Nat × Nat)) (O : List Nat) (E : xRow) (sz : Nat) (c : Nat → Int32) (ar : Nat → Int64) (m : Nat) (lo be en : Nat → Nat), Nds E c ar lo be en sz → Top c lo be en B O sz m → sz + cntp B ≤ 20 → m + cntp B ≤ 48 → B.length ≤ 48 →
    ∃ B' O' E' sz' c' ar' m' lo' be' en', Nds E' c' ar' lo' be' en' sz' ∧ Top c' lo' be' en' B' O' sz' m' ∧ sz' + cntp B' = sz + cntp B ∧ m' + cntp B' = m + cntp B ∧ B'.length ≤ B.length ∧ (∀ s b B'', B' = (s, b) :: B'' → rkN s < least) ∧
    (∀ f M w ws pc, B.length < f → CR M e B O E sz w ws pc → ∃ M', f_Reader_joinDownTo_0 f (nI least) M = some ((), M') ∧ CR M' e B' O' E' sz' w ws pc ∧ EqK (Xp e) M M') ∧
    (∀ f M w ws pc, B.length < f → MR M B c ar m w ws pc → ∃ M', f_Mod_reduce_0 f (nI least - 1) M = some ((), M') ∧ MR M' B' c' ar' m' w ws pc ∧ EqK Xq M M')
  | [], O, E, sz, c, ar, m, lo, be, en, hN, hT, h1, h2, h3 => by
    refine ⟨[], O, E, sz, c, ar, m, lo, be, en, hN, hT, rfl, rfl, Nat.le_refl _, fun s b B'' z => (by cases z), fun f M w ws pc hf h => ?_, fun f M w ws pc hf h => ?_⟩
    · obtain ⟨g, rfl⟩ : ∃ g, f = g + 1 := ⟨f - 1, by omega⟩
      refine ⟨M, ?_, h, EqK.rf M⟩
      show f_Reader_joinDownTo_0_b (f_Reader_joinDownTo_0 g) (nI least) M = _
      unfold f_Reader_joinDownTo_0_b
      rw [if_pos (show gI M 5 1 ≤ 0 by rw [h.2.1]; decide)]
    · obtain ⟨g, rfl⟩ : ∃ g, f = g + 1 := ⟨f - 1, by omega⟩
      refine ⟨M, ?_, h, EqK.rf M⟩
      show f_Mod_reduce_0_b (f_Mod_reduce_0 g) (nI least - 1) M = _
      unfold f_Mod_reduce_0_b
      rw [if_pos (show gI M 184 10 ≤ 0 by rw [h.1]; decide)]
  | (s, b) :: B, O, E, sz, c, ar, m, lo, be, en, hN, hT, h1, h2, h3 => by
    have hok : okS s := by
      obtain ⟨o, O1, P, m0, -, z, -⟩ := hT
      exact z.ok
    obtain ⟨k1, k2⟩ := okS_r hok
    obtain ⟨t1, t2, t3⟩ := rk_tab s k1
    obtain ⟨q1, q2⟩ := rk_cmp (rkN s) t2 least hl9
    have hlen : B.length < 48 := by rw [List.length_cons] at h3; omega
    have cst : ∀ g M w ws pc, CR M e ((s, b) :: B) O E sz w ws pc → f_Reader_joinDownTo_0 (g + 1) (nI least) M = if nI (rkN s) < nI least then some ((), M) else bnd (f_Reader_join (nI s) (mI M 5 1 (nI B.length))) (fun _ m => f_Reader_joinDownTo_0 g (nI least) m) := fun g M w ws pc h => by
      have g1 : gI M 5 1 = nI (B.length + 1) := h.2.1
      have g6 : gI M 6 B.length = nI s := h.2.2.1.1
      show f_Reader_joinDownTo_0_b (f_Reader_joinDownTo_0 g) (nI least) M = _
      unfold f_Reader_joinDownTo_0_b
      rw [g1, if_neg (nI_nle (by omega) (by omega)), nI_m1, gi_nI hlen (by decide), nI_clamp (by omega), g6, crk_eq, bnd_eq, t1, g1, nI_m1, kM_eq, mIs, gi_nI hlen (by decide), nI_clamp (by omega), mIc (by decide), g6]
    have mst : ∀ g M w ws pc, MR M ((s, b) :: B) c ar m w ws pc → f_Mod_reduce_0 (g + 1) (nI least - 1) M = if nI (rkN s) - 1 < nI least - 1 then some ((), M) else bnd (f_Mod_emit (nI (sgN s)) 0 (mI M 184 10 (nI B.length))) (fun _ m => f_Mod_reduce_0 g (nI least - 1) m) := fun g M w ws pc h => by
      have g1 : gI M 184 10 = nI (B.length + 1) := h.1
      have g6 : gI M 189 B.length = nI (sgN s) := h.2.1.1
      show f_Mod_reduce_0_b (f_Mod_reduce_0 g) (nI least - 1) M = _
      unfold f_Mod_reduce_0_b
      rw [g1, if_neg (nI_nle (by omega) (by omega)), nI_m1, gi_nI hlen (by decide), nI_clamp (by omega), g6, mrk_eq, bnd_eq, t3 k2, g1, nI_m1, kM_eq, mIs, gi_nI hlen (by decide), nI_clamp (by omega), mIc (by decide), g6]
    by_cases hr : rkN s < least
    · refine ⟨(s, b) :: B, O, E, sz, c, ar, m, lo, be, en, hN, hT, rfl, rfl, Nat.le_refl _, fun s' b' B'' z => (by cases z; exact hr), fun f M w ws pc hf h => ?_, fun f M w ws pc hf h => ?_⟩
      · obtain ⟨g, rfl⟩ : ∃ g, f = g + 1 := ⟨f - 1, by omega⟩
        exact ⟨M, by rw [cst g M w ws pc h, if_pos (q1.mpr hr)], h, EqK.rf M⟩
      · obtain ⟨g, rfl⟩ : ∃ g, f = g + 1 := ⟨f - 1, by omega⟩
        exact ⟨M, by rw [mst g M w ws pc h, if_pos (q2.mpr hr)], h, EqK.rf M⟩
    · have n15 : ¬ s = 15 := fun z => by rw [z] at hr; exact hr (by show 0 < least; omega)
      have ec : cntp ((s, b) :: B) = 1 + cntp B := by show (if s = 15 then 0 else 1) + cntp B = _; rw [if_neg n15]
      rw [ec] at h1 h2
      obtain ⟨O1, E1, c1, ar1, lo1, be1, en1, a1, a2, a3, a4⟩ := red_step he hN hT (by omega) (by omega) (by omega)
      obtain ⟨B', O', E', sz', c', ar', m', lo', be', en', b1, b2, b3, b4, b5, b6, b7, b8⟩ := red_ok he hl hl9 B O1 E1 (sz + 1) c1 ar1 (m + 1) lo1 be1 en1 a1 a2 (by omega) (by omega) (by omega)
      refine ⟨B', O', E', sz', c', ar', m', lo', be', en', b1, b2, by omega, by omega, by rw [List.length_cons]; omega, b6, fun f M w ws pc hf h => ?_, fun f M w ws pc hf h => ?_⟩
      · obtain ⟨g, rfl⟩ : ∃ g, f = g + 1 := ⟨f - 1, by omega⟩
        obtain ⟨p1, p2⟩ := h.popB he
        obtain ⟨M1, j1, j2, j3⟩ := a3 _ w ws pc p1
        obtain ⟨M2, i1, i2, i3⟩ := b7 g M1 w ws pc (by rw [List.length_cons] at hf; omega) j2
        exact ⟨M2, by rw [cst g M w ws pc h, if_neg (fun z => hr (q1.mp z)), j1, bnd_eq]; exact i1, i2, (p2.tr j3).tr i3⟩
      · obtain ⟨g, rfl⟩ : ∃ g, f = g + 1 := ⟨f - 1, by omega⟩
        obtain ⟨p1, p2⟩ := h.popB
        obtain ⟨M1, j1, j2, j3⟩ := a4 _ w ws pc p1
        obtain ⟨M2, i1, i2, i3⟩ := b8 g M1 w ws pc (by rw [List.length_cons] at hf; omega) j2
        exact ⟨M2, by rw [mst g M w ws pc h, if_neg (fun z => hr (q2.mp z)), j1, bnd_eq]; exact i1, i2, (p2.tr j3).tr i3⟩
theorem jdt_eq (l : Int32) (M : ax_M) : f_Reader_joinDownTo l M = f_Reader_joinDownTo_0 65 l M := rfl
theorem mred_eq (l : Int32) (M : ax_M) : f_Mod_reduce l M = f_Mod_reduce_0 65 l M := rfl
