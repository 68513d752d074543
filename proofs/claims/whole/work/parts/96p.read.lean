/-! Reading: the whole text, both sides. -/
theorem CR.pc {M : ax_M} {e : Nat} (he : eOk e) {B : List (Nat × Nat)} {O : List Nat} {E : xRow} {sz pc : Nat} {w ws : Int32} (h : CR M e B O E sz w ws pc) (pc' : Nat) : CR (mI M 5 6 (nI pc')) e B O E sz w ws pc' ∧ EqK (Xp e) M (mI M 5 6 (nI pc')) := by
  obtain ⟨h0, h1, h2, h3, h4, h5, h6, h7, h8, h9⟩ := h
  obtain ⟨e1, e2, e3⟩ := he
  have x : EqK (fun c k => c = 5 ∧ k = 6) M (mI M 5 6 (nI pc')) := EqK.mI (S := fun c k => c = 5 ∧ k = 6) (EqK.rf M) ⟨rfl, rfl⟩
  exact ⟨⟨h0, (x 5 1 (by omega)).1.trans h1, h2.kp fun k hk => (x 6 k (by omega)).1, (x 5 3 (by omega)).1.trans h3, h4.kp fun k hk => (x 7 k (by omega)).1, (x e 5 (by omega)).1.trans h5, h6.kp fun c k a b => ⟨(x c k (by omega)).1, (x c k (by omega)).2.1⟩, (x 5 4 (by omega)).1.trans h7, (x 5 5 (by omega)).1.trans h8, mIs _ _ _ _⟩, x.mono fun c k z => by unfold Xp; omega⟩
theorem MR.pc {M : ax_M} {B : List (Nat × Nat)} {c : Nat → Int32} {ar : Nat → Int64} {m pc : Nat} {w ws : Int32} (h : MR M B c ar m w ws pc) (pc' : Nat) : MR (mI M 184 11 (nI pc')) B c ar m w ws pc' ∧ EqK Xq M (mI M 184 11 (nI pc')) := by
  obtain ⟨h1, h2, h3, h4, h5, h6⟩ := h
  have e : EqK (fun c k => c = 184 ∧ k = 11) M (mI M 184 11 (nI pc')) := EqK.mI (S := fun c k => c = 184 ∧ k = 11) (EqK.rf M) ⟨rfl, rfl⟩
  exact ⟨⟨(e 184 10 (by omega)).1.trans h1, h2.kp fun k hk => ⟨(e 189 k (by omega)).1, (e 190 k (by omega)).1⟩, (e 188 8 (by omega)).1.trans h3, fun k hk => ⟨(e 186 _ (by omega)).1.trans (h4 k hk).1, fun y => (e 187 _ (by omega)).2.1.trans ((h4 k hk).2 y)⟩, (e 184 7 (by omega)).1.trans h5, mIs _ _ _ _⟩, e.mono fun c k z => by unfold Xq; omega⟩
theorem ispart {j : Nat} (hj : j < 100) (M : ax_M) : f_Tok_isPart (nI j) M = some (if prt j = 0 then 0 else 1, M) := by
  have n : ∀ k, k < 100 → (nI j = nI k ↔ j = k) := fun k hk => nI_eq (by omega) (by omega)
  have n15 : nI j = 15 ↔ j = 15 := n 15 (by decide)
  have n16 : nI j = 16 ↔ j = 16 := n 16 (by decide)
  have n18 : nI j = 18 ↔ j = 18 := n 18 (by decide)
  have n19 : nI j = 19 ↔ j = 19 := n 19 (by decide)
  have n35 : nI j = 35 ↔ j = 35 := n 35 (by decide)
  have n36 : nI j = 36 ↔ j = 36 := n 36 (by decide)
  unfold f_Tok_isPart
  by_cases z : j = 15 ∨ j = 16 ∨ j = 18 ∨ j = 19 ∨ j = 35 ∨ j = 36
  · rw [show prt j = 0 from if_pos z, if_pos rfl]
    rcases z with z | z | z | z | z | z <;> subst z <;> rfl
  · rw [show prt j = 1 from if_neg z, if_neg (show ¬ (1 : Nat) = 0 by decide), if_neg (fun y => z (Or.inl (n15.mp y))), if_neg (fun y => z (Or.inr (Or.inl (n16.mp y)))), if_neg (fun y => z (Or.inr (Or.inr (Or.inl (n18.mp y))))), if_neg (fun y => z (Or.inr (Or.inr (Or.inr (Or.inl (n19.mp y)))))), if_neg (fun y => z (Or.inr (Or.inr (Or.inr (Or.inr (Or.inl (n35.mp y))))))), if_neg (fun y => z (Or.inr (Or.inr (Or.inr (Or.inr (Or.inr (n36.mp y)))))))]
theorem takes_eq {M : ax_M} {e : Nat} (he : eOk e) {B : List (Nat × Nat)} {O : List Nat} {E : xRow} {sz pc : Nat} {w ws : Int32} (h : CR M e B O E sz w ws pc) {j : Nat} (h2 : 2 ≤ j) (hj : j ≤ 40) (v : Int64) : ∃ M1, f_Reader_takes (nI j) v M = f_Reader_takes_24 (nI j) v M1 ∧ CR M1 e B O E sz w ws (pc + prt j) ∧ EqK (Xp e) M M1 := by
  unfold f_Reader_takes
  rw [if_neg (show ¬ nI j = 1 from nj (k := 1) (by omega) (by decide) (by omega)), ispart (by omega), bnd_eq]
  have p01 : prt j = 0 ∨ prt j = 1 := by
    unfold prt
    split
    · exact Or.inl rfl
    · exact Or.inr rfl
  rcases p01 with z | z
  · rw [z, if_pos rfl, if_pos rfl]
    exact ⟨M, rfl, h, EqK.rf M⟩
  · rw [z, if_neg (show ¬ (1 : Nat) = 0 by decide), if_neg (show ¬ (1 : Int32) = 0 by decide), h.2.2.2.2.2.2.2.2.2, nI_1, kM_eq]
    obtain ⟨a1, a2⟩ := h.pc he (pc + 1)
    exact ⟨_, rfl, a1, a2⟩
theorem r147_tab : ∀ j, j < 41 → (j = 15 ∨ j = 16 ∨ j = 18 ∨ j = 19 ∨ j = 35 ∨ j = 36) ∨ (¬ tokM (nI j) = 60 ∧ ¬ tokM (nI j) = 61 ∧ ¬ tokM (nI j) = 63 ∧ ¬ tokM (nI j) = 64 ∧ ¬ tokM (nI j) = 67 ∧ ¬ tokM (nI j) = 66) := by decide +kernel
theorem tok_n0 : ∀ j, j < 41 → 2 ≤ j → ¬ tokM (nI j) = 0 := by decide +kernel
theorem read147 {K : Int32 → ax_M → Option (Int32 × ax_M)} {l1 l2 : Int32} {M : ax_M} {B : List (Nat × Nat)} {c : Nat → Int32} {ar : Nat → Int64} {m pc : Nat} {w ws : Int32} (h : MR M B c ar m w ws pc) {j : Nat} (hj1 : 1 ≤ j) (hj : j ≤ 40) : ∃ M1, MR M1 B c ar m w ws (pc + prt j) ∧ EqK Xq M M1 ∧ gJ M1 184 6 = gJ M 184 6 ∧ f_Mod_read_147 K l1 l2 (tokM (nI j)) M = if tokM (nI j) = 0 then (some (l2, M1)) else (if 20 < nI (pc + prt j) then (some (l2, M1)) else (bnd (f_Mod_take (tokM (nI j)) M1) (fun q25 M26 => if q25 = 0 then (some (l2, M26)) else (kM (l1 + 1) (fun x28 => K x28 M26))))) := by
  have r210 : ∀ p : Nat, f_Mod_read_210 K l1 l2 (tokM (nI j)) (nI p) M = if tokM (nI j) = 0 then (some (l2, mI M 184 11 (nI p))) else (if 20 < nI p then (some (l2, mI M 184 11 (nI p))) else (bnd (f_Mod_take (tokM (nI j)) (mI M 184 11 (nI p))) (fun q25 M26 => if q25 = 0 then (some (l2, M26)) else (kM (l1 + 1) (fun x28 => K x28 M26))))) := fun p => by
    unfold f_Mod_read_210
    rw [kM_eq, mIs]
  obtain ⟨a1, a2⟩ := h.pc (pc + prt j)
  refine ⟨mI M 184 11 (nI (pc + prt j)), a1, a2, rfl, ?_⟩
  rw [← r210]
  have h11 : gI M 184 11 = nI pc := h.2.2.2.2.2
  unfold f_Mod_read_147
  by_cases z : j = 15 ∨ j = 16 ∨ j = 18 ∨ j = 19 ∨ j = 35 ∨ j = 36
  · rw [show prt j = 0 from if_pos z, Nat.add_zero, ← h11]
    rcases z with z | z | z | z | z | z <;> subst z <;> rfl
  · obtain ⟨t1, t2, t3, t4, t5, t6⟩ := (r147_tab j (by omega)).resolve_left z
    rw [show prt j = 1 from if_neg z, if_neg t1, if_neg t2, if_neg t3, if_neg t4, if_neg t5, if_neg t6, if_neg (by decide), h11, nI_1]
/-- one token -/
theorem tok_step {e : Nat} (he : eOk e) {w ws : Int32} {B : List (Nat × Nat)} {O : List Nat} {E : xRow} {sz : Nat} {c : Nat → Int32} {ar : Nat → Int64} {m : Nat} {lo be en : Nat → Nat} {pos pc p1 : Nat} (hI : Inv w ws B O E sz c ar m lo be en pos pc) {t : Int32} {v : Int64} (ht : Tk t) (hv : t = 2 → v = v.toInt32.toInt64) (hp : pos < p1) (hp48 : pos < 48) :
    ((∀ M v', (t = 2 ∨ t = 3 → v' = v) → CR M e B O E sz w ws pc → ∃ M', f_Reader_takes t v' M = some (0, M') ∧ EqK (Xp e) M M') ∧ (∀ K l1 l2 M, (t = 2 ∨ t = 3 → gJ M 184 6 = v) → MR M B c ar m w ws pc → ∃ M', f_Mod_read_147 K l1 l2 (tokM t) M = some (l2, M') ∧ EqK Xq M M')) ∨
    ∃ w' ws' B' O' E' sz' c' ar' m' lo' be' en' pc', Inv w' ws' B' O' E' sz' c' ar' m' lo' be' en' p1 pc' ∧ (∀ M v', (t = 2 ∨ t = 3 → v' = v) → CR M e B O E sz w ws pc → ∃ M', f_Reader_takes t v' M = some (1, M') ∧ EqK (Xp e) M M' ∧ CR M' e B' O' E' sz' w' ws' pc') ∧ (∀ K l1 l2 M, (t = 2 ∨ t = 3 → gJ M 184 6 = v) → MR M B c ar m w ws pc → ∃ M', f_Mod_read_147 K l1 l2 (tokM t) M = K (l1 + 1) M' ∧ EqK Xq M M' ∧ MR M' B' c' ar' m' w' ws' pc') := by
  obtain ⟨j, j1, j40, rfl⟩ := ht
  obtain ⟨i1, i2, i3, i4, i5, i6, i7⟩ := hI
  by_cases q1 : j = 1
  · subst q1
    refine Or.inl ⟨fun M v' _ h => ⟨M, rfl, EqK.rf M⟩, fun K l1 l2 M _ h => ?_⟩
    obtain ⟨M1, a1, a2, a3, a4⟩ := read147 (K := K) (l1 := l1) (l2 := l2) h (j := 1) (by decide) (by decide)
    exact ⟨M1, by rw [a4, if_pos (by decide)], a2⟩
  have j2 : 2 ≤ j := by omega
  have t0 := tok_n0 j (by omega) j2
  by_cases q20 : pc + prt j ≤ 20
  · have core : Core e B O E sz c ar m w ws (pc + prt j) (nI j) v p1 := by
      rcases i2 with ⟨z | z, hW⟩ | ⟨z | z, hT⟩
      · subst z
        have i3 : pc = sz + cntp B + 0 := i3
        have i5 : m + cntp B + 0 ≤ 2 * pc := i5
        exact core0 he i1 hW (by omega) q20 (by omega) i6 hp hp48 j2 j40 hv
      · subst z
        have i3 : pc = sz + cntp B + 1 := i3
        have i5 : m + cntp B + 1 ≤ 2 * pc := i5
        exact core2 he i1 hW (by omega) q20 (by omega) i6 hp hp48 j40
      · subst z
        have i3 : pc = sz + cntp B + 0 := i3
        have i5 : m + cntp B + 0 ≤ 2 * pc := i5
        exact core1 he i1 hT (by omega) q20 (by omega) i6 hp hp48 j2 j40
      · subst z
        have i3 : pc = sz + cntp B + 0 := i3
        have i5 : m + cntp B + 0 ≤ 2 * pc := i5
        exact core3 he i1 hT (i7 rfl) (by omega) q20 (by omega) i6 hp j40
    have n20 : ¬ 20 < nI (pc + prt j) := nI_nlt (a := 20) (b := pc + prt j) q20 (by decide)
    rcases core with ⟨hC, hM⟩ | ⟨w', ws', B', O', E', sz', c', ar', m', lo', be', en', hI', hC, hM⟩
    · refine Or.inl ⟨fun M v' hv' h => ?_, fun K l1 l2 M hv' h => ?_⟩
      · obtain ⟨M1, a1, a2, a3⟩ := takes_eq he h j2 j40 v'
        obtain ⟨M2, b1, b2, -⟩ := hC M1 v' hv' a2
        exact ⟨M2, by rw [a1, b1], a3.tr b2⟩
      · obtain ⟨M1, a1, a2, a3, a4⟩ := read147 (K := K) (l1 := l1) (l2 := l2) h j1 j40
        obtain ⟨M2, b1, b2, -⟩ := hM M1 (fun z => a3.trans (hv' z)) a1
        exact ⟨M2, by rw [a4, if_neg t0, if_neg n20, b1, bnd_eq, if_pos rfl], a2.tr b2⟩
    · refine Or.inr ⟨w', ws', B', O', E', sz', c', ar', m', lo', be', en', pc + prt j, hI', fun M v' hv' h => ?_, fun K l1 l2 M hv' h => ?_⟩
      · obtain ⟨M1, a1, a2, a3⟩ := takes_eq he h j2 j40 v'
        obtain ⟨M2, b1, b2, b3⟩ := hC M1 v' hv' a2
        exact ⟨M2, by rw [a1, b1], a3.tr b2, b3⟩
      · obtain ⟨M1, a1, a2, a3, a4⟩ := read147 (K := K) (l1 := l1) (l2 := l2) h j1 j40
        obtain ⟨M2, b1, b2, b3⟩ := hM M1 (fun z => a3.trans (hv' z)) a1
        exact ⟨M2, by rw [a4, if_neg t0, if_neg n20, b1, bnd_eq, if_neg (by decide), kM_eq], a2.tr b2, b3⟩
  · have pj : prt j ≤ 1 := by
      unfold prt
      split <;> omega
    refine Or.inl ⟨fun M v' hv' h => ?_, fun K l1 l2 M hv' h => ?_⟩
    · obtain ⟨M1, a1, a2, a3⟩ := takes_eq he h j2 j40 v'
      refine ⟨M1, ?_, a3⟩
      rw [a1]
      unfold f_Reader_takes_24
      rw [a2.2.2.2.2.2.2.2.2.2, if_neg (show ¬ nI (pc + prt j) ≤ 20 from nI_ge (a := 20) (by omega) (by omega))]
    · obtain ⟨M1, a1, a2, a3, a4⟩ := read147 (K := K) (l1 := l1) (l2 := l2) h j1 j40
      exact ⟨M1, by rw [a4, if_neg t0, if_pos (show (20 : Int32) < nI (pc + prt j) from nI_lt (a := 20) (by omega) (by omega))], a2⟩
/-- the reference joins at the end also where a value is wanted -/
theorem mred_any : ∀ (B : List (Nat × Nat)) (c : Nat → Int32) (ar : Nat → Int64) (m : Nat) (f : Nat) (M : ax_M) (w ws : Int32) (pc : Nat), allS B → m + cntp B ≤ 48 → B.length ≤ 48 → B.length < f → MR M B c ar m w ws pc → ∃ M', f_Mod_reduce_0 f (nI 1 - 1) M = some ((), M') ∧ EqK Xq M M' ∧ gI M' 184 7 = stM w ws
  | [], c, ar, m, f, M, w, ws, pc, hS, hm, hl, hf, h => by
    obtain ⟨g, rfl⟩ : ∃ g, f = g + 1 := ⟨f - 1, by omega⟩
    refine ⟨M, ?_, EqK.rf M, h.2.2.2.2.1⟩
    show f_Mod_reduce_0_b (f_Mod_reduce_0 g) (nI 1 - 1) M = _
    unfold f_Mod_reduce_0_b
    rw [if_pos (show gI M 184 10 ≤ 0 by rw [h.1]; decide)]
  | (s, b) :: B, c, ar, m, f, M, w, ws, pc, hS, hm, hl, hf, h => by
    obtain ⟨g, rfl⟩ : ∃ g, f = g + 1 := ⟨f - 1, by omega⟩
    rw [List.length_cons] at hl hf
    obtain ⟨k1, k2⟩ := okS_r hS.1
    obtain ⟨t1, t2, t3⟩ := rk_tab s k1
    obtain ⟨q1, q2⟩ := rk_cmp (rkN s) t2 1 (by decide)
    have g1 : gI M 184 10 = nI (B.length + 1) := h.1
    have g6 : gI M 189 B.length = nI (sgN s) := h.2.1.1
    have st : ∀ L : Int32, f_Mod_reduce_0 (g + 1) L M = if nI (rkN s) - 1 < L then some ((), M) else bnd (f_Mod_emit (nI (sgN s)) 0 (mI M 184 10 (nI B.length))) (fun _ m => f_Mod_reduce_0 g L m) := fun L => by
      show f_Mod_reduce_0_b (f_Mod_reduce_0 g) L M = _
      unfold f_Mod_reduce_0_b
      rw [g1, if_neg (nI_nle (by omega) (by omega)), nI_m1, gi_nI (by omega) (by decide), nI_clamp (by omega), g6, mrk_eq, bnd_eq, t3 k2, g1, nI_m1, kM_eq, mIs, gi_nI (by omega) (by decide), nI_clamp (by omega), mIc (by decide), g6]
    rw [st (nI 1 - 1)]
    by_cases hr : rkN s < 1
    · rw [if_pos (q2.mpr hr)]
      exact ⟨M, rfl, EqK.rf M, h.2.2.2.2.1⟩
    · have n15 : ¬ s = 15 := fun z => by rw [z] at hr; exact hr (by decide)
      have ec : cntp ((s, b) :: B) = 1 + cntp B := by show (if s = 15 then 0 else 1) + cntp B = _; rw [if_neg n15]
      rw [ec] at hm
      rw [if_neg (fun z => hr (q2.mp z))]
      obtain ⟨p1, p2⟩ := h.popB
      obtain ⟨M1, a1, a2, a3⟩ := emit_m p1 (by omega) (nI (sgN s)) 0
      obtain ⟨M2, b1, b2, b3⟩ := mred_any B _ _ (m + 1) g M1 w ws pc hS.2 (by omega) (by omega) (by omega) a2
      exact ⟨M2, by rw [a1, bnd_eq]; exact b1, (p2.tr a3).tr b2, b3⟩
