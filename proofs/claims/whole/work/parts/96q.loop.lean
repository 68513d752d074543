/-! Reading: the loop over the tokens, both sides. -/
theorem CR.x3 {M M' : ax_M} {e : Nat} (he : eOk e) {B : List (Nat × Nat)} {O : List Nat} {E : xRow} {sz pc : Nat} {w ws : Int32} (h : CR M e B O E sz w ws pc) (x : EqK X3 M M') : CR M' e B O E sz w ws pc := by
  obtain ⟨h0, h1, h2, h3, h4, h5, h6, h7, h8, h9⟩ := h
  obtain ⟨e1, e2, e3⟩ := he
  exact ⟨(x 5 7 (by unfold X3; omega)).2.2.trans h0, (x 5 1 (by unfold X3; omega)).1.trans h1, h2.kp fun k hk => (x 6 k (by unfold X3; omega)).1, (x 5 3 (by unfold X3; omega)).1.trans h3, h4.kp fun k hk => (x 7 k (by unfold X3; omega)).1, (x e 5 (by unfold X3; omega)).1.trans h5, h6.kp fun c k a b => ⟨(x c k (by unfold X3; omega)).1, (x c k (by unfold X3; omega)).2.1⟩, (x 5 4 (by unfold X3; omega)).1.trans h7, (x 5 5 (by unfold X3; omega)).1.trans h8, (x 5 6 (by unfold X3; omega)).1.trans h9⟩
theorem MR.x5 {M M' : ax_M} {B : List (Nat × Nat)} {c : Nat → Int32} {ar : Nat → Int64} {m pc : Nat} {w ws : Int32} (h : MR M B c ar m w ws pc) (e : EqK X5 M M') : MR M' B c ar m w ws pc := by
  obtain ⟨h1, h2, h3, h4, h5, h6⟩ := h
  exact ⟨(e 184 10 (by unfold X5; omega)).1.trans h1, h2.kp fun k hk => ⟨(e 189 k (by unfold X5; omega)).1, (e 190 k (by unfold X5; omega)).1⟩, (e 188 8 (by unfold X5; omega)).1.trans h3, fun k hk => ⟨(e 186 _ (by unfold X5; omega)).1.trans (h4 k hk).1, fun y => (e 187 _ (by unfold X5; omega)).2.1.trans ((h4 k hk).2 y)⟩, (e 184 7 (by unfold X5; omega)).1.trans h5, (e 184 11 (by unfold X5; omega)).1.trans h6⟩
theorem TxC.xp {M M' : ax_M} {tx : Nat → Int32} {n e : Nat} (he : eOk e) (h : TxC M tx n) (x : EqK (Xp e) M M') : TxC M' tx n := by
  obtain ⟨e1, e2, e3⟩ := he
  exact ⟨(x 3 1 (by unfold Xp; omega)).1.trans h.1, fun k hk => (x 4 k (by unfold Xp; omega)).1.trans (h.2 k hk)⟩
theorem TxM.xq {M M' : ax_M} {tx : Nat → Int32} {n : Nat} (h : TxM M tx n) (x : EqK Xq M M') : TxM M' tx n := ⟨(x 184 1 (by unfold Xq; omega)).1.trans h.1, fun k hk => (x 185 k (by unfold Xq; omega)).1.trans (h.2 k hk)⟩
def Xd (e c k : Nat) : Prop := X3 c k ∨ Xp e c k
def Xr (c k : Nat) : Prop := X5 c k ∨ Xq c k
def RdC (e : Nat) (tx : Nat → Int32) (n pos step : Nat) (B : List (Nat × Nat)) (O : List Nat) (E : xRow) (sz : Nat) (w ws : Int32) (pc : Nat) (r : Int32) (Q : ax_M → Prop) : Prop := ∀ f M, n - pos < f → TxC M tx n → gI M 3 2 = nI pos → CR M e B O E sz w ws pc → ∃ M', f_Reader_read_35 f (nI step) M = some (r, M') ∧ EqK (Xd e) M M' ∧ Q M'
def RdM (tx : Nat → Int32) (n pos step : Nat) (B : List (Nat × Nat)) (c : Nat → Int32) (ar : Nat → Int64) (m : Nat) (w ws : Int32) (pc : Nat) (r : Int32) (Q : ax_M → Prop) : Prop := ∀ f M, n - pos < f → TxM M tx n → gI M 184 5 = nI pos → MR M B c ar m w ws pc → ∃ M', f_Mod_read_30 f (nI step) M = some (r, M') ∧ EqK Xr M M' ∧ Q M'
theorem read_body {e : Nat} (he : eOk e) {tx : Nat → Int32} {n : Nat} (hn : n ≤ 48) (pos step : Nat) (w ws : Int32) (B : List (Nat × Nat)) (O : List Nat) (E : xRow) (sz : Nat) (c : Nat → Int32) (ar : Nat → Int64) (m : Nat) (lo be en : Nat → Nat) (pc : Nat) (hp : pos ≤ n) (hs : step ≤ pos) (hI : Inv w ws B O E sz c ar m lo be en pos pc)
    (ih : ∀ (p1 : Nat) (w' ws' : Int32) (B' : List (Nat × Nat)) (O' : List Nat) (E' : xRow) (sz' : Nat) (c' : Nat → Int32) (ar' : Nat → Int64) (m' : Nat) (lo' be' en' : Nat → Nat) (pc' : Nat), pos < p1 → p1 ≤ n → Inv w' ws' B' O' E' sz' c' ar' m' lo' be' en' p1 pc' →
      (∃ k, k ≤ 48 ∧ RdC e tx n p1 (step + 1) B' O' E' sz' w' ws' pc' (nI k) (fun _ => True) ∧ RdM tx n p1 (step + 1) B' c' ar' m' w' ws' pc' (nI k) (fun _ => True)) ∨
      ∃ E2 sz2 c2 ar2 m2, Cmp E2 sz2 c2 ar2 m2 ∧ RdC e tx n p1 (step + 1) B' O' E' sz' w' ws' pc' (-1) (fun M' => gI M' e 5 = nI sz2 ∧ RowC M' e E2 sz2) ∧ RdM tx n p1 (step + 1) B' c' ar' m' w' ws' pc' (-1) (fun M' => gI M' 188 8 = nI m2 ∧ ∀ k, k < m2 → gI M' 186 (384 + k) = c2 k ∧ (rel (c2 k) → gJ M' 187 (384 + k) = ar2 k))) :
    (∃ k, k ≤ 48 ∧ RdC e tx n pos step B O E sz w ws pc (nI k) (fun _ => True) ∧ RdM tx n pos step B c ar m w ws pc (nI k) (fun _ => True)) ∨
    ∃ E' sz' c' ar' m', Cmp E' sz' c' ar' m' ∧ RdC e tx n pos step B O E sz w ws pc (-1) (fun M' => gI M' e 5 = nI sz' ∧ RowC M' e E' sz') ∧ RdM tx n pos step B c ar m w ws pc (-1) (fun M' => gI M' 188 8 = nI m' ∧ ∀ k, k < m' → gI M' 186 (384 + k) = c' k ∧ (rel (c' k) → gJ M' 187 (384 + k) = ar' k)) := by
  have cst : ∀ g M, f_Reader_read_35 (g + 1) (nI step) M = bnd (f_Text_cutNext  M) (fun q12 M13 => if (gI M13 3 3) = 0 then (bnd (f_Reader_isFinished  M13) (fun q19 M20 => if q19 = 0 then (some (gI M20 3 1, M20)) else (some ((-1), M20)))) else (bnd (f_Reader_takes (gI M13 3 3) (gJ M13 3 5) M13) (fun q15 M16 => if q15 = 0 then (some (gI M16 3 4, M16)) else (kM (nI step + 1) (fun x18 => f_Reader_read_35 g x18 M16))))) := fun g M => by
    show f_Reader_read_35_b (f_Reader_read_35 g) (nI step) M = _
    unfold f_Reader_read_35_b
    rw [if_neg (show ¬ (48 : Int32) < nI step from nI_nlt (a := 48) (b := step) (by omega) (by decide))]
  have mst : ∀ g M, f_Mod_read_30 (g + 1) (nI step) M = f_Mod_read_36 (f_Mod_read_30 g) 64 (nI step) M := fun g M => by
    show f_Mod_read_30_b (f_Mod_read_30 g) (nI step) M = _
    unfold f_Mod_read_30_b
    rw [if_neg (show ¬ (50 : Int32) ≤ nI step from nI_ge (b := 50) (by omega) (by decide))]
  have e1 := he.1
  have e2 := he.2.1
  have e3 := he.2.2
  rcases lex_next (tx := tx) hn hp with ⟨hC, hM⟩ | ⟨p0, t, v, p1, k1, k2, k3, k4, k5, hC, hM⟩
  · obtain ⟨i1, i2, i3, i4, i5, i6, i7⟩ := hI
    have iwle : iw w ≤ 1 := by
      unfold iw
      split <;> omega
    by_cases w1 : w = 1
    · subst w1
      have hT : Top c lo be en B O sz m := by
        rcases i2 with ⟨z | z, -⟩ | ⟨-, hT⟩
        · exact absurd z (by decide)
        · exact absurd z (by decide)
        · exact hT
      have i3 : pc = sz + cntp B + 0 := i3
      have i5 : m + cntp B + 0 ≤ 2 * pc := i5
      obtain ⟨B', O', E', sz', c', ar', m', lo', be', en', n1, n2, n3, n4, n5, n6, n7, n8⟩ := red_ok he (least := 1) (by decide) (by decide) B O E sz c ar m lo be en i1 hT (by omega) (by omega) (by omega)
      have cf : ∀ M, TxC M tx n → gI M 3 2 = nI pos → CR M e B O E sz 1 ws pc → ∃ M2, (∀ g, f_Reader_read_35 (g + 1) (nI step) M = if nI B'.length = 0 then some (-1, M2) else some (nI n, M2)) ∧ EqK (Xd e) M M2 ∧ CR M2 e B' O' E' sz' 1 ws pc := fun M hT h2 h => by
        obtain ⟨M1, a1, a2, a3⟩ := hC M hT h2
        obtain ⟨M2, b1, b2, b3⟩ := n7 65 M1 1 ws pc (by omega) (h.x3 he a2)
        refine ⟨M2, fun g => ?_, EqK.tr (a2.mono fun c k z => Or.inl z) (b3.mono fun c k z => Or.inr z), b2⟩
        have t3 : gI M2 3 1 = nI n := ((hT.kp a2).xp he b3).1
        rw [cst, a1, bnd_eq, a3, if_pos rfl]
        unfold f_Reader_isFinished
        rw [(h.x3 he a2).2.2.2.2.2.2.2.1, if_pos rfl, show f_Reader_joinDownTo 1 M1 = some ((), M2) from by rw [show (1 : Int32) = nI 1 from rfl, jdt_eq]; exact b1, bnd_eq, b2.2.1]
        by_cases z : nI B'.length = 0
        · rw [if_pos z, if_pos z, bnd_eq, if_neg (by decide)]
        · rw [if_neg z, if_neg z, bnd_eq, if_pos rfl, t3]
      have mf : ∀ g M, TxM M tx n → gI M 184 5 = nI pos → MR M B c ar m 1 ws pc → ∃ M2, f_Mod_read_30 (g + 1) (nI step) M = (if nI B'.length = 0 then some (-1, M2) else some (nI n, M2)) ∧ EqK Xr M M2 ∧ MR M2 B' c' ar' m' 1 ws pc := fun g M hT h5 h => by
        obtain ⟨M1, a1, a2⟩ := hM (f_Mod_read_30 g) (nI step) M hT h5
        obtain ⟨M2, b1, b2, b3⟩ := n8 65 M1 1 ws pc (by omega) (h.x5 a2)
        refine ⟨M2, ?_, EqK.tr (a2.mono fun c k z => Or.inl z) (b3.mono fun c k z => Or.inr z), b2⟩
        have t3 : gI M2 184 1 = nI n := ((hT.kp a2).xq b3).1
        rw [mst, a1]
        unfold endE
        rw [show f_Mod_reduce 0 M1 = some ((), M2) from by rw [show (0 : Int32) = nI 1 - 1 from rfl, mred_eq]; exact b1, bnd_eq, b2.2.2.2.2.1, stM_1, if_pos rfl, b2.1, t3]
      match B', n2, n3, n4, n5, n7, n8, cf, mf with
      | [], n2, n3, n4, n5, n7, n8, cf, mf =>
        obtain ⟨o, O1, P, m0, t1, t2, t3, t4, t5, t6⟩ := n2
        obtain ⟨u1, u2, u3⟩ := t2
        have n3 : sz' + 0 = sz + cntp B := n3
        have n4 : m' + 0 = m + cntp B := n4
        refine Or.inr ⟨E', sz', c', ar', m', ⟨by omega, by omega, by omega, lo', be', en', n1, ?_, ?_, ?_⟩, fun f M hf hT h2 h => ?_, fun f M hf hT h5 h => ?_⟩
        · rw [t5, Nat.add_sub_cancel]; omega
        · rw [t5, Nat.add_sub_cancel]; omega
        · rw [t5, Nat.add_sub_cancel]; omega
        · obtain ⟨g, rfl⟩ : ∃ g, f = g + 1 := ⟨f - 1, by omega⟩
          obtain ⟨M2, a1, a2, a3⟩ := cf M hT h2 h
          exact ⟨M2, by rw [a1 g, if_pos (by decide)], a2, a3.2.2.2.2.2.1, a3.2.2.2.2.2.2.1⟩
        · obtain ⟨g, rfl⟩ : ∃ g, f = g + 1 := ⟨f - 1, by omega⟩
          obtain ⟨M2, a1, a2, a3⟩ := mf g M hT h5 h
          exact ⟨M2, by rw [a1, if_pos (by decide)], a2, a3.2.2.1, a3.2.2.2.1⟩
      | (s, b) :: B1, n2, n3, n4, n5, n7, n8, cf, mf =>
        rw [List.length_cons] at n5
        have nz : ¬ nI ((s, b) :: B1).length = 0 := by
          rw [List.length_cons]
          exact nI_ne0 (by omega) (by omega)
        refine Or.inl ⟨n, hn, fun f M hf hT h2 h => ?_, fun f M hf hT h5 h => ?_⟩
        · obtain ⟨g, rfl⟩ : ∃ g, f = g + 1 := ⟨f - 1, by omega⟩
          obtain ⟨M2, a1, a2, a3⟩ := cf M hT h2 h
          exact ⟨M2, by rw [a1 g, if_neg nz], a2, trivial⟩
        · obtain ⟨g, rfl⟩ : ∃ g, f = g + 1 := ⟨f - 1, by omega⟩
          obtain ⟨M2, a1, a2, a3⟩ := mf g M hT h5 h
          exact ⟨M2, by rw [a1, if_neg nz], a2, trivial⟩
    · have hall : allS B := by
        rcases i2 with ⟨-, hW⟩ | ⟨-, o, O1, P, m0, -, hW, -⟩
        · exact hW.all
        · exact hW.all
      have hw : w = 0 ∨ w = 2 ∨ w = 3 := by
        rcases i2 with ⟨z | z, -⟩ | ⟨z | z, -⟩
        · exact Or.inl z
        · exact Or.inr (Or.inl z)
        · exact absurd z w1
        · exact Or.inr (Or.inr z)
      have st1 : ¬ stM w ws = 1 := by
        rcases hw with z | z | z
        · rw [z, stM_0]; decide
        · rw [z, stM_2]; decide
        · rw [z]
          unfold stM
          rw [if_pos rfl]
          split <;> decide
      refine Or.inl ⟨n, hn, fun f M hf hT h2 h => ?_, fun f M hf hT h5 h => ?_⟩
      · obtain ⟨g, rfl⟩ : ∃ g, f = g + 1 := ⟨f - 1, by omega⟩
        obtain ⟨M1, a1, a2, a3⟩ := hC M hT h2
        refine ⟨M1, ?_, a2.mono fun c k z => Or.inl z, trivial⟩
        rw [cst, a1, bnd_eq, a3, if_pos rfl]
        unfold f_Reader_isFinished
        rw [(h.x3 he a2).2.2.2.2.2.2.2.1, if_neg w1, bnd_eq, if_pos rfl, (hT.kp a2).1]
      · obtain ⟨g, rfl⟩ : ∃ g, f = g + 1 := ⟨f - 1, by omega⟩
        obtain ⟨M1, a1, a2⟩ := hM (f_Mod_read_30 g) (nI step) M hT h5
        obtain ⟨M2, b1, b2, b3⟩ := mred_any B c ar m 65 M1 w ws pc hall (by omega) (by omega) (by omega) (h.x5 a2)
        refine ⟨M2, ?_, EqK.tr (a2.mono fun c k z => Or.inl z) (b2.mono fun c k z => Or.inr z), trivial⟩
        rw [mst, a1]
        unfold endE
        rw [show f_Mod_reduce 0 M1 = some ((), M2) from by rw [show (0 : Int32) = nI 1 - 1 from rfl, mred_eq]; exact b1, bnd_eq, b3, if_neg st1, ((hT.kp a2).xq b2).1]
  · have t0 : ¬ t = 0 := by
      obtain ⟨j, j1, j40, rfl⟩ := k4
      exact nI_ne0 (by omega) (by omega)
    have cc : ∀ M, TxC M tx n → gI M 3 2 = nI pos → CR M e B O E sz w ws pc → ∃ M1, TxC M1 tx n ∧ gI M1 3 2 = nI p1 ∧ gI M1 3 4 = nI p0 ∧ (t = 2 ∨ t = 3 → gJ M1 3 5 = v) ∧ CR M1 e B O E sz w ws pc ∧ EqK X3 M M1 ∧ ∀ g, f_Reader_read_35 (g + 1) (nI step) M = bnd (f_Reader_takes t (gJ M1 3 5) M1) (fun q15 M16 => if q15 = 0 then (some (gI M16 3 4, M16)) else (kM (nI step + 1) (fun x18 => f_Reader_read_35 g x18 M16))) := fun M hT h2 h => by
      obtain ⟨M1, a1, a2, a3, a4, a5, a6⟩ := hC M hT h2
      refine ⟨M1, hT.kp a2, a4, a5, a6, h.x3 he a2, a2, fun g => ?_⟩
      rw [cst, a1, bnd_eq, a3, if_neg t0]
    rcases tok_step (p1 := p1) he hI k4 k5 (by omega) (by omega) with ⟨rC, rM⟩ | ⟨w', ws', B', O', E', sz', c', ar', m', lo', be', en', pc', hI', rC, rM⟩
    · refine Or.inl ⟨p0, by omega, fun f M hf hT h2 h => ?_, fun f M hf hT h5 h => ?_⟩
      · obtain ⟨g, rfl⟩ : ∃ g, f = g + 1 := ⟨f - 1, by omega⟩
        obtain ⟨M1, a1, a2, a3, a4, a5, a6, a7⟩ := cc M hT h2 h
        obtain ⟨M2, b1, b2⟩ := rC M1 (gJ M1 3 5) a4 a5
        exact ⟨M2, by rw [a7 g, b1, bnd_eq, if_pos rfl, (b2 3 4 (by unfold Xp; omega)).1, a3], EqK.tr (a6.mono fun c k z => Or.inl z) (b2.mono fun c k z => Or.inr z), trivial⟩
      · obtain ⟨g, rfl⟩ : ∃ g, f = g + 1 := ⟨f - 1, by omega⟩
        obtain ⟨M1, a1, a2, a3, a4⟩ := hM (f_Mod_read_30 g) (nI step) M hT h5
        obtain ⟨M2, b1, b2⟩ := rM (f_Mod_read_30 g) (nI step) (nI p0) M1 a4 (h.x5 a2)
        exact ⟨M2, by rw [mst, a1, b1], EqK.tr (a2.mono fun c k z => Or.inl z) (b2.mono fun c k z => Or.inr z), trivial⟩
    · have lc : ∀ r Q, RdC e tx n p1 (step + 1) B' O' E' sz' w' ws' pc' r Q → RdC e tx n pos step B O E sz w ws pc r Q := fun r Q hQ f M hf hT h2 h => by
        obtain ⟨g, rfl⟩ : ∃ g, f = g + 1 := ⟨f - 1, by omega⟩
        obtain ⟨M1, a1, a2, a3, a4, a5, a6, a7⟩ := cc M hT h2 h
        obtain ⟨M2, b1, b2, b3⟩ := rC M1 (gJ M1 3 5) a4 a5
        obtain ⟨M3, c1, c2, c3⟩ := hQ g M2 (by omega) (a1.xp he b2) ((b2 3 2 (by unfold Xp; omega)).1.trans a2) b3
        exact ⟨M3, by rw [a7 g, b1, bnd_eq, if_neg (by decide), kM_eq, nI_1]; exact c1, (EqK.tr (a6.mono fun c k z => Or.inl z) (b2.mono fun c k z => Or.inr z)).tr c2, c3⟩
      have lm : ∀ r Q, RdM tx n p1 (step + 1) B' c' ar' m' w' ws' pc' r Q → RdM tx n pos step B c ar m w ws pc r Q := fun r Q hQ f M hf hT h5 h => by
        obtain ⟨g, rfl⟩ : ∃ g, f = g + 1 := ⟨f - 1, by omega⟩
        obtain ⟨M1, a1, a2, a3, a4⟩ := hM (f_Mod_read_30 g) (nI step) M hT h5
        obtain ⟨M2, b1, b2, b3⟩ := rM (f_Mod_read_30 g) (nI step) (nI p0) M1 a4 (h.x5 a2)
        obtain ⟨M3, c1, c2, c3⟩ := hQ g M2 (by omega) ((hT.kp a2).xq b2) ((b2 184 5 (by unfold Xq; omega)).1.trans a3) b3
        exact ⟨M3, by rw [mst, a1, b1, nI_1]; exact c1, (EqK.tr (a2.mono fun c k z => Or.inl z) (b2.mono fun c k z => Or.inr z)).tr c2, c3⟩
      rcases ih p1 w' ws' B' O' E' sz' c' ar' m' lo' be' en' pc' (by omega) k3 hI' with ⟨k, q1, q2, q3⟩ | ⟨E2, sz2, c2, ar2, m2, q1, q2, q3⟩
      · exact Or.inl ⟨k, q1, lc _ _ q2, lm _ _ q3⟩
      · exact Or.inr ⟨E2, sz2, c2, ar2, m2, q1, lc _ _ q2, lm _ _ q3⟩
theorem read_lp {e : Nat} (he : eOk e) {tx : Nat → Int32} {n : Nat} (hn : n ≤ 48) : ∀ (r pos step : Nat) (w ws : Int32) (B : List (Nat × Nat)) (O : List Nat) (E : xRow) (sz : Nat) (c : Nat → Int32) (ar : Nat → Int64) (m : Nat) (lo be en : Nat → Nat) (pc : Nat), n - pos ≤ r → pos ≤ n → step ≤ pos → Inv w ws B O E sz c ar m lo be en pos pc →
    (∃ k, k ≤ 48 ∧ RdC e tx n pos step B O E sz w ws pc (nI k) (fun _ => True) ∧ RdM tx n pos step B c ar m w ws pc (nI k) (fun _ => True)) ∨
    ∃ E' sz' c' ar' m', Cmp E' sz' c' ar' m' ∧ RdC e tx n pos step B O E sz w ws pc (-1) (fun M' => gI M' e 5 = nI sz' ∧ RowC M' e E' sz') ∧ RdM tx n pos step B c ar m w ws pc (-1) (fun M' => gI M' 188 8 = nI m' ∧ ∀ k, k < m' → gI M' 186 (384 + k) = c' k ∧ (rel (c' k) → gJ M' 187 (384 + k) = ar' k)) := by
  intro r
  induction r with
  | zero =>
    intro pos step w ws B O E sz c ar m lo be en pc hr hp hs hI
    exact read_body he hn pos step w ws B O E sz c ar m lo be en pc hp hs hI (fun p1 w' ws' B' O' E' sz' c' ar' m' lo' be' en' pc' h1 h2 => absurd h1 (by omega))
  | succ r ih =>
    intro pos step w ws B O E sz c ar m lo be en pc hr hp hs hI
    exact read_body he hn pos step w ws B O E sz c ar m lo be en pc hp hs hI (fun p1 w' ws' B' O' E' sz' c' ar' m' lo' be' en' pc' h1 h2 hI' => ih p1 (step + 1) w' ws' B' O' E' sz' c' ar' m' lo' be' en' pc' (by omega) h2 (by omega) hI')
