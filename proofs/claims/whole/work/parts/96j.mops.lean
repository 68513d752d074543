/-! Reading: the reference's steps, ranks. -/
def stM (w ws : Int32) : Int32 := if w = 3 then (if ws = 14 then 3 else 4) else w
def MR (M : ax_M) (B : List (Nat × Nat)) (c : Nat → Int32) (ar : Nat → Int64) (m : Nat) (w ws : Int32) (pc : Nat) : Prop := gI M 184 10 = nI B.length ∧ StkM M B ∧ gI M 188 8 = nI m ∧ (∀ k, k < m → gI M 186 (384 + k) = c k ∧ (rel (c k) → gJ M 187 (384 + k) = ar k)) ∧ gI M 184 7 = stM w ws ∧ gI M 184 11 = nI pc
def Xq (c k : Nat) : Prop := (c = 184 ∧ (k = 7 ∨ k = 10 ∨ k = 11)) ∨ ((c = 186 ∨ c = 187) ∧ 384 ≤ k) ∨ (c = 188 ∧ k = 8) ∨ c = 189 ∨ c = 190
theorem n384 (m : Nat) : 384 + nI m = nI (384 + m) := nI_add 384 m
theorem emit_m {M : ax_M} {B : List (Nat × Nat)} {c : Nat → Int32} {ar : Nat → Int64} {m pc : Nat} {w ws : Int32} (h : MR M B c ar m w ws pc) (hm : m < 48) (o : Int32) (v : Int64) : ∃ M', f_Mod_emit o v M = some ((), M') ∧ MR M' B (fup c m o) (fup ar m v) (m + 1) w ws pc ∧ EqK Xq M M' := by
  obtain ⟨h1, h2, h3, h4, h5, h6⟩ := h
  unfold f_Mod_emit
  rw [show Int32.toNatClampNeg 8 = 8 from rfl, h3, n384, gi_nI (by omega) (by decide), nI_clamp (by omega), kM_eq, show gI (mI M 186 (384 + m) o) 188 8 = nI m from (mIc (by decide)).trans h3, n384, gi_nI (by omega) (by decide), nI_clamp (by omega), kM_eq, show gI (mJ (mI M 186 (384 + m) o) 187 (384 + m) v) 188 8 = nI m from (mIc (M := M) (c := 186) (k := 384 + m) (v := o) (by decide)).trans h3, nI_1, kM_eq]
  have x : EqK (fun c k => (c = 186 ∧ k = 384 + m) ∨ (c = 187 ∧ k = 384 + m) ∨ (c = 188 ∧ k = 8)) M (mI (mJ (mI M 186 (384 + m) o) 187 (384 + m) v) 188 8 (nI (m + 1))) := EqK.mI (S := fun c k => (c = 186 ∧ k = 384 + m) ∨ (c = 187 ∧ k = 384 + m) ∨ (c = 188 ∧ k = 8)) (EqK.mJ (EqK.mI (EqK.rf M) (by omega)) (by omega)) (by omega)
  refine ⟨_, rfl, ⟨(x 184 10 (by omega)).1.trans h1, h2.kp fun k hk => ⟨(x 189 k (by omega)).1, (x 190 k (by omega)).1⟩, mIs _ _ _ _, fun k hk => ?_, (x 184 7 (by omega)).1.trans h5, (x 184 11 (by omega)).1.trans h6⟩, x.mono fun c k z => by unfold Xq; omega⟩
  by_cases z : k = m
  · subst z
    refine ⟨?_, fun _ => ?_⟩
    · rw [fup_s, mIc (by decide)]
      exact mIs _ _ _ _
    · rw [fup_s]
      exact mJs _ _ _ _
  · rw [fup_n z, fup_n z]
    refine ⟨(x 186 _ (by omega)).1.trans (h4 k (by omega)).1, fun y => (x 187 _ (by omega)).2.1.trans ((h4 k (by omega)).2 y)⟩
theorem stM_0 (ws : Int32) : stM 0 ws = 0 := if_neg (by decide)
theorem stM_1 (ws : Int32) : stM 1 ws = 1 := if_neg (by decide)
theorem stM_2 (ws : Int32) : stM 2 ws = 2 := if_neg (by decide)
theorem wait_m {M : ax_M} {B : List (Nat × Nat)} {c : Nat → Int32} {ar : Nat → Int64} {m pc : Nat} {w ws : Int32} (h : MR M B c ar m w ws pc) (hl : B.length < 48) (s : Nat) (x : Int32) (hx : x = nI (sgN s)) : ∃ M', f_Mod_wait x M = some ((), M') ∧ MR M' ((s, m) :: B) c ar m 0 ws pc ∧ EqK Xq M M' := by
  obtain ⟨h1, h2, h3, h4, h5, h6⟩ := h
  rw [hx]
  unfold f_Mod_wait
  rw [show Int32.toNatClampNeg 8 = 8 from rfl, h1, gi_nI hl (by decide), nI_clamp (by omega), kM_eq, show gI (mI M 189 B.length (nI (sgN s))) 184 10 = nI B.length from (mIc (by decide)).trans h1, gi_nI hl (by decide), nI_clamp (by omega), kM_eq, show gI (mI M 189 B.length (nI (sgN s))) 188 8 = nI m from (mIc (by decide)).trans h3, show gI (mI (mI M 189 B.length (nI (sgN s))) 190 B.length (nI m - 1)) 184 10 = nI B.length from (mIc (by decide)).trans ((mIc (by decide)).trans h1), nI_1, kM_eq, kM_eq]
  have e : EqK (fun c k => ((c = 189 ∨ c = 190) ∧ k = B.length) ∨ (c = 184 ∧ (k = 10 ∨ k = 7))) M (mI (mI (mI (mI M 189 B.length (nI (sgN s))) 190 B.length (nI m - 1)) 184 10 (nI (B.length + 1))) 184 7 0) := EqK.mI (S := fun c k => ((c = 189 ∨ c = 190) ∧ k = B.length) ∨ (c = 184 ∧ (k = 10 ∨ k = 7))) (EqK.mI (EqK.mI (EqK.mI (EqK.rf M) (by omega)) (by omega)) (by omega)) (by omega)
  refine ⟨_, rfl, ⟨?_, ⟨?_, ?_, h2.kp fun k hk => ⟨(e 189 k (by omega)).1, (e 190 k (by omega)).1⟩⟩, (e 188 8 (by omega)).1.trans h3, fun k hk => ⟨(e 186 _ (by omega)).1.trans (h4 k hk).1, fun y => (e 187 _ (by omega)).2.1.trans ((h4 k hk).2 y)⟩, ?_, (e 184 11 (by omega)).1.trans h6⟩, e.mono fun c k z => by unfold Xq; omega⟩
  · rw [mIk (by decide), List.length_cons]
    exact mIs _ _ _ _
  · rw [mIc (by decide), mIc (by decide), mIc (by decide)]
    exact mIs _ _ _ _
  · rw [mIc (by decide), mIc (by decide)]
    exact mIs _ _ _ _
  · rw [stM_0]
    exact mIs _ _ _ _
theorem MR.st {M : ax_M} {B : List (Nat × Nat)} {c : Nat → Int32} {ar : Nat → Int64} {m pc : Nat} {w ws : Int32} (h : MR M B c ar m w ws pc) (w' ws' : Int32) : MR (mI M 184 7 (stM w' ws')) B c ar m w' ws' pc ∧ EqK Xq M (mI M 184 7 (stM w' ws')) := by
  obtain ⟨h1, h2, h3, h4, h5, h6⟩ := h
  have e : EqK (fun c k => c = 184 ∧ k = 7) M (mI M 184 7 (stM w' ws')) := EqK.mI (S := fun c k => c = 184 ∧ k = 7) (EqK.rf M) ⟨rfl, rfl⟩
  exact ⟨⟨(e 184 10 (by omega)).1.trans h1, h2.kp fun k hk => ⟨(e 189 k (by omega)).1, (e 190 k (by omega)).1⟩, (e 188 8 (by omega)).1.trans h3, fun k hk => ⟨(e 186 _ (by omega)).1.trans (h4 k hk).1, fun y => (e 187 _ (by omega)).2.1.trans ((h4 k hk).2 y)⟩, mIs _ _ _ _, (e 184 11 (by omega)).1.trans h6⟩, e.mono fun c k z => by unfold Xq; omega⟩
theorem MR.popB {M : ax_M} {p : Nat × Nat} {B : List (Nat × Nat)} {c : Nat → Int32} {ar : Nat → Int64} {m pc : Nat} {w ws : Int32} (h : MR M (p :: B) c ar m w ws pc) : MR (mI M 184 10 (nI B.length)) B c ar m w ws pc ∧ EqK Xq M (mI M 184 10 (nI B.length)) := by
  obtain ⟨h1, h2, h3, h4, h5, h6⟩ := h
  have e : EqK (fun c k => c = 184 ∧ k = 10) M (mI M 184 10 (nI B.length)) := EqK.mI (S := fun c k => c = 184 ∧ k = 10) (EqK.rf M) ⟨rfl, rfl⟩
  exact ⟨⟨mIs _ _ _ _, h2.2.2.kp fun k hk => ⟨(e 189 k (by omega)).1, (e 190 k (by omega)).1⟩, (e 188 8 (by omega)).1.trans h3, fun k hk => ⟨(e 186 _ (by omega)).1.trans (h4 k hk).1, fun y => (e 187 _ (by omega)).2.1.trans ((h4 k hk).2 y)⟩, (e 184 7 (by omega)).1.trans h5, (e 184 11 (by omega)).1.trans h6⟩, e.mono fun c k z => by unfold Xq; omega⟩
theorem CR.popB {M : ax_M} {e : Nat} (he : eOk e) {p : Nat × Nat} {B : List (Nat × Nat)} {O : List Nat} {E : xRow} {sz pc : Nat} {w ws : Int32} (h : CR M e (p :: B) O E sz w ws pc) : CR (mI M 5 1 (nI B.length)) e B O E sz w ws pc ∧ EqK (Xp e) M (mI M 5 1 (nI B.length)) := by
  obtain ⟨h0, h1, h2, h3, h4, h5, h6, h7, h8, h9⟩ := h
  obtain ⟨e1, e2, e3⟩ := he
  have x : EqK (fun c k => c = 5 ∧ k = 1) M (mI M 5 1 (nI B.length)) := EqK.mI (S := fun c k => c = 5 ∧ k = 1) (EqK.rf M) ⟨rfl, rfl⟩
  exact ⟨⟨h0, mIs _ _ _ _, h2.2.kp fun k hk => (x 6 k (by omega)).1, (x 5 3 (by omega)).1.trans h3, h4.kp fun k hk => (x 7 k (by omega)).1, (x e 5 (by omega)).1.trans h5, h6.kp fun c k a b => ⟨(x c k (by omega)).1, (x c k (by omega)).2.1⟩, (x 5 4 (by omega)).1.trans h7, (x 5 5 (by omega)).1.trans h8, (x 5 6 (by omega)).1.trans h9⟩, x.mono fun c k z => by unfold Xp; omega⟩
theorem CR.st {M : ax_M} {e : Nat} (he : eOk e) {B : List (Nat × Nat)} {O : List Nat} {E : xRow} {sz pc : Nat} {w ws : Int32} (h : CR M e B O E sz w ws pc) (w' : Int32) : CR (mI M 5 4 w') e B O E sz w' ws pc ∧ EqK (Xp e) M (mI M 5 4 w') := by
  obtain ⟨h0, h1, h2, h3, h4, h5, h6, h7, h8, h9⟩ := h
  obtain ⟨e1, e2, e3⟩ := he
  have x : EqK (fun c k => c = 5 ∧ k = 4) M (mI M 5 4 w') := EqK.mI (S := fun c k => c = 5 ∧ k = 4) (EqK.rf M) ⟨rfl, rfl⟩
  exact ⟨⟨h0, (x 5 1 (by omega)).1.trans h1, h2.kp fun k hk => (x 6 k (by omega)).1, (x 5 3 (by omega)).1.trans h3, h4.kp fun k hk => (x 7 k (by omega)).1, (x e 5 (by omega)).1.trans h5, h6.kp fun c k a b => ⟨(x c k (by omega)).1, (x c k (by omega)).2.1⟩, mIs _ _ _ _, (x 5 5 (by omega)).1.trans h8, (x 5 6 (by omega)).1.trans h9⟩, x.mono fun c k z => by unfold Xp; omega⟩
theorem CR.ss {M : ax_M} {e : Nat} (he : eOk e) {B : List (Nat × Nat)} {O : List Nat} {E : xRow} {sz pc : Nat} {w ws : Int32} (h : CR M e B O E sz w ws pc) (ws' : Int32) : CR (mI M 5 5 ws') e B O E sz w ws' pc ∧ EqK (Xp e) M (mI M 5 5 ws') := by
  obtain ⟨h0, h1, h2, h3, h4, h5, h6, h7, h8, h9⟩ := h
  obtain ⟨e1, e2, e3⟩ := he
  have x : EqK (fun c k => c = 5 ∧ k = 5) M (mI M 5 5 ws') := EqK.mI (S := fun c k => c = 5 ∧ k = 5) (EqK.rf M) ⟨rfl, rfl⟩
  exact ⟨⟨h0, (x 5 1 (by omega)).1.trans h1, h2.kp fun k hk => (x 6 k (by omega)).1, (x 5 3 (by omega)).1.trans h3, h4.kp fun k hk => (x 7 k (by omega)).1, (x e 5 (by omega)).1.trans h5, h6.kp fun c k a b => ⟨(x c k (by omega)).1, (x c k (by omega)).2.1⟩, (x 5 4 (by omega)).1.trans h7, mIs _ _ _ _, (x 5 6 (by omega)).1.trans h9⟩, x.mono fun c k z => by unfold Xp; omega⟩
/-! ranks -/
def rkN (s : Nat) : Nat := if s = 42 ∨ s = 37 then 1 else if s = 21 then 2 else if s = 22 then 3 else if s = 23 ∨ s = 24 then 4 else if 25 ≤ s ∧ s ≤ 28 then 5 else if s = 29 ∨ s = 30 then 6 else if 31 ≤ s ∧ s ≤ 33 then 7 else if s = 34 ∨ s = 41 then 8 else 0
def crk (a : Int32) : Int32 := if a = 21 then 2 else if a = 22 then 3 else if a = 23 then 4 else if a = 24 then 4 else if a = 25 then 5 else if a = 26 then 5 else if a = 27 then 5 else if a = 28 then 5 else if a = 29 then 6 else if a = 30 then 6 else if a = 31 then 7 else if a = 32 then 7 else if a = 33 then 7 else if a = 34 then 8 else if a = 37 then 1 else if a = 41 then 8 else if a = 42 then 1 else 0
theorem crk_eq (a : Int32) (M : ax_M) : f_Tok_rankOf a M = some (crk a, M) := by
  unfold f_Tok_rankOf crk
  by_cases q21 : a = 21
  · rw [if_pos q21, if_pos q21]
  rw [if_neg q21, if_neg q21]
  by_cases q22 : a = 22
  · rw [if_pos q22, if_pos q22]
  rw [if_neg q22, if_neg q22]
  by_cases q23 : a = 23
  · rw [if_pos q23, if_pos q23]
  rw [if_neg q23, if_neg q23]
  by_cases q24 : a = 24
  · rw [if_pos q24, if_pos q24]
  rw [if_neg q24, if_neg q24]
  by_cases q25 : a = 25
  · rw [if_pos q25, if_pos q25]
  rw [if_neg q25, if_neg q25]
  by_cases q26 : a = 26
  · rw [if_pos q26, if_pos q26]
  rw [if_neg q26, if_neg q26]
  by_cases q27 : a = 27
  · rw [if_pos q27, if_pos q27]
  rw [if_neg q27, if_neg q27]
  by_cases q28 : a = 28
  · rw [if_pos q28, if_pos q28]
  rw [if_neg q28, if_neg q28]
  by_cases q29 : a = 29
  · rw [if_pos q29, if_pos q29]
  rw [if_neg q29, if_neg q29]
  by_cases q30 : a = 30
  · rw [if_pos q30, if_pos q30]
  rw [if_neg q30, if_neg q30]
  by_cases q31 : a = 31
  · rw [if_pos q31, if_pos q31]
  rw [if_neg q31, if_neg q31]
  by_cases q32 : a = 32
  · rw [if_pos q32, if_pos q32]
  rw [if_neg q32, if_neg q32]
  by_cases q33 : a = 33
  · rw [if_pos q33, if_pos q33]
  rw [if_neg q33, if_neg q33]
  by_cases q34 : a = 34
  · rw [if_pos q34, if_pos q34]
  rw [if_neg q34, if_neg q34]
  by_cases q37 : a = 37
  · rw [if_pos q37, if_pos q37]
  rw [if_neg q37, if_neg q37]
  by_cases q41 : a = 41
  · rw [if_pos q41, if_pos q41]
  rw [if_neg q41, if_neg q41]
  by_cases q42 : a = 42
  · rw [if_pos q42, if_pos q42]
  rw [if_neg q42, if_neg q42]
def mrk85 (a : Int32) : Int32 := if a = 20 then 7 else if a = 21 then 7 else if a = 35 then 0 else if a = 36 then 0 else -1
def mrk52 (a : Int32) : Int32 := if a = 30 then 5 else if a = 31 then 5 else if a < 32 then mrk85 a else if 34 < a then mrk85 a else 6
def mrk (a : Int32) : Int32 := if a = 22 then 1 else if a = 23 then 2 else if a = 24 then 3 else if a = 25 then 3 else if a < 26 then mrk52 a else if 29 < a then mrk52 a else 4
theorem mrk85_eq (a : Int32) (M : ax_M) : f_Mod_rank_85 a M = some (mrk85 a, M) := by
  unfold f_Mod_rank_85 mrk85
  by_cases q0 : a = 20
  · rw [if_pos q0, if_pos q0]
  rw [if_neg q0, if_neg q0]
  by_cases q1 : a = 21
  · rw [if_pos q1, if_pos q1]
  rw [if_neg q1, if_neg q1]
  by_cases q2 : a = 35
  · rw [if_pos q2, if_pos q2]
  rw [if_neg q2, if_neg q2]
  by_cases q3 : a = 36
  · rw [if_pos q3, if_pos q3]
  rw [if_neg q3, if_neg q3]
theorem mrk52_eq (a : Int32) (M : ax_M) : f_Mod_rank_52 a M = some (mrk52 a, M) := by
  unfold f_Mod_rank_52 mrk52
  by_cases q0 : a = 30
  · rw [if_pos q0, if_pos q0]
  rw [if_neg q0, if_neg q0]
  by_cases q1 : a = 31
  · rw [if_pos q1, if_pos q1]
  rw [if_neg q1, if_neg q1]
  by_cases q2 : a < 32
  · rw [if_pos q2, if_pos q2, mrk85_eq]
  rw [if_neg q2, if_neg q2]
  by_cases q3 : 34 < a
  · rw [if_pos q3, if_pos q3, mrk85_eq]
  rw [if_neg q3, if_neg q3]
theorem mrk_eq (a : Int32) (M : ax_M) : f_Mod_rank a M = some (mrk a, M) := by
  unfold f_Mod_rank mrk
  by_cases q0 : a = 22
  · rw [if_pos q0, if_pos q0]
  rw [if_neg q0, if_neg q0]
  by_cases q1 : a = 23
  · rw [if_pos q1, if_pos q1]
  rw [if_neg q1, if_neg q1]
  by_cases q2 : a = 24
  · rw [if_pos q2, if_pos q2]
  rw [if_neg q2, if_neg q2]
  by_cases q3 : a = 25
  · rw [if_pos q3, if_pos q3]
  rw [if_neg q3, if_neg q3]
  by_cases q4 : a < 26
  · rw [if_pos q4, if_pos q4, mrk52_eq]
  rw [if_neg q4, if_neg q4]
  by_cases q5 : 29 < a
  · rw [if_pos q5, if_pos q5, mrk52_eq]
  rw [if_neg q5, if_neg q5]
def okS (s : Nat) : Prop := preS s ∨ binS s ∨ schS s ∨ s = 42
theorem rk_tab : ∀ j, j < 43 → crk (nI j) = nI (rkN j) ∧ rkN j < 9 ∧ ((j = 13 ∨ j = 15 ∨ j = 17 ∨ (20 ≤ j ∧ j ≤ 34) ∨ (37 ≤ j ∧ j ≤ 42)) → mrk (nI (sgN j)) = nI (rkN j) - 1) := by decide +kernel
theorem rk_cmp : ∀ r, r < 9 → ∀ l, l < 9 → (nI r < nI l ↔ r < l) ∧ (nI r - 1 < nI l - 1 ↔ r < l) := by decide +kernel
theorem okS_r {s : Nat} (h : okS s) : s < 43 ∧ (s = 13 ∨ s = 15 ∨ s = 17 ∨ (20 ≤ s ∧ s ≤ 34) ∨ (37 ≤ s ∧ s ≤ 42)) := by
  unfold okS preS binS schS at h
  omega
theorem Wst.ok {c : Nat → Int32} {lo be en : Nat → Nat} {s b : Nat} {B : List (Nat × Nat)} {O : List Nat} {P m : Nat} (h : Wst c lo be en ((s, b) :: B) O P m) : okS s := by
  rcases h.2 with h | h | h | h
  · exact Or.inl h.1
  · exact Or.inr (Or.inl h.1)
  · exact Or.inr (Or.inr (Or.inl h.1))
  · exact Or.inr (Or.inr (Or.inr h.1))
def cntp : List (Nat × Nat) → Nat
  | [] => 0
  | (s, _) :: B => (if s = 15 then 0 else 1) + cntp B
def allS : List (Nat × Nat) → Prop
  | [] => True
  | (s, _) :: B => okS s ∧ allS B
theorem Wst.all {c : Nat → Int32} {lo be en : Nat → Nat} : ∀ {B : List (Nat × Nat)} {O : List Nat} {P m : Nat}, Wst c lo be en B O P m → allS B
  | [], _, _, _, _ => trivial
  | (s, b) :: B, O, P, m, h => by
    refine ⟨h.ok, ?_⟩
    rcases h.2 with ⟨a1, a2⟩ | ⟨a1, o, O', P', m', a2, a3, a4⟩ | ⟨a1, o, O', P', m', a2, a3, a4⟩ | ⟨a1, o2, o1, O', P', m', a2, a3, a4⟩
    · exact a2.all
    · exact a3.all
    · exact a3.all
    · exact a3.all
