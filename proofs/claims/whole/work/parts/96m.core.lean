/-! Reading: one token, both sides: where a value, a bracket or size is wanted. -/
def iw (w : Int32) : Nat := if w = 2 then 1 else 0
def Inv (w ws : Int32) (B : List (Nat × Nat)) (O : List Nat) (E : xRow) (sz : Nat) (c : Nat → Int32) (ar : Nat → Int64) (m : Nat) (lo be en : Nat → Nat) (pos pc : Nat) : Prop := Nds E c ar lo be en sz ∧ (((w = 0 ∨ w = 2) ∧ Wst c lo be en B O sz m) ∨ ((w = 1 ∨ w = 3) ∧ Top c lo be en B O sz m)) ∧ pc = sz + cntp B + iw w ∧ pc ≤ 20 ∧ m + cntp B + iw w ≤ 2 * pc ∧ B.length ≤ pos ∧ (w = 3 → ws = 14 ∨ ws = 43)
def ClsR (e : Nat) (B : List (Nat × Nat)) (O : List Nat) (E : xRow) (sz : Nat) (w ws : Int32) (pc : Nat) (t : Int32) (v : Int64) (r : Int32) (Q : ax_M → Prop) : Prop := ∀ M v', (t = 2 ∨ t = 3 → v' = v) → CR M e B O E sz w ws pc → ∃ M', f_Reader_takes_24 t v' M = some (r, M') ∧ EqK (Xp e) M M' ∧ Q M'
def RefR (B : List (Nat × Nat)) (c : Nat → Int32) (ar : Nat → Int64) (m : Nat) (w ws : Int32) (pc : Nat) (t : Int32) (v : Int64) (r : Int32) (Q : ax_M → Prop) : Prop := ∀ M, (t = 2 ∨ t = 3 → gJ M 184 6 = v) → MR M B c ar m w ws pc → ∃ M', f_Mod_take (tokM t) M = some (r, M') ∧ EqK Xq M M' ∧ Q M'
def Core (e : Nat) (B : List (Nat × Nat)) (O : List Nat) (E : xRow) (sz : Nat) (c : Nat → Int32) (ar : Nat → Int64) (m : Nat) (w ws : Int32) (pc : Nat) (t : Int32) (v : Int64) (p1 : Nat) : Prop :=
  (ClsR e B O E sz w ws pc t v 0 (fun _ => True) ∧ RefR B c ar m w ws pc t v 0 (fun _ => True)) ∨
  ∃ w' ws' B' O' E' sz' c' ar' m' lo' be' en', Inv w' ws' B' O' E' sz' c' ar' m' lo' be' en' p1 pc ∧ ClsR e B O E sz w ws pc t v 1 (fun M' => CR M' e B' O' E' sz' w' ws' pc) ∧ RefR B c ar m w ws pc t v 1 (fun M' => MR M' B' c' ar' m' w' ws' pc)
def prt (j : Nat) : Nat := if j = 15 ∨ j = 16 ∨ j = 18 ∨ j = 19 ∨ j = 35 ∨ j = 36 then 0 else 1
theorem nj {j k : Nat} (hj : j < 100) (hk : k < 100) (h : j ≠ k) : ¬ nI j = nI k := fun z => h ((nI_eq (by omega) (by omega)).mp z)
theorem t24_0 {M : ax_M} {e : Nat} {B : List (Nat × Nat)} {O : List Nat} {E : xRow} {sz pc : Nat} {ws : Int32} (h : CR M e B O E sz 0 ws pc) (hpc : pc ≤ 20) (t : Int32) (v : Int64) : f_Reader_takes_24 t v M = bnd (f_Reader_takesForValue t v M) (fun q m => g2 q (some (q, m))) := by
  unfold f_Reader_takes_24
  rw [h.2.2.2.2.2.2.2.2.2, if_pos (show nI pc ≤ 20 from nI_le (b := 20) hpc (by decide)), kM_eq, h.2.2.2.2.2.2.2.1, if_pos rfl]
theorem t24_1 {M : ax_M} {e : Nat} {B : List (Nat × Nat)} {O : List Nat} {E : xRow} {sz pc : Nat} {ws : Int32} (h : CR M e B O E sz 1 ws pc) (hpc : pc ≤ 20) (t : Int32) (v : Int64) : f_Reader_takes_24 t v M = bnd (f_Reader_takesBehindValue t M) (fun q m => g2 q (some (q, m))) := by
  unfold f_Reader_takes_24
  rw [h.2.2.2.2.2.2.2.2.2, if_pos (show nI pc ≤ 20 from nI_le (b := 20) hpc (by decide)), kM_eq, h.2.2.2.2.2.2.2.1, if_neg (by decide), if_neg (by decide), if_neg (by decide)]
theorem t24_2 {M : ax_M} {e : Nat} {B : List (Nat × Nat)} {O : List Nat} {E : xRow} {sz pc : Nat} {ws : Int32} (h : CR M e B O E sz 2 ws pc) (hpc : pc ≤ 20) (t : Int32) (v : Int64) : f_Reader_takes_24 t v M = if t = 15 then (bnd (f_Reader_begin 13 M) (fun q13 M14 => if q13 = 0 then (some (0, M14)) else (some (1, M14)))) else (some (0, M)) := by
  unfold f_Reader_takes_24
  rw [h.2.2.2.2.2.2.2.2.2, if_pos (show nI pc ≤ 20 from nI_le (b := 20) hpc (by decide)), kM_eq, h.2.2.2.2.2.2.2.1, if_neg (by decide), if_pos rfl]
theorem t24_3 {M : ax_M} {e : Nat} {B : List (Nat × Nat)} {O : List Nat} {E : xRow} {sz pc : Nat} {ws : Int32} (h : CR M e B O E sz 3 ws pc) (hpc : pc ≤ 20) (t : Int32) (v : Int64) : f_Reader_takes_24 t v M = if t = 14 then (bnd (f_Reader_joinNow ws M) (fun q18 M19 => if q18 = 0 then (some (0, M19)) else (some (1, M19)))) else (some (0, M)) := by
  unfold f_Reader_takes_24
  rw [h.2.2.2.2.2.2.2.2.2, if_pos (show nI pc ≤ 20 from nI_le (b := 20) hpc (by decide)), kM_eq, h.2.2.2.2.2.2.2.1, if_neg (by decide), if_neg (by decide), if_pos rfl, h.2.2.2.2.2.2.2.2.1]
theorem mt_0 {M : ax_M} {B : List (Nat × Nat)} {c : Nat → Int32} {ar : Nat → Int64} {m pc : Nat} {ws : Int32} (h : MR M B c ar m 0 ws pc) (x : Int32) : f_Mod_take x M = if x < 1 then (f_Mod_take_35 x M) else (if 11 < x then (f_Mod_take_35 x M) else (bnd (f_Mod_emit x (gJ M 184 6) M) (fun q76 M77 => kM (mI M77 184 7 1) (fun M78 => some (1, M78))))) := by
  unfold f_Mod_take
  rw [h.2.2.2.2.1, stM_0, if_pos rfl]
theorem mt_2 {M : ax_M} {B : List (Nat × Nat)} {c : Nat → Int32} {ar : Nat → Int64} {m pc : Nat} {ws : Int32} (h : MR M B c ar m 2 ws pc) (x : Int32) : f_Mod_take x M = bnd (f_Mod_wait 51 M) (fun q58 M59 => if x = 60 then (some (1, M59)) else (some (0, M59))) := by
  unfold f_Mod_take
  rw [h.2.2.2.2.1, stM_2, if_neg (by decide), if_pos rfl]
theorem mt_3 {M : ax_M} {B : List (Nat × Nat)} {c : Nat → Int32} {ar : Nat → Int64} {m pc : Nat} {ws : Int32} (h : MR M B c ar m 3 ws pc) (hw : ws = 14 ∨ ws = 43) (x : Int32) : f_Mod_take x M = bnd (f_Mod_emit (if ws = 14 then 13 else 14) 0 M) (fun q54 M55 => kM (mI M55 184 7 1) (fun M56 => if x = 13 then (some (1, M56)) else (some (0, M56)))) := by
  unfold f_Mod_take
  rw [h.2.2.2.2.1]
  rcases hw with z | z
  · rw [z, show stM 3 14 = 3 by decide, if_neg (by decide), if_neg (by decide), if_neg (by decide), if_pos rfl, if_pos rfl]
  · rw [z, show stM 3 43 = 4 by decide, if_neg (by decide), if_neg (by decide), if_neg (by decide), if_neg (by decide), if_neg (by decide)]
theorem tok0_no : ∀ j, 14 ≤ j → j ≤ 40 → j ≠ 15 → j ≠ 30 → j ≠ 34 → (¬ tokM (nI j) < 1 ∧ 11 < tokM (nI j) ∧ ¬ tokM (nI j) = 12 ∧ ¬ tokM (nI j) = 60 ∧ ¬ tokM (nI j) = 31 ∧ ¬ tokM (nI j) = 21) := by
  have h : ∀ j, j < 41 → ((14 ≤ j ∧ j ≠ 15) ∧ j ≠ 30 ∧ j ≠ 34) → (¬ tokM (nI j) < 1 ∧ 11 < tokM (nI j) ∧ ¬ tokM (nI j) = 12 ∧ ¬ tokM (nI j) = 60 ∧ ¬ tokM (nI j) = 31 ∧ ¬ tokM (nI j) = 21) := by decide +kernel
  exact fun j h1 h2 h3 h4 h5 => h j (by omega) ⟨⟨h1, h3⟩, h4, h5⟩
theorem tok_leaf : ∀ j, j < 13 → 2 ≤ j → tokM (nI j) = nI (j - 1) ∧ ¬ tokM (nI j) < 1 ∧ ¬ 11 < tokM (nI j) := by decide +kernel
theorem rel_leaf : ∀ j, j < 13 → 4 ≤ j → ¬ (nI (j - 1) = 1 ∨ nI (j - 1) = 2 ∨ nI (j - 1) = 16 ∨ nI (j - 1) = 17 ∨ nI (j - 1) = 18 ∨ nI (j - 1) = 19) := by decide +kernel
theorem leaf_c {M : ax_M} {e : Nat} (he : eOk e) {B : List (Nat × Nat)} {O : List Nat} {E : xRow} {sz pc : Nat} {w ws : Int32} (h : CR M e B O E sz w ws pc) (hs : sz < 20) (hl : O.length < 20) {j : Nat} (h2 : 2 ≤ j) (h12 : j ≤ 12) {v v' : Int64} (hv : nI j ≤ 3 → v' = v) : ∃ M', f_Reader_takesLeaf (nI j) v' M = some (1, M') ∧ CR M' e B (sz :: O) (upE E sz (nI j) (-1) (-1) (-1) v) (sz + 1) 1 ws pc ∧ EqK (Xp e) M M' := by
  have he' := he
  obtain ⟨e1, e2, e3⟩ := he
  obtain ⟨h0, h1, h2', h3, h4, h5, h6, h7, h8, h9⟩ := h
  obtain ⟨M1, a1, a2, a3, a4, a5⟩ : ∃ M1, f_Expr_appendLeaf e (nI j) v' M = some (nI sz, M1) ∧ EqK (fun c _ => e ≤ c ∧ c < e + 6) M M1 ∧ gI M1 e 5 = nI (sz + 1) ∧ RowC M1 e (upE E sz (nI j) (-1) (-1) (-1) v) (sz + 1) ∧ True := by
    have R0 : RowC M e (E.1, E.2.1, E.2.2.1, E.2.2.2.1, E.2.2.2.2) sz := h6
    -- the part, as one of another sort would be laid; then its sort and number
    unfold f_Expr_appendLeaf f_Expr_appendPart
    rw [gk_pos e1, gk_pos e1, h5, if_pos (show nI sz < 20 from nI_lt (b := 20) hs (by decide)), kM_eq, gi_nI hs (by decide), nI_clamp (by omega), kM_eq, kM_eq, kM_eq, kM_eq, show gI (mI (mI (mI (mI M (e + 1) sz (nI j)) (e + 2) sz (-1)) (e + 3) sz (-1)) (e + 4) sz (-1)) e 5 = nI sz by
      rw [mIc (by omega), mIc (by omega), mIc (by omega), mIc (by omega)]
      exact h5, nI_1, kM_eq, bnd_eq, if_neg (show ¬ nI sz = -1 from fun z => absurd (show nI sz < 0 by rw [z]; decide) (nI_pos (by omega))), gi_nI hs (by decide), nI_clamp (by omega), kM_eq]
    refine ⟨_, rfl, ?_, mIs (mI (mI (mI (mI M (e + 1) sz (nI j)) (e + 2) sz (-1)) (e + 3) sz (-1)) (e + 4) sz (-1)) e 5 (nI (sz + 1)), fun p hp => ?_, trivial⟩
    · exact EqK.mJ (S := fun c _ => e ≤ c ∧ c < e + 6) (EqK.mI (EqK.mI (EqK.mI (EqK.mI (EqK.mI (EqK.rf M) (by omega)) (by omega)) (by omega)) (by omega)) (by omega)) (by omega)
    · have gi' : ∀ (N : ax_M) (x : Int64) c k, gI (mJ N (e + 5) sz x) c k = gI N c k := fun N x c k => rfl
      rw [gi', gi', gi', gi']
      by_cases z : p = sz
      · subst z
        refine ⟨?_, ?_, ?_, ?_, fun y => ?_⟩
        · rw [mIc (by omega), mIc (by omega), mIc (by omega), mIc (by omega), mIs]
          exact (fup_s _ _ _).symm
        · rw [mIc (by omega), mIc (by omega), mIc (by omega), mIs]
          exact (fup_s _ _ _).symm
        · rw [mIc (by omega), mIc (by omega), mIs]
          exact (fup_s _ _ _).symm
        · rw [mIc (by omega), mIs]
          exact (fup_s _ _ _).symm
        · rw [show (upE E p (nI j) (-1) (-1) (-1) v).1 p = nI j from fup_s _ _ _] at y
          rw [mJs, hv y]
          exact (fup_s _ _ _).symm
      · obtain ⟨r1, r2, r3, r4, r5⟩ := h6 p (by omega)
        refine ⟨?_, ?_, ?_, ?_, fun y => ?_⟩
        · rw [mIc (by omega), mIc (by omega), mIc (by omega), mIc (by omega), mIk z, r1]
          exact (fup_n z).symm
        · rw [mIc (by omega), mIc (by omega), mIc (by omega), mIk z, mIc (by omega), r2]
          exact (fup_n z).symm
        · rw [mIc (by omega), mIc (by omega), mIk z, mIc (by omega), mIc (by omega), r3]
          exact (fup_n z).symm
        · rw [mIc (by omega), mIk z, mIc (by omega), mIc (by omega), mIc (by omega), r4]
          exact (fup_n z).symm
        · rw [show (upE E sz (nI j) (-1) (-1) (-1) v).1 p = E.1 p from fup_n z] at y
          rw [show (upE E sz (nI j) (-1) (-1) (-1) v).2.2.2.2 p = E.2.2.2.2 p from fup_n z]
          exact (if_neg (fun q => z q.2)).trans (r5 y)
  obtain ⟨M2, b1, b2, b3, b4⟩ := push_c (M := M1) (O := O) ((a2 5 3 (by omega)).1.trans h3) (h4.kp fun k hk => (a2 7 k (by omega)).1) hl sz
  have c2 : CR M2 e B (sz :: O) (upE E sz (nI j) (-1) (-1) (-1) v) (sz + 1) w ws pc := by
    refine ⟨?_, ?_, ?_, b3, b4, ?_, ?_, ?_, ?_, ?_⟩
    · exact (b2 5 7 (by omega)).2.2.trans ((a2 5 7 (by omega)).2.2.trans h0)
    · exact (b2 5 1 (by omega)).1.trans ((a2 5 1 (by omega)).1.trans h1)
    · exact h2'.kp fun k hk => (b2 6 k (by omega)).1.trans (a2 6 k (by omega)).1
    · exact (b2 e 5 (by omega)).1.trans a3
    · exact a4.kp fun c k x y => ⟨(b2 c k (by omega)).1, (b2 c k (by omega)).2.1⟩
    · exact (b2 5 4 (by omega)).1.trans ((a2 5 4 (by omega)).1.trans h7)
    · exact (b2 5 5 (by omega)).1.trans ((a2 5 5 (by omega)).1.trans h8)
    · exact (b2 5 6 (by omega)).1.trans ((a2 5 6 (by omega)).1.trans h9)
  obtain ⟨c3, x3⟩ := c2.st he' 1
  refine ⟨mI M2 5 4 1, ?_, c3, (EqK.tr (a2.mono fun c k z => by unfold Xp; omega) (b2.mono fun c k z => by unfold Xp; omega)).tr x3⟩
  unfold f_Reader_takesLeaf
  rw [kM_eq, h0, gk_pos e1, a1, bnd_eq, b1, bnd_eq, kM_eq]
theorem core2 {e : Nat} (he : eOk e) {B : List (Nat × Nat)} {O : List Nat} {E : xRow} {sz : Nat} {c : Nat → Int32} {ar : Nat → Int64} {m : Nat} {lo be en : Nat → Nat} {ws : Int32} {pc pos p1 j : Nat} {v : Int64} (hN : Nds E c ar lo be en sz) (hW : Wst c lo be en B O sz m) (hpc : pc = sz + cntp B + 1 + prt j) (h20 : pc ≤ 20) (h2 : m + cntp B + 1 + 2 * prt j ≤ 2 * pc) (hl : B.length ≤ pos) (hp : pos < p1) (hp48 : pos < 48) (hj : j ≤ 40) : Core e B O E sz c ar m 2 ws pc (nI j) v p1 := by
  by_cases q : j = 15
  · subst q
    rw [show prt 15 = 0 from rfl] at hpc h2
    refine Or.inr ⟨0, ws, (13, m) :: B, O, E, sz, c, ar, m, lo, be, en, ⟨hN, Or.inl ⟨Or.inl rfl, rfl, Or.inl ⟨Or.inr (Or.inl rfl), hW⟩⟩, ?_, h20, ?_, by rw [List.length_cons]; omega, fun z => absurd z (by decide)⟩, fun M v' hv h => ?_, fun M hv h => ?_⟩
    · show pc = sz + ((if 13 = 15 then 0 else 1) + cntp B) + 0
      rw [if_neg (by decide)]
      omega
    · show m + ((if 13 = 15 then 0 else 1) + cntp B) + 0 ≤ 2 * pc
      rw [if_neg (by decide)]
      omega
    · obtain ⟨M', a1, a2, a3⟩ := begin_c he h (by omega) 13 m
      exact ⟨M', by rw [t24_2 h h20, if_pos (show nI 15 = 15 by decide), show f_Reader_begin 13 M = _ from a1, bnd_eq, if_neg (by decide)], a3, a2⟩
    · obtain ⟨M', a1, a2, a3⟩ := wait_m h (by omega) 13 51 (by decide)
      exact ⟨M', by rw [mt_2 h, a1, bnd_eq, if_pos (show tokM (nI 15) = 60 by decide)], a3, a2⟩
  · refine Or.inl ⟨fun M v' hv h => ?_, fun M hv h => ?_⟩
    · exact ⟨M, by rw [t24_2 h h20, if_neg (show ¬ nI j = 15 from nj (k := 15) (by omega) (by decide) q)], EqK.rf M, trivial⟩
    · obtain ⟨M', a1, a2, a3⟩ := wait_m h (by omega) 13 51 (by decide)
      have t : ∀ j, j < 41 → j ≠ 15 → ¬ tokM (nI j) = 60 := by decide +kernel
      exact ⟨M', by rw [mt_2 h, a1, bnd_eq, if_neg (t j (by omega) q)], a3, trivial⟩
theorem core3 {e : Nat} (he : eOk e) {B : List (Nat × Nat)} {O : List Nat} {E : xRow} {sz : Nat} {c : Nat → Int32} {ar : Nat → Int64} {m : Nat} {lo be en : Nat → Nat} {ws : Int32} {pc pos p1 j : Nat} {v : Int64} (hN : Nds E c ar lo be en sz) (hT : Top c lo be en B O sz m) (hws : ws = 14 ∨ ws = 43) (hpc : pc = sz + cntp B + prt j) (h20 : pc ≤ 20) (h2 : m + cntp B + 2 * prt j ≤ 2 * pc) (hl : B.length ≤ pos) (hp : pos < p1) (hj : j ≤ 40) : Core e B O E sz c ar m 3 ws pc (nI j) v p1 := by
  by_cases q : j = 14
  · subst q
    rw [show prt 14 = 1 from rfl] at hpc h2
    obtain ⟨tl, tm⟩ := hT.lt hN
    obtain ⟨o, O1, P, m0, t1, t2, t3, t4, t5, t6⟩ := hT
    obtain ⟨s, k, hsk, es, ek⟩ : ∃ s k, pair1 s k ∧ ws = nI s ∧ (if ws = 14 then (13 : Int32) else 14) = nI k := by
      rcases hws with z | z
      · exact ⟨14, 13, Or.inr (Or.inl ⟨rfl, rfl⟩), z, by rw [if_pos z]; rfl⟩
      · exact ⟨43, 14, Or.inr (Or.inr (Or.inl ⟨rfl, rfl⟩)), z, by rw [z]; decide⟩
    obtain ⟨n1, n2⟩ := one_ab (ar := ar) hN tm t2 t3 t4 t5 t6 hsk
    refine Or.inr ⟨1, ws, B, sz :: O1, _, sz + 1, _, _, m + 1, _, _, _, ⟨n1, Or.inr ⟨Or.inl rfl, n2⟩, ?_, h20, ?_, by omega, fun z => absurd z (by decide)⟩, fun M v' hv h => ?_, fun M hv h => ?_⟩
    · show pc = sz + 1 + cntp B + 0
      omega
    · show m + 1 + cntp B + 0 ≤ 2 * pc
      omega
    · rw [t1] at h
      rw [t1, List.length_cons] at tl
      obtain ⟨M1, a1, a2, a3⟩ := join1_c he h (by omega) (by omega) (s := s) (by unfold pair1 at hsk; show _ ∨ _; omega)
      obtain ⟨b1, b2⟩ := a2.st he 1
      refine ⟨_, ?_, a3.tr b2, b1⟩
      rw [t24_3 h h20, if_pos (show nI 14 = 14 by decide)]
      unfold f_Reader_joinNow
      rw [es, a1, bnd_eq, kM_eq, bnd_eq, if_neg (by decide)]
    · obtain ⟨M1, a1, a2, a3⟩ := emit_m h (by omega) (nI k) 0
      obtain ⟨b1, b2⟩ := a2.st 1 ws
      rw [stM_1] at b1 b2
      exact ⟨_, by rw [mt_3 h hws, ek, a1, bnd_eq, kM_eq, if_pos (show tokM (nI 14) = 13 by decide)], a3.tr b2, b1⟩
  · refine Or.inl ⟨fun M v' hv h => ?_, fun M hv h => ?_⟩
    · exact ⟨M, by rw [t24_3 h h20, if_neg (show ¬ nI j = 14 from nj (k := 14) (by omega) (by decide) q)], EqK.rf M, trivial⟩
    · obtain ⟨M1, a1, a2, a3⟩ := emit_m h (by omega) (if ws = 14 then 13 else 14) 0
      obtain ⟨b1, b2⟩ := a2.st 1 ws
      rw [stM_1] at b1 b2
      have t : ∀ j, j < 41 → j ≠ 14 → ¬ tokM (nI j) = 13 := by decide +kernel
      exact ⟨_, by rw [mt_3 h hws, a1, bnd_eq, kM_eq, if_neg (t j (by omega) q)], a3.tr b2, trivial⟩
theorem core0 {e : Nat} (he : eOk e) {B : List (Nat × Nat)} {O : List Nat} {E : xRow} {sz : Nat} {c : Nat → Int32} {ar : Nat → Int64} {m : Nat} {lo be en : Nat → Nat} {ws : Int32} {pc pos p1 j : Nat} {v : Int64} (hN : Nds E c ar lo be en sz) (hW : Wst c lo be en B O sz m) (hpc : pc = sz + cntp B + prt j) (h20 : pc ≤ 20) (h2 : m + cntp B + 2 * prt j ≤ 2 * pc) (hl : B.length ≤ pos) (hp : pos < p1) (hp48 : pos < 48) (hj2 : 2 ≤ j) (hj : j ≤ 40) (hv2 : nI j = 2 → v = v.toInt32.toInt64) : Core e B O E sz c ar m 0 ws pc (nI j) v p1 := by
  -- a sort that begins and wants a value
  have beg : ∀ s : Nat, preS s → pc = sz + ((if s = 15 then 0 else 1) + cntp B) → m + ((if s = 15 then 0 else 1) + cntp B) ≤ 2 * pc → (∀ M v', f_Reader_takesForValue (nI j) v' M = bnd (f_Reader_begin (nI s) M) (fun q4 M5 => g2 q4 (some (q4, M5)))) → (∀ M, f_Mod_take_35 (tokM (nI j)) M = bnd (f_Mod_wait (nI (sgN s)) M) (fun _ M71 => some (1, M71))) → (¬ tokM (nI j) < 1 ∧ 11 < tokM (nI j)) → Core e B O E sz c ar m 0 ws pc (nI j) v p1 := fun s hs e1 e2 hC hM hx => by
    refine Or.inr ⟨0, ws, (s, m) :: B, O, E, sz, c, ar, m, lo, be, en, ⟨hN, Or.inl ⟨Or.inl rfl, rfl, Or.inl ⟨hs, hW⟩⟩, e1, h20, e2, by rw [List.length_cons]; omega, fun z => absurd z (by decide)⟩, fun M v' hv h => ?_, fun M hv h => ?_⟩
    · obtain ⟨M', a1, a2, a3⟩ := begin_c he h (by omega) s m
      exact ⟨M', by rw [t24_0 h h20, hC, a1, bnd_eq, g2_1, bnd_eq, g2_1], a3, a2⟩
    · obtain ⟨M', a1, a2, a3⟩ := wait_m h (by omega) s (nI (sgN s)) rfl
      exact ⟨M', by rw [mt_0 h, if_neg hx.1, if_pos hx.2, hM, a1, bnd_eq], a3, a2⟩
  by_cases q13 : j = 13
  · subst q13
    rw [show prt 13 = 1 from rfl] at hpc h2
    refine Or.inr ⟨2, ws, B, O, E, sz, c, ar, m, lo, be, en, ⟨hN, Or.inl ⟨Or.inr rfl, hW⟩, hpc, h20, ?_, by omega, fun z => absurd z (by decide)⟩, fun M v' hv h => ?_, fun M hv h => ?_⟩
    · show m + cntp B + 1 ≤ 2 * pc
      omega
    · obtain ⟨b1, b2⟩ := h.st he 2
      refine ⟨_, ?_, b2, b1⟩
      rw [t24_0 h h20]
      unfold f_Reader_takesForValue
      rw [if_pos (show nI 13 = 13 by decide), kM_eq, bnd_eq, g2_1]
    · obtain ⟨b1, b2⟩ := h.st 2 ws
      rw [stM_2] at b1 b2
      refine ⟨_, ?_, b2, b1⟩
      rw [mt_0 h, show tokM (nI 13) = 12 by decide, if_neg (by decide), if_pos (by decide)]
      unfold f_Mod_take_35
      rw [if_pos rfl, kM_eq]
  by_cases q15 : j = 15
  · subst q15
    rw [show prt 15 = 0 from rfl] at hpc h2
    refine beg 15 (Or.inl rfl) (by rw [if_pos rfl]; omega) (by rw [if_pos rfl]; omega) (fun M v' => ?_) (fun M => rfl) (by decide)
    unfold f_Reader_takesForValue
    rw [if_neg (show ¬ nI 15 = 13 by decide), if_pos (show nI 15 = 15 by decide)]
    rfl
  by_cases q30 : j = 30
  · subst q30
    rw [show prt 30 = 1 from rfl] at hpc h2
    refine beg 41 (Or.inr (Or.inr (Or.inl rfl))) (by rw [if_neg (by decide)]; omega) (by rw [if_neg (by decide)]; omega) (fun M v' => ?_) (fun M => rfl) (by decide)
    unfold f_Reader_takesForValue
    rw [if_neg (show ¬ nI 30 = 13 by decide), if_neg (show ¬ nI 30 = 15 by decide), if_pos (show nI 30 = 30 by decide)]
    rfl
  by_cases q34 : j = 34
  · subst q34
    rw [show prt 34 = 1 from rfl] at hpc h2
    refine beg 34 (Or.inr (Or.inr (Or.inr rfl))) (by rw [if_neg (by decide)]; omega) (by rw [if_neg (by decide)]; omega) (fun M v' => ?_) (fun M => rfl) (by decide)
    unfold f_Reader_takesForValue
    rw [if_neg (show ¬ nI 34 = 13 by decide), if_neg (show ¬ nI 34 = 15 by decide), if_neg (show ¬ nI 34 = 30 by decide), if_pos (show nI 34 = 34 by decide)]
    rfl
  have cv : ∀ M v', f_Reader_takesForValue (nI j) v' M = bnd (f_Tok_isLeaf (nI j) M) (fun q15 M16 => if q15 = 0 then (some (0, M16)) else (bnd (f_Reader_takesLeaf (nI j) v' M16) (fun q18 M19 => if q18 = 0 then (some (0, M19)) else (some (1, M19))))) := fun M v' => by
    unfold f_Reader_takesForValue
    rw [if_neg (show ¬ nI j = 13 from nj (k := 13) (by omega) (by decide) q13), if_neg (show ¬ nI j = 15 from nj (k := 15) (by omega) (by decide) q15), if_neg (show ¬ nI j = 30 from nj (k := 30) (by omega) (by decide) q30), if_neg (show ¬ nI j = 34 from nj (k := 34) (by omega) (by decide) q34)]
  by_cases q12 : j ≤ 12
  · obtain ⟨k1, k2, k3⟩ := tok_leaf j (by omega) hj2
    have hprt : prt j = 1 := by
      unfold prt
      rw [if_neg (by omega)]
    rw [hprt] at hpc h2
    obtain ⟨n1, n2⟩ := leaf_ab (ar := ar) hN hW hj2 q12 hv2
    obtain ⟨wl, -⟩ := hW.lt hN (Nat.le_refl _)
    refine Or.inr ⟨1, ws, B, sz :: O, _, sz + 1, _, _, m + 1, _, _, _, ⟨n1, Or.inr ⟨Or.inl rfl, n2⟩, ?_, h20, ?_, by omega, fun z => absurd z (by decide)⟩, fun M v' hv h => ?_, fun M hv h => ?_⟩
    · show pc = sz + 1 + cntp B + 0
      omega
    · show m + 1 + cntp B + 0 ≤ 2 * pc
      omega
    · obtain ⟨M', a1, a2, a3⟩ := leaf_c he h (by omega) (by omega) hj2 q12 (v := v) (v' := v') (fun z => hv (by
        have j3 : j ≤ 3 := (nI_leI (a := j) (b := 3) (by omega) (by decide)).mp z
        have : j = 2 ∨ j = 3 := by omega
        rcases this with y | y
        · rw [y]; exact Or.inl rfl
        · rw [y]; exact Or.inr rfl))
      refine ⟨M', ?_, a3, a2⟩
      rw [t24_0 h h20, cv]
      unfold f_Tok_isLeaf
      rw [if_neg (show ¬ nI j < 2 from nI_nlt (a := j) (b := 2) hj2 (by omega)), if_neg (show ¬ (12 : Int32) < nI j from nI_nlt (a := 12) (b := j) q12 (by decide)), bnd_eq, if_neg (by decide), a1, bnd_eq, if_neg (by decide), bnd_eq, g2_1]
    · obtain ⟨M1, a1, a2, a3⟩ := emit_m h (by omega) (nI (j - 1)) (gJ M 184 6)
      have a2' := a2.arg (v := v) (fun z => by
        by_cases j3 : j ≤ 3
        · exact hv (by
            have : j = 2 ∨ j = 3 := by omega
            rcases this with y | y
            · rw [y]; exact Or.inl rfl
            · rw [y]; exact Or.inr rfl)
        · exact absurd z (rel_leaf j (by omega) (by omega)))
      obtain ⟨b1, b2⟩ := a2'.st 1 ws
      rw [stM_1] at b1 b2
      exact ⟨_, by rw [mt_0 h, if_neg k2, if_neg k3, k1, a1, bnd_eq, kM_eq], a3.tr b2, b1⟩
  · obtain ⟨k1, k2, k3, k4, k5, k6⟩ := tok0_no j (by omega) hj q15 q30 q34
    refine Or.inl ⟨fun M v' hv h => ?_, fun M hv h => ?_⟩
    · refine ⟨M, ?_, EqK.rf M, trivial⟩
      rw [t24_0 h h20, cv]
      unfold f_Tok_isLeaf
      rw [if_neg (show ¬ nI j < 2 from nI_nlt (a := j) (b := 2) hj2 (by omega)), if_pos (show (12 : Int32) < nI j from nI_lt (a := 12) (b := j) (by omega) (by omega)), bnd_eq, if_pos rfl, bnd_eq, g2_0]
    · refine ⟨M, ?_, EqK.rf M, trivial⟩
      rw [mt_0 h, if_neg k1, if_pos k2]
      unfold f_Mod_take_35
      rw [if_neg k3, if_neg k4, if_neg k5, if_neg k6]
