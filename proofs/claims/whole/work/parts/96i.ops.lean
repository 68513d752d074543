/-! Reading: the steps of the class's reader and of the reference's. -/
def StkC (M : ax_M) : List (Nat × Nat) → Prop
  | [] => True
  | (s, _) :: B => gI M 6 B.length = nI s ∧ StkC M B
def OpC (M : ax_M) : List Nat → Prop
  | [] => True
  | o :: O => gI M 7 O.length = nI o ∧ OpC M O
def sgN (s : Nat) : Nat := if s = 15 then 50 else if s = 13 then 51 else if s = 17 then 52 else if 38 ≤ s ∧ s ≤ 40 then 53 else if s = 20 then 54 else if s = 42 then 35 else if s = 37 then 36 else if s = 41 then 20 else if s = 34 then 21 else s + 1
def StkM (M : ax_M) : List (Nat × Nat) → Prop
  | [] => True
  | (s, b) :: B => gI M 189 B.length = nI (sgN s) ∧ gI M 190 B.length = nI b - 1 ∧ StkM M B
theorem StkC.kp {M M' : ax_M} : ∀ {B : List (Nat × Nat)}, (∀ k, k < B.length → gI M' 6 k = gI M 6 k) → StkC M B → StkC M' B
  | [], _, _ => trivial
  | (_, _) :: B, h, hs => ⟨(h B.length (by rw [List.length_cons]; omega)).trans hs.1, StkC.kp (fun k hk => h k (by rw [List.length_cons]; omega)) hs.2⟩
theorem OpC.kp {M M' : ax_M} : ∀ {B : List Nat}, (∀ k, k < B.length → gI M' 7 k = gI M 7 k) → OpC M B → OpC M' B
  | [], _, _ => trivial
  | _ :: B, h, hs => ⟨(h B.length (by rw [List.length_cons]; omega)).trans hs.1, OpC.kp (fun k hk => h k (by rw [List.length_cons]; omega)) hs.2⟩
theorem StkM.kp {M M' : ax_M} : ∀ {B : List (Nat × Nat)}, (∀ k, k < B.length → gI M' 189 k = gI M 189 k ∧ gI M' 190 k = gI M 190 k) → StkM M B → StkM M' B
  | [], _, _ => trivial
  | (_, _) :: B, h, hs => ⟨(h B.length (by rw [List.length_cons]; omega)).1.trans hs.1, (h B.length (by rw [List.length_cons]; omega)).2.trans hs.2.1, StkM.kp (fun k hk => h k (by rw [List.length_cons]; omega)) hs.2.2⟩
def RowC (M : ax_M) (e : Nat) (E : xRow) (sz : Nat) : Prop := ∀ p, p < sz → gI M (e + 1) p = E.1 p ∧ gI M (e + 2) p = E.2.1 p ∧ gI M (e + 3) p = E.2.2.1 p ∧ gI M (e + 4) p = E.2.2.2.1 p ∧ (E.1 p ≤ 3 → gJ M (e + 5) p = E.2.2.2.2 p)
def CR (M : ax_M) (e : Nat) (B : List (Nat × Nat)) (O : List Nat) (E : xRow) (sz : Nat) (w ws : Int32) (pc : Nat) : Prop := gA M 5 7 = e ∧ gI M 5 1 = nI B.length ∧ StkC M B ∧ gI M 5 3 = nI O.length ∧ OpC M O ∧ gI M e 5 = nI sz ∧ RowC M e E sz ∧ gI M 5 4 = w ∧ gI M 5 5 = ws ∧ gI M 5 6 = nI pc
/-- the reader's cells and those of the expression that is made -/
def Xp (e c k : Nat) : Prop := (c = 5 ∧ k ≠ 7) ∨ c = 6 ∨ c = 7 ∨ (e ≤ c ∧ c < e + 6)
def eOk (e : Nat) : Prop := kd e = 3 ∧ 9 ≤ e ∧ e + 6 ≤ 63
theorem app_c {M : ax_M} {e sz : Nat} (he : eOk e) (h5 : gI M e 5 = nI sz) (hs : sz < 20) {E : xRow} (hR : RowC M e E sz) (s a b t : Int32) (v : Int64) (hv : ¬ s ≤ 3) : ∃ M', f_Expr_appendPart e s a b t M = some (nI sz, M') ∧ EqK (fun c _ => e ≤ c ∧ c < e + 6) M M' ∧ gI M' e 5 = nI (sz + 1) ∧ RowC M' e (upE E sz s a b t v) (sz + 1) ∧ gJ M' (e + 5) = gJ M (e + 5) := by
  obtain ⟨e1, e2, e3⟩ := he
  unfold f_Expr_appendPart
  rw [gk_pos e1, h5, if_pos (show nI sz < 20 from nI_lt (b := 20) hs (by decide)), kM_eq, gi_nI hs (by decide), nI_clamp (by omega), kM_eq, kM_eq, kM_eq, kM_eq, show gI (mI (mI (mI (mI M (e + 1) sz s) (e + 2) sz a) (e + 3) sz b) (e + 4) sz t) e 5 = nI sz by
    rw [mIc (by omega), mIc (by omega), mIc (by omega), mIc (by omega)]
    exact h5, nI_1, kM_eq]
  refine ⟨_, rfl, ?_, mIs _ _ _ _, fun p hp => ?_, rfl⟩
  · exact EqK.mI (S := fun c _ => e ≤ c ∧ c < e + 6) (EqK.mI (EqK.mI (EqK.mI (EqK.mI (EqK.rf M) (by omega)) (by omega)) (by omega)) (by omega)) (by omega)
  · by_cases z : p = sz
    · subst z
      refine ⟨?_, ?_, ?_, ?_, fun y => ?_⟩
      · rw [mIc (by omega), mIc (by omega), mIc (by omega), mIc (by omega), mIs]
        exact (fup_s _ _ _).symm
      · rw [mIc (by omega), mIc (by omega), mIc (by omega), mIs]
        exact (fup_s _ _ _).symm
      · rw [mIc (by omega), mIc (by omega), mIs]
        exact (fup_s _ _ _).symm
      · rw [mIc (by omega), mIs]
        exact (fup_s _ _ _).symm
      · rw [show (upE E p s a b t v).1 p = s from fup_s _ _ _] at y
        exact absurd y hv
    · obtain ⟨r1, r2, r3, r4, r5⟩ := hR p (by omega)
      refine ⟨?_, ?_, ?_, ?_, fun y => ?_⟩
      · rw [mIc (by omega), mIc (by omega), mIc (by omega), mIc (by omega), mIk z, r1]
        exact (fup_n z).symm
      · rw [mIc (by omega), mIc (by omega), mIc (by omega), mIk z, mIc (by omega), r2]
        exact (fup_n z).symm
      · rw [mIc (by omega), mIc (by omega), mIk z, mIc (by omega), mIc (by omega), r3]
        exact (fup_n z).symm
      · rw [mIc (by omega), mIk z, mIc (by omega), mIc (by omega), mIc (by omega), r4]
        exact (fup_n z).symm
      · rw [show (upE E sz s a b t v).1 p = E.1 p from fup_n z] at y
        rw [show (upE E sz s a b t v).2.2.2.2 p = E.2.2.2.2 p from fup_n z]
        exact r5 y
theorem pop_c {M : ax_M} {q : Nat} {O : List Nat} (h3 : gI M 5 3 = nI (q :: O).length) (hO : OpC M (q :: O)) (hl : O.length < 20) : f_Reader_popOperand M = some (nI q, mI M 5 3 (nI O.length)) := by
  unfold f_Reader_popOperand
  rw [h3, List.length_cons, if_pos (show 0 < nI (O.length + 1) from nI_lt (a := 0) (by omega) (by omega)), nI_m1, kM_eq, mIs, gi_nI hl (by decide), nI_clamp (by omega), mIc (by decide), hO.1]
theorem push_c {M : ax_M} {O : List Nat} (h3 : gI M 5 3 = nI O.length) (hO : OpC M O) (hl : O.length < 20) (q : Nat) : ∃ M', f_Reader_pushOperand (nI q) M = some ((), M') ∧ EqK (fun c k => (c = 5 ∧ k = 3) ∨ c = 7) M M' ∧ gI M' 5 3 = nI (q :: O).length ∧ OpC M' (q :: O) := by
  unfold f_Reader_pushOperand
  rw [h3, if_neg (show ¬ (20 : Int32) ≤ nI O.length from nI_ge (b := 20) hl (by decide)), gi_nI hl (by decide), nI_clamp (by omega), kM_eq, mIc (by decide), h3, nI_1, kM_eq]
  refine ⟨_, rfl, EqK.mI (S := fun c k => (c = 5 ∧ k = 3) ∨ c = 7) (EqK.mI (EqK.rf M) (Or.inr rfl)) (Or.inl ⟨rfl, rfl⟩), mIs _ _ _ _, ⟨(mIc (by decide)).trans (mIs _ _ _ _), hO.kp fun k hk => ?_⟩⟩
  rw [mIc (by decide), mIk (by omega)]
theorem begin_c {M : ax_M} {e : Nat} (he : eOk e) {B : List (Nat × Nat)} {O : List Nat} {E : xRow} {sz pc : Nat} {w ws : Int32} (h : CR M e B O E sz w ws pc) (hl : B.length < 48) (s b : Nat) : ∃ M', f_Reader_begin (nI s) M = some (1, M') ∧ CR M' e ((s, b) :: B) O E sz 0 ws pc ∧ EqK (Xp e) M M' := by
  obtain ⟨h0, h1, h2, h3, h4, h5, h6, h7, h8, h9⟩ := h
  obtain ⟨e1, e2, e3⟩ := he
  unfold f_Reader_begin
  rw [h1, if_pos (show nI B.length < 48 from nI_lt (b := 48) hl (by decide)), gi_nI hl (by decide), nI_clamp (by omega), kM_eq, mIc (by decide), h1, nI_1, kM_eq, kM_eq]
  have x : EqK (fun c k => (c = 5 ∧ (k = 1 ∨ k = 4)) ∨ c = 6) M (mI (mI (mI M 6 B.length (nI s)) 5 1 (nI (B.length + 1))) 5 4 0) := EqK.mI (S := fun c k => (c = 5 ∧ (k = 1 ∨ k = 4)) ∨ c = 6) (EqK.mI (EqK.mI (EqK.rf M) (Or.inr rfl)) (Or.inl ⟨rfl, Or.inl rfl⟩)) (Or.inl ⟨rfl, Or.inr rfl⟩)
  refine ⟨_, rfl, ⟨h0, (mIk (by decide)).trans (mIs _ _ _ _), ⟨?_, h2.kp fun k hk => ?_⟩, (x 5 3 (by omega)).1.trans h3, h4.kp fun k hk => (x 7 k (by omega)).1, (x e 5 (by omega)).1.trans h5, fun p hp => ?_, mIs _ _ _ _, (x 5 5 (by omega)).1.trans h8, (x 5 6 (by omega)).1.trans h9⟩, x.mono fun c k z => by unfold Xp; omega⟩
  · rw [mIc (by decide), mIc (by decide), mIs]
  · rw [mIc (by decide), mIc (by decide), mIk (by omega)]
  · obtain ⟨r1, r2, r3, r4, r5⟩ := h6 p hp
    exact ⟨(x _ p (by omega)).1.trans r1, (x _ p (by omega)).1.trans r2, (x _ p (by omega)).1.trans r3, (x _ p (by omega)).1.trans r4, fun y => (x _ p (by omega)).2.1.trans (r5 y)⟩
theorem RowC.kp {M M' : ax_M} {e : Nat} {E : xRow} {sz : Nat} (h : RowC M e E sz) (hE : ∀ c k, e ≤ c → c < e + 6 → gI M' c k = gI M c k ∧ gJ M' c k = gJ M c k) : RowC M' e E sz := fun p hp => by
  obtain ⟨r1, r2, r3, r4, r5⟩ := h p hp
  exact ⟨(hE _ p (by omega) (by omega)).1.trans r1, (hE _ p (by omega) (by omega)).1.trans r2, (hE _ p (by omega) (by omega)).1.trans r3, (hE _ p (by omega) (by omega)).1.trans r4, fun y => (hE _ p (by omega) (by omega)).2.trans (r5 y)⟩
/-- the last steps of a join: the part and its operand -/
theorem join_end {M : ax_M} {e : Nat} (he : eOk e) {B : List (Nat × Nat)} {O : List Nat} {E : xRow} {sz pc : Nat} {w ws : Int32} (h : CR M e B O E sz w ws pc) (hs : sz < 20) (hl : O.length < 20) (s a b t : Int32) (v : Int64) (hv : ¬ s ≤ 3) : ∃ M', bnd (f_Expr_appendPart e s a b t M) (fun q11 M12 => bnd (f_Reader_pushOperand q11 M12) (fun q13 M14 => some ((), M14))) = some ((), M') ∧ CR M' e B (sz :: O) (upE E sz s a b t v) (sz + 1) w ws pc ∧ EqK (Xp e) M M' := by
  obtain ⟨h0, h1, h2, h3, h4, h5, h6, h7, h8, h9⟩ := h
  obtain ⟨M1, a1, a2, a3, a4, -⟩ := app_c he h5 hs h6 s a b t v hv
  obtain ⟨e1, e2, e3⟩ := he
  obtain ⟨M2, b1, b2, b3, b4⟩ := push_c (M := M1) (O := O) ((a2 5 3 (by omega)).1.trans h3) (h4.kp fun k hk => (a2 7 k (by omega)).1) hl sz
  refine ⟨M2, by rw [a1, bnd_eq, b1, bnd_eq], ⟨?_, ?_, ?_, b3, b4, ?_, ?_, ?_, ?_, ?_⟩, EqK.tr (a2.mono fun c k z => by unfold Xp; omega) (b2.mono fun c k z => by unfold Xp; omega)⟩
  · exact (b2 5 7 (by omega)).2.2.trans ((a2 5 7 (by omega)).2.2.trans h0)
  · exact (b2 5 1 (by omega)).1.trans ((a2 5 1 (by omega)).1.trans h1)
  · exact h2.kp fun k hk => (b2 6 k (by omega)).1.trans (a2 6 k (by omega)).1
  · exact (b2 e 5 (by omega)).1.trans a3
  · exact a4.kp fun c k x y => ⟨(b2 c k (by omega)).1, (b2 c k (by omega)).2.1⟩
  · exact (b2 5 4 (by omega)).1.trans ((a2 5 4 (by omega)).1.trans h7)
  · exact (b2 5 5 (by omega)).1.trans ((a2 5 5 (by omega)).1.trans h8)
  · exact (b2 5 6 (by omega)).1.trans ((a2 5 6 (by omega)).1.trans h9)
theorem CR.pop {M : ax_M} {e : Nat} (he : eOk e) {B : List (Nat × Nat)} {q : Nat} {O : List Nat} {E : xRow} {sz pc : Nat} {w ws : Int32} (h : CR M e B (q :: O) E sz w ws pc) : CR (mI M 5 3 (nI O.length)) e B O E sz w ws pc ∧ EqK (Xp e) M (mI M 5 3 (nI O.length)) := by
  obtain ⟨h0, h1, h2, h3, h4, h5, h6, h7, h8, h9⟩ := h
  obtain ⟨e1, e2, e3⟩ := he
  have x : EqK (fun c k => c = 5 ∧ k = 3) M (mI M 5 3 (nI O.length)) := EqK.mI (S := fun c k => c = 5 ∧ k = 3) (EqK.rf M) ⟨rfl, rfl⟩
  exact ⟨⟨h0, (x 5 1 (by omega)).1.trans h1, h2.kp fun k hk => (x 6 k (by omega)).1, mIs _ _ _ _, h4.2.kp fun k hk => (x 7 k (by omega)).1, (x e 5 (by omega)).1.trans h5, h6.kp fun c k a b => ⟨(x c k (by omega)).1, (x c k (by omega)).2.1⟩, (x 5 4 (by omega)).1.trans h7, (x 5 5 (by omega)).1.trans h8, (x 5 6 (by omega)).1.trans h9⟩, x.mono fun c k z => by unfold Xp; omega⟩
abbrev oneS (s : Nat) : Prop := s = 13 ∨ s = 14 ∨ s = 34 ∨ s = 41 ∨ s = 43
theorem isone {s : Nat} (hs : s < 100) (M : ax_M) : f_Tok_isOfOne (nI s) M = some (if s = 13 ∨ s = 14 ∨ s = 34 ∨ s = 41 ∨ s = 43 then 1 else 0, M) := by
  have n : ∀ j : Nat, j < 100 → (nI s = nI j ↔ s = j) := fun j hj => nI_eq (by omega) (by omega)
  have n13 : nI s = 13 ↔ s = 13 := n 13 (by decide)
  have n14 : nI s = 14 ↔ s = 14 := n 14 (by decide)
  have n34 : nI s = 34 ↔ s = 34 := n 34 (by decide)
  have n41 : nI s = 41 ↔ s = 41 := n 41 (by decide)
  have n43 : nI s = 43 ↔ s = 43 := n 43 (by decide)
  unfold f_Tok_isOfOne
  by_cases q1 : s = 13
  · rw [if_pos (n13.mpr q1), if_pos (Or.inl q1)]
  by_cases q2 : s = 14
  · rw [if_neg (fun z => q1 (n13.mp z)), if_pos (n14.mpr q2), if_pos (Or.inr (Or.inl q2))]
  by_cases q3 : s = 34
  · rw [if_neg (fun z => q1 (n13.mp z)), if_neg (fun z => q2 (n14.mp z)), if_pos (n34.mpr q3), if_pos (Or.inr (Or.inr (Or.inl q3)))]
  by_cases q4 : s = 41
  · rw [if_neg (fun z => q1 (n13.mp z)), if_neg (fun z => q2 (n14.mp z)), if_neg (fun z => q3 (n34.mp z)), if_pos (n41.mpr q4), if_pos (Or.inr (Or.inr (Or.inr (Or.inl q4))))]
  by_cases q5 : s = 43
  · rw [if_neg (fun z => q1 (n13.mp z)), if_neg (fun z => q2 (n14.mp z)), if_neg (fun z => q3 (n34.mp z)), if_neg (fun z => q4 (n41.mp z)), if_pos (n43.mpr q5), if_pos (Or.inr (Or.inr (Or.inr (Or.inr q5))))]
  rw [if_neg (fun z => q1 (n13.mp z)), if_neg (fun z => q2 (n14.mp z)), if_neg (fun z => q3 (n34.mp z)), if_neg (fun z => q4 (n41.mp z)), if_neg (fun z => q5 (n43.mp z)), if_neg (by omega)]
theorem join1_c {M : ax_M} {e : Nat} (he : eOk e) {B : List (Nat × Nat)} {q : Nat} {O : List Nat} {E : xRow} {sz pc : Nat} {w ws : Int32} (h : CR M e B (q :: O) E sz w ws pc) (hs : sz < 20) (hl : O.length < 20) {s : Nat} (h1 : oneS s) : ∃ M', f_Reader_join (nI s) M = some ((), M') ∧ CR M' e B (sz :: O) (upE E sz (nI s) (nI q) (-1) (-1) 0) (sz + 1) w ws pc ∧ EqK (Xp e) M M' := by
  have hs43 : s < 100 := by unfold oneS at h1; omega
  obtain ⟨p1, p2⟩ := h.pop he
  obtain ⟨M', a1, a2, a3⟩ := join_end he p1 hs hl (nI s) (nI q) (-1) (-1) 0 (show ¬ nI s ≤ 3 from nI_ge (a := 3) (by unfold oneS at h1; omega) (by omega))
  refine ⟨M', ?_, a2, p2.tr a3⟩
  unfold f_Reader_join f_Reader_join_14
  rw [if_neg (show ¬ nI s = 42 from fun z => by have := (nI_eq (b := 42) (by omega) (by decide)).mp z; unfold oneS at h1; omega), isone hs43, if_pos h1, bnd_eq, if_neg (show ¬ (1 : Int32) = 0 by decide), pop_c h.2.2.2.1 h.2.2.2.2.1 hl, bnd_eq, kM_eq, show gA (mI M 5 3 (nI O.length)) 5 7 = e from h.1, gk_pos he.1]
  exact a1
theorem join2_c {M : ax_M} {e : Nat} (he : eOk e) {B : List (Nat × Nat)} {q f : Nat} {O : List Nat} {E : xRow} {sz pc : Nat} {w ws : Int32} (h : CR M e B (q :: f :: O) E sz w ws pc) (hs : sz < 20) (hl : O.length + 1 < 20) {s : Nat} (h1 : ¬ oneS s) (h2 : ¬ s = 42) (h3 : 3 < s) (hs43 : s < 100) : ∃ M', f_Reader_join (nI s) M = some ((), M') ∧ CR M' e B (sz :: O) (upE E sz (nI s) (nI f) (nI q) (-1) 0) (sz + 1) w ws pc ∧ EqK (Xp e) M M' := by
  obtain ⟨p1, p2⟩ := h.pop he
  obtain ⟨p3, p4⟩ := p1.pop he
  obtain ⟨M', a1, a2, a3⟩ := join_end he p3 hs (by omega) (nI s) (nI f) (nI q) (-1) 0 (show ¬ nI s ≤ 3 from nI_ge (a := 3) h3 (by omega))
  refine ⟨M', ?_, a2, (p2.tr p4).tr a3⟩
  unfold f_Reader_join f_Reader_join_14
  rw [if_neg (show ¬ nI s = 42 from fun z => h2 ((nI_eq (b := 42) (by omega) (by decide)).mp z)), isone hs43, if_neg h1, bnd_eq, if_pos (show (0 : Int32) = 0 from rfl), pop_c h.2.2.2.1 h.2.2.2.2.1 (by rw [List.length_cons]; omega), bnd_eq, pop_c p1.2.2.2.1 p1.2.2.2.2.1 (by omega), bnd_eq, kM_eq, show gA (mI (mI M 5 3 (nI (f :: O).length)) 5 3 (nI O.length)) 5 7 = e from h.1, gk_pos he.1]
  exact a1
theorem join3_c {M : ax_M} {e : Nat} (he : eOk e) {B : List (Nat × Nat)} {q r f : Nat} {O : List Nat} {E : xRow} {sz pc : Nat} {w ws : Int32} (h : CR M e B (q :: r :: f :: O) E sz w ws pc) (hs : sz < 20) (hl : O.length + 2 < 20) : ∃ M', f_Reader_join (nI 42) M = some ((), M') ∧ CR M' e B (sz :: O) (upE E sz (nI 42) (nI f) (nI r) (nI q) 0) (sz + 1) w ws pc ∧ EqK (Xp e) M M' := by
  obtain ⟨p1, p2⟩ := h.pop he
  obtain ⟨p3, p4⟩ := p1.pop he
  obtain ⟨p5, p6⟩ := p3.pop he
  obtain ⟨M', a1, a2, a3⟩ := join_end he p5 hs (by omega) (nI 42) (nI f) (nI r) (nI q) 0 (by decide)
  refine ⟨M', ?_, a2, ((p2.tr p4).tr p6).tr a3⟩
  unfold f_Reader_join f_Reader_join_14
  rw [if_pos (show nI 42 = 42 by decide), pop_c h.2.2.2.1 h.2.2.2.2.1 (by rw [List.length_cons, List.length_cons]; omega), bnd_eq, isone (by decide), if_neg (by decide), bnd_eq, if_pos (show (0 : Int32) = 0 from rfl), pop_c p1.2.2.2.1 p1.2.2.2.2.1 (by rw [List.length_cons]; omega), bnd_eq, pop_c p3.2.2.2.1 p3.2.2.2.2.1 (by omega), bnd_eq, kM_eq, show gA (mI (mI (mI M 5 3 (nI (r :: f :: O).length)) 5 3 (nI (f :: O).length)) 5 3 (nI O.length)) 5 7 = e from h.1, gk_pos he.1]
  exact a1
