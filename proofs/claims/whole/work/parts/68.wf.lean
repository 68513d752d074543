/-! What every value of a part keeps to. -/
def WfV (x : xV) : Prop := x.1 = -1 ∨ (x.1 = 0 ∧ x.2.1 = 0) ∨ (x.1 = 1 ∧ (x.2.1 = 0 ∨ x.2.1 = 1)) ∨ x.1 = 2 ∨ x.1 = 3 ∨ x.1 = 4
theorem wf_err : WfV xErr := Or.inl rfl
theorem wf_no : WfV xNo := Or.inr (Or.inl ⟨rfl, rfl⟩)
theorem wf_T {z : Int64} (h : z = 0 ∨ z = 1) : WfV (xT z) := Or.inr (Or.inr (Or.inl ⟨rfl, h⟩))
theorem wf_I (x : Int32) : WfV (xI x) := Or.inr (Or.inr (Or.inr (Or.inl rfl)))
theorem wf_J (x : Int64) : WfV (xJ x) := Or.inr (Or.inr (Or.inr (Or.inr (Or.inl rfl))))
theorem wf_L (l : List Int32) : WfV (xL l) := Or.inr (Or.inr (Or.inr (Or.inr (Or.inr rfl))))
theorem ite_01 {p : Prop} [Decidable p] : (if p then (1 : Int64) else 0) = 0 ∨ (if p then (1 : Int64) else 0) = 1 := by
  by_cases h : p
  · rw [if_pos h]
    exact Or.inr rfl
  · rw [if_neg h]
    exact Or.inl rfl
def WfR : Option xV → Prop
  | none => True
  | some x => WfV x
theorem wf_leaf {ρ : xEnv} (hr : WfR ρ.r) (it : Option Int32) (o : Int32) (n : Int64) : WfV (xLeaf ρ it o n) := by
  unfold xLeaf
  repeat' split
  all_goals first
    | exact wf_I _
    | exact wf_J _
    | exact wf_T (Or.inr rfl)
    | exact wf_T (Or.inl rfl)
    | exact wf_no
    | exact wf_err
    | exact wf_L _
    | skip
  rename_i h
  rw [h] at hr
  exact hr
theorem rcB_01 (s : Nat) (n : Int64) : rcB s n = 0 ∨ rcB s n = 1 := by
  unfold rcB
  repeat' split
  all_goals first
    | exact Or.inl rfl
    | exact Or.inr rfl
theorem wf_one {s : Nat} {o : Int32} {x : xV} (h : WfV x) : WfV (xOne s o x) := by
  unfold xOne xRole xSize xNot xNeg
  repeat' split
  all_goals first
    | exact wf_T (rcB_01 _ _)
    | exact wf_err
    | exact wf_I _
    | exact wf_J _
    | exact wf_T (Or.inl rfl)
    | exact wf_T (Or.inr rfl)
    | exact h
theorem xSame_01 (x y : xV) : xSame x y = 0 ∨ xSame x y = 1 := by
  unfold xSame
  repeat' split
  all_goals first
    | exact Or.inl rfl
    | exact Or.inr rfl
theorem wf_two {o : Int32} {x y : xV} : WfV (xTwo o x y) := by
  unfold xTwo xItem xNums
  repeat' split
  all_goals first
    | exact wf_I _
    | exact wf_err
    | exact wf_J _
    | exact wf_T (xSame_01 _ _)
    | exact wf_T (Or.inl rfl)
    | exact wf_T (Or.inr rfl)
    | exact wf_T ((xSame_01 x y).elim (fun z => Or.inr (by rw [z]; rfl)) (fun z => Or.inl (by rw [z]; rfl)))
theorem wf_find (v : Int32 → xV) : ∀ l, WfV (xFind v l)
  | [] => wf_no
  | k :: r => by
    unfold xFind
    repeat' split
    · exact wf_I _
    · exact wf_find v r
    · exact wf_err
theorem wf_B {E : xRow} {ρ : xEnv} {V : Nat → Option Int32 → xV} (hr : WfR ρ.r) (hV : ∀ q j, WfV (V q j)) (p : Nat) (it : Option Int32) : WfV (evB E ρ V p it) := by
  unfold evB
  split
  · exact wf_leaf hr _ _ _
  split
  · unfold xLogic
    repeat' split
    all_goals first
      | exact hV _ _
      | exact wf_err
  split
  · split
    all_goals exact hV _ _
  split
  · unfold xSearch
    split
    · split
      · split
        · exact wf_err
        · exact wf_L _
      · exact wf_find _ _
    · exact wf_err
  split
  · unfold xChoice
    repeat' split
    all_goals first
      | exact hV _ _
      | exact wf_err
  split
  · exact wf_err
  split
  · exact wf_one (hV _ _)
  split
  · exact wf_err
  · exact wf_two
theorem wf_ev {E : xRow} {ρ : xEnv} (hr : WfR ρ.r) : ∀ n p it, WfV (ev E ρ n p it)
  | 0, _, _ => wf_err
  | n + 1, p, it => by
    show WfV (evB E ρ (fun q j => if q < p then ev E ρ n q j else xErr) p it)
    apply wf_B hr
    intro q j
    show WfV (if q < p then ev E ρ n q j else xErr)
    split
    · exact wf_ev hr n q j
    · exact wf_err
theorem wf_evv {E : xRow} {ρ : xEnv} (hr : WfR ρ.r) (p : Nat) (it : Option Int32) : WfV (evv E ρ p it) := wf_ev hr _ _ _
