/-! A call, as a function of what the class holds. -/
abbrev xCnt : Type := Nat → Nat → Int32
abbrev xRes : Type := Int32 × xV × xCnt
def bump (f : xCnt) (m e : Nat) : xCnt := fun a b => if a = m ∧ b = e then f a b + 1 else f a b
def gpl (M : ax_M) (m : Nat) : Nat := if gI M (158 + m) 0 = 0 then 8 + m / 4 else m
def xTr (x : xV) : Int32 := if x.1 = 1 ∧ x.2.1 = 1 then 1 else 0
def xOp (M : ax_M) (p : Nat) (ρ : xEnv) : Int32 :=
  if gI M (158 + p) 0 = 4 then xTr (sl M (gI M (158 + p) 1).toNatClampNeg ρ none)
  else if gI M (158 + p) 0 = 3 then (if (nI ρ.s &&& gI M (158 + p) 1) = 0 then 0 else 1)
  else if gI M (158 + p) 0 = 2 then 0 else 1
def xWt (M : ax_M) (m p : Nat) : Int32 :=
  if gI M (158 + p) 0 = 2 ∨ gI M (158 + p) 0 = 3 ∨ gI M (158 + p) 0 = 4 ∨ ¬ gI M (142 + 2 * m) 0 = -1 ∨ ¬ gI M (142 + 2 * m) 1 = -1 ∨ ¬ gI M (142 + 2 * m) 2 = -1 then 1 else 0
def xSf (M : ax_M) (x : Int32) (ρ : xEnv) (l : List Int32) : Option (List Int32) := if x = -1 then some l else xSift (fun k => sl M x.toNatClampNeg ρ (some k)) l
def xIn (M : ax_M) (m : Nat) (u : Int32) (s : Nat) (a : Int32) (b : Int64) (l : List Int32) : Int32 × List Int32 :=
  if u = -1 ∧ xWt M m (gpl M m) = 1 then (3, l)
  else match xSf M (gI M (142 + 2 * m) 0) (u, s, a, b, l, none) l with
    | none => (2, l)
    | some r => (if xOp M (gpl M m) (u, s, a, b, r, none) = 0 then 2 else 0, r)
def xOut (M : ax_M) (m : Nat) (ρ : xEnv) (x : xV) : Int32 × xV :=
  if ¬ gI M (142 + 2 * m) 1 = -1 ∧ xTr (sl M (gI M (142 + 2 * m) 1).toNatClampNeg ρ none) = 0 then (4, x)
  else if gI M (142 + 2 * m) 2 = -1 then (0, x)
  else if x.1 = 0 then (0, x)
  else if x.1 = 4 then (match xSift (fun k => sl M (gI M (142 + 2 * m) 2).toNatClampNeg ρ (some k)) x.2.2 with | none => (4, x) | some q => (0, xL q))
  else (4, x)
abbrev xFn : Type := Nat → List Int32 → Int32 → Nat → xCnt → xRes
def lend (M : ax_M) (m : Nat) (u : Int32) (S : Nat) : Nat := if u = -1 then S else S ||| (gI M (142 + 2 * m) 5).toNatClampNeg
def xWork (M : ax_M) (a : Int32) (R : xFn) (m : Nat) (l : List Int32) (u : Int32) (S : Nat) (f : xCnt) : xRes :=
  if gI M (142 + 2 * m) 3 = 1 then (0, xI (a + gI M (142 + 2 * m) 4), f)
  else if gI M (142 + 2 * m) 3 = 2 then (0, xL (l.map (fun k => k + gI M (142 + 2 * m) 4)), f)
  else if gI M (142 + 2 * m) 3 = 3 then (1, xI (gI M (142 + 2 * m) 4), f)
  else if gI M (142 + 2 * m) 3 = 4 then (0, xL l, f)
  else if gI M (142 + 2 * m) 3 = 5 then R (gI M (142 + 2 * m) 4).toNatClampNeg l u (lend M m u S) f
  else if gI M (142 + 2 * m) 3 = 6 then R (gI M (142 + 2 * m) 4).toNatClampNeg l (-1) 0 f
  else (0, xNo, f)
def xFin (M : ax_M) (D : Nat → Nat) (a : Int32) (b : Int64) (m : Nat) (l : List Int32) (u : Int32) (S : Nat) (w : xRes) : xRes :=
  if w.1 = 0 then ((xOut M m (u, clO D 16 S, a, b, l, some w.2.1) w.2.1).1, (xOut M m (u, clO D 16 S, a, b, l, some w.2.1) w.2.1).2, bump w.2.2 m (xOut M m (u, clO D 16 S, a, b, l, some w.2.1) w.2.1).1.toNatClampNeg)
  else (w.1, w.2.1, bump w.2.2 m w.1.toNatClampNeg)
def xRunB (M : ax_M) (D : Nat → Nat) (a : Int32) (b : Int64) (R : xFn) : xFn := fun m l u S f =>
  if (xIn M m u (clO D 16 S) a b l).1 = 0 then xFin M D a b m (xIn M m u (clO D 16 S) a b l).2 u S (xWork M a R m (xIn M m u (clO D 16 S) a b l).2 u S (bump f m 5))
  else ((xIn M m u (clO D 16 S) a b l).1, xErr, bump f m (xIn M m u (clO D 16 S) a b l).1.toNatClampNeg)
def xDeep : xFn := fun _ _ _ _ f => (1, xI (-1), f)
def xRun (M : ax_M) (D : Nat → Nat) (a : Int32) (b : Int64) : Nat → xFn
  | 0 => xRunB M D a b xDeep
  | n + 1 => xRunB M D a b (xRun M D a b n)
/-! what it keeps to -/
def XW (x : xV) : Prop := x = xNo ∨ (∃ v, x = xI v) ∨ ∃ l, x = xL l ∧ l.length ≤ 5
def XR (r : xRes) : Prop := (r.1 = 0 ∧ XW r.2.1) ∨ (r.1 = 1 ∧ ∃ v, r.2.1 = xI v) ∨ r.1 = 2 ∨ r.1 = 3 ∨ r.1 = 4
theorem XW.wf {x : xV} (h : XW x) : WfV x := by
  rcases h with h | ⟨v, h⟩ | ⟨l, h, -⟩
  · rw [h]; exact wf_no
  · rw [h]; exact wf_I _
  · rw [h]; exact wf_L _
theorem sift_len (v : Int32 → xV) : ∀ (l r : List Int32), xSift v l = some r → r.length ≤ l.length
  | [], r, h => by
    cases h
    exact Nat.le_refl _
  | k :: t, r, h => by
    have e : xSift v (k :: t) = if (v k).1 = 1 then (match xSift v t with | none => none | some l => some (if (v k).2.1 = 1 then k :: l else l)) else none := rfl
    rw [e] at h
    by_cases q : (v k).1 = 1
    · rw [if_pos q] at h
      cases hs : xSift v t with
      | none => rw [hs] at h; cases h
      | some z =>
        have ih := sift_len v t z hs
        rw [hs] at h
        have h2 : (if (v k).2.1 = 1 then k :: z else z) = r := Option.some.inj h
        rw [List.length_cons]
        by_cases q2 : (v k).2.1 = 1
        · rw [if_pos q2] at h2
          rw [← h2, List.length_cons]
          omega
        · rw [if_neg q2] at h2
          rw [← h2]
          omega
    · rw [if_neg q] at h
      cases h
theorem xsf_len {M : ax_M} {x : Int32} {ρ : xEnv} {l r : List Int32} (h : xSf M x ρ l = some r) : r.length ≤ l.length := by
  unfold xSf at h
  by_cases q : x = -1
  · rw [if_pos q] at h
    cases h
    exact Nat.le_refl _
  · rw [if_neg q] at h
    exact sift_len _ _ _ h
theorem xin_ok {M : ax_M} {m : Nat} {u a : Int32} {s : Nat} {b : Int64} {l : List Int32} (h : l.length ≤ 5) : ((xIn M m u s a b l).1 = 0 ∨ (xIn M m u s a b l).1 = 2 ∨ (xIn M m u s a b l).1 = 3) ∧ (xIn M m u s a b l).2.length ≤ 5 := by
  unfold xIn
  split
  · exact ⟨Or.inr (Or.inr rfl), h⟩
  · split
    · exact ⟨Or.inr (Or.inl rfl), h⟩
    · rename_i r hr
      refine ⟨?_, Nat.le_trans (xsf_len hr) h⟩
      show (if _ = 0 then (2 : Int32) else 0) = 0 ∨ (if _ = 0 then (2 : Int32) else 0) = 2 ∨ _
      split
      · exact Or.inr (Or.inl rfl)
      · exact Or.inl rfl
theorem xout_ok {M : ax_M} {m : Nat} {ρ : xEnv} {x : xV} (h : XW x) : ((xOut M m ρ x).1 = 0 ∨ (xOut M m ρ x).1 = 4) ∧ XW (xOut M m ρ x).2 := by
  unfold xOut
  split
  · exact ⟨Or.inr rfl, h⟩
  · split
    · exact ⟨Or.inl rfl, h⟩
    · split
      · exact ⟨Or.inl rfl, h⟩
      · split
        · rename_i q4
          split
          · exact ⟨Or.inr rfl, h⟩
          · rename_i r hr
            refine ⟨Or.inl rfl, Or.inr (Or.inr ⟨r, rfl, ?_⟩)⟩
            have h2 := sift_len _ _ _ hr
            rcases h with h | ⟨v, h⟩ | ⟨l, h, h5⟩
            · rw [h] at q4
              exact absurd q4 (by decide)
            · rw [h] at q4
              exact absurd (show (2 : Int32) = 4 from q4) (by decide)
            · rw [h] at h2
              exact Nat.le_trans h2 h5
        · exact ⟨Or.inr rfl, h⟩
theorem XR.fin {M : ax_M} {D : Nat → Nat} {a : Int32} {b : Int64} {m : Nat} {l : List Int32} {u : Int32} {S : Nat} {w : xRes} (h : XR w) : XR (xFin M D a b m l u S w) := by
  unfold xFin
  by_cases q : w.1 = 0
  · rw [if_pos q]
    have hx : XW w.2.1 := by
      rcases h with h | h | h | h | h
      · exact h.2
      · rw [q] at h; exact absurd h.1 (by decide)
      · rw [q] at h; exact absurd h (by decide)
      · rw [q] at h; exact absurd h (by decide)
      · rw [q] at h; exact absurd h (by decide)
    obtain ⟨z1 | z1, z2⟩ := xout_ok (M := M) (m := m) (ρ := (u, clO D 16 S, a, b, l, some w.2.1)) hx
    · exact Or.inl ⟨z1, z2⟩
    · exact Or.inr (Or.inr (Or.inr (Or.inr z1)))
  · rw [if_neg q]
    rcases h with h | h | h | h | h
    · exact absurd h.1 q
    · exact Or.inr (Or.inl h)
    · exact Or.inr (Or.inr (Or.inl h))
    · exact Or.inr (Or.inr (Or.inr (Or.inl h)))
    · exact Or.inr (Or.inr (Or.inr (Or.inr h)))
def XF (R : xFn) : Prop := ∀ m l u S f, l.length ≤ 5 → XR (R m l u S f)
theorem xwork_ok {M : ax_M} {a : Int32} {R : xFn} (hR : XF R) {m : Nat} {l : List Int32} {u : Int32} {S : Nat} {f : xCnt} (hl : l.length ≤ 5) : XR (xWork M a R m l u S f) := by
  unfold xWork
  split
  · exact Or.inl ⟨rfl, Or.inr (Or.inl ⟨_, rfl⟩)⟩
  split
  · exact Or.inl ⟨rfl, Or.inr (Or.inr ⟨_, rfl, by rw [List.length_map]; exact hl⟩)⟩
  split
  · exact Or.inr (Or.inl ⟨rfl, _, rfl⟩)
  split
  · exact Or.inl ⟨rfl, Or.inr (Or.inr ⟨_, rfl, hl⟩)⟩
  split
  · exact hR _ _ _ _ _ hl
  split
  · exact hR _ _ _ _ _ hl
  · exact Or.inl ⟨rfl, Or.inl rfl⟩
theorem xrunB_ok {M : ax_M} {D : Nat → Nat} {a : Int32} {b : Int64} {R : xFn} (hR : XF R) : XF (xRunB M D a b R) := by
  intro m l u S f hl
  unfold xRunB
  obtain ⟨h1, h2⟩ := xin_ok (M := M) (m := m) (u := u) (s := clO D 16 S) (a := a) (b := b) hl
  by_cases q : (xIn M m u (clO D 16 S) a b l).1 = 0
  · rw [if_pos q]
    exact XR.fin (xwork_ok hR h2)
  · rw [if_neg q]
    rcases h1 with h1 | h1 | h1
    · exact absurd h1 q
    · exact Or.inr (Or.inr (Or.inl h1))
    · exact Or.inr (Or.inr (Or.inr (Or.inl h1)))
theorem xdeep_ok : XF xDeep := fun _ _ _ _ _ _ => Or.inr (Or.inl ⟨rfl, _, rfl⟩)
theorem xrun_ok {M : ax_M} {D : Nat → Nat} {a : Int32} {b : Int64} : ∀ n, XF (xRun M D a b n)
  | 0 => xrunB_ok xdeep_ok
  | n + 1 => xrunB_ok (xrun_ok n)
