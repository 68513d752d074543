/-! Reading: a part more, without the cells. -/
theorem nds_up {E : xRow} {c : Nat → Int32} {ar : Nat → Int64} {lo be en : Nat → Nat} {sz m : Nat} (hN : Nds E c ar lo be en sz) (hm : ∀ p, p < sz → en p < m) (k : Int32) (v : Int64) : Nds E (fup c m k) (fup ar m v) lo be en sz := fun p hp => by
  refine ⟨(hN p hp).1, Node.cg (fun q hq => (hN q (by omega)).1) (fun q hq => be_en hN q (by omega)) rfl rfl rfl rfl (fun _ => rfl) (fun q hq => ⟨rfl, rfl, rfl⟩) (fun j h1 h2 => ?_) (hN p hp).2⟩
  have := hm p hp
  exact ⟨fup_n (by omega), fun _ => fup_n (by omega)⟩
theorem leaf_ab {E : xRow} {c : Nat → Int32} {ar : Nat → Int64} {lo be en : Nat → Nat} {sz m : Nat} {B : List (Nat × Nat)} {O : List Nat} (hN : Nds E c ar lo be en sz) (hW : Wst c lo be en B O sz m) {j : Nat} (h2 : 2 ≤ j) (h12 : j ≤ 12) {v : Int64} (hv : nI j = 2 → v = v.toInt32.toInt64) : Nds (upE E sz (nI j) (-1) (-1) (-1) v) (fup c m (nI (j - 1))) (fup ar m v) (fup lo sz sz) (fup be sz m) (fup en sz m) (sz + 1) ∧ Top (fup c m (nI (j - 1))) (fup lo sz sz) (fup be sz m) (fup en sz m) B (sz :: O) (sz + 1) (m + 1) := by
  refine ⟨nds_app hN (hW.lt hN (Nat.le_refl _)).2 (Nat.le_refl _) ?_, top_app hN (Nat.le_refl _) (Nat.le_refl _) hW _⟩
  have e : (upE E sz (nI j) (-1) (-1) (-1) v).1 sz = nI j := fup_s _ _ _
  refine Or.inl ⟨by rw [e]; exact nI_le (a := 2) h2 (by omega), by rw [e]; exact nI_le (b := 12) h12 (by decide), fup_s _ _ _, by rw [fup_s, fup_s], ?_, fun _ => ?_, fun z => ?_⟩
  · rw [fup_s, fup_s, e]
    obtain ⟨i, rfl⟩ : ∃ i, j = i + 1 := ⟨j - 1, by omega⟩
    rw [nI_m1, Nat.add_sub_cancel]
  · rw [fup_s, fup_s]
    exact (fup_s _ _ _).symm
  · rw [e] at z
    rw [show (upE E sz (nI j) (-1) (-1) (-1) v).2.2.2.2 sz = v from fup_s _ _ _]
    exact hv z
def pair1 (s k : Nat) : Prop := (s = 13 ∧ k = 12) ∨ (s = 14 ∧ k = 13) ∨ (s = 43 ∧ k = 14) ∨ (s = 41 ∧ k = 20) ∨ (s = 34 ∧ k = 21)
theorem one_ab {E : xRow} {c : Nat → Int32} {ar : Nat → Int64} {lo be en : Nat → Nat} {sz m : Nat} {B : List (Nat × Nat)} {o : Nat} {O : List Nat} {P m0 : Nat} (hN : Nds E c ar lo be en sz) (tm : ∀ p, p < sz → en p < m) (h2 : Wst c lo be en B O P m0) (h3 : lo o = P) (h4 : be o = m0) (h5 : sz = o + 1) (h6 : m = en o + 1) {s k : Nat} (hk : pair1 s k) : Nds (upE E sz (nI s) (nI o) (-1) (-1) 0) (fup c m (nI k)) (fup ar m 0) (fup lo sz P) (fup be sz m0) (fup en sz m) (sz + 1) ∧ Top (fup c m (nI k)) (fup lo sz P) (fup be sz m0) (fup en sz m) B (sz :: O) (sz + 1) (m + 1) := by
  have lo1 := (hN o (by omega)).1
  have bo := be_en hN o (by omega)
  have no : o ≠ sz := by omega
  refine ⟨nds_app hN tm (by omega) ?_, top_app hN (by omega) (by omega) h2 _⟩
  refine Or.inr (Or.inl ⟨o, h5, fup_s _ _ _, ?_, ?_, ?_, ?_⟩)
  · rw [fup_s, fup_n no]; exact h3.symm
  · rw [fup_s, fup_n no]; exact h4.symm
  · rw [fup_s, fup_n no]; exact h6
  · rw [fup_s, fup_s, show (upE E sz (nI s) (nI o) (-1) (-1) 0).1 sz = nI s from fup_s _ _ _]
    rcases hk with ⟨z, y⟩ | ⟨z, y⟩ | ⟨z, y⟩ | ⟨z, y⟩ | ⟨z, y⟩ <;> subst z <;> subst y
    · exact Or.inl ⟨rfl, rfl⟩
    · exact Or.inr (Or.inl ⟨rfl, rfl⟩)
    · exact Or.inr (Or.inr (Or.inl ⟨rfl, rfl⟩))
    · exact Or.inr (Or.inr (Or.inr (Or.inl ⟨rfl, rfl⟩)))
    · exact Or.inr (Or.inr (Or.inr (Or.inr ⟨rfl, rfl⟩)))
theorem index_ab {E : xRow} {c : Nat → Int32} {ar : Nat → Int64} {lo be en : Nat → Nat} {sz m : Nat} {B : List (Nat × Nat)} {o f : Nat} {O : List Nat} {P m0 P' m' : Nat} (hN : Nds E c ar lo be en sz) (tm : ∀ p, p < sz → en p < m) (a3 : Wst c lo be en B O P' m') (a4 : lo f = P') (a5 : be f = m') (a6 : P = f + 1) (a7 : m0 = en f + 1) (h3 : lo o = P) (h4 : be o = m0) (h5 : sz = o + 1) (h6 : m = en o + 1) : Nds (upE E sz (nI 17) (nI f) (nI o) (-1) 0) (fup c m (nI 15)) (fup ar m 0) (fup lo sz P') (fup be sz m') (fup en sz m) (sz + 1) ∧ Top (fup c m (nI 15)) (fup lo sz P') (fup be sz m') (fup en sz m) B (sz :: O) (sz + 1) (m + 1) := by
  have lo1 := (hN o (by omega)).1
  have bo := be_en hN o (by omega)
  have no : o ≠ sz := by omega
  have lf := (hN f (by omega)).1
  have bf := be_en hN f (by omega)
  have nf : f ≠ sz := by omega
  refine ⟨nds_app hN tm (by omega) ?_, top_app hN (by omega) (by omega) a3 _⟩
  refine Or.inr (Or.inr (Or.inl ⟨f, o, h5, ?_, fup_s _ _ _, fup_s _ _ _, ?_, ?_, ?_, ?_, ?_⟩))
  · rw [fup_n no]; omega
  · rw [fup_s, fup_n nf]; exact a4.symm
  · rw [fup_s, fup_n nf]; exact a5.symm
  · rw [fup_n no, fup_n nf]; omega
  · rw [fup_s, fup_n no]; exact h6
  · rw [fup_s, fup_s]
    exact Or.inr (Or.inl ⟨fup_s _ _ _, rfl⟩)
theorem search_ab {E : xRow} {c : Nat → Int32} {ar : Nat → Int64} {lo be en : Nat → Nat} {sz m : Nat} {B : List (Nat × Nat)} {o f : Nat} {O : List Nat} {P m0 P' m' s : Nat} (hN : Nds E c ar lo be en sz) (tm : ∀ p, p < sz → en p < m) (hs : schS s) (a3 : Wst c lo be en B O P' m') (a4 : lo f = P') (a5 : be f = m') (a6 : P = f + 1) (a7 : m0 = en f + 2) (a8 : c (en f + 1) = nI (s - 22)) (h3 : lo o = P) (h4 : be o = m0) (h5 : sz = o + 1) (h6 : m = en o + 1) : Nds (upE E sz (nI s) (nI f) (nI o) (-1) 0) (fup c m (nI 19)) (fup (fup ar (en f + 1) (lN m)) m (lN (en f + 1))) (fup lo sz P') (fup be sz m') (fup en sz m) (sz + 1) ∧ Top (fup c m (nI 19)) (fup lo sz P') (fup be sz m') (fup en sz m) B (sz :: O) (sz + 1) (m + 1) := by
  have lo1 := (hN o (by omega)).1
  have bo := be_en hN o (by omega)
  have no : o ≠ sz := by omega
  have lf := (hN f (by omega)).1
  have bf := be_en hN f (by omega)
  have nf : f ≠ sz := by omega
  have hb : ∀ p, p < sz → en p < en f + 1 ∨ en f + 1 < be p := fun p hp => by
    by_cases z : lo o ≤ p
    · have := sub_rng hN o (by omega) p z (by omega)
      omega
    · by_cases y : lo f ≤ p
      · have := sub_rng hN f (by omega) p y (by omega)
        omega
      · have := (a3.lt hN (by omega)).2 p (by omega)
        omega
  have hN1 : Nds E c (fup ar (en f + 1) (lN m)) lo be en sz := fun p hp => by
    refine ⟨(hN p hp).1, Node.cg (fun q hq => (hN q (by omega)).1) (fun q hq => be_en hN q (by omega)) rfl rfl rfl rfl (fun _ => rfl) (fun q hq => ⟨rfl, rfl, rfl⟩) (fun k h1 h2 => ⟨rfl, fun _ => fup_n ?_⟩) (hN p hp).2⟩
    have := hb p hp
    omega
  refine ⟨nds_app hN1 tm (by omega) ?_, top_app hN (by omega) (by omega) a3 _⟩
  unfold schS at hs
  refine Or.inr (Or.inr (Or.inr (Or.inl ⟨f, o, h5, ?_, fup_s _ _ _, fup_s _ _ _, ?_, ?_, ?_, ?_, ?_, ?_, ?_, ?_, ?_, ?_⟩)))
  · rw [fup_n no]; omega
  · rw [fup_s, fup_n nf]; exact a4.symm
  · rw [fup_s, fup_n nf]; exact a5.symm
  · rw [fup_n no, fup_n nf]; omega
  · rw [fup_s, fup_n no]; exact h6
  · rw [show (upE E sz (nI s) (nI f) (nI o) (-1) 0).1 sz = nI s from fup_s _ _ _]
    exact nI_le (a := 38) hs.1 (by omega)
  · rw [show (upE E sz (nI s) (nI f) (nI o) (-1) 0).1 sz = nI s from fup_s _ _ _]
    exact nI_le (b := 40) hs.2 (by decide)
  · rw [fup_n nf, fup_n (by omega), a8, show (upE E sz (nI s) (nI f) (nI o) (-1) 0).1 sz = nI s from fup_s _ _ _]
    show _ = nI s - nI 22
    rw [nI_sub (by omega)]
  · rw [fup_n nf, fup_s, fup_n (by omega), fup_s]
  · rw [fup_s, fup_s]; rfl
  · rw [fup_s, fup_s, fup_n nf]
/-- an operator behind a complete operand -/
theorem push_ab {c : Nat → Int32} {lo be en : Nat → Nat} {B : List (Nat × Nat)} {O : List Nat} {sz m : Nat} (h : Top c lo be en B O sz m) {s : Nat} (hs : binS s) : Wst c lo be en ((s, m) :: B) O sz m := by
  obtain ⟨o, O', P, m0, h1, h2, h3, h4, h5, h6⟩ := h
  exact ⟨rfl, Or.inr (Or.inl ⟨hs, o, O', P, m0, h1, h2, h3, h4, h5, h6⟩)⟩
theorem pushS_ab {E : xRow} {c : Nat → Int32} {ar : Nat → Int64} {lo be en : Nat → Nat} {B : List (Nat × Nat)} {O : List Nat} {sz m : Nat} (hN : Nds E c ar lo be en sz) (h : Top c lo be en B O sz m) {s : Nat} (hs : schS s) : Wst (fup c m (nI (s - 22))) lo be en ((s, m + 1) :: B) O sz (m + 1) := by
  obtain ⟨o, O', P, m0, h1, h2, h3, h4, h5, h6⟩ := h
  have lo1 := (hN o (by omega)).1
  have bo := be_en hN o (by omega)
  refine ⟨rfl, Or.inr (Or.inr (Or.inl ⟨hs, o, O', P, m0, h1, h2.cg (fun q hq => ⟨(hN q (by omega)).1, be_en hN q (by omega)⟩) (fun q hq => ⟨rfl, rfl, rfl⟩) (fun k hk => fup_n (by omega)), h3, h4, h5, by omega, ?_⟩))⟩
  rw [← h6]
  exact fup_s _ _ _
theorem colon_ab {c : Nat → Int32} {lo be en : Nat → Nat} {b : Nat} {B : List (Nat × Nat)} {O : List Nat} {sz m : Nat} (h : Top c lo be en ((20, b) :: B) O sz m) : Wst c lo be en ((42, m) :: B) O sz m := by
  obtain ⟨o, O', P, m0, h1, h2, h3, h4, h5, h6⟩ := h
  rcases h2.2 with ⟨a1, a2⟩ | ⟨a1, f, O2, P', m', a2, a3, a4, a5, a6, a7⟩ | ⟨a1, a2⟩ | ⟨a1, a2⟩
  · unfold preS at a1
    omega
  · exact ⟨rfl, Or.inr (Or.inr (Or.inr ⟨rfl, o, f, O2, P', m', by rw [h1, a2], a3, a4, a5, by omega, by omega, h5, h6⟩))⟩
  · unfold schS at a1
    omega
  · omega
theorem pre_ab {c : Nat → Int32} {lo be en : Nat → Nat} {s b : Nat} {B : List (Nat × Nat)} {O : List Nat} {P m : Nat} (h : Wst c lo be en ((s, b) :: B) O P m) (hs : preS s) : Wst c lo be en B O P m := by
  rcases h.2 with ⟨a1, a2⟩ | ⟨a1, a2⟩ | ⟨a1, a2⟩ | ⟨a1, a2⟩
  · exact a2
  · unfold preS at hs
    unfold binS at a1
    omega
  · unfold preS at hs
    unfold schS at a1
    omega
  · unfold preS at hs
    omega
theorem topre_ab {c : Nat → Int32} {lo be en : Nat → Nat} {s b : Nat} {B : List (Nat × Nat)} {O : List Nat} {sz m : Nat} (h : Top c lo be en ((s, b) :: B) O sz m) (hs : preS s) : Top c lo be en B O sz m := by
  obtain ⟨o, O', P, m0, h1, h2, h3, h4, h5, h6⟩ := h
  exact ⟨o, O', P, m0, h1, pre_ab h2 hs, h3, h4, h5, h6⟩
theorem MR.arg {M : ax_M} {B : List (Nat × Nat)} {c : Nat → Int32} {ar : Nat → Int64} {m pc : Nat} {w ws k : Int32} {x v : Int64} (h : MR M B (fup c m k) (fup ar m x) (m + 1) w ws pc) (hx : rel k → x = v) : MR M B (fup c m k) (fup ar m v) (m + 1) w ws pc := by
  obtain ⟨h1, h2, h3, h4, h5, h6⟩ := h
  refine ⟨h1, h2, h3, fun q hq => ⟨(h4 q hq).1, fun y => ?_⟩, h5, h6⟩
  by_cases z : q = m
  · subst z
    have r := (h4 q hq).2 y
    rw [fup_s] at r y ⊢
    rw [r, hx y]
  · have r := (h4 q hq).2 y
    rw [fup_n z] at r ⊢
    exact r
