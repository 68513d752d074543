/-! Reading: what has begun, what is complete; the row of parts against the code. -/
def fup {α : Type} (f : Nat → α) (k : Nat) (v : α) : Nat → α := fun j => if j = k then v else f j
theorem fup_s {α : Type} (f : Nat → α) (k : Nat) (v : α) : fup f k v k = v := if_pos rfl
theorem fup_n {α : Type} {f : Nat → α} {k j : Nat} {v : α} (h : j ≠ k) : fup f k v j = f j := if_neg h
def upE (E : xRow) (k : Nat) (s a b t : Int32) (n : Int64) : xRow := (fup E.1 k s, fup E.2.1 k a, fup E.2.2.1 k b, fup E.2.2.2.1 k t, fup E.2.2.2.2 k n)
/-- codes whose argument is looked at -/
def rel (x : Int32) : Prop := x = 1 ∨ x = 2 ∨ x = 16 ∨ x = 17 ∨ x = 18 ∨ x = 19
theorem Node.cg {E E' : xRow} {c c' : Nat → Int32} {ar ar' : Nat → Int64} {lo be en lo' be' en' : Nat → Nat} {p : Nat} (hlo : ∀ q, q ≤ p → lo q ≤ q) (hb : ∀ q, q ≤ p → be q ≤ en q) (h1 : E'.1 p = E.1 p) (h2 : E'.2.1 p = E.2.1 p) (h3 : E'.2.2.1 p = E.2.2.1 p) (h4 : E'.2.2.2.1 p = E.2.2.2.1 p) (h5 : E.1 p ≤ 3 → E'.2.2.2.2 p = E.2.2.2.2 p) (hl : ∀ q, q ≤ p → lo' q = lo q ∧ be' q = be q ∧ en' q = en q) (hc : ∀ k, be p ≤ k → k ≤ en p → c' k = c k ∧ (rel (c k) → ar' k = ar k)) (h : Node E c ar lo be en p) : Node E' c' ar' lo' be' en' p := by
  have lp := (hl p (Nat.le_refl _)).1
  have bp := (hl p (Nat.le_refl _)).2.1
  have ep := (hl p (Nat.le_refl _)).2.2
  have bb := hb p (Nat.le_refl _)
  have cp := (hc (en p) bb (Nat.le_refl _)).1
  have ap := (hc (en p) bb (Nat.le_refl _)).2
  rcases h with ⟨a1, a2, a3, a4, a5, a6, a7⟩ | ⟨q, a1, a2, a3, a4, a5, a6⟩ | ⟨f, q, a1, a2, a3, a4, a5, a6, a7, a8, a9⟩ | ⟨f, q, a1, a2, a3, a4, a5, a6, a7, a8, a9, a10, a11, a12, a13, a14⟩ | ⟨f, r, q, a1, a2, a3, a4, a5, a6, a7, a8, a9, a10, a11, a12, a13⟩
  · refine Or.inl ⟨by rw [h1]; exact a1, by rw [h1]; exact a2, lp.trans a3, by rw [bp, ep]; exact a4, by rw [ep, cp, h1]; exact a5, fun z => ?_, fun z => ?_⟩
    · rw [h1] at z
      rw [ep, h5 z]
      rw [ap ?_]
      · exact a6 z
      · rw [a5]
        obtain ⟨j, hj, ej⟩ := nI_of2 (n := 3) (M := 3) (by decide) (fun y => absurd (Int32.lt_of_le_of_lt a1 y) (by decide)) z
        rw [ej] at a1 ⊢
        have j2 : 2 ≤ j := (nI_leI (a := 2) (b := j) (by decide) (by omega)).mp a1
        have : j = 2 ∨ j = 3 := by omega
        rcases this with rfl | rfl
        · exact Or.inl rfl
        · exact Or.inr (Or.inl rfl)
    · rw [h1] at z
      rw [h5 (by rw [z]; decide)]
      exact a7 z
  · have hq := hl q (by omega)
    refine Or.inr (Or.inl ⟨q, a1, h2.trans a2, by rw [lp, hq.1]; exact a3, by rw [bp, hq.2.1]; exact a4, by rw [ep, hq.2.2]; exact a5, ?_⟩)
    rw [h1, ep, cp]
    exact a6
  · have lq : q ≤ p := by omega
    have hq := hl q lq
    have hf := hl f (by have := hlo q lq; omega)
    refine Or.inr (Or.inr (Or.inl ⟨f, q, a1, by rw [hq.1]; exact a2, h2.trans a3, h3.trans a4, by rw [lp, hf.1]; exact a5, by rw [bp, hf.2.1]; exact a6, by rw [hq.2.1, hf.2.2]; exact a7, by rw [ep, hq.2.2]; exact a8, ?_⟩))
    rw [h1, ep, cp]
    exact a9
  · have lq : q ≤ p := by omega
    have hq := hl q lq
    have fq : f ≤ p := by have := hlo q lq; omega
    have hf := hl f fq
    have bq := hb q lq
    have bf := hb f fq
    have cm := hc (en f + 1) (by omega) (by omega)
    have r1 : rel (c (en f + 1)) := by
      rw [a11]
      obtain ⟨j, hj, ej⟩ := nI_of2 (n := 40) (M := 40) (by decide) (fun y => absurd (Int32.lt_of_le_of_lt a9 y) (by decide)) a10
      rw [ej] at a9 ⊢
      have j2 : 38 ≤ j := (nI_leI (a := 38) (b := j) (by decide) (by omega)).mp a9
      have : j = 38 ∨ j = 39 ∨ j = 40 := by omega
      rcases this with rfl | rfl | rfl
      · exact Or.inr (Or.inr (Or.inl rfl))
      · exact Or.inr (Or.inr (Or.inr (Or.inl rfl)))
      · exact Or.inr (Or.inr (Or.inr (Or.inr (Or.inl rfl))))
    refine Or.inr (Or.inr (Or.inr (Or.inl ⟨f, q, a1, by rw [hq.1]; exact a2, h2.trans a3, h3.trans a4, by rw [lp, hf.1]; exact a5, by rw [bp, hf.2.1]; exact a6, by rw [hq.2.1, hf.2.2]; exact a7, by rw [ep, hq.2.2]; exact a8, by rw [h1]; exact a9, by rw [h1]; exact a10, ?_, ?_, ?_, ?_⟩)))
    · rw [hf.2.2, cm.1, h1]
      exact a11
    · rw [hf.2.2, cm.2 r1, ep]
      exact a12
    · rw [ep, cp]
      exact a13
    · rw [ep, ap (by rw [a13]; exact Or.inr (Or.inr (Or.inr (Or.inr (Or.inr rfl))))), hf.2.2]
      exact a14
  · have lq : q ≤ p := by omega
    have hq := hl q lq
    have rq : r ≤ p := by have := hlo q lq; omega
    have hr := hl r rq
    have hf := hl f (by have := hlo r rq; omega)
    exact Or.inr (Or.inr (Or.inr (Or.inr ⟨f, r, q, a1, by rw [hq.1]; exact a2, by rw [hr.1]; exact a3, h2.trans a4, h3.trans a5, h4.trans a6, by rw [lp, hf.1]; exact a7, by rw [bp, hf.2.1]; exact a8, by rw [hr.2.1, hf.2.2]; exact a9, by rw [hq.2.1, hr.2.2]; exact a10, by rw [ep, hq.2.2]; exact a11, by rw [h1]; exact a12, by rw [ep, cp]; exact a13⟩)))
abbrev Nds (E : xRow) (c : Nat → Int32) (ar : Nat → Int64) (lo be en : Nat → Nat) (n : Nat) : Prop := ∀ p, p < n → lo p ≤ p ∧ Node E c ar lo be en p
/-- the parts under a part lie within it -/
theorem sub_rng {E : xRow} {c : Nat → Int32} {ar : Nat → Int64} {lo be en : Nat → Nat} {n : Nat} (hN : Nds E c ar lo be en n) : ∀ o, o < n → ∀ p, lo o ≤ p → p ≤ o → be o ≤ be p ∧ en p ≤ en o := by
  intro o
  induction o using Nat.strongRecOn with
  | _ o ih =>
    intro ho p h1 h2
    by_cases e : p = o
    · rw [e]
      exact ⟨Nat.le_refl _, Nat.le_refl _⟩
    rcases (hN o ho).2 with ⟨a1, a2, a3, a4, a5, a6, a7⟩ | ⟨q, a1, a2, a3, a4, a5, a6⟩ | ⟨f, q, a1, a2, a3, a4, a5, a6, a7, a8, a9⟩ | ⟨f, q, a1, a2, a3, a4, a5, a6, a7, a8, a9⟩ | ⟨f, r, q, a1, a2, a3, a4, a5, a6, a7, a8, a9, a10, a11, a12, a13⟩
    · omega
    · have := ih q (by omega) (by omega) p (by omega) (by omega)
      omega
    · have lq := (hN q (by omega)).1
      have bf := be_en hN f (by omega)
      have bq := be_en hN q (by omega)
      by_cases z : p ≤ f
      · have := ih f (by omega) (by omega) p (by omega) z
        omega
      · have := ih q (by omega) (by omega) p (by omega) (by omega)
        omega
    · have lq := (hN q (by omega)).1
      have bf := be_en hN f (by omega)
      have bq := be_en hN q (by omega)
      by_cases z : p ≤ f
      · have := ih f (by omega) (by omega) p (by omega) z
        omega
      · have := ih q (by omega) (by omega) p (by omega) (by omega)
        omega
    · have lq := (hN q (by omega)).1
      have lr := (hN r (by omega)).1
      have bf := be_en hN f (by omega)
      have br := be_en hN r (by omega)
      have bq := be_en hN q (by omega)
      by_cases z : p ≤ f
      · have := ih f (by omega) (by omega) p (by omega) z
        omega
      · by_cases y : p ≤ r
        · have := ih r (by omega) (by omega) p (by omega) y
          omega
        · have := ih q (by omega) (by omega) p (by omega) (by omega)
          omega
/-! what has begun: its sort and the number of codes at that time, the innermost first -/
def preS (s : Nat) : Prop := s = 15 ∨ s = 13 ∨ s = 41 ∨ s = 34
def binS (s : Nat) : Prop := (21 ≤ s ∧ s ≤ 33) ∨ s = 17 ∨ s = 37 ∨ s = 20
def schS (s : Nat) : Prop := 38 ≤ s ∧ s ≤ 40
def Wst (c : Nat → Int32) (lo be en : Nat → Nat) : List (Nat × Nat) → List Nat → Nat → Nat → Prop
  | [], O, P, m => O = [] ∧ P = 0 ∧ m = 0
  | (s, b) :: B, O, P, m => b = m ∧ ((preS s ∧ Wst c lo be en B O P m) ∨
      (binS s ∧ ∃ o O' P' m', O = o :: O' ∧ Wst c lo be en B O' P' m' ∧ lo o = P' ∧ be o = m' ∧ P = o + 1 ∧ m = en o + 1) ∨
      (schS s ∧ ∃ o O' P' m', O = o :: O' ∧ Wst c lo be en B O' P' m' ∧ lo o = P' ∧ be o = m' ∧ P = o + 1 ∧ m = en o + 2 ∧ c (en o + 1) = nI (s - 22)) ∨
      (s = 42 ∧ ∃ o2 o1 O' P' m', O = o2 :: o1 :: O' ∧ Wst c lo be en B O' P' m' ∧ lo o1 = P' ∧ be o1 = m' ∧ lo o2 = o1 + 1 ∧ be o2 = en o1 + 1 ∧ P = o2 + 1 ∧ m = en o2 + 1))
theorem Wst.cg {c c' : Nat → Int32} {lo be en lo' be' en' : Nat → Nat} : ∀ {B : List (Nat × Nat)} {O : List Nat} {P m : Nat}, (∀ q, q < P → lo q ≤ q ∧ be q ≤ en q) → (∀ q, q < P → lo' q = lo q ∧ be' q = be q ∧ en' q = en q) → (∀ k, k < m → c' k = c k) → Wst c lo be en B O P m → Wst c' lo' be' en' B O P m
  | [], _, _, _, _, _, _, h => h
  | (s, b) :: B, O, P, m, hb, hl, hc, h => by
    refine ⟨h.1, ?_⟩
    rcases h.2 with ⟨a1, a2⟩ | ⟨a1, o, O', P', m', a2, a3, a4, a5, a6, a7⟩ | ⟨a1, o, O', P', m', a2, a3, a4, a5, a6, a7, a8⟩ | ⟨a1, o2, o1, O', P', m', a2, a3, a4, a5, a6, a7, a8, a9⟩
    · exact Or.inl ⟨a1, a2.cg hb hl hc⟩
    · have ho := hl o (by omega)
      have bo := hb o (by omega)
      exact Or.inr (Or.inl ⟨a1, o, O', P', m', a2, a3.cg (fun q hq => hb q (by omega)) (fun q hq => hl q (by omega)) (fun k hk => hc k (by omega)), ho.1.trans a4, ho.2.1.trans a5, a6, by rw [ho.2.2]; exact a7⟩)
    · have ho := hl o (by omega)
      have bo := hb o (by omega)
      exact Or.inr (Or.inr (Or.inl ⟨a1, o, O', P', m', a2, a3.cg (fun q hq => hb q (by omega)) (fun q hq => hl q (by omega)) (fun k hk => hc k (by omega)), ho.1.trans a4, ho.2.1.trans a5, a6, by rw [ho.2.2]; exact a7, by rw [ho.2.2, hc _ (by omega)]; exact a8⟩))
    · have h2 := hl o2 (by omega)
      have b2 := hb o2 (by omega)
      have h1 := hl o1 (by omega)
      have b1 := hb o1 (by omega)
      exact Or.inr (Or.inr (Or.inr ⟨a1, o2, o1, O', P', m', a2, a3.cg (fun q hq => hb q (by omega)) (fun q hq => hl q (by omega)) (fun k hk => hc k (by omega)), h1.1.trans a4, h1.2.1.trans a5, h2.1.trans a6, by rw [h2.2.1, h1.2.2]; exact a7, a8, by rw [h2.2.2]; exact a9⟩))
/-- all parts below end before the place -/
theorem Wst.lt {E : xRow} {c : Nat → Int32} {ar : Nat → Int64} {lo be en : Nat → Nat} {n : Nat} (hN : Nds E c ar lo be en n) : ∀ {B : List (Nat × Nat)} {O : List Nat} {P m : Nat}, P ≤ n → Wst c lo be en B O P m → O.length ≤ P ∧ ∀ p, p < P → en p < m
  | [], _, _, _, _, h => ⟨by rw [h.1]; exact Nat.zero_le _, fun p hp => absurd hp (by have := h.2.1; omega)⟩
  | (s, b) :: B, O, P, m, hP, h => by
    rcases h.2 with ⟨a1, a2⟩ | ⟨a1, o, O', P', m', a2, a3, a4, a5, a6, a7⟩ | ⟨a1, o, O', P', m', a2, a3, a4, a5, a6, a7, a8⟩ | ⟨a1, o2, o1, O', P', m', a2, a3, a4, a5, a6, a7, a8, a9⟩
    · exact Wst.lt hN hP a2
    · have lo1 := (hN o (by omega)).1
      have bo := be_en hN o (by omega)
      obtain ⟨i1, i2⟩ := Wst.lt hN (by omega) a3
      refine ⟨by rw [a2, List.length_cons]; omega, fun p hp => ?_⟩
      by_cases z : lo o ≤ p
      · have := sub_rng hN o (by omega) p z (by omega)
        omega
      · have := i2 p (by omega)
        omega
    · have lo1 := (hN o (by omega)).1
      have bo := be_en hN o (by omega)
      obtain ⟨i1, i2⟩ := Wst.lt hN (by omega) a3
      refine ⟨by rw [a2, List.length_cons]; omega, fun p hp => ?_⟩
      by_cases z : lo o ≤ p
      · have := sub_rng hN o (by omega) p z (by omega)
        omega
      · have := i2 p (by omega)
        omega
    · have l2 := (hN o2 (by omega)).1
      have l1 := (hN o1 (by omega)).1
      have b2 := be_en hN o2 (by omega)
      have b1 := be_en hN o1 (by omega)
      obtain ⟨i1, i2⟩ := Wst.lt hN (by omega) a3
      refine ⟨by rw [a2, List.length_cons, List.length_cons]; omega, fun p hp => ?_⟩
      by_cases z : lo o2 ≤ p
      · have := sub_rng hN o2 (by omega) p z (by omega)
        omega
      · by_cases y : lo o1 ≤ p
        · have := sub_rng hN o1 (by omega) p y (by omega)
          omega
        · have := i2 p (by omega)
          omega
/-- a complete operand on top -/
def Top (c : Nat → Int32) (lo be en : Nat → Nat) (B : List (Nat × Nat)) (O : List Nat) (sz m : Nat) : Prop := ∃ o O' P m0, O = o :: O' ∧ Wst c lo be en B O' P m0 ∧ lo o = P ∧ be o = m0 ∧ sz = o + 1 ∧ m = en o + 1
theorem Top.lt {E : xRow} {c : Nat → Int32} {ar : Nat → Int64} {lo be en : Nat → Nat} {B : List (Nat × Nat)} {O : List Nat} {sz m : Nat} (hN : Nds E c ar lo be en sz) (h : Top c lo be en B O sz m) : O.length ≤ sz ∧ ∀ p, p < sz → en p < m := by
  obtain ⟨o, O', P, m0, h1, h2, h3, h4, h5, h6⟩ := h
  have lo1 := (hN o (by omega)).1
  have bo := be_en hN o (by omega)
  obtain ⟨i1, i2⟩ := h2.lt hN (by omega)
  refine ⟨by rw [h1, List.length_cons]; omega, fun p hp => ?_⟩
  by_cases z : lo o ≤ p
  · have := sub_rng hN o (by omega) p z (by omega)
    omega
  · have := i2 p (by omega)
    omega
/-- a part more -/
theorem nds_app {E : xRow} {c : Nat → Int32} {ar : Nat → Int64} {lo be en : Nat → Nat} {sz m : Nat} (hN : Nds E c ar lo be en sz) (hm : ∀ p, p < sz → en p < m) {s a b t : Int32} {v : Int64} {k : Int32} {av : Int64} {l d : Nat} (hl : l ≤ sz) (hn : Node (upE E sz s a b t v) (fup c m k) (fup ar m av) (fup lo sz l) (fup be sz d) (fup en sz m) sz) : Nds (upE E sz s a b t v) (fup c m k) (fup ar m av) (fup lo sz l) (fup be sz d) (fup en sz m) (sz + 1) := by
  intro p hp
  by_cases e : p = sz
  · rw [e]
    exact ⟨by rw [fup_s]; exact hl, hn⟩
  · have hp : p < sz := by omega
    have e1 : ∀ q, q ≤ p → fup lo sz l q = lo q ∧ fup be sz d q = be q ∧ fup en sz m q = en q := fun q hq => ⟨fup_n (by omega), fup_n (by omega), fup_n (by omega)⟩
    refine ⟨by rw [(e1 p (Nat.le_refl _)).1]; exact (hN p hp).1, Node.cg (fun q hq => (hN q (by omega)).1) (fun q hq => be_en hN q (by omega)) (fup_n e) (fup_n e) (fup_n e) (fup_n e) (fun _ => fup_n e) e1 (fun k h1 h2 => ?_) (hN p hp).2⟩
    have := hm p hp
    exact ⟨fup_n (by omega), fun _ => fup_n (by omega)⟩
theorem top_app {E : xRow} {c : Nat → Int32} {ar : Nat → Int64} {lo be en : Nat → Nat} {sz m : Nat} (hN : Nds E c ar lo be en sz) {B : List (Nat × Nat)} {O : List Nat} {P m0 : Nat} (hP : P ≤ sz) (h0 : m0 ≤ m) (hW : Wst c lo be en B O P m0) (k : Int32) : Top (fup c m k) (fup lo sz P) (fup be sz m0) (fup en sz m) B (sz :: O) (sz + 1) (m + 1) := by
  refine ⟨sz, O, P, m0, rfl, hW.cg (fun q hq => ⟨(hN q (by omega)).1, be_en hN q (by omega)⟩) (fun q hq => ⟨fup_n (by omega), fup_n (by omega), fup_n (by omega)⟩) (fun j hj => fup_n (by omega)), fup_s _ _ _, fup_s _ _ _, rfl, by rw [fup_s]⟩
