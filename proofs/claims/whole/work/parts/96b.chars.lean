/-! Reading: characters and words. -/
def TxC (M : ax_M) (tx : Nat → Int32) (n : Nat) : Prop := gI M 3 1 = nI n ∧ ∀ k, k < n → gI M 4 k = tx k
def TxM (M : ax_M) (tx : Nat → Int32) (n : Nat) : Prop := gI M 184 1 = nI n ∧ ∀ k, k < n → gI M 185 k = tx k
def txa (tx : Nat → Int32) (n p : Nat) : Int32 := if p < n then tx p else 0
abbrev isD (c : Int32) : Prop := ¬ c < 48 ∧ ¬ 57 < c
abbrev isS (c : Int32) : Prop := ¬ c < 97 ∧ ¬ 122 < c
def X3 (c k : Nat) : Prop := c = 3 ∧ k ≠ 1
def X5 (c k : Nat) : Prop := c = 184 ∧ (k = 5 ∨ k = 6)
theorem TxC.kp {M M' : ax_M} {tx : Nat → Int32} {n : Nat} (h : TxC M tx n) (hE : EqK X3 M M') : TxC M' tx n := ⟨(hE 3 1 (by unfold X3; omega)).1.trans h.1, fun k hk => (hE 4 k (by unfold X3; omega)).1.trans (h.2 k hk)⟩
theorem TxM.kp {M M' : ax_M} {tx : Nat → Int32} {n : Nat} (h : TxM M tx n) (hE : EqK X5 M M') : TxM M' tx n := ⟨(hE 184 1 (by unfold X5; omega)).1.trans h.1, fun k hk => (hE 185 k (by unfold X5; omega)).1.trans (h.2 k hk)⟩
theorem m_at {M : ax_M} {tx : Nat → Int32} {n p : Nat} (h : TxM M tx n) (hn : n ≤ 48) (hp : p < 100) : f_Mod_at (nI p) M = some (txa tx n p, M) := by
  unfold f_Mod_at txa
  rw [h.1]
  by_cases q : p < n
  · rw [if_neg (nI_ge q (by omega)), if_pos q, gi_nI (by omega) (by decide), nI_clamp (by omega), h.2 p q]
  · rw [if_pos (nI_le (by omega) (by omega)), if_neg q]
theorem m_digit {M : ax_M} {tx : Nat → Int32} {n p : Nat} (h : TxM M tx n) (hn : n ≤ 48) (hp : p < 100) : f_Mod_digit (nI p) M = some (if isD (txa tx n p) then 1 else 0, M) := by
  unfold f_Mod_digit
  rw [m_at h hn hp, bnd_eq]
  by_cases q : txa tx n p < 48
  · rw [if_pos q, if_neg (fun z => z.1 q)]
  · rw [if_neg q, m_at h hn hp, bnd_eq]
    by_cases q2 : 57 < txa tx n p
    · rw [if_pos q2, if_neg (fun z => z.2 q2)]
    · rw [if_neg q2, if_pos ⟨q, q2⟩]
theorem m_small {M : ax_M} {tx : Nat → Int32} {n p : Nat} (h : TxM M tx n) (hn : n ≤ 48) (hp : p < 100) : f_Mod_small (nI p) M = some (if isS (txa tx n p) then 1 else 0, M) := by
  unfold f_Mod_small
  rw [m_at h hn hp, bnd_eq]
  by_cases q : txa tx n p < 97
  · rw [if_pos q, if_neg (fun z => z.1 q)]
  · rw [if_neg q, m_at h hn hp, bnd_eq]
    by_cases q2 : 122 < txa tx n p
    · rw [if_pos q2, if_neg (fun z => z.2 q2)]
    · rw [if_neg q2, if_pos ⟨q, q2⟩]
theorem c_digit (c : Int32) (M : ax_M) : f_Text_isDigit c M = some (if isD c then 1 else 0, M) := by
  unfold f_Text_isDigit
  by_cases q : c < 48
  · rw [if_pos q, if_neg (fun z => z.1 q)]
  · rw [if_neg q]
    by_cases q2 : 57 < c
    · rw [if_pos q2, if_neg (fun z => z.2 q2)]
    · rw [if_neg q2, if_pos ⟨q, q2⟩]
theorem c_small (c : Int32) (M : ax_M) : f_Text_isSmallLetter c M = some (if isS c then 1 else 0, M) := by
  unfold f_Text_isSmallLetter
  by_cases q : c < 97
  · rw [if_pos q, if_neg (fun z => z.1 q)]
  · rw [if_neg q]
    by_cases q2 : 122 < c
    · rw [if_pos q2, if_neg (fun z => z.2 q2)]
    · rw [if_neg q2, if_pos ⟨q, q2⟩]
theorem txa_in {tx : Nat → Int32} {n p : Nat} (h : p < n) : txa tx n p = tx p := if_pos h
theorem txa_out {tx : Nat → Int32} {n p : Nat} (h : n ≤ p) : txa tx n p = 0 := if_neg (by omega)
theorem run_ex (Q : Int32 → Prop) [DecidablePred Q] (tx : Nat → Int32) (n : Nat) : ∀ r p, n - p ≤ r → p ≤ n → ∃ q, p ≤ q ∧ q ≤ n ∧ (∀ j, p ≤ j → j < q → Q (tx j)) ∧ (q = n ∨ (q < n ∧ ¬ Q (tx q)))
  | 0, p, h, hp => ⟨p, Nat.le_refl _, hp, fun j h1 h2 => absurd h2 (by omega), Or.inl (by omega)⟩
  | r + 1, p, h, hp => by
    by_cases e : p = n
    · exact ⟨p, Nat.le_refl _, hp, fun j h1 h2 => absurd h2 (by omega), Or.inl e⟩
    · by_cases q : Q (tx p)
      · obtain ⟨k, h1, h2, h3, h4⟩ := run_ex Q tx n r (p + 1) (by omega) (by omega)
        refine ⟨k, by omega, h2, fun j j1 j2 => ?_, h4⟩
        by_cases z : j = p
        · rw [z]; exact q
        · exact h3 j (by omega) j2
      · exact ⟨p, Nat.le_refl _, hp, fun j h1 h2 => absurd h2 (by omega), Or.inr ⟨by omega, q⟩⟩
/-! words: letters 1 .. 26, the last first -/
def WLr (tx : Nat → Int32) (p0 : Nat) : List Nat → Prop
  | [] => True
  | v :: r => tx (p0 + r.length) = nI (96 + v) ∧ 1 ≤ v ∧ v ≤ 26 ∧ WLr tx p0 r
def WLc (tx : Nat → Int32) (p0 : Nat) : List Nat → Prop
  | [] => True
  | v :: r => tx (p0 + r.length) = nI (96 + v) ∧ v ≤ 26 ∧ WLc tx p0 r
def WN : List (List Nat) := [[1], [2], [5, 13], [20, 9], [20, 5, 18], [5, 21, 18, 20], [5, 19, 12, 1, 6], [12, 12, 21, 14], [20, 19, 9, 12], [5, 12, 15, 18], [5, 26, 9, 19]]
def er : List Nat → Nat
  | [] => 0
  | v :: r => er r * 32 + v
theorem WLr.eq {tx : Nat → Int32} {p0 : Nat} : ∀ {a b : List Nat}, WLr tx p0 a → WLc tx p0 b → a.length = b.length → a = b
  | [], [], _, _, _ => rfl
  | [], _ :: _, _, _, h => by cases h
  | _ :: _, [], _, _, h => by cases h
  | v :: r, w :: s, h1, h2, h => by
    rw [List.length_cons, List.length_cons] at h
    have hl : r.length = s.length := by omega
    have e1 := h1.1
    have e2 := h2.1
    rw [hl, e2] at e1
    have e3 := (nI_eq (by have := h2.2.1; omega) (by have := h1.2.2.1; omega)).mp e1
    rw [WLr.eq h1.2.2.2 h2.2.2 hl, show v = w by omega]
theorem WLr.c {tx : Nat → Int32} {p0 : Nat} : ∀ {a : List Nat}, WLr tx p0 a → WLc tx p0 a
  | [], _ => trivial
  | _ :: _, h => ⟨h.1, h.2.2.1, WLr.c h.2.2.2⟩
def okL : List Nat → Prop
  | [] => True
  | v :: r => 1 ≤ v ∧ v ≤ 26 ∧ okL r
theorem WLr.ok {tx : Nat → Int32} {p0 : Nat} : ∀ {a : List Nat}, WLr tx p0 a → okL a
  | [], _ => trivial
  | _ :: _, h => ⟨h.2.1, h.2.2.1, WLr.ok h.2.2.2⟩
theorem er_inj : ∀ {a b : List Nat}, okL a → okL b → er a = er b → a = b
  | [], [], _, _, _ => rfl
  | [], w :: s, _, h2, h => by
    have h : 0 = er s * 32 + w := h
    have := h2.1
    omega
  | v :: r, [], h1, _, h => by
    have h : er r * 32 + v = 0 := h
    have := h1.1
    omega
  | v :: r, w :: s, h1, h2, h => by
    have h : er r * 32 + v = er s * 32 + w := h
    have a1 := h1.2.1
    have a2 := h2.2.1
    have e : v = w := by omega
    rw [e, er_inj h1.2.2 h2.2.2 (by omega)]
theorem er_lt : ∀ {a : List Nat} (k : Nat), okL a → a.length ≤ k → er a < 32 ^ k
  | [], k, _, _ => Nat.pow_pos (by decide)
  | v :: r, 0, _, h => absurd h (by simp)
  | v :: r, k + 1, h1, h => by
    have := er_lt k h1.2.2 (by rw [List.length_cons] at h; omega)
    have a1 := h1.2.1
    show er r * 32 + v < 32 ^ k * 32
    omega
theorem WLc.ix {tx : Nat → Int32} {p0 : Nat} : ∀ {a : List Nat}, (∀ v, v ∈ a → v ≤ 26) → ((∀ q, q < a.length → tx (p0 + q) = nI (96 + a.getD (a.length - 1 - q) 0)) ↔ WLc tx p0 a)
  | [], _ => ⟨fun _ => trivial, fun _ q hq => absurd hq (by simp)⟩
  | v :: r, hv => by
    have ih := WLc.ix (tx := tx) (p0 := p0) (a := r) (fun w hw => hv w (List.mem_cons_of_mem _ hw))
    constructor
    · intro h
      refine ⟨?_, hv v (List.mem_cons_self ..), ih.mp (fun q hq => ?_)⟩
      · have := h r.length (by rw [List.length_cons]; omega)
        rw [List.length_cons, show r.length + 1 - 1 - r.length = 0 by omega] at this
        exact this
      · have := h q (by rw [List.length_cons]; omega)
        rw [List.length_cons, show r.length + 1 - 1 - q = (r.length - 1 - q) + 1 by omega] at this
        exact this
    · intro h q hq
      rw [List.length_cons] at hq ⊢
      by_cases e : q = r.length
      · rw [e, show r.length + 1 - 1 - r.length = 0 by omega]
        exact h.1
      · rw [show r.length + 1 - 1 - q = (r.length - 1 - q) + 1 by omega]
        exact ih.mpr h.2.2 q (by omega)
theorem wn_st : ∀ i, i < 11 → (WN.getD i []).length = STLEN.getD i 0 ∧ STLEN.getD i 0 ≤ 5 ∧ 0 < STLEN.getD i 0 ∧ (∀ v, v ∈ WN.getD i [] → v ≤ 26) ∧ ∀ q, q < STLEN.getD i 0 → (STBYT.getD i []).getD q 0 = nI (96 + (WN.getD i []).getD (STLEN.getD i 0 - 1 - q) 0) := by decide +kernel
theorem wn_ok : ∀ i, i < 11 → okL (WN.getD i []) := by
  intro i hi
  have : i = 0 ∨ i = 1 ∨ i = 2 ∨ i = 3 ∨ i = 4 ∨ i = 5 ∨ i = 6 ∨ i = 7 ∨ i = 8 ∨ i = 9 ∨ i = 10 := by omega
  rcases this with rfl | rfl | rfl | rfl | rfl | rfl | rfl | rfl | rfl | rfl | rfl
  all_goals
    show okL _
    simp only [WN, okL, List.getD_cons_zero, List.getD_cons_succ]
    decide
