/-! The reference works a part out: from its first place to behind its last. -/
theorem p7_pos (a : Nat) (h : 1 ≤ a) : 7 ≤ 7 ^ a := by
  obtain ⟨b, rfl⟩ : ∃ b, a = b + 1 := ⟨a - 1, by omega⟩
  rw [Nat.pow_succ]
  have := Nat.pow_pos (n := b) (show 0 < 7 by decide)
  omega
theorem p7_1 (a : Nat) : 7 ^ a + 1 ≤ 7 ^ (a + 1) := by
  rw [Nat.pow_succ]
  have := Nat.pow_pos (n := a) (show 0 < 7 by decide)
  omega
theorem p7_2 {a b : Nat} (ha : 1 ≤ a) (hb : 1 ≤ b) : 7 ^ a + 1 + 5 * (7 ^ b + 1) ≤ 7 ^ (a + b + 1) := by
  rw [Nat.pow_succ, Nat.pow_add]
  have h1 := p7_pos a ha
  have h2 := p7_pos b hb
  have h3 : 7 ^ a * 7 ≤ 7 ^ a * 7 ^ b := Nat.mul_le_mul_left _ h2
  have h4 : 7 * 7 ^ b ≤ 7 ^ a * 7 ^ b := Nat.mul_le_mul_right _ h1
  omega
theorem p7_3 {a b c : Nat} (ha : 1 ≤ a) (hb : 1 ≤ b) (hc : 1 ≤ c) : 7 ^ a + 7 ^ b + 7 ^ c + 1 ≤ 7 ^ (a + b + c + 1) := by
  have h1 := p7_2 ha hb
  have h2 := p7_2 (show 1 ≤ a + b + 1 by omega) hc
  have h3 : 7 ^ (a + b + 1) + 7 ^ c + 1 ≤ 7 ^ (a + b + c + 1) := by
    rw [Nat.pow_succ, Nat.pow_succ, Nat.pow_add 7 (a + b) c]
    have k1 := p7_pos (a + b) (by omega)
    have k2 := p7_pos c hc
    have k3 : 7 ^ (a + b) * 7 ≤ 7 ^ (a + b) * 7 ^ c := Nat.mul_le_mul_left _ k2
    have k4 : 7 * 7 ^ c ≤ 7 ^ (a + b) * 7 ^ c := Nat.mul_le_mul_right _ k1
    omega
  omega
theorem be_en {E : xRow} {c : Nat → Int32} {ar : Nat → Int64} {lo be en : Nat → Nat} {n : Nat} (hN : ∀ p, p < n → lo p ≤ p ∧ Node E c ar lo be en p) : ∀ p, p < n → be p ≤ en p := by
  intro p
  induction p using Nat.strongRecOn with
  | _ p ih =>
    intro hp
    rcases (hN p hp).2 with ⟨_, _, _, a, _⟩ | ⟨q, a1, _, _, a2, a3, _⟩ | ⟨f, q, a1, a2, _, _, _, a3, a4, a5, _⟩ | ⟨f, q, a1, a2, _, _, _, a3, a4, a5, _⟩ | ⟨f, r, q, a1, a2, a3, _, _, _, _, a4, a5, a6, a7, _⟩
    · omega
    · have := ih q (by omega) (by omega); omega
    · have := ih q (by omega) (by omega)
      have lq := (hN q (by omega)).1
      have := ih f (by omega) (by omega)
      omega
    · have := ih q (by omega) (by omega)
      have lq := (hN q (by omega)).1
      have := ih f (by omega) (by omega)
      omega
    · have := ih q (by omega) (by omega)
      have lq := (hN q (by omega)).1
      have lr := (hN r (by omega)).1
      have := ih f (by omega) (by omega)
      have := ih r (by omega) (by omega)
      omega
theorem xLeaf_n {ρ : xEnv} {it : Option Int32} {o : Int32} {n k : Int64} (h : o ≤ 3 → n = k) : xLeaf ρ it o n = xLeaf ρ it o k := by
  by_cases q : o ≤ 3
  · rw [h q]
  · unfold xLeaf
    have n2 : ¬ o = 2 := fun z => q (by rw [z]; decide)
    have n3 : ¬ o = 3 := fun z => q (by rw [z]; decide)
    rw [if_neg n2, if_neg n3, if_neg n2, if_neg n3]
