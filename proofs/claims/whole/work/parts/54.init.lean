/-! The relation holds behind the constructors. Printed by mk54.py. -/
theorem il_64 : ∀ k, k < 16 → (64, k, (0 : Int32)) ∈ ILS ∧ (191, k, (0 : Int32)) ∈ ILS ∧ (65, k, nI (2 ^ k)) ∈ ILS := by decide +kernel
theorem il_g_0 : ∀ p, p < 10 → (158 + p, 0, (0 : Int32)) ∈ ILS := by decide +kernel
theorem il_g_1 : ∀ p, p < 10 → (158 + p, 1, (0 : Int32)) ∈ ILS := by decide +kernel
theorem il_g_2 : ∀ p, p < 10 → (193, p, (0 : Int32)) ∈ ILS := by decide +kernel
theorem il_g_3 : ∀ p, p < 10 → (194, p, (0 : Int32)) ∈ ILS := by decide +kernel
theorem il_g (p : Nat) (hp : p < 10) : (158 + p, 0, (0 : Int32)) ∈ ILS ∧ (158 + p, 1, (0 : Int32)) ∈ ILS ∧ (193, p, (0 : Int32)) ∈ ILS ∧ (194, p, (0 : Int32)) ∈ ILS := ⟨il_g_0 p hp, il_g_1 p hp, il_g_2 p hp, il_g_3 p hp⟩
theorem il_m_0 : ∀ m, m < 8 → (142 + 2 * m, 0, (-1 : Int32)) ∈ ILS := by decide +kernel
theorem il_m_1 : ∀ m, m < 8 → (142 + 2 * m, 1, (-1 : Int32)) ∈ ILS := by decide +kernel
theorem il_m_2 : ∀ m, m < 8 → (142 + 2 * m, 2, (-1 : Int32)) ∈ ILS := by decide +kernel
theorem il_m_3 : ∀ m, m < 8 → (142 + 2 * m, 3, (0 : Int32)) ∈ ILS := by decide +kernel
theorem il_m_4 : ∀ m, m < 8 → (142 + 2 * m, 4, (0 : Int32)) ∈ ILS := by decide +kernel
theorem il_m_5 : ∀ m, m < 8 → (142 + 2 * m, 5, (0 : Int32)) ∈ ILS := by decide +kernel
theorem il_m_6 : ∀ m, m < 8 → (195, m, (-1 : Int32)) ∈ ILS := by decide +kernel
theorem il_m_7 : ∀ m, m < 8 → (196, m, (-1 : Int32)) ∈ ILS := by decide +kernel
theorem il_m_8 : ∀ m, m < 8 → (197, m, (-1 : Int32)) ∈ ILS := by decide +kernel
theorem il_m_9 : ∀ m, m < 8 → (198, m, (0 : Int32)) ∈ ILS := by decide +kernel
theorem il_m_10 : ∀ m, m < 8 → (199, m, (0 : Int32)) ∈ ILS := by decide +kernel
theorem il_m_11 : ∀ m, m < 8 → (200, m, (0 : Int32)) ∈ ILS := by decide +kernel
theorem il_m (m : Nat) (hm : m < 8) : ((142 + 2 * m, 0, (-1 : Int32)) ∈ ILS ∧ (142 + 2 * m, 1, (-1 : Int32)) ∈ ILS ∧ (142 + 2 * m, 2, (-1 : Int32)) ∈ ILS ∧ (142 + 2 * m, 3, (0 : Int32)) ∈ ILS ∧ (142 + 2 * m, 4, (0 : Int32)) ∈ ILS ∧ (142 + 2 * m, 5, (0 : Int32)) ∈ ILS) ∧ ((195, m, (-1 : Int32)) ∈ ILS ∧ (196, m, (-1 : Int32)) ∈ ILS ∧ (197, m, (-1 : Int32)) ∈ ILS ∧ (198, m, (0 : Int32)) ∈ ILS ∧ (199, m, (0 : Int32)) ∈ ILS ∧ (200, m, (0 : Int32)) ∈ ILS) := ⟨⟨il_m_0 m hm, il_m_1 m hm, il_m_2 m hm, il_m_3 m hm, il_m_4 m hm, il_m_5 m hm⟩, il_m_6 m hm, il_m_7 m hm, il_m_8 m hm, il_m_9 m hm, il_m_10 m hm, il_m_11 m hm⟩
theorem il_c_0 : ∀ m, m < 8 → ∀ e, e < 6 → (201, 6 * m + e, (0 : Int32)) ∈ ILS := by decide +kernel
theorem il_c_1 : ∀ m, m < 8 → ∀ e, e < 6 → (143 + 2 * m, e, (0 : Int32)) ∈ ILS := by decide +kernel
theorem il_c (m : Nat) (hm : m < 8) (e : Nat) (he : e < 6) : (201, 6 * m + e, (0 : Int32)) ∈ ILS ∧ (143 + 2 * m, e, (0 : Int32)) ∈ ILS := ⟨il_c_0 m hm e he, il_c_1 m hm e he⟩
theorem il_e_0 : ∀ i, i < 8 → (9 + 6 * i, 5, (0 : Int32)) ∈ ILS := by decide +kernel
theorem il_e_1 : ∀ i, i < 8 → (188, i, (0 : Int32)) ∈ ILS := by decide +kernel
theorem il_e_2 : ∀ i, i < 8 → (8, i, 9 + 6 * i) ∈ ALS := by decide +kernel
theorem il_e (i : Nat) (hi : i < 8) : (9 + 6 * i, 5, (0 : Int32)) ∈ ILS ∧ (188, i, (0 : Int32)) ∈ ILS ∧ (8, i, 9 + 6 * i) ∈ ALS := ⟨il_e_0 i hi, il_e_1 i hi, il_e_2 i hi⟩
theorem init_eOf {M : ax_M} (h : Init M) {i : Nat} (hi : i < 9) : eOf M i = 9 + 6 * i := by
  unfold eOf
  by_cases h8 : i < 8
  · rw [if_pos h8]
    exact h.a (il_e i h8).2.2
  · rw [if_neg h8, show i = 8 by omega]
    exact h.a (by decide +kernel)
theorem init_sim {M : ax_M} (h : Init M) : Sim M := by
  refine ⟨⟨0, by omega, h.i (by decide +kernel), h.i (by decide +kernel), fun k hk => absurd hk (by omega)⟩, ⟨0, by omega, h.i (by decide +kernel), h.i (by decide +kernel), fun k hk => absurd hk (by omega)⟩, ?_, ?_, ?_, ?_, ?_, ?_, ?_, ?_, ?_, ?_⟩
  · unfold S_ctx
    rw [h.i (c := 184) (k := 13) (v := -1) (by decide +kernel), h.i (c := 184) (k := 14) (v := 0) (by decide +kernel), h.i (c := 63) (k := 2) (v := -1) (by decide +kernel), h.i (c := 63) (k := 3) (v := 0) (by decide +kernel)]
    decide
  · refine ⟨fun _ => 0, fun k => 2 ^ k, fun k hk => ⟨(by decide : (0 : Nat) < 65536), h.i (il_64 k hk).1, h.i (il_64 k hk).2.1, pw16 hk, h.i (il_64 k hk).2.2, fun y hy => ?_⟩⟩
    rw [Nat.testBit_two_pow, decide_eq_true_iff]
    constructor
    · intro e
      exact ⟨0, e⟩
    · rintro ⟨n, hn⟩
      cases n with
      | zero => exact hn
      | succ n =>
        rcases hn with hn | ⟨z, -, h1, -⟩
        · exact hn
        · rw [Nat.zero_testBit] at h1
          cases h1
  · intro p hp
    obtain ⟨a1, a2, a3, a4⟩ := il_g p hp
    rw [h.i a1, h.i a2, h.i a3, h.i a4]
    decide
  · intro m hm
    obtain ⟨⟨a1, a2, a3, a4, a5, a6⟩, b1, b2, b3, b4, b5, b6⟩ := il_m m hm
    refine ⟨?_, fun e he => ?_⟩
    · rw [h.i a1, h.i a2, h.i a3, h.i a4, h.i a5, h.i a6, h.i b1, h.i b2, h.i b3, h.i b4, h.i b5, h.i b6]
      exact ⟨rfl, rfl, rfl, rfl, rfl, rfl⟩
    · rw [h.i (il_c m hm e he).1, h.i (il_c m hm e he).2]
  · refine ⟨fun p hp q => ?_, fun m hm => ?_⟩
    · rw [h.i (il_g p hp).1] at q
      exact absurd q (by decide)
    · obtain ⟨⟨a1, a2, a3, a4, a5, a6⟩, -⟩ := il_m m hm
      rw [h.i a1, h.i a2, h.i a3, h.i a4, h.i a5, h.i a6]
      exact ⟨Or.inl rfl, Or.inl rfl, Or.inl rfl, by decide, by decide, fun q => absurd q (by decide), fun q => absurd q (by decide), by decide, by decide⟩
  · refine ⟨fun i hi => ⟨i, hi, init_eOf h hi⟩, fun i j hi hj e => ?_⟩
    rw [init_eOf h hi, init_eOf h hj] at e
    omega
  · intro i hi
    refine Or.inl ⟨?_, h.i (il_e i hi).2.1⟩
    rw [init_eOf h (by omega)]
    exact h.i (il_e i hi).1
  · have e1 : kindC M = -1 := by
      unfold kindC
      rw [h.i (c := 135) (k := 9) (v := -1) (by decide +kernel), if_neg (by decide)]
    have e2 : numC M = 0 := by
      unfold numC
      rw [h.i (c := 135) (k := 9) (v := -1) (by decide +kernel), if_neg (by decide), if_neg (by decide)]
    unfold S_gate
    rw [e1, e2]
    exact ⟨h.i (by decide +kernel), h.i (by decide +kernel), fun q => absurd q (by decide)⟩
  · unfold S_ask
    rw [h.j.2.1, h.j.2.2.1]
  · exact ⟨h.i (by decide +kernel), h.i (by decide +kernel), h.j.2.2.2⟩
