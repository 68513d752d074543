/-! The step theorem: every part. -/
theorem step_op {i m a h d B : Nat} {c : Nat → Int32} {ar : Nat → Int64} {M0 M M' : ax_M} {x : xV} {op : Option (Unit × ax_M)} {a0 : Nat} (hC : CodeM M i c ar m) (ha : a < m) (hx : c a < 16 ∨ 18 < c a) (hs : ∀ K : Int32 → Int32 → Int32 → ax_M → Option (Unit × ax_M), f_Mod_work_61 K (nI i) (nI (48 * i)) (nI a) (c a) M = bnd op (fun _ m => K (nI i) (nI (48 * i)) (nI a + 1) m)) (hr : Runs i a0 a M0 M B) (hq : REq h d M0 M) (t : TOk h M x op) {C : Nat} (hB : B + 1 ≤ C) : ∃ M', Runs i a0 (a + 1) M0 M' C ∧ TRep M' h x ∧ gI M' 184 29 = nI (h + 1) ∧ REq h d M0 M' := by
  obtain ⟨M2, b1, b2, b3, b4⟩ := t
  exact ⟨M2, hr.tr (run_u hC ha hx b1 hs) hB, b2, b3, hq.tr (REq.ofs b4)⟩
theorem Runs.rf (i a : Nat) (M : ax_M) : Runs i a a M M 0 := ⟨0, Nat.le_refl _, fun _ => rfl⟩
theorem i32_hi {o k : Int32} (h : k ≤ o) (hk : 12 < k) : ¬ o ≤ 12 := fun z => absurd (Int32.le_trans h z) (Int32.not_le.mpr hk)
theorem step_ok {i m n : Nat} {c : Nat → Int32} {ar : Nat → Int64} {E : xRow} {ρ : xEnv} {lo be en : Nat → Nat} (hw : WfR ρ.r) (hN : ∀ p, p < n → lo p ≤ p ∧ Node E c ar lo be en p) : ∀ p, p < n → ∀ h d, en p < m → h + (p + 1 - lo p) ≤ 20 → 2 * d + (p + 1 - lo p) ≤ 20 → StepH i c ar m E ρ p (be p) (en p + 1) h d (7 ^ (p + 1 - lo p)) := by
  intro p
  induction p using Nat.strongRecOn with
  | _ p ih =>
    intro hp h d hen hh hd it M hE hC h29 h37
    have lp := (hN p hp).1
    rw [evv_eq]
    generalize hV0 : (fun (q : Nat) (j : Option Int32) => if q < p then evv E ρ q j else xErr) = V
    have hV : ∀ q, q < p → ∀ j, V q j = evv E ρ q j := fun q hq j => by rw [← hV0]; exact if_pos hq
    rcases (hN p hp).2 with ⟨a1, a2, a3, a4, a5, a6, a7⟩ | ⟨q, a1, a2, a3, a4, a5, a6⟩ | ⟨f, q, a1, a2, a3, a4, a5, a6, a7, a8, a9⟩ | ⟨f, q, a1, a2, a3, a4, a5, a6, a7, a8, a9⟩ | ⟨f, r, q, a1, a2, a3, a4, a5, a6, a7, a8, a9, a10, a11, a12, a13⟩
    · have ev : evB E ρ V p it = xLeaf ρ it (E.1 p) (ar (en p)) := by
        unfold evB
        rw [if_pos a2]
        exact xLeaf_n (fun z => (a6 z).symm)
      have c11 : c (en p) ≤ 11 := by
        rw [a5]
        rcases leaf_cases ⟨a1, a2⟩ with z | z | z | z | z | z | z | z | z | z | z <;> rw [z] <;> decide
      rw [ev, a4]
      refine step_op hC hen (Or.inl (Int32.lt_of_le_of_lt c11 (by decide))) (fun K => s_leaf hC hen c11 K) (Runs.rf i _ M) (REq.rf M) ?_ (by have := p7_pos (p + 1 - lo p) (by omega); omega)
      rw [a5]
      exact mleaf_ok hE hw h29 (by omega) ⟨a1, a2⟩ (fun z => by rw [a6 (by rw [z]; decide)]; exact a7 z)
    · have hq : q < p := by omega
      obtain ⟨M1, r1, t1, g1, q1⟩ := ih q hq (by omega) h d (by omega) (by omega) (by omega) it M hE hC h29 h37
      have co : cOne (E.1 p) (c (en p)) := by
        unfold cOne
        rcases a6 with z | z | z | z | z
        · exact Or.inl z
        · exact Or.inr (Or.inl z)
        · exact Or.inr (Or.inr (Or.inl z))
        · exact Or.inr (Or.inr (Or.inr (Or.inl z)))
        · exact Or.inr (Or.inr (Or.inr (Or.inr z)))
      have ev : evB E ρ V p it = if (evv E ρ q it).1 = -1 then xErr else xOne ρ.s (E.1 p) (evv E ρ q it) := by
        unfold evB
        rw [a2, nI_clamp (by omega), hV q hq]
        rcases a6 with z | z | z | z | z <;> rw [z.1] <;> rfl
      have s1 : c (en p) = 12 ∨ c (en p) = 13 ∨ c (en p) = 14 ∨ c (en p) = 20 ∨ c (en p) = 21 := by
        rcases a6 with z | z | z | z | z
        · exact Or.inl z.2
        · exact Or.inr (Or.inl z.2)
        · exact Or.inr (Or.inr (Or.inl z.2))
        · exact Or.inr (Or.inr (Or.inr (Or.inl z.2)))
        · exact Or.inr (Or.inr (Or.inr (Or.inr z.2)))
      have s2 : c (en p) < 16 ∨ 18 < c (en p) := by rcases s1 with z | z | z | z | z <;> rw [z] <;> decide
      rw [ev, a4]
      rw [← a5] at r1
      exact step_op (q1.code hC) hen s2 (fun K => s_one s1 K) r1 q1 (msingle_ok (q1.env hE) t1 (wf_evv hw q it) g1 (by omega) co) (by have := p7_1 (q + 1 - lo q); rw [show p + 1 - lo p = q + 1 - lo q + 1 by have := (hN q (by omega)).1; omega]; exact this)
    · sorry
    · sorry
    · sorry
