/-! The reference's operators of two values, all of them. -/
theorem m_calc (M : ax_M) {o : Int32} (ho : o = 29 ∨ o = 30 ∨ o = 31 ∨ o = 32 ∨ o = 33) (a b : Int64) (hb : ¬ (b = 0 ∧ (o = 32 ∨ o = 33))) : f_Mod_calculated (o + 1) a b M = some (xCalc o a b, M) := by
  unfold f_Mod_calculated xCalc
  rcases ho with z | z | z | z | z
  · subst z
    rw [if_pos (by decide), if_pos (by decide)]
  · subst z
    rw [if_neg (by decide), if_pos (by decide), if_neg (by decide), if_pos (by decide)]
  · subst z
    rw [if_neg (by decide), if_neg (by decide), if_pos (by decide), if_neg (by decide), if_neg (by decide), if_pos (by decide)]
  · subst z
    rw [if_neg (by decide), if_neg (by decide), if_neg (by decide), if_pos (by decide), if_neg (by decide), if_neg (by decide), if_neg (by decide), if_pos (by decide), gz_pos (fun q => hb ⟨q, Or.inl rfl⟩)]
  · subst z
    rw [if_neg (by decide), if_neg (by decide), if_neg (by decide), if_neg (by decide), if_neg (by decide), if_neg (by decide), if_neg (by decide), if_neg (by decide), gz_pos (fun q => hb ⟨q, Or.inr rfl⟩)]
theorem m_311 {M : ax_M} {h : Nat} (hh : gI M 184 29 = nI h) (hb : h < 48) (q : Int64) : TOk h M (xI q.toInt32) (f_Mod_pair_311 q 1 M) ∧ TOk h M (xJ q) (f_Mod_pair_311 q 0 M) := by
  unfold f_Mod_pair_311
  constructor
  · rw [if_neg (show ¬ (1 : Int32) = 0 by decide), if_neg (show ¬ (1 : Int32) = 0 by decide), u_id]
    exact push_num hh hb _ (by decide)
  · rw [if_pos (show (0 : Int32) = 0 from rfl), if_pos (show (0 : Int32) = 0 from rfl), u_id]
    exact push_num hh hb _ (by decide)
theorem m_275 {M : ax_M} {h : Nat} {x y : xV} (hh : gI M 184 29 = nI h) (hb : h + 1 < 48) (t : TRep M h x) (u : TRep M (h + 1) y) {o : Int32} (ho : o = 29 ∨ o = 30 ∨ o = 31 ∨ o = 32 ∨ o = 33) (hz : ¬ (y.2.1 = 0 ∧ (o = 32 ∨ o = 33))) : TOk h M (if x.1 = 2 ∧ y.1 = 2 then xI (xCalc o x.2.1 y.2.1).toInt32 else xJ (xCalc o x.2.1 y.2.1)) (f_Mod_pair_275 (o + 1) (nI h) (nI (h + 1)) x.2.1 y.2.1 M) := by
  unfold f_Mod_pair_275
  rw [m_calc M ho _ _ hz, bnd_eq, gi_nI (by omega) (by decide), nI_clamp (by omega), t.1]
  obtain ⟨r1, r2⟩ := m_311 (M := M) hh (by omega) (xCalc o x.2.1 y.2.1)
  by_cases p : x.1 = 2
  · rw [if_pos p, gi_nI (by omega) (by decide), nI_clamp (by omega), u.1]
    by_cases q : y.1 = 2
    · rw [if_pos q, if_pos (show x.1 = 2 ∧ y.1 = 2 from ⟨p, q⟩)]
      exact r1
    · rw [if_neg q, if_neg (show ¬ (x.1 = 2 ∧ y.1 = 2) from fun z => q z.2)]
      exact r2
  · rw [if_neg p, if_neg (show ¬ (x.1 = 2 ∧ y.1 = 2) from fun z => p z.1)]
    exact r2
theorem m_ord {M : ax_M} {h : Nat} (hh : gI M 184 29 = nI h) (hb : h < 48) {p c : Prop} [Decidable p] [Decidable c] (hc : c ↔ ¬ p) : TOk h M (xT (if p then 1 else 0)) (bnd (if c then (some ((0 : Int32), M)) else (some (1, M))) (fun q m => bnd (f_Mod_pushTruth q m) (fun _ m2 => some ((), m2)))) := by
  by_cases q : p
  · rw [if_pos q, if_neg (fun z => hc.mp z q), bnd_eq, u_id]
    exact push_truth hh hb 1
  · rw [if_neg q, if_pos (hc.mpr q), bnd_eq, u_id]
    exact push_truth hh hb 0
theorem m_247 {M : ax_M} {h : Nat} {x y : xV} (hh : gI M 184 29 = nI h) (hb : h + 1 < 48) (t : TRep M h x) (u : TRep M (h + 1) y) {o : Int32} (ho : o = 25 ∨ o = 26 ∨ o = 27 ∨ o = 28 ∨ o = 29 ∨ o = 30 ∨ o = 31 ∨ o = 32 ∨ o = 33) (hz : ¬ (y.2.1 = 0 ∧ (o = 32 ∨ o = 33))) : TOk h M (xNums o x y) (f_Mod_pair_247 (o + 1) (nI h) (nI (h + 1)) x.2.1 y.2.1 M) := by
  unfold xNums f_Mod_pair_247
  have hi : ∀ (k : Int32), (k = 29 ∨ k = 30 ∨ k = 31 ∨ k = 32 ∨ k = 33) → o = k → TOk h M (if o = 25 then xT (if x.2.1 < y.2.1 then 1 else 0) else if o = 26 then xT (if x.2.1 ≤ y.2.1 then 1 else 0) else if o = 27 then xT (if y.2.1 < x.2.1 then 1 else 0) else if o = 28 then xT (if y.2.1 ≤ x.2.1 then 1 else 0) else if y.2.1 = 0 ∧ (o = 32 ∨ o = 33) then xErr else if x.1 = 2 ∧ y.1 = 2 then xI (xCalc o x.2.1 y.2.1).toInt32 else xJ (xCalc o x.2.1 y.2.1)) (f_Mod_pair_275 (o + 1) (nI h) (nI (h + 1)) x.2.1 y.2.1 M) := by
    intro k hk e
    have hk' : o = 29 ∨ o = 30 ∨ o = 31 ∨ o = 32 ∨ o = 33 := by rw [e]; exact hk
    have n (m : Int32) (hm : ¬ (m = 29 ∨ m = 30 ∨ m = 31 ∨ m = 32 ∨ m = 33)) : ¬ o = m := fun q => hm (by rw [← q]; exact hk')
    rw [if_neg (n 25 (by decide)), if_neg (n 26 (by decide)), if_neg (n 27 (by decide)), if_neg (n 28 (by decide)), if_neg hz]
    exact m_275 hh hb t u hk' hz
  rcases ho with z | z | z | z | z | z | z | z | z
  · subst z
    rw [if_pos (show (25 : Int32) = 25 from rfl), if_neg (show ¬ (25 : Int32) + 1 < 26 by decide), if_neg (show ¬ 29 < (25 : Int32) + 1 by decide)]
    unfold f_Mod_ordered
    rw [if_pos (show (25 : Int32) + 1 = 26 by decide)]
    exact m_ord hh (by omega) ((lgc_ge0 _ _).trans Int64.not_lt.symm)
  · subst z
    rw [if_neg (show ¬ (26 : Int32) = 25 by decide), if_pos (show (26 : Int32) = 26 from rfl), if_neg (show ¬ (26 : Int32) + 1 < 26 by decide), if_neg (show ¬ 29 < (26 : Int32) + 1 by decide)]
    unfold f_Mod_ordered
    rw [if_neg (show ¬ (26 : Int32) + 1 = 26 by decide), if_pos (show (26 : Int32) + 1 = 27 by decide)]
    exact m_ord hh (by omega) ((lgc_gt0 _ _).trans Int64.not_le.symm)
  · subst z
    rw [if_neg (show ¬ (27 : Int32) = 25 by decide), if_neg (show ¬ (27 : Int32) = 26 by decide), if_pos (show (27 : Int32) = 27 from rfl), if_neg (show ¬ (27 : Int32) + 1 < 26 by decide), if_neg (show ¬ 29 < (27 : Int32) + 1 by decide)]
    unfold f_Mod_ordered
    rw [if_neg (show ¬ (27 : Int32) + 1 = 26 by decide), if_neg (show ¬ (27 : Int32) + 1 = 27 by decide), if_pos (show (27 : Int32) + 1 = 28 by decide)]
    exact m_ord hh (by omega) ((lgc_le0 _ _).trans Int64.not_lt.symm)
  · subst z
    rw [if_neg (show ¬ (28 : Int32) = 25 by decide), if_neg (show ¬ (28 : Int32) = 26 by decide), if_neg (show ¬ (28 : Int32) = 27 by decide), if_pos (show (28 : Int32) = 28 from rfl), if_neg (show ¬ (28 : Int32) + 1 < 26 by decide), if_neg (show ¬ 29 < (28 : Int32) + 1 by decide)]
    unfold f_Mod_ordered
    rw [if_neg (show ¬ (28 : Int32) + 1 = 26 by decide), if_neg (show ¬ (28 : Int32) + 1 = 27 by decide), if_neg (show ¬ (28 : Int32) + 1 = 28 by decide)]
    exact m_ord hh (by omega) ((lgc_lt0 _ _).trans Int64.not_le.symm)
  · have y := hi 29 (by decide) z
    rw [if_neg (show ¬ o + 1 < 26 by rw [z]; decide), if_pos (show 29 < o + 1 by rw [z]; decide)]
    exact y
  · have y := hi 30 (by decide) z
    rw [if_neg (show ¬ o + 1 < 26 by rw [z]; decide), if_pos (show 29 < o + 1 by rw [z]; decide)]
    exact y
  · have y := hi 31 (by decide) z
    rw [if_neg (show ¬ o + 1 < 26 by rw [z]; decide), if_pos (show 29 < o + 1 by rw [z]; decide)]
    exact y
  · have y := hi 32 (by decide) z
    rw [if_neg (show ¬ o + 1 < 26 by rw [z]; decide), if_pos (show 29 < o + 1 by rw [z]; decide)]
    exact y
  · have y := hi 33 (by decide) z
    rw [if_neg (show ¬ o + 1 < 26 by rw [z]; decide), if_pos (show 29 < o + 1 by rw [z]; decide)]
    exact y
theorem m_item {M : ax_M} {h : Nat} {x y : xV} (hh : gI M 184 29 = nI h) (hb : h + 1 < 48) (t : TRep M h x) (u : TRep M (h + 1) y) : TOk h M (xItem x y) (if x.1 = 4 then (bnd (f_Mod_isNumber (nI (h + 1)) M) (fun q71 M72 => if q71 = 0 then (f_Mod_pair_178 (nI h) (gJ M 203 (h + 1)) M72) else (if (lg_cmp (gJ M 203 (h + 1)) 0) < 0 then (f_Mod_pair_178 (nI h) (gJ M 203 (h + 1)) M72) else (if 0 ≤ (lg_cmp (gJ M 203 (h + 1)) (gJ M 203 h)) then (f_Mod_pair_178 (nI h) (gJ M 203 (h + 1)) M72) else (if ((1 : Int32) = 0) then (f_Mod_pair_192 (nI h) (gJ M 203 (h + 1)) 1 ((-1)) M72) else (f_Mod_pair_192 (nI h) (gJ M 203 (h + 1)) 1 2 M72)))))) else (f_Mod_pair_178 (nI h) (gJ M 203 (h + 1)) M)) := by
  have bad : xItem x y = xErr → TOk h M (xItem x y) (f_Mod_pair_178 (nI h) (gJ M 203 (h + 1)) M) := by
    intro e
    rw [e]
    unfold f_Mod_pair_178 f_Mod_pair_192
    rw [if_pos (show (0 : Int32) = 0 from rfl), if_pos (show (0 : Int32) = 0 from rfl), u_id]
    exact push_any hh (by omega) 0 rfl (Or.inl rfl)
  by_cases q : x.1 = 4
  · obtain ⟨g1, g2, g3⟩ := t.2.2 q
    rw [if_pos q, m_isnum u (by omega), bnd_eq]
    by_cases r : y.1 = 2 ∨ y.1 = 3
    · have ey : gJ M 203 (h + 1) = y.2.1 := u.2.1 (r.elim (fun z => Or.inr (Or.inl z)) (fun z => Or.inr (Or.inr z)))
      rw [ey] at bad ⊢
      rw [if_pos r, if_neg (show ¬ (1 : Int32) = 0 by decide), g1]
      by_cases h1 : y.2.1 < 0
      · rw [if_pos ((lgc_lt0 _ _).mpr h1)]
        exact bad (if_neg (fun z => z.2.2.1 h1))
      · rw [if_neg (fun z => h1 ((lgc_lt0 _ _).mp z)), ← nI_l (by omega)]
        by_cases h2 : (nI x.2.2.length).toInt64 ≤ y.2.1
        · rw [if_pos ((lgc_ge0 _ _).mpr h2)]
          exact bad (if_neg (fun z => z.2.2.2 h2))
        · rw [if_neg (fun z => h2 ((lgc_ge0 _ _).mp z)), if_neg (show ¬ (1 : Int32) = 0 by decide)]
          obtain ⟨k, k1, k2⟩ := i64_under g2 h1 h2
          have e : xItem x y = xI (x.2.2.getD k 0) := by
            unfold xItem
            rw [if_pos ⟨q, r, h1, h2⟩, k2, nI_clamp (by omega)]
          unfold f_Mod_pair_192
          rw [e, if_neg (show ¬ (1 : Int32) = 0 by decide), k2, i5 (by omega) (by omega), gi_nI (by omega) (by decide), nI_clamp (by omega), g3 k k1, u_id]
          exact push_num hh (by omega) _ (by decide)
    · rw [if_neg r, if_pos (show (0 : Int32) = 0 from rfl)]
      exact bad (if_neg (fun z => r z.2.1))
  · rw [if_neg q]
    exact bad (if_neg (fun z => q z.1))
/-- which code stands for which sort of two values -/
def cTwo (o a : Int32) : Prop := (o = 17 ∧ a = 15) ∨ (a = o + 1 ∧ (o = 23 ∨ o = 24 ∨ o = 25 ∨ o = 26 ∨ o = 27 ∨ o = 28 ∨ o = 29 ∨ o = 30 ∨ o = 31 ∨ o = 32 ∨ o = 33))
theorem mpair_ok {M : ax_M} {h : Nat} {x y : xV} {o a : Int32} (t0 : TRep M h x) (u0 : TRep M (h + 1) y) (hx : WfV x) (hy : WfV y) (h1 : gI M 184 29 = nI (h + 2)) (hb : h + 1 < 48) (ho : cTwo o a) : TOk h M (if x.1 = -1 then xErr else if y.1 = -1 then xErr else xTwo o x y) (f_Mod_pair a M) := by
  unfold f_Mod_pair
  have e1 : nI (h + 2) - 1 = nI (h + 1) := nI_m1 (h + 1)
  rw [kM_eq, kM_eq, kM_eq, h1, nI_m2, e1, gi_nI (by omega) (by decide), kM_eq, gi_nI (by omega) (by decide), kM_eq, nI_clamp (by omega), nI_clamp (by omega)]
  apply TOk.of5 (v := nI h)
  have t : TRep (mI M 184 29 (nI h)) h x := t0.m29
  have u : TRep (mI M 184 29 (nI h)) (h + 1) y := u0.m29
  have hh : gI (mI M 184 29 (nI h)) 184 29 = nI h := mIs _ _ _ _
  generalize mI M 184 29 (nI h) = M5 at t u hh
  have core : ∀ s0 : Int32, ((x.1 = 2 ∨ x.1 = 3) ∧ (y.1 = 2 ∨ y.1 = 3) → s0 = 1) → (¬ ((x.1 = 2 ∨ x.1 = 3) ∧ (y.1 = 2 ∨ y.1 = 3)) → s0 = 0) → TOk h M5 (if x.1 = -1 then xErr else if y.1 = -1 then xErr else xTwo o x y) (f_Mod_pair_61 a (nI h) (nI (h + 1)) (gJ M5 203 h) (gJ M5 203 (h + 1)) s0 M5) := by
    intro s0 hs1 hs0
    unfold f_Mod_pair_61
    rw [gi_nI (by omega) (by decide), nI_clamp (by omega), t.1]
    by_cases ex : x.1 = -1
    · rw [if_pos ex, if_pos ex, u_id]
      exact push_any hh (by omega) 0 rfl (Or.inl rfl)
    rw [if_neg ex, if_neg ex, gi_nI (by omega) (by decide), nI_clamp (by omega), u.1]
    by_cases ey : y.1 = -1
    · rw [if_pos ey, if_pos ey, u_id]
      exact push_any hh (by omega) 0 rfl (Or.inl rfl)
    rw [if_neg ey, if_neg ey]
    obtain ⟨z, z1, z2, z3⟩ := alike_ok hb t u hx hy ex ey
    rcases ho with ⟨o1, o2⟩ | ⟨o1, o2⟩
    · subst o1 o2
      rw [if_neg (show ¬ (15 : Int32) = 24 by decide), if_neg (show ¬ (15 : Int32) = 25 by decide), if_pos (show (15 : Int32) = 15 from rfl)]
      exact m_item hh hb t u
    · subst o1
      unfold xTwo
      rw [if_neg (show ¬ o = 17 from fun q => by rw [q] at o2; revert o2; decide)]
      by_cases k23 : o = 23
      · subst k23
        rw [if_pos (show (23 : Int32) + 1 = 24 by decide), if_pos (show (23 : Int32) = 23 from rfl)]
        unfold f_Mod_pair_104
        rw [z1, bnd_eq, if_pos (show (23 : Int32) + 1 = 24 by decide), ← z3, u_id, u_id]
        rcases z2 with e | e
        · rw [e, if_neg (show ¬ (0 : Int32) = 1 by decide)]
          exact push_truth hh (by omega) 0
        · rw [e, if_pos (show (1 : Int32) = 1 from rfl)]
          exact push_truth hh (by omega) 1
      rw [if_neg k23]
      by_cases k24 : o = 24
      · subst k24
        rw [if_neg (show ¬ (24 : Int32) + 1 = 24 by decide), if_pos (show (24 : Int32) + 1 = 25 by decide), if_pos (show (24 : Int32) = 24 from rfl)]
        unfold f_Mod_pair_104
        rw [z1, bnd_eq, if_neg (show ¬ (24 : Int32) + 1 = 24 by decide), ← z3, u_id, u_id]
        rcases z2 with e | e
        · rw [e, if_pos (show (0 : Int32) = 0 from rfl), if_pos (show (0 : Int32) = 0 from rfl)]
          exact push_truth hh (by omega) 1
        · rw [e, if_neg (show ¬ (1 : Int32) = 0 by decide), if_neg (show ¬ (1 : Int32) = 0 by decide)]
          exact push_truth hh (by omega) 0
      rw [if_neg k24]
      have o3 : o = 25 ∨ o = 26 ∨ o = 27 ∨ o = 28 ∨ o = 29 ∨ o = 30 ∨ o = 31 ∨ o = 32 ∨ o = 33 := (o2.resolve_left k23).resolve_left k24
      have g (P : Int32 → Prop) (hP : P 25 ∧ P 26 ∧ P 27 ∧ P 28 ∧ P 29 ∧ P 30 ∧ P 31 ∧ P 32 ∧ P 33) : P o := by
        obtain ⟨p1, p2, p3, p4, p5, p6, p7, p8, p9⟩ := hP
        rcases o3 with w | w | w | w | w | w | w | w | w <;> rw [w] <;> assumption
      rw [if_neg (g (fun o => ¬ o + 1 = 24) (by decide)), if_neg (g (fun o => ¬ o + 1 = 25) (by decide)), if_neg (g (fun o => ¬ o + 1 = 15) (by decide))]
      by_cases hn : (x.1 = 2 ∨ x.1 = 3) ∧ (y.1 = 2 ∨ y.1 = 3)
      · have t2 : gJ M5 203 h = x.2.1 := t.2.1 (hn.1.elim (fun w => Or.inr (Or.inl w)) (fun w => Or.inr (Or.inr w)))
        have u2 : gJ M5 203 (h + 1) = y.2.1 := u.2.1 (hn.2.elim (fun w => Or.inr (Or.inl w)) (fun w => Or.inr (Or.inr w)))
        rw [hs1 hn, if_neg (show ¬ (1 : Int32) = 0 by decide), if_pos hn, t2, u2]
        by_cases k33 : o + 1 < 33
        · rw [if_pos k33]
          exact m_247 hh hb t u o3 (fun w => by rcases w.2 with w | w <;> rw [w] at k33 <;> revert k33 <;> decide)
        · rw [if_neg k33]
          have o4 : o = 32 ∨ o = 33 := by
            rcases o3 with w | w | w | w | w | w | w | w | w
            · exact absurd (show o + 1 < 33 by rw [w]; decide) k33
            · exact absurd (show o + 1 < 33 by rw [w]; decide) k33
            · exact absurd (show o + 1 < 33 by rw [w]; decide) k33
            · exact absurd (show o + 1 < 33 by rw [w]; decide) k33
            · exact absurd (show o + 1 < 33 by rw [w]; decide) k33
            · exact absurd (show o + 1 < 33 by rw [w]; decide) k33
            · exact absurd (show o + 1 < 33 by rw [w]; decide) k33
            · exact Or.inl w
            · exact Or.inr w
          by_cases hz : y.2.1 = 0
          · rw [if_pos ((lgc_eq _ _).mpr hz), u_id]
            have e : xNums o x y = xErr := by
              unfold xNums
              rcases o4 with w | w
              · subst w
                rw [if_neg (by decide), if_neg (by decide), if_neg (by decide), if_neg (by decide), if_pos ⟨hz, by decide⟩]
              · subst w
                rw [if_neg (by decide), if_neg (by decide), if_neg (by decide), if_neg (by decide), if_pos ⟨hz, by decide⟩]
            rw [e]
            exact push_any hh (by omega) 0 rfl (Or.inl rfl)
          · rw [if_neg (fun w => hz ((lgc_eq _ _).mp w))]
            exact m_247 hh hb t u o3 (fun w => hz w.1)
      · rw [hs0 hn, if_pos (show (0 : Int32) = 0 from rfl), if_neg hn, u_id]
        exact push_any hh (by omega) 0 rfl (Or.inl rfl)
  rw [m_isnum t (by omega), bnd_eq]
  by_cases p : x.1 = 2 ∨ x.1 = 3
  · rw [if_pos p, if_neg (show ¬ (1 : Int32) = 0 by decide), m_isnum u (by omega), bnd_eq]
    by_cases q : y.1 = 2 ∨ y.1 = 3
    · rw [if_pos q, if_neg (show ¬ (1 : Int32) = 0 by decide)]
      exact core 1 (fun _ => rfl) (fun z => absurd ⟨p, q⟩ z)
    · rw [if_neg q, if_pos (show (0 : Int32) = 0 from rfl)]
      exact core 0 (fun z => absurd z.2 q) (fun _ => rfl)
  · rw [if_neg p, if_pos (show (0 : Int32) = 0 from rfl)]
    exact core 0 (fun z => absurd z.1 p) (fun _ => rfl)
