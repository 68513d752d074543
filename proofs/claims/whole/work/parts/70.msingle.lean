/-! The reference's operators of one value. -/
theorem TOk.of5 {M : ax_M} {h : Nat} {v : Int32} {x : xV} {o : Option (Unit × ax_M)} (t : TOk h (mI M 184 29 v) x o) : TOk h M x o := by
  obtain ⟨M2, a1, a2, a3, a4⟩ := t
  exact ⟨M2, a1, a2, a3, EqK.tr (EqK.mI (S := Xs h) (EqK.rf M) (Or.inr (Or.inr (Or.inr ⟨rfl, rfl⟩)))) a4⟩
theorem nI_m1 (h : Nat) : nI (h + 1) - 1 = nI h := by rw [← nI_1, Int32.add_sub_cancel]
theorem TRep.m29 {M : ax_M} {k : Nat} {x : xV} {v : Int32} (t : TRep M k x) : TRep (mI M 184 29 v) k x := by
  refine ⟨(mIc (by decide)).trans t.1, t.2.1, fun q => ⟨(t.2.2 q).1, (t.2.2 q).2.1, fun j hj => (mIc (by decide)).trans ((t.2.2 q).2.2 j hj)⟩⟩
theorem EnvM.m29 {M : ax_M} {ρ : xEnv} {it : Option Int32} {v : Int32} (h : EnvM M ρ it) : EnvM (mI M 184 29 v) ρ it :=
  h.eq (EqK.mI (S := Fr) (EqK.rf M) (Or.inr ⟨rfl, Or.inl rfl⟩))
theorem m_isnum {M : ax_M} {k : Nat} {x : xV} (t : TRep M k x) (hk : k < 48) : f_Mod_isNumber (nI k) M = some (if x.1 = 2 ∨ x.1 = 3 then 1 else 0, M) := by
  unfold f_Mod_isNumber
  rw [gi_nI hk (by decide), nI_clamp (by omega), t.1]
  by_cases h2 : x.1 = 2
  · rw [if_pos h2, if_pos (Or.inl h2)]
  · rw [if_neg h2]
    by_cases h3 : x.1 = 3
    · rw [if_pos h3, if_pos (Or.inr h3)]
    · rw [if_neg h3, if_neg (fun q => q.elim h2 h3)]
theorem m_106 {M : ax_M} {h : Nat} {x : xV} (t : TRep M h x) (hh : gI M 184 29 = nI h) (hb : h < 48) (hn : x.1 = 2 ∨ x.1 = 3) {z : Int32} {b : Int64} (hz : (if z = 0 then (0 : Int64) else 1) = b) : TOk h M (xT b) (f_Mod_single_106 (nI h) z M) := by
  unfold f_Mod_single_106
  rw [m_isnum t hb, bnd_eq, if_pos hn, if_neg (show ¬ (1 : Int32) = 0 by decide), ← hz]
  by_cases q : z = 0
  · rw [if_pos q, if_pos q, u_id]
    exact push_num hh hb 0 (by decide)
  · rw [if_neg q, if_neg q, u_id]
    exact push_num hh hb 1 (by decide)
theorem i64_15 (n : Int64) : 15 < n ↔ 16 ≤ n := by
  rw [Int64.lt_iff_toInt_lt, Int64.le_iff_toInt_le]
  have e1 : (15 : Int64).toInt = 15 := by decide
  have e2 : (16 : Int64).toInt = 16 := by decide
  rw [e1, e2]
  omega
theorem rcB_0 (n : Int64) : rcB 0 n = 0 := by
  unfold rcB
  rw [Nat.zero_testBit]
  split
  · rfl
  · split
    · rfl
    · rfl
theorem m_role {M : ax_M} {ρ : xEnv} {it : Option Int32} {h : Nat} {x : xV} (hE : EnvM M ρ it) (t : TRep M h x) (hh : gI M 184 29 = nI h) (hb : h < 48) (hn : x.1 = 2 ∨ x.1 = 3) : TOk h M (xT (rcB ρ.s x.2.1)) (if (gI M 184 13) < 0 then (f_Mod_single_106 (nI h) 0 M) else (if (lg_cmp x.2.1 0) < 0 then (f_Mod_single_106 (nI h) 0 M) else (if 0 < (lg_cmp x.2.1 15) then (f_Mod_single_106 (nI h) 0 M) else (bnd (f_Mod_closure (gI M 184 14) M) (fun q51 M52 => if ((q51 >>> ((Int64.toInt32 x.2.1) &&& 31)) &&& 1) = 1 then (f_Mod_single_106 (nI h) 1 M52) else (f_Mod_single_106 (nI h) 0 M52)))))) := by
  obtain ⟨⟨a1, a2⟩, ⟨D, S, b1, b2, b3, b4⟩, c1, c2, -⟩ := hE
  rw [a1]
  by_cases q1 : ρ.u < 0
  · rw [if_pos q1]
    refine m_106 t hh hb hn ?_
    have e : ρ.s = 0 := c2 (a2.resolve_right (Int32.not_le.mpr q1))
    rw [e, rcB_0]
    rfl
  rw [if_neg q1]
  by_cases q2 : x.2.1 < 0
  · rw [if_pos ((lgc_lt0 _ _).mpr q2)]
    refine m_106 t hh hb hn ?_
    unfold rcB
    rw [if_pos q2]
    rfl
  rw [if_neg (fun z => q2 ((lgc_lt0 _ _).mp z))]
  by_cases q3 : 16 ≤ x.2.1
  · rw [if_pos ((lgc_gt0 _ _).mpr ((i64_15 _).mpr q3))]
    refine m_106 t hh hb hn ?_
    unfold rcB
    rw [if_neg q2, if_pos q3]
    rfl
  rw [if_neg (fun z => q3 ((i64_15 _).mp ((lgc_gt0 _ _).mp z))), b2]
  have cl : f_Mod_closure (nI S) M = some (nI ρ.s, M) := by
    rw [← b4]
    exact clO_m b1 16 64 S (by omega) (by omega) b3
  rw [cl, bnd_eq]
  obtain ⟨k, hk, e⟩ := i64_small q2 q3
  have er : rcB ρ.s x.2.1 = if ρ.s.testBit k then 1 else 0 := by
    unfold rcB
    rw [if_neg q2, if_neg q3, e, nI_clamp (by omega)]
  rw [er, e]
  by_cases q4 : ρ.s.testBit k = true
  · rw [if_pos ((rb_bit c1 (by omega)).mpr q4), if_pos q4]
    exact m_106 t hh hb hn rfl
  · rw [if_neg (fun z => q4 ((rb_bit c1 (by omega)).mp z)), if_neg q4]
    exact m_106 t hh hb hn rfl
theorem m_175 {M : ax_M} {h : Nat} (hh : gI M 184 29 = nI h) (hb : h < 48) {l3 : Int32} {j : Int64} (h3 : l3 ≠ 4) {s0 : Int32} (hs : s0 = -1 ∨ s0 = 0) {x : xV} (hx : x.1 = s0) : TOk h M x (f_Mod_single_175 l3 j s0 M) := by
  unfold f_Mod_single_175
  rw [if_neg h3, u_id]
  exact push_any hh hb 0 hx hs
theorem m_size {M : ax_M} {h : Nat} {x : xV} (t : TRep M h x) (hh : gI M 184 29 = nI h) (hb : h < 48) (a : Int32) (h0 : ¬ (a = 14 ∧ x.1 = 0)) : TOk h M (xSize x) (f_Mod_single_150 a x.1 (gJ M 203 h) M) := by
  unfold f_Mod_single_150 xSize
  by_cases q : x.1 = 4
  · obtain ⟨g1, g2, g3⟩ := t.2.2 q
    rw [if_pos q, if_pos q]
    unfold f_Mod_single_175
    rw [if_pos q, u_id, g1]
    unfold xI
    rw [nI_l (by omega)]
    exact push_num hh hb _ (by decide)
  · rw [if_neg q, if_neg q]
    by_cases q2 : a = 14
    · rw [if_pos q2, if_neg (fun z => h0 ⟨q2, z⟩)]
      exact m_175 hh hb q (Or.inl rfl) rfl
    · rw [if_neg q2]
      exact m_175 hh hb q (Or.inl rfl) rfl
theorem neg0 (x : Int64) : 0 - x = -x := Int64.zero_sub x
/-- which code stands for which sort of one value -/
def cOne (o a : Int32) : Prop := (o = 13 ∧ a = 12) ∨ (o = 14 ∧ a = 13) ∨ (o = 43 ∧ a = 14) ∨ (o = 41 ∧ a = 20) ∨ (o = 34 ∧ a = 21)
theorem msingle_ok {M : ax_M} {ρ : xEnv} {it : Option Int32} {h : Nat} {x : xV} {o a : Int32} (hE : EnvM M ρ it) (t0 : TRep M h x) (hw : WfV x) (h1 : gI M 184 29 = nI (h + 1)) (hb : h < 48) (ho : cOne o a) : TOk h M (if x.1 = -1 then xErr else xOne ρ.s o x) (f_Mod_single a M) := by
  unfold f_Mod_single
  rw [kM_eq, h1, nI_m1, gi_nI hb (by decide), kM_eq, kM_eq, kM_eq, nI_clamp (by omega)]
  apply TOk.of5 (v := nI h)
  have t : TRep (mI M 184 29 (nI h)) h x := t0.m29
  have e := hE.m29 (v := nI h)
  have hh : gI (mI M 184 29 (nI h)) 184 29 = nI h := mIs _ _ _ _
  have e0 : gI M 202 h = x.1 := t0.1
  have ej : gJ M 203 h = gJ (mI M 184 29 (nI h)) 203 h := rfl
  rw [e0, ej]
  generalize mI M 184 29 (nI h) = M5 at t e hh
  by_cases q : x.1 = -1
  · rw [if_pos q, if_pos q, u_id]
    exact push_any hh hb 0 rfl (Or.inl rfl)
  rw [if_neg q, if_neg q]
  have n4' : (x.1 = 2 ∨ x.1 = 3) → gJ M5 203 h = x.2.1 := fun z => t.2.1 (z.elim (fun y => Or.inr (Or.inl y)) (fun y => Or.inr (Or.inr y)))
  unfold xOne
  rcases ho with ⟨z1, z2⟩ | ⟨z1, z2⟩ | ⟨z1, z2⟩ | ⟨z1, z2⟩ | ⟨z1, z2⟩
  · subst z1 z2
    rw [if_pos (show (12 : Int32) = 12 from rfl), if_pos (show (13 : Int32) = 13 from rfl), m_isnum t hb, bnd_eq]
    unfold xRole
    by_cases hn : x.1 = 2 ∨ x.1 = 3
    · rw [if_pos hn, if_pos hn, if_neg (show ¬ (1 : Int32) = 0 by decide), n4' hn]
      exact m_role e t hh hb hn
    · rw [if_neg hn, if_neg hn, if_pos (show (0 : Int32) = 0 from rfl)]
      unfold f_Mod_single_106
      rw [m_isnum t hb, bnd_eq, if_neg hn, if_pos (show (0 : Int32) = 0 from rfl), if_pos (show (0 : Int32) = 0 from rfl), u_id]
      exact push_any hh hb 0 rfl (Or.inl rfl)
  · subst z1 z2
    rw [if_neg (show ¬ (13 : Int32) = 12 by decide), if_pos (show (13 : Int32) = 13 from rfl), if_neg (show ¬ (14 : Int32) = 13 by decide), if_pos (show (14 : Int32) = 14 from rfl)]
    exact m_size t hh hb 13 (fun z => absurd z.1 (by decide))
  · subst z1 z2
    rw [if_neg (show ¬ (14 : Int32) = 12 by decide), if_neg (show ¬ (14 : Int32) = 13 by decide), if_pos (show (14 : Int32) = 14 from rfl), if_neg (show ¬ (43 : Int32) = 13 by decide), if_neg (show ¬ (43 : Int32) = 14 by decide), if_neg (show ¬ (43 : Int32) = 34 by decide), if_neg (show ¬ (43 : Int32) = 41 by decide)]
    by_cases q0 : x.1 = 0
    · rw [if_pos q0]
      unfold f_Mod_single_150
      rw [if_neg (show ¬ x.1 = 4 by rw [q0]; decide), if_pos (show (14 : Int32) = 14 from rfl), if_pos q0]
      exact m_175 hh hb (by rw [q0]; decide) (Or.inr rfl) q0
    · rw [if_neg q0]
      exact m_size t hh hb 14 (fun z => q0 z.2)
  · subst z1 z2
    rw [if_neg (show ¬ (20 : Int32) = 12 by decide), if_neg (show ¬ (20 : Int32) = 13 by decide), if_neg (show ¬ (20 : Int32) = 14 by decide), if_pos (show (20 : Int32) = 20 from rfl), if_neg (show ¬ (41 : Int32) = 13 by decide), if_neg (show ¬ (41 : Int32) = 14 by decide), if_neg (show ¬ (41 : Int32) = 34 by decide), if_pos (show (41 : Int32) = 41 from rfl), m_isnum t hb, bnd_eq]
    unfold xNeg f_Mod_single_212
    by_cases hn : x.1 = 2 ∨ x.1 = 3
    · rw [if_pos hn, if_neg (show ¬ (1 : Int32) = 0 by decide), n4' hn, neg0, u_id, u_id]
      by_cases q2 : x.1 = 2
      · rw [if_pos q2, if_pos q2, q2]
        exact push_num hh hb _ (by decide)
      · have q3 : x.1 = 3 := hn.resolve_left q2
        rw [if_neg q2, if_neg q2, if_pos q3, q3]
        exact push_num hh hb _ (by decide)
    · have q2 : ¬ x.1 = 2 := fun z => hn (Or.inl z)
      rw [if_neg hn, if_pos (show (0 : Int32) = 0 from rfl), if_neg q2, if_neg q2, if_neg (show ¬ x.1 = 3 from fun z => hn (Or.inr z)), u_id]
      exact push_any hh hb _ rfl (Or.inl rfl)
  · subst z1 z2
    rw [if_neg (show ¬ (21 : Int32) = 12 by decide), if_neg (show ¬ (21 : Int32) = 13 by decide), if_neg (show ¬ (21 : Int32) = 14 by decide), if_neg (show ¬ (21 : Int32) = 20 by decide), if_neg (show ¬ (34 : Int32) = 13 by decide), if_neg (show ¬ (34 : Int32) = 14 by decide), if_pos (show (34 : Int32) = 34 from rfl)]
    unfold xNot
    by_cases q1 : x.1 = 1
    · have e1 : gJ M5 203 h = x.2.1 := t.2.1 (Or.inl q1)
      have w : x.2.1 = 0 ∨ x.2.1 = 1 := by
        rcases hw with z | z | z | z | z | z
        · rw [q1] at z; exact absurd z (by decide)
        · have z := z.1; rw [q1] at z; exact absurd z (by decide)
        · exact z.2
        · rw [q1] at z; exact absurd z (by decide)
        · rw [q1] at z; exact absurd z (by decide)
        · rw [q1] at z; exact absurd z (by decide)
      rw [if_pos q1, if_pos q1, u_id, e1]
      rcases w with z | z
      · rw [z, if_neg (by decide)]
        exact push_num hh hb _ (by decide)
      · rw [z, if_pos rfl]
        exact push_num hh hb _ (by decide)
    · rw [if_neg q1, if_neg q1, u_id]
      exact push_any hh hb _ rfl (Or.inl rfl)
