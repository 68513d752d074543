/-! The step theorem: every part. -/
theorem step_op {i m a h d B : Nat} {c : Nat → Int32} {ar : Nat → Int64} {M0 M : ax_M} {x : xV} {op : Option (Unit × ax_M)} {a0 : Nat} (hC : CodeM M i c ar m) (ha : a < m) (hx : c a < 16 ∨ 18 < c a) (hs : ∀ K : Int32 → Int32 → Int32 → ax_M → Option (Unit × ax_M), f_Mod_work_61 K (nI i) (nI (48 * i)) (nI a) (c a) M = bnd op (fun _ m => K (nI i) (nI (48 * i)) (nI a + 1) m)) (hr : Runs i a0 a M0 M B) (hq : REq h d M0 M) (t : TOk h M x op) {C : Nat} (hB : B + 1 ≤ C) : ∃ M', Runs i a0 (a + 1) M0 M' C ∧ TRep M' h x ∧ gI M' 184 29 = nI (h + 1) ∧ REq h d M0 M' := by
  obtain ⟨M2, b1, b2, b3, b4⟩ := t
  exact ⟨M2, hr.tr (run_u hC ha hx b1 hs) hB, b2, b3, hq.tr (REq.ofs b4)⟩
theorem Runs.rf (i a : Nat) (M : ax_M) : Runs i a a M M 0 := ⟨0, Nat.le_refl _, fun _ => rfl⟩
theorem i32_hi {o k : Int32} (h : k ≤ o) (hk : 12 < k) : ¬ o ≤ 12 := fun z => absurd (Int32.le_trans h z) (Int32.not_le.mpr hk)
theorem two_cases {o : Int32} (ho : 21 ≤ o ∧ o ≤ 33) : o = 21 ∨ o = 22 ∨ o = 23 ∨ o = 24 ∨ o = 25 ∨ o = 26 ∨ o = 27 ∨ o = 28 ∨ o = 29 ∨ o = 30 ∨ o = 31 ∨ o = 32 ∨ o = 33 := by
  have a1 : (21 : Int) ≤ o.toInt := Int32.le_iff_toInt_le.mp ho.1
  have a2 : o.toInt ≤ (33 : Int) := Int32.le_iff_toInt_le.mp ho.2
  have e (k : Int32) (n : Int) (hk : k.toInt = n) : o.toInt = n → o = k := fun q => Int32.toInt_inj.mp (q.trans hk.symm)
  have h : o.toInt = 21 ∨ o.toInt = 22 ∨ o.toInt = 23 ∨ o.toInt = 24 ∨ o.toInt = 25 ∨ o.toInt = 26 ∨ o.toInt = 27 ∨ o.toInt = 28 ∨ o.toInt = 29 ∨ o.toInt = 30 ∨ o.toInt = 31 ∨ o.toInt = 32 ∨ o.toInt = 33 := by omega
  rcases h with h | h | h | h | h | h | h | h | h | h | h | h | h
  · exact Or.inl (e 21 21 (by decide) h)
  · exact Or.inr (Or.inl (e 22 22 (by decide) h))
  · exact Or.inr (Or.inr (Or.inl (e 23 23 (by decide) h)))
  · exact Or.inr (Or.inr (Or.inr (Or.inl (e 24 24 (by decide) h))))
  · exact Or.inr (Or.inr (Or.inr (Or.inr (Or.inl (e 25 25 (by decide) h)))))
  · exact Or.inr (Or.inr (Or.inr (Or.inr (Or.inr (Or.inl (e 26 26 (by decide) h))))))
  · exact Or.inr (Or.inr (Or.inr (Or.inr (Or.inr (Or.inr (Or.inl (e 27 27 (by decide) h)))))))
  · exact Or.inr (Or.inr (Or.inr (Or.inr (Or.inr (Or.inr (Or.inr (Or.inl (e 28 28 (by decide) h))))))))
  · exact Or.inr (Or.inr (Or.inr (Or.inr (Or.inr (Or.inr (Or.inr (Or.inr (Or.inl (e 29 29 (by decide) h)))))))))
  · exact Or.inr (Or.inr (Or.inr (Or.inr (Or.inr (Or.inr (Or.inr (Or.inr (Or.inr (Or.inl (e 30 30 (by decide) h))))))))))
  · exact Or.inr (Or.inr (Or.inr (Or.inr (Or.inr (Or.inr (Or.inr (Or.inr (Or.inr (Or.inr (Or.inl (e 31 31 (by decide) h)))))))))))
  · exact Or.inr (Or.inr (Or.inr (Or.inr (Or.inr (Or.inr (Or.inr (Or.inr (Or.inr (Or.inr (Or.inr (Or.inl (e 32 32 (by decide) h))))))))))))
  · exact Or.inr (Or.inr (Or.inr (Or.inr (Or.inr (Or.inr (Or.inr (Or.inr (Or.inr (Or.inr (Or.inr (Or.inr (e 33 33 (by decide) h))))))))))))
theorem evB_one {E : xRow} {ρ : xEnv} {V : Nat → Option Int32 → xV} {p q : Nat} {it : Option Int32} {o : Int32} (eo : E.1 p = o) (ho : o = 13 ∨ o = 14 ∨ o = 34 ∨ o = 41 ∨ o = 43) (hq : (E.2.1 p).toNatClampNeg = q) : evB E ρ V p it = if (V q it).1 = -1 then xErr else xOne ρ.s o (V q it) := by
  unfold evB
  rw [eo, hq]
  have n1 : ¬ o ≤ 12 := by rcases ho with z | z | z | z | z <;> rw [z] <;> decide
  have n2 : ¬ (o = 21 ∨ o = 22) := by rcases ho with z | z | z | z | z <;> rw [z] <;> decide
  have n3 : ¬ o = 37 := by rcases ho with z | z | z | z | z <;> rw [z] <;> decide
  have n4 : ¬ (38 ≤ o ∧ o ≤ 40) := by rcases ho with z | z | z | z | z <;> rw [z] <;> decide
  have n5 : ¬ o = 42 := by rcases ho with z | z | z | z | z <;> rw [z] <;> decide
  rw [if_neg n1, if_neg n2, if_neg n3, if_neg n4, if_neg n5, if_pos ho]
theorem evB_two {E : xRow} {ρ : xEnv} {V : Nat → Option Int32 → xV} {p f q : Nat} {it : Option Int32} {o : Int32} (eo : E.1 p = o) (ho : o = 17 ∨ o = 23 ∨ o = 24 ∨ o = 25 ∨ o = 26 ∨ o = 27 ∨ o = 28 ∨ o = 29 ∨ o = 30 ∨ o = 31 ∨ o = 32 ∨ o = 33) (hf : (E.2.1 p).toNatClampNeg = f) (hq : (E.2.2.1 p).toNatClampNeg = q) : evB E ρ V p it = if (V f it).1 = -1 then xErr else if (V q it).1 = -1 then xErr else xTwo o (V f it) (V q it) := by
  unfold evB
  rw [eo, hf, hq]
  have n1 : ¬ o ≤ 12 := by rcases ho with z | z | z | z | z | z | z | z | z | z | z | z <;> rw [z] <;> decide
  have n2 : ¬ (o = 21 ∨ o = 22) := by rcases ho with z | z | z | z | z | z | z | z | z | z | z | z <;> rw [z] <;> decide
  have n3 : ¬ o = 37 := by rcases ho with z | z | z | z | z | z | z | z | z | z | z | z <;> rw [z] <;> decide
  have n4 : ¬ (38 ≤ o ∧ o ≤ 40) := by rcases ho with z | z | z | z | z | z | z | z | z | z | z | z <;> rw [z] <;> decide
  have n5 : ¬ o = 42 := by rcases ho with z | z | z | z | z | z | z | z | z | z | z | z <;> rw [z] <;> decide
  have n6 : ¬ isOne o := by rcases ho with z | z | z | z | z | z | z | z | z | z | z | z <;> rw [z] <;> decide
  rw [if_neg n1, if_neg n2, if_neg n3, if_neg n4, if_neg n5, if_neg n6]
theorem evB_logic {E : xRow} {ρ : xEnv} {V : Nat → Option Int32 → xV} {p f q : Nat} {it : Option Int32} {o : Int32} (eo : E.1 p = o) (ho : o = 21 ∨ o = 22) (hf : (E.2.1 p).toNatClampNeg = f) (hq : (E.2.2.1 p).toNatClampNeg = q) : evB E ρ V p it = xLogic o (V f it) (V q it) := by
  unfold evB
  rw [eo, hf, hq]
  have n1 : ¬ o ≤ 12 := by rcases ho with z | z <;> rw [z] <;> decide
  rw [if_neg n1, if_pos ho]
theorem evB_ifno {E : xRow} {ρ : xEnv} {V : Nat → Option Int32 → xV} {p f q : Nat} {it : Option Int32} (eo : E.1 p = 37) (hf : (E.2.1 p).toNatClampNeg = f) (hq : (E.2.2.1 p).toNatClampNeg = q) : evB E ρ V p it = if (V f it).1 = 0 then V q it else V f it := by
  unfold evB
  rw [eo, hf, hq, if_neg (show ¬ (37 : Int32) ≤ 12 by decide), if_neg (show ¬ ((37 : Int32) = 21 ∨ (37 : Int32) = 22) by decide), if_pos (show (37 : Int32) = 37 from rfl)]
theorem evB_choice {E : xRow} {ρ : xEnv} {V : Nat → Option Int32 → xV} {p f q r : Nat} {it : Option Int32} (eo : E.1 p = 42) (hf : (E.2.1 p).toNatClampNeg = f) (hq : (E.2.2.1 p).toNatClampNeg = q) (hr : (E.2.2.2.1 p).toNatClampNeg = r) : evB E ρ V p it = xChoice (V f it) (V q it) (V r it) := by
  unfold evB
  rw [eo, hf, hq, hr, if_neg (show ¬ (42 : Int32) ≤ 12 by decide), if_neg (show ¬ ((42 : Int32) = 21 ∨ (42 : Int32) = 22) by decide), if_neg (show ¬ (42 : Int32) = 37 by decide), if_neg (show ¬ (38 ≤ (42 : Int32) ∧ (42 : Int32) ≤ 40) by decide), if_pos (show (42 : Int32) = 42 from rfl)]
theorem evB_search {E : xRow} {ρ : xEnv} {V : Nat → Option Int32 → xV} {p f q : Nat} {it : Option Int32} {o : Int32} (eo : E.1 p = o) (ho : 38 ≤ o ∧ o ≤ 40) (n1 : ¬ o ≤ 12) (n2 : ¬ (o = 21 ∨ o = 22)) (n3 : ¬ o = 37) (hf : (E.2.1 p).toNatClampNeg = f) (hq : (E.2.2.1 p).toNatClampNeg = q) : evB E ρ V p it = xSearch o (V f it) (fun k => V q (some k)) := by
  unfold evB
  rw [eo, hf, hq, if_neg n1, if_neg n2, if_neg n3, if_pos ho]
theorem three_cases {o : Int32} (ho : 38 ≤ o ∧ o ≤ 40) : o = 38 ∨ o = 39 ∨ o = 40 := by
  have a1 : (38 : Int) ≤ o.toInt := Int32.le_iff_toInt_le.mp ho.1
  have a2 : o.toInt ≤ (40 : Int) := Int32.le_iff_toInt_le.mp ho.2
  have e (k : Int32) (n : Int) (hk : k.toInt = n) : o.toInt = n → o = k := fun q => Int32.toInt_inj.mp (q.trans hk.symm)
  have h : o.toInt = 38 ∨ o.toInt = 39 ∨ o.toInt = 40 := by omega
  rcases h with h | h | h
  · exact Or.inl (e 38 38 (by decide) h)
  · exact Or.inr (Or.inl (e 39 39 (by decide) h))
  · exact Or.inr (Or.inr (e 40 40 (by decide) h))
theorem search_run {i m a b h d q A B C a0 : Nat} {c : Nat → Int32} {ar : Nat → Int64} {E : xRow} {ρ : xEnv} {it : Option Int32} {M M1 : ax_M} {x : xV} {o : Int32} (hE : EnvM M ρ it) (hC : CodeM M i c ar m) (q1 : REq h d M M1) (r1 : Runs i a0 a M M1 A) (t1 : TRep M1 h x) (g1 : gI M1 184 29 = nI (h + 1)) (h37 : gI M 184 37 = nI d) (hS : StepH i c ar m E ρ q (a + 1) b h (d + 1) B) (ha : a < m) (hbm : b < m) (hb : h < 48) (hd : d < 16) (ho : o = 38 ∨ o = 39 ∨ o = 40) (k3 : c a = o - 22) (k4 : ar a = lN b) (k5 : c b = 19) (k6 : ar b = lN a) (hB : A + 1 + 5 * (B + 1) ≤ C) : ∃ M', Runs i a0 (b + 1) M M' C ∧ TRep M' h (xSearch o x (fun k => evv E ρ q (some k))) ∧ gI M' 184 29 = nI (h + 1) ∧ REq h d M M' := by
  have E1 := q1.env hE
  have C1 := q1.code hC
  have h8 : gI M1 184 38 = 0 ∨ gI M1 184 38 = 1 := by
    have iv := E1.2.2.2.2.2.2.2.2
    match it, iv with
    | none, iv => exact Or.inl iv
    | some k, iv => exact Or.inr iv.1
  have d1 := q1.2.1.trans h37
  have n1 : ¬ c a < 16 := by rw [k3]; rcases ho with z | z | z <;> rw [z] <;> decide
  have n2 : ¬ 18 < c a := by rw [k3]; rcases ho with z | z | z <;> rw [z] <;> decide
  have c16 : c a = 16 ↔ o = 38 := by rw [k3]; rcases ho with z | z | z <;> rw [z] <;> decide
  have c18 : c a = 18 ↔ o = 40 := by rw [k3]; rcases ho with z | z | z <;> rw [z] <;> decide
  obtain ⟨w1, w2⟩ := mbegin_ok C1 ha k4 t1 g1 hb hd d1 h8
  by_cases l0 : x.1 = 4 → x.2.2.length = 0
  · obtain ⟨M2, e1, e2, e3, e4⟩ := w1 l0
    refine ⟨M2, r1.tr (run_begin C1 ha n1 n2 e1) (by omega), ?_, e3, q1.tr (REq.ofs e4)⟩
    have ev : xSearch o x (fun k => evv E ρ q (some k)) = if x.1 = 4 then (if c a = 16 then xL [] else xNo) else xErr := by
      unfold xSearch
      by_cases y : x.1 = 4
      · have e : x.2.2 = [] := List.eq_nil_of_length_eq_zero (l0 y)
        rw [if_pos y, if_pos y, e]
        by_cases z : o = 38
        · rw [if_pos z, if_pos (c16.mpr z)]
          rfl
        · rw [if_neg z, if_neg (fun w => z (c16.mp w))]
          by_cases z2 : o = 40
          · rw [if_pos z2]
            rfl
          · rw [if_neg z2]
            rfl
      · rw [if_neg y, if_neg y]
    rw [ev]
    exact e2
  · have y4 : x.1 = 4 := Classical.not_not.mp (fun z => l0 (fun w => absurd w z))
    have l1 : 0 < x.2.2.length := Nat.pos_of_ne_zero (fun z => l0 (fun _ => z))
    have l5 := (t1.2.2 y4).2.1
    obtain ⟨M2, e1, e2, e3, e4, e5, e6, e7⟩ := w2 y4 l1
    have ne : (if c a = 18 then x.2.2.reverse else x.2.2) ≠ [] := by
      intro z
      have : (if c a = 18 then x.2.2.reverse else x.2.2).length = 0 := by rw [z]; rfl
      by_cases w : c a = 18
      · rw [if_pos w, List.length_reverse] at this; omega
      · rw [if_neg w] at this; omega
    obtain ⟨k, rest, hk⟩ : ∃ k rest, (if c a = 18 then x.2.2.reverse else x.2.2) = k :: rest := by
      cases h : (if c a = 18 then x.2.2.reverse else x.2.2) with
      | nil => exact absurd h ne
      | cons k rest => exact ⟨k, rest, rfl⟩
    have hps := ps_get (pre := []) (rest := rest) (k := k) (rfl : (if c a = 18 then x.2.2.reverse else x.2.2) = if c a = 18 then x.2.2.reverse else x.2.2) hk
    have ep : ps (c a) x.2.2.length ([] : List Int32).length = if c a = 18 then x.2.2.length - 1 else 0 := rfl
    rw [ep] at hps
    rw [hps.2] at e6
    have E2 : EnvM M2 ρ (some k) := E1.any e2 ⟨e5, e6⟩
    have C2 : CodeM M2 i c ar m := C1.eq (S := Xi h d) (fun c k z => by unfold Xi Xc Xs at z; omega) e2
    obtain ⟨M3, f1, f2, f3, f4, f5, f6, f7⟩ := loop_lp ha hbm k5 k6 hb hd l5 rfl h8 hS rest [] [] k M2 hk (Nat.le_refl _) E2 C2 e3 e4 e7
    have lr : rest.length + 1 ≤ 5 := by
      have : (if c a = 18 then x.2.2.reverse else x.2.2).length = rest.length + 1 := by rw [hk]; rfl
      by_cases w : c a = 18
      · rw [if_pos w, List.length_reverse] at this; omega
      · rw [if_neg w] at this; omega
    have mb : (rest.length + 1) * (B + 1) ≤ 5 * (B + 1) := Nat.mul_le_mul_right _ lr
    refine ⟨M3, (r1.tr (run_begin C1 ha n1 n2 e1) (Nat.le_refl _)).tr f1 (by omega), ?_, f3, (q1.1.tr e2).tr f7, f4.trans h37.symm, f5.trans q1.2.2.1, f6.trans q1.2.2.2⟩
    have ev : xSearch o x (fun k => evv E ρ q (some k)) = lRes (c a) (fun k => evv E ρ q (some k)) [] (k :: rest) := by
      unfold xSearch lRes
      rw [if_pos y4, ← hk]
      by_cases z : o = 38
      · rw [if_pos z, if_pos (c16.mpr z), if_neg (show ¬ c a = 18 by rw [c16.mpr z]; decide)]
        cases xSift (fun k => evv E ρ q (some k)) x.2.2 with
        | none => rfl
        | some r => rfl
      · rw [if_neg z, if_neg (fun w => z (c16.mp w))]
        by_cases z2 : o = 40
        · rw [if_pos z2, if_pos (c18.mpr z2)]
        · rw [if_neg z2, if_neg (fun w => z2 (c18.mp w))]
    rw [ev]
    exact f2
theorem step_ok {i m n : Nat} {c : Nat → Int32} {ar : Nat → Int64} {E : xRow} {ρ : xEnv} {lo be en : Nat → Nat} (hn : n ≤ 20) (hw : WfR ρ.r) (hN : ∀ p, p < n → lo p ≤ p ∧ Node E c ar lo be en p) : ∀ p, p < n → ∀ h d, en p < m → h + (p + 1 - lo p) ≤ 20 → 2 * d + (p + 1 - lo p) ≤ 20 → StepH i c ar m E ρ p (be p) (en p + 1) h d (7 ^ (p + 1 - lo p)) := by
  intro p
  induction p using Nat.strongRecOn with
  | _ p ih =>
    intro hp h d hen hh hd it M hE hC h29 h37
    have lp := (hN p hp).1
    rw [evv_eq]
    generalize hV0 : (fun (q : Nat) (j : Option Int32) => if q < p then evv E ρ q j else xErr) = V
    have hV : ∀ q, q < p → ∀ j, V q j = evv E ρ q j := fun q hq j => by rw [← hV0]; exact if_pos hq
    rcases (hN p hp).2 with ⟨a1, a2, a3, a4, a5, a6, a7⟩ | ⟨q, a1, a2, a3, a4, a5, a6⟩ | ⟨f, q, a1, a2, a3, a4, a5, a6, a7, a8, a9⟩ | ⟨f, q, a1, a2, a3, a4, a5, a6, a7, a8, a9⟩ | ⟨f, r, q, a1, a2, a3, a4, a5, a6, a7, a8, a9, a10, a11, a12, a13⟩
    · have ev : evB E ρ V p it = xLeaf ρ it (E.1 p) (ar (en p)) := by
        unfold evB
        rw [if_pos a2]
        exact xLeaf_n (fun z => (a6 z).symm)
      have c11 : c (en p) ≤ 11 := by
        rw [a5]
        rcases leaf_cases ⟨a1, a2⟩ with z | z | z | z | z | z | z | z | z | z | z <;> rw [z] <;> decide
      rw [ev, a4]
      refine step_op hC hen (Or.inl (Int32.lt_of_le_of_lt c11 (by decide))) (fun K => s_leaf hC hen c11 K) (Runs.rf i _ M) (REq.rf M) ?_ (by have := p7_pos (p + 1 - lo p) (by omega); omega)
      rw [a5]
      exact mleaf_ok hE hw h29 (by omega) ⟨a1, a2⟩ (fun z => by rw [a6 (by rw [z]; decide)]; exact a7 z)
    · have hq : q < p := by omega
      obtain ⟨M1, r1, t1, g1, q1⟩ := ih q hq (by omega) h d (by omega) (by omega) (by omega) it M hE hC h29 h37
      have co : cOne (E.1 p) (c (en p)) := by
        unfold cOne
        rcases a6 with z | z | z | z | z
        · exact Or.inl z
        · exact Or.inr (Or.inl z)
        · exact Or.inr (Or.inr (Or.inl z))
        · exact Or.inr (Or.inr (Or.inr (Or.inl z)))
        · exact Or.inr (Or.inr (Or.inr (Or.inr z)))
      have ev : evB E ρ V p it = if (evv E ρ q it).1 = -1 then xErr else xOne ρ.s (E.1 p) (evv E ρ q it) := by
        have e0 := evB_one (ρ := ρ) (V := V) (it := it) (q := q) (rfl : E.1 p = E.1 p) (by rcases a6 with z | z | z | z | z <;> rw [z.1] <;> decide) (by rw [a2, nI_clamp (by omega)])
        rw [hV q hq] at e0
        exact e0
      have s1 : c (en p) = 12 ∨ c (en p) = 13 ∨ c (en p) = 14 ∨ c (en p) = 20 ∨ c (en p) = 21 := by
        rcases a6 with z | z | z | z | z
        · exact Or.inl z.2
        · exact Or.inr (Or.inl z.2)
        · exact Or.inr (Or.inr (Or.inl z.2))
        · exact Or.inr (Or.inr (Or.inr (Or.inl z.2)))
        · exact Or.inr (Or.inr (Or.inr (Or.inr z.2)))
      have s2 : c (en p) < 16 ∨ 18 < c (en p) := by rcases s1 with z | z | z | z | z <;> rw [z] <;> decide
      rw [ev, a4]
      rw [← a5] at r1
      exact step_op (q1.code hC) hen s2 (fun K => s_one s1 K) r1 q1 (msingle_ok (q1.env hE) t1 (wf_evv hw q it) g1 (by omega) co) (by have := p7_1 (q + 1 - lo q); rw [show p + 1 - lo p = q + 1 - lo q + 1 by have := (hN q (by omega)).1; omega]; exact this)
    · have hq : q < p := by omega
      have lq := (hN q (by omega)).1
      have hf : f < p := by omega
      have lf := (hN f (by omega)).1
      have bq := be_en hN q (by omega)
      obtain ⟨M1, r1, t1, g1, q1⟩ := ih f hf (by omega) h d (by omega) (by omega) (by omega) it M hE hC h29 h37
      obtain ⟨M2, r2, t2, g2, q2⟩ := ih q hq (by omega) (h + 1) d (by omega) (by omega) (by omega) it M1 (q1.env hE) (q1.code hC) g1 (q1.2.1.trans h37)
      have t1' := q2.trep t1 (Nat.lt_succ_self h)
      have q12 : REq h d M M2 := q1.tr (q2.up (by omega) (Nat.le_refl _))
      rw [a7] at r2
      have r12 := r1.tr r2 (Nat.le_refl _)
      rw [← a8, ← a6] at r12
      have bd : 7 ^ (f + 1 - lo f) + 7 ^ (q + 1 - lo q) + 1 ≤ 7 ^ (p + 1 - lo p) := by
        have := p7_2 (a := f + 1 - lo f) (b := q + 1 - lo q) (by omega) (by omega)
        rw [show p + 1 - lo p = f + 1 - lo f + (q + 1 - lo q) + 1 by omega]
        omega
      have C2 := q12.code hC
      have wf1 := wf_evv (E := E) hw f it
      have wf2 := wf_evv (E := E) hw q it
      have op2 : ∀ (o a : Int32), E.1 p = o → c (en p) = a → cTwo o a → evB E ρ V p it = (if (evv E ρ f it).1 = -1 then xErr else if (evv E ρ q it).1 = -1 then xErr else xTwo o (evv E ρ f it) (evv E ρ q it)) → (a = 15 ∨ a = 24 ∨ a = 25 ∨ a = 26 ∨ a = 27 ∨ a = 28 ∨ a = 29 ∨ a = 30 ∨ a = 31 ∨ a = 32 ∨ a = 33 ∨ a = 34) → ∃ M', Runs i (be p) (en p + 1) M M' (7 ^ (p + 1 - lo p)) ∧ TRep M' h (evB E ρ V p it) ∧ gI M' 184 29 = nI (h + 1) ∧ REq h d M M' := by
        intro o a eo ea co ev s1
        rw [ev]
        refine step_op C2 hen ?_ (fun K => ?_) r12 q12 (mpair_ok (o := o) (a := a) t1' t2 wf1 wf2 g2 (by omega) co) bd
        · rw [ea]
          rcases s1 with z | z | z | z | z | z | z | z | z | z | z | z <;> rw [z] <;> decide
        · rw [ea]
          exact s_pair s1 K
      have lg : ∀ (o : Int32), E.1 p = o → c (en p) = o + 1 → (o = 21 ∨ o = 22) → ∃ M', Runs i (be p) (en p + 1) M M' (7 ^ (p + 1 - lo p)) ∧ TRep M' h (evB E ρ V p it) ∧ gI M' 184 29 = nI (h + 1) ∧ REq h d M M' := by
        intro o eo ea ho
        have ev : evB E ρ V p it = xLogic o (evv E ρ f it) (evv E ρ q it) := by
          have e0 := evB_logic (ρ := ρ) (V := V) (it := it) (f := f) (q := q) eo ho (by rw [a3, nI_clamp (by omega)]) (by rw [a4, nI_clamp (by omega)])
          rw [hV f hf, hV q hq] at e0
          exact e0
        rw [ev]
        refine step_op C2 hen ?_ (fun K => ?_) r12 q12 (m_logic (o := o) (by omega) g2 t1' t2 wf1 ho) bd
        · rw [ea]
          rcases ho with z | z <;> rw [z] <;> decide
        · rw [ea]
          exact s_choose (by rcases ho with z | z <;> rw [z] <;> decide) K
      have e2 : ∀ (o : Int32), E.1 p = o → (o = 17 ∨ o = 23 ∨ o = 24 ∨ o = 25 ∨ o = 26 ∨ o = 27 ∨ o = 28 ∨ o = 29 ∨ o = 30 ∨ o = 31 ∨ o = 32 ∨ o = 33) → evB E ρ V p it = (if (evv E ρ f it).1 = -1 then xErr else if (evv E ρ q it).1 = -1 then xErr else xTwo o (evv E ρ f it) (evv E ρ q it)) := by
        intro o eo ho
        have e0 := evB_two (ρ := ρ) (V := V) (it := it) (f := f) (q := q) eo ho (by rw [a3, nI_clamp (by omega)]) (by rw [a4, nI_clamp (by omega)])
        rw [hV f hf, hV q hq] at e0
        exact e0
      rcases a9 with ⟨k1, k2, k3⟩ | ⟨k1, k2⟩ | ⟨k1, k2⟩
      · rcases two_cases ⟨k1, k2⟩ with z | z | z | z | z | z | z | z | z | z | z | z | z
        · exact lg 21 z (by rw [k3, z]) (Or.inl rfl)
        · exact lg 22 z (by rw [k3, z]) (Or.inr rfl)
        · exact op2 23 24 z (by rw [k3, z]; rfl) (by unfold cTwo; decide) (e2 23 z (by decide)) (by decide)
        · exact op2 24 25 z (by rw [k3, z]; rfl) (by unfold cTwo; decide) (e2 24 z (by decide)) (by decide)
        · exact op2 25 26 z (by rw [k3, z]; rfl) (by unfold cTwo; decide) (e2 25 z (by decide)) (by decide)
        · exact op2 26 27 z (by rw [k3, z]; rfl) (by unfold cTwo; decide) (e2 26 z (by decide)) (by decide)
        · exact op2 27 28 z (by rw [k3, z]; rfl) (by unfold cTwo; decide) (e2 27 z (by decide)) (by decide)
        · exact op2 28 29 z (by rw [k3, z]; rfl) (by unfold cTwo; decide) (e2 28 z (by decide)) (by decide)
        · exact op2 29 30 z (by rw [k3, z]; rfl) (by unfold cTwo; decide) (e2 29 z (by decide)) (by decide)
        · exact op2 30 31 z (by rw [k3, z]; rfl) (by unfold cTwo; decide) (e2 30 z (by decide)) (by decide)
        · exact op2 31 32 z (by rw [k3, z]; rfl) (by unfold cTwo; decide) (e2 31 z (by decide)) (by decide)
        · exact op2 32 33 z (by rw [k3, z]; rfl) (by unfold cTwo; decide) (e2 32 z (by decide)) (by decide)
        · exact op2 33 34 z (by rw [k3, z]; rfl) (by unfold cTwo; decide) (e2 33 z (by decide)) (by decide)
      · exact op2 17 15 k1 k2 (by unfold cTwo; decide) (e2 17 k1 (by decide)) (by decide)
      · have ev : evB E ρ V p it = if (evv E ρ f it).1 = 0 then evv E ρ q it else evv E ρ f it := by
          have e0 := evB_ifno (ρ := ρ) (V := V) (it := it) (f := f) (q := q) k1 (by rw [a3, nI_clamp (by omega)]) (by rw [a4, nI_clamp (by omega)])
          rw [hV f hf, hV q hq] at e0
          exact e0
        rw [ev]
        refine step_op C2 hen (by rw [k2]; decide) (fun K => ?_) r12 q12 (m_ifno (by omega) g2 t1' t2) bd
        rw [k2]
        exact s_choose (by decide) K
    · obtain ⟨k1, k2, k3, k4, k5, k6⟩ := a9
      have hq : q < p := by omega
      have lq := (hN q (by omega)).1
      have hf : f < p := by omega
      have lf := (hN f (by omega)).1
      have bq := be_en hN q (by omega)
      have ev0 := evB_search (ρ := ρ) (V := V) (it := it) (f := f) (q := q) (rfl : E.1 p = E.1 p) ⟨k1, k2⟩ (i32_hi k1 (by decide)) (fun z => by rcases z with z | z <;> rw [z] at k1 <;> revert k1 <;> decide) (fun z => by rw [z] at k1; revert k1; decide) (by rw [a3, nI_clamp (by omega)]) (by rw [a4, nI_clamp (by omega)])
      have eV : (fun k => V q (some k)) = (fun k => evv E ρ q (some k)) := funext fun k => hV q hq _
      rw [hV f hf, eV] at ev0
      obtain ⟨M1, r1, t1, g1, q1⟩ := ih f hf (by omega) h d (by omega) (by omega) (by omega) it M hE hC h29 h37
      have hS : StepH i c ar m E ρ q (en f + 1 + 1) (en p) h (d + 1) (7 ^ (q + 1 - lo q)) := by
        have z := ih q hq (by omega) h (d + 1) (by omega) (by omega) (by omega)
        rw [a7, ← a8] at z
        exact z
      rw [ev0, a6]
      exact search_run hE hC q1 r1 t1 g1 h37 hS (by omega) hen (by omega) (by omega) (three_cases ⟨k1, k2⟩) k3 k4 k5 k6 (by
        have := p7_2 (a := f + 1 - lo f) (b := q + 1 - lo q) (by omega) (by omega)
        rw [show p + 1 - lo p = f + 1 - lo f + (q + 1 - lo q) + 1 by omega]
        exact this)
    · have hq : q < p := by omega
      have lq := (hN q (by omega)).1
      have hr : r < p := by omega
      have lr := (hN r (by omega)).1
      have hf : f < p := by omega
      have lf := (hN f (by omega)).1
      have bq := be_en hN q (by omega)
      have br := be_en hN r (by omega)
      obtain ⟨M1, r1, t1, g1, q1⟩ := ih f hf (by omega) h d (by omega) (by omega) (by omega) it M hE hC h29 h37
      obtain ⟨M2, r2, t2, g2, q2⟩ := ih r hr (by omega) (h + 1) d (by omega) (by omega) (by omega) it M1 (q1.env hE) (q1.code hC) g1 (q1.2.1.trans h37)
      have q12 : REq h d M M2 := q1.tr (q2.up (by omega) (Nat.le_refl _))
      obtain ⟨M3, r3, t3, g3, q3⟩ := ih q hq (by omega) (h + 2) d (by omega) (by omega) (by omega) it M2 (q12.env hE) (q12.code hC) g2 (q12.2.1.trans h37)
      have t1' := q3.trep (q2.trep t1 (Nat.lt_succ_self h)) (by omega)
      have t2' := q3.trep t2 (Nat.lt_succ_self (h + 1))
      have q13 : REq h d M M3 := q12.tr (q3.up (by omega) (Nat.le_refl _))
      rw [a9] at r2
      rw [a10] at r3
      have r13 := (r1.tr r2 (Nat.le_refl _)).tr r3 (Nat.le_refl _)
      rw [← a11, ← a8] at r13
      have bd : 7 ^ (f + 1 - lo f) + 7 ^ (r + 1 - lo r) + 7 ^ (q + 1 - lo q) + 1 ≤ 7 ^ (p + 1 - lo p) := by
        have := p7_3 (a := f + 1 - lo f) (b := r + 1 - lo r) (c := q + 1 - lo q) (by omega) (by omega) (by omega)
        rw [show p + 1 - lo p = f + 1 - lo f + (r + 1 - lo r) + (q + 1 - lo q) + 1 by omega]
        exact this
      have ev : evB E ρ V p it = xChoice (evv E ρ f it) (evv E ρ r it) (evv E ρ q it) := by
        have e0 := evB_choice (ρ := ρ) (V := V) (it := it) (f := f) (q := r) (r := q) a12 (by rw [a4, nI_clamp (by omega)]) (by rw [a5, nI_clamp (by omega)]) (by rw [a6, nI_clamp (by omega)])
        rw [hV f hf, hV q hq, hV r hr] at e0
        exact e0
      rw [ev]
      refine step_op (q13.code hC) hen (by rw [a13]; decide) (fun K => ?_) r13 q13 (m_choice (by omega) g3 t1' t2' t3) bd
      rw [a13]
      exact s_choose (by decide) K
