/-! The worker gives the value of a part. -/
theorem i32_ne {o k : Int32} {n m : Int} (ho : o.toInt = n) (hk : k.toInt = m) (h : n ≠ m) : ¬ o = k := fun q => h (by rw [← ho, ← hk, q])
theorem res_vok {lo p : Nat} {M M1 : ax_M} {x : xV} {o : Option (Nat × ax_M)} (hl : lo ≤ p) (h1 : EqO (Rws lo p) M M1) (he : VRep M1 70 xErr) (h : Res M1 (75 + 3 * p) x o) : VOk lo p M x o := by
  rcases h with h | ⟨h, h2⟩
  · exact VOk.put hl h1 h
  · rw [h]
    exact VOk.err h1 he h2
/-- the sorts of parts, as numbers -/
theorem node_sort {E : xRow} {c : Nat → Int32} {ar : Nat → Int64} {lo be en : Nat → Nat} {p : Nat} (hn : Node E c ar lo be en p) :
    (2 ≤ (E.1 p).toInt ∧ (E.1 p).toInt ≤ 12 ∧ lo p = p) ∨
    (((E.1 p).toInt = 13 ∨ (E.1 p).toInt = 14 ∨ (E.1 p).toInt = 34 ∨ (E.1 p).toInt = 41 ∨ (E.1 p).toInt = 43) ∧ ∃ f, p = f + 1 ∧ E.2.1 p = nI f ∧ lo p = lo f) ∨
    (((E.1 p).toInt = 17 ∨ (21 ≤ (E.1 p).toInt ∧ (E.1 p).toInt ≤ 33) ∨ (37 ≤ (E.1 p).toInt ∧ (E.1 p).toInt ≤ 40)) ∧ ∃ f q, p = q + 1 ∧ lo q = f + 1 ∧ E.2.1 p = nI f ∧ E.2.2.1 p = nI q ∧ lo p = lo f) ∨
    ((E.1 p).toInt = 42 ∧ ∃ f h q, p = q + 1 ∧ lo q = h + 1 ∧ lo h = f + 1 ∧ E.2.1 p = nI f ∧ E.2.2.1 p = nI h ∧ E.2.2.2.1 p = nI q ∧ lo p = lo f) := by
  have lit : ∀ {k : Int32} {n : Int}, E.1 p = k → k.toInt = n → (E.1 p).toInt = n := fun a b => by rw [a]; exact b
  rcases hn with ⟨a1, a2, a3, _⟩ | ⟨q, a1, a2, a3, _, _, a4⟩ | ⟨f, q, a1, a2, a3, a4, a5, _, _, _, a6⟩ | ⟨f, q, a1, a2, a3, a4, a5, _, _, _, a6, a7, _⟩ | ⟨f, h, q, a1, a2, a3, a4, a5, a6, a7, _, _, _, _, a8, _⟩
  · exact Or.inl ⟨Int32.le_iff_toInt_le.mp a1, Int32.le_iff_toInt_le.mp a2, a3⟩
  · refine Or.inr (Or.inl ⟨?_, q, a1, a2, a3⟩)
    rcases a4 with ⟨z, _⟩ | ⟨z, _⟩ | ⟨z, _⟩ | ⟨z, _⟩ | ⟨z, _⟩
    · exact Or.inl (lit z (by decide))
    · exact Or.inr (Or.inl (lit z (by decide)))
    · exact Or.inr (Or.inr (Or.inr (Or.inr (lit z (by decide)))))
    · exact Or.inr (Or.inr (Or.inr (Or.inl (lit z (by decide)))))
    · exact Or.inr (Or.inr (Or.inl (lit z (by decide))))
  · refine Or.inr (Or.inr (Or.inl ⟨?_, f, q, a1, a2, a3, a4, a5⟩))
    rcases a6 with ⟨z, z2, _⟩ | ⟨z, _⟩ | ⟨z, _⟩
    · exact Or.inr (Or.inl ⟨Int32.le_iff_toInt_le.mp z, Int32.le_iff_toInt_le.mp z2⟩)
    · exact Or.inl (lit z (by decide))
    · have := lit (n := 37) z (by decide)
      exact Or.inr (Or.inr ⟨by omega, by omega⟩)
  · have z1 := Int32.le_iff_toInt_le.mp a6
    have z2 := Int32.le_iff_toInt_le.mp a7
    have c1 : (38 : Int32).toInt = 38 := by decide
    have c2 : (40 : Int32).toInt = 40 := by decide
    rw [c1] at z1
    rw [c2] at z2
    exact Or.inr (Or.inr (Or.inl ⟨Or.inr (Or.inr ⟨by omega, by omega⟩), f, q, a1, a2, a3, a4, a5⟩))
  · exact Or.inr (Or.inr (Or.inr ⟨lit a8 (by decide), f, h, q, a1, a2, a3, a4, a5, a6, a7⟩))
theorem i32_of {o : Int32} {k : Int32} {n : Int} (ho : o.toInt = n) (hk : k.toInt = n) : o = k := Int32.toInt_inj.mp (ho.trans hk.symm)
theorem i32_nle {o k : Int32} {m : Int} (hk : k.toInt = m) (h : ¬ o.toInt ≤ m) : ¬ o ≤ k := fun q => h (by rw [← hk]; exact Int32.le_iff_toInt_le.mp q)
theorem i32_no {o k : Int32} {m : Int} (hk : k.toInt = m) (h : o.toInt ≠ m) : ¬ o = k := fun q => h (by rw [q, hk])
theorem vb_ok {M : ax_M} {e : Nat} {E : xRow} {ρ : xEnv} {it : Option Int32} {c : Nat → Int32} {ar : Nat → Int64} {lo be en : Nat → Nat} {v : Int32 → Int32 → ax_M → Option (Nat × ax_M)} {p ab : Nat} (hn : ∀ q, q ≤ p → lo q ≤ q ∧ Node E c ar lo be en q) (hv : VH e E ρ lo v p) (h : EnvC M e E ρ it) (hp : p < ab) (hb : ab ≤ 20) : VOk (lo p) p M (evv E ρ p it) (fb_Worker_valueOf v (nI p) (nI ab) M) := by
  have hp20 : p < 20 := by omega
  unfold fb_Worker_valueOf
  rw [if_neg (nI_pos (by omega)), if_neg (show ¬ nI ab ≤ nI p from fun z => by have := (nI_leI (by omega) (by omega)).mp z; omega), if_pos (show nI ab ≤ 20 from (nI_leI (b := 20) (by omega) (by omega)).mpr hb), kM_eq, h.ex, gk_pos h.ek, gi_nI hp20 (by decide), kM_eq, nI_clamp (by omega), h.s1, evv_eq]
  generalize ho : E.1 p = o
  have hN := (hn p (Nat.le_refl _)).2
  have lp := (hn p (Nat.le_refl _)).1
  have hsort := node_sort hN
  rw [ho] at hsort
  generalize hV0 : (fun (q : Nat) (j : Option Int32) => if q < p then evv E ρ q j else xErr) = V
  have hV : ∀ q, q < p → ∀ j, V q j = evv E ρ q j := fun q hq j => by rw [← hV0]; exact if_pos hq
  unfold evB
  rw [ho]
  rcases hsort with ⟨a1, a2, a3⟩ | ⟨a, f, a1, a2, a3⟩ | ⟨a, f, q, a1, a2, a3, a4, a5⟩ | ⟨a, f, r, q, a1, a2, a3, a4, a5, a6, a7⟩
  · have n (k : Int32) (m : Int) (hk : k.toInt = m) (hm : 12 < m) : ¬ o = k := i32_no hk (by omega)
    have g1 : 2 ≤ o := Int32.le_iff_toInt_le.mpr a1
    have g2 : o ≤ 12 := Int32.le_iff_toInt_le.mpr a2
    rw [if_pos g2]
    rw [if_neg (n 21 21 (by decide) (by omega)), if_neg (n 22 22 (by decide) (by omega)), if_neg (n 37 37 (by decide) (by omega)), if_neg (n 38 38 (by decide) (by omega)), if_neg (n 39 39 (by decide) (by omega)), if_neg (n 40 40 (by decide) (by omega)), if_neg (n 42 42 (by decide) (by omega))]
    unfold f_Tok_isLeaf
    rw [if_neg (Int32.not_lt.mpr g1), if_neg (Int32.not_lt.mpr g2), bnd_eq, if_neg (show ¬ (1 : Int32) = 0 by decide), kM_eq, h.ex, gk_pos h.ek, kM_eq, h.s5, bnd_id]
    rw [a3]
    exact leaf_ok h hp20 o ⟨g1, g2⟩ _
  · have n (k : Int32) (m : Int) (hk : k.toInt = m) (hm : m ≠ 13 ∧ m ≠ 14 ∧ m ≠ 34 ∧ m ≠ 41 ∧ m ≠ 43) : ¬ o = k := i32_no hk (by omega)
    have hone : o = 13 ∨ o = 14 ∨ o = 34 ∨ o = 41 ∨ o = 43 := by
      rcases a with z | z | z | z | z
      · exact Or.inl (i32_of z (by decide))
      · exact Or.inr (Or.inl (i32_of z (by decide)))
      · exact Or.inr (Or.inr (Or.inl (i32_of z (by decide))))
      · exact Or.inr (Or.inr (Or.inr (Or.inl (i32_of z (by decide)))))
      · exact Or.inr (Or.inr (Or.inr (Or.inr (i32_of z (by decide)))))
    have n21 := n 21 21 (by decide) (by omega)
    have n22 := n 22 22 (by decide) (by omega)
    have n37 := n 37 37 (by decide) (by omega)
    have n38 := n 38 38 (by decide) (by omega)
    have n39 := n 39 39 (by decide) (by omega)
    have n40 := n 40 40 (by decide) (by omega)
    have n42 := n 42 42 (by decide) (by omega)
    have n12 : ¬ o ≤ 12 := i32_nle (m := 12) (by decide) (by omega)
    have n2 : ¬ o < 2 := fun z => n12 (Int32.le_of_lt (Int32.lt_trans z (by decide)))
    have nr : ¬ (38 ≤ o ∧ o ≤ 40) := fun z => by
      have z1 := Int32.le_iff_toInt_le.mp z.1
      have z2 := Int32.le_iff_toInt_le.mp z.2
      have c1 : (38 : Int32).toInt = 38 := by decide
      have c2 : (40 : Int32).toInt = 40 := by decide
      rw [c1] at z1
      rw [c2] at z2
      omega
    rw [if_neg n21, if_neg n22, if_neg n37, if_neg n38, if_neg n39, if_neg n40, if_neg n42, if_neg n12, if_neg (show ¬ (o = 21 ∨ o = 22) from fun z => z.elim n21 n22), if_neg n37, if_neg nr, if_neg n42]
    unfold f_Tok_isLeaf
    have hfp : f < p := by omega
    rw [if_neg n2, if_pos (Int32.not_le.mp n12), bnd_eq, if_pos (show (0 : Int32) = 0 from rfl), kM_eq, h.ex, gk_pos h.ek, h.s2, a2, nI_clamp (by omega), hV f hfp]
    obtain ⟨v1, M1, b1, b2, b3, b4⟩ := hv f hfp p hfp (by omega) it M h
    have h1 := h.eq (b3.mono (rws_wk (by omega)))
    have r1 : EqO (Rws (lo p) p) M M1 := b3.mono (rws_in (by omega) (by omega))
    rw [b1, bnd_eq, gk_pos b2.1, is_err b2, bnd_eq]
    by_cases k1 : (evv E ρ f it).1 = -1
    · rw [if_pos k1, if_pos k1, if_neg (show ¬ (1 : Int32) = 0 by decide)]
      exact VOk.err r1 h1.er0 rfl
    · rw [if_neg k1, if_neg k1, if_pos (show (0 : Int32) = 0 from rfl), if_pos hone]
      have e1 : f_Tok_isOfOne o M1 = some (1, M1) := by
        unfold f_Tok_isOfOne
        rcases hone with z | z | z | z | z <;> rw [z] <;> rfl
      rw [e1, bnd_eq, if_neg (show ¬ (1 : Int32) = 0 by decide), kM_eq, bnd_id]
      rcases one_ok (t := 75 + 3 * p) b2 (kd_row hp20) h.rs h1.rc hone with z | ⟨z1, z2⟩ | ⟨z1, z2⟩
      · exact VOk.put lp r1 z
      · rw [z1]
        exact VOk.err r1 h1.er0 z2
      · rw [z1, z2]
        exact ⟨v1, M1, rfl, b2, r1, b4.in (by omega) (by omega)⟩
  · have hqp : q < p := by omega
    have lq := (hn q (by omega)).1
    have hfp : f < p := by omega
    have lf := (hn f (by omega)).1
    have n12 : ¬ o ≤ 12 := i32_nle (m := 12) (by decide) (by omega)
    have n2 : ¬ o < 2 := fun z => n12 (Int32.le_of_lt (Int32.lt_trans z (by decide)))
    rw [if_neg n12, a3, a4, nI_clamp (by omega), nI_clamp (by omega), hV f hfp, hV q hqp]
    by_cases k21 : o = 21
    · rw [if_pos k21, if_pos k21, if_pos (show o = 21 ∨ o = 22 from Or.inl k21), bnd_id]
      exact logic_ok hv h hp20 hfp hqp (by omega) (by omega) a3 a4 (Or.inl ⟨rfl, k21⟩)
    rw [if_neg k21]
    by_cases k22 : o = 22
    · rw [if_pos k22, if_neg k21, if_pos (show o = 21 ∨ o = 22 from Or.inr k22), bnd_id]
      exact logic_ok hv h hp20 hfp hqp (by omega) (by omega) a3 a4 (Or.inr ⟨rfl, k21⟩)
    rw [if_neg k22, if_neg (show ¬ (o = 21 ∨ o = 22) from fun z => z.elim k21 k22)]
    by_cases k37 : o = 37
    · rw [if_pos k37, if_pos k37, bnd_id]
      exact ifno_ok hv h hp20 hfp hqp (by omega) (by omega) a3 a4
    rw [if_neg k37, if_neg k37]
    have sr : 38 ≤ o ∧ o ≤ 40 → VOk (lo p) p M (if 38 ≤ o ∧ o ≤ 40 then xSearch o (evv E ρ f it) (fun k => V q (some k)) else if o = 42 then xChoice (evv E ρ f it) (evv E ρ q it) (V (E.2.2.2.1 p).toNatClampNeg it) else if (evv E ρ f it).1 = -1 then xErr else if o = 13 ∨ o = 14 ∨ o = 34 ∨ o = 41 ∨ o = 43 then xOne ρ.s o (evv E ρ f it) else if (evv E ρ q it).1 = -1 then xErr else xTwo o (evv E ρ f it) (evv E ρ q it)) (f_Worker_valueOfSearch v (nI p) o M) := by
      intro z
      rw [if_pos z]
      have e1 : (fun k => V q (some k)) = (fun k => evv E ρ q (some k)) := funext fun k => hV q hqp _
      rw [e1]
      exact search_ok hv h hp20 hfp hqp (by omega) lf a2 a3 a4
    by_cases k38 : o = 38
    · rw [if_pos k38, bnd_id]
      exact sr (by rw [k38]; decide)
    rw [if_neg k38]
    by_cases k39 : o = 39
    · rw [if_pos k39, bnd_id]
      exact sr (by rw [k39]; decide)
    rw [if_neg k39]
    by_cases k40 : o = 40
    · rw [if_pos k40, bnd_id]
      exact sr (by rw [k40]; decide)
    rw [if_neg k40]
    have f37 : o.toInt ≠ 37 := fun z => k37 (i32_of z (by decide))
    have f38 : o.toInt ≠ 38 := fun z => k38 (i32_of z (by decide))
    have f39 : o.toInt ≠ 39 := fun z => k39 (i32_of z (by decide))
    have f40 : o.toInt ≠ 40 := fun z => k40 (i32_of z (by decide))
    have f21 : o.toInt ≠ 21 := fun z => k21 (i32_of z (by decide))
    have f22 : o.toInt ≠ 22 := fun z => k22 (i32_of z (by decide))
    have rng : o.toInt = 17 ∨ (23 ≤ o.toInt ∧ o.toInt ≤ 33) := by omega
    have n (k : Int32) (m : Int) (hk : k.toInt = m) (hm : m ≠ 17 ∧ (m < 23 ∨ 33 < m)) : ¬ o = k := i32_no hk (by omega)
    have nr : ¬ (38 ≤ o ∧ o ≤ 40) := fun z => by
      have z1 := Int32.le_iff_toInt_le.mp z.1
      have c1 : (38 : Int32).toInt = 38 := by decide
      rw [c1] at z1
      omega
    have n42 := n 42 42 (by decide) (by omega)
    have n13 := n 13 13 (by decide) (by omega)
    have n14 := n 14 14 (by decide) (by omega)
    have n34 := n 34 34 (by decide) (by omega)
    have n41 := n 41 41 (by decide) (by omega)
    have n43 := n 43 43 (by decide) (by omega)
    have hone : ¬ (o = 13 ∨ o = 14 ∨ o = 34 ∨ o = 41 ∨ o = 43) := fun z => by
      rcases z with z | z | z | z | z
      · exact n13 z
      · exact n14 z
      · exact n34 z
      · exact n41 z
      · exact n43 z
    rw [if_neg n42, if_neg nr, if_neg n42]
    unfold f_Tok_isLeaf
    rw [if_neg n2, if_pos (Int32.not_le.mp n12), bnd_eq, if_pos (show (0 : Int32) = 0 from rfl), kM_eq, h.ex, gk_pos h.ek, h.s2, a3]
    obtain ⟨v1, M1, b1, b2, b3, b4⟩ := hv f hfp p hfp (by omega) it M h
    have h1 := h.eq (b3.mono (rws_wk (by omega)))
    have r1 : EqO (Rws (lo p) p) M M1 := b3.mono (rws_in (by omega) (by omega))
    rw [b1, bnd_eq, gk_pos b2.1, is_err b2, bnd_eq]
    by_cases k1 : (evv E ρ f it).1 = -1
    · rw [if_pos k1, if_pos k1, if_neg (show ¬ (1 : Int32) = 0 by decide)]
      exact VOk.err r1 h1.er0 rfl
    · rw [if_neg k1, if_neg k1, if_pos (show (0 : Int32) = 0 from rfl), if_neg hone]
      have e1 : f_Tok_isOfOne o M1 = some (0, M1) := by
        unfold f_Tok_isOfOne
        rw [if_neg n13, if_neg n14, if_neg n34, if_neg n41, if_neg n43]
      rw [e1, bnd_eq, if_pos (show (0 : Int32) = 0 from rfl), kM_eq, h1.ex, gk_pos h.ek, h1.s3, a4]
      obtain ⟨v2, M2, c1, c2, c3, c4⟩ := hv q hqp p hqp (by omega) it M1 h1
      have h2 := h1.eq (c3.mono (rws_wk (by omega)))
      have r2 : EqO (Rws (lo p) p) M M2 := r1.tr (c3.mono (rws_in (by omega) (by omega)))
      rw [c1, bnd_eq, gk_pos c2.1, is_err c2, bnd_eq]
      by_cases k2 : (evv E ρ q it).1 = -1
      · rw [if_pos k2, if_pos k2, if_neg (show ¬ (1 : Int32) = 0 by decide)]
        exact VOk.err r2 h2.er0 rfl
      · rw [if_neg k2, if_neg k2, if_pos (show (0 : Int32) = 0 from rfl), kM_eq, bnd_id]
        have hor : o = 17 ∨ (23 ≤ o ∧ o ≤ 33) := by
          rcases rng with z | ⟨z1, z2⟩
          · exact Or.inl (i32_of z (by decide))
          · exact Or.inr ⟨Int32.le_iff_toInt_le.mpr z1, Int32.le_iff_toInt_le.mpr z2⟩
        exact res_vok lp r2 h2.er0 (two_ok (b2.at b4 (by omega) (by omega) c3) c2 (kd_row hp20) hor)
  · have n (k : Int32) (m : Int) (hk : k.toInt = m) (hm : m ≠ 42) : ¬ o = k := i32_no hk (by omega)
    have n12 : ¬ o ≤ 12 := i32_nle (m := 12) (by decide) (by omega)
    have n2 : ¬ o < 2 := fun z => n12 (Int32.le_of_lt (Int32.lt_trans z (by decide)))
    have n21 := n 21 21 (by decide) (by omega)
    have n22 := n 22 22 (by decide) (by omega)
    have n37 := n 37 37 (by decide) (by omega)
    have k42 : o = 42 := i32_of a (by decide)
    have nr : ¬ (38 ≤ o ∧ o ≤ 40) := by rw [k42]; decide
    have lq := (hn q (by omega)).1
    have lr := (hn r (by omega)).1
    have lf := (hn f (by omega)).1
    rw [if_neg n21, if_neg n22, if_neg n37, if_neg (n 38 38 (by decide) (by omega)), if_neg (n 39 39 (by decide) (by omega)), if_neg (n 40 40 (by decide) (by omega)), if_pos k42, if_neg n12, if_neg (show ¬ (o = 21 ∨ o = 22) from fun z => z.elim n21 n22), if_neg n37, if_neg nr, if_pos k42, bnd_id]
    rw [a4, a5, a6, nI_clamp (by omega), nI_clamp (by omega), nI_clamp (by omega), hV f (by omega), hV r (by omega), hV q (by omega)]
    exact choice_ok hv h hp20 (by omega) (by omega) (by omega) (by omega) (by omega) (by omega) a4 a5 a6
theorem vo_ok {e : Nat} {E : xRow} {ρ : xEnv} {c : Nat → Int32} {ar : Nat → Int64} {lo be en : Nat → Nat} {N : Nat} (hN : ∀ q, q < N → lo q ≤ q ∧ Node E c ar lo be en q) : ∀ (n p ab : Nat), p < n → p < N → p < ab → ab ≤ 20 → ∀ it M, EnvC M e E ρ it → VOk (lo p) p M (evv E ρ p it) (f_Worker_valueOf n (nI p) (nI ab) M)
  | 0, _, _, h, _, _, _, _, _, _ => absurd h (by omega)
  | n + 1, p, ab, h1, h2, h3, h4, it, M, h => by
    show VOk (lo p) p M _ (fb_Worker_valueOf (f_Worker_valueOf n) (nI p) (nI ab) M)
    exact vb_ok (fun q hq => hN q (by omega)) (fun q hq ab2 k1 k2 it2 M2 hM => vo_ok hN n q ab2 (by omega) (by omega) k1 k2 it2 M2 hM) h h3 h4
