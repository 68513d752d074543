/-! define: the relation stays -/
def sw (i q : Nat) : Nat := if q = i then 8 else if q = 8 then i else q
theorem sw_lt {i q : Nat} (hi : i < 8) (hq : q < 9) : sw i q < 9 := by
  unfold sw
  split
  · omega
  · split <;> omega
theorem sw_inj {i a b : Nat} (hi : i < 8) (h : sw i a = sw i b) : a = b := by
  unfold sw at h
  split at h
  · split at h
    · omega
    · split at h <;> omega
  · split at h
    · split at h
      · omega
      · split at h <;> omega
    · split at h
      · omega
      · split at h <;> omega
theorem sim_define {M : ax_M} (h : Sim M) (s : Int32) : ∃ r M1 M2, f_MW_define s M = some (r, M1) ∧ f_Mod_define s M1 = some (r, M2) ∧ Sim M2 := by
  have isl : ∀ q : Int32, f_MW_isSlot s M = some (q, M) → f_MW_define s M = if q = 0 then (some ((-2), M)) else (kM (gA M 2 3) (fun r4 => bnd (f_Reader_read r4 M) (fun q5 M6 => bnd (f_Text_clear  M6) (fun q7 M8 => if q5 = ((-1)) then (gi s 8 (kM (gA M8 8 s.toNatClampNeg) (fun r11 => kM (gA M8 2 3) (fun r12 => gk r12 3 (kM (mA M8 8 s.toNatClampNeg r12) (fun M14 => kM (mA M14 2 3 r11) (fun M15 => some (q5, M15)))))))) else (some (q5, M8)))))) := fun q hq => by
    unfold f_MW_define
    rw [hq, bnd_eq]
  rcases pk_ix s (n := 8) (by decide) with h1 | h1 | ⟨i, hi, rfl⟩
  · refine ⟨-2, M, M, ?_, if_pos h1, h⟩
    rw [isl 0 (if_pos h1), if_pos rfl]
  · have h2 : ¬ s < 0 := fun q => absurd (Int32.lt_of_le_of_lt h1 q) (by decide)
    have h3 : ¬ s ≤ 7 := Int32.not_le.mpr (Int32.lt_of_lt_of_le (by decide) h1)
    refine ⟨-2, M, M, ?_, (if_neg h2).trans (if_neg h3), h⟩
    rw [isl 0 ((if_neg h2).trans (if_pos h1)), if_pos rfl]
  have hn0 : ¬ nI i < 0 := nI_pos (by omega)
  have hn7 : nI i ≤ 7 := nI_le (b := 7) (by omega) (by decide)
  have hsl : f_MW_isSlot (nI i) M = some (1, M) := (if_neg hn0).trans (if_neg (show ¬ (8 : Int32) ≤ nI i from nI_ge (b := 8) hi (by decide)))
  have hp0 : S_perm M := h.2.2.2.2.2.2.2.1
  have hx0 : S_expr M := h.2.2.2.2.2.2.2.2.1
  obtain ⟨n, n48, tn1, tn2, tn3⟩ := h.1
  have e8 : eOf M 8 = gA M 2 3 := if_neg (by decide)
  obtain ⟨a, ha, ea⟩ := hp0.1 8 (by decide)
  rw [e8] at ea
  have he : eOk (gA M 2 3) := ⟨by rw [ea]; exact ke a ha, by omega, by omega⟩
  have apart : ∀ q, q < 8 → ∀ j, j < 6 → eOf M q + j < gA M 2 3 ∨ gA M 2 3 + 6 ≤ eOf M q + j := fun q hq j hj => by
    obtain ⟨b, hb, eb⟩ := hp0.1 q (by omega)
    have ne : ¬ a = b := fun z => by
      have := hp0.2 8 q (by decide) (by omega) (by rw [e8, ea, eb, z])
      omega
    omega
  have low : ∀ q, q < 8 → ∀ j, j < 6 → 9 ≤ eOf M q + j ∧ eOf M q + j < 63 := fun q hq j hj => by
    obtain ⟨b, hb, eb⟩ := hp0.1 q (by omega)
    omega
  have hTc : TxC M (fun k => gI M 4 k) n := ⟨tn1, fun k _ => rfl⟩
  generalize hE0 : gA M 2 3 = e at ea he apart e8
  have e2 := he.2.1
  have e3 := he.2.2
  rcases read_both he n48 hTc with ⟨k, Ma, k48, r1, r2, r3⟩ | ⟨E, sz, c, ar, m, Ma, kc, r1, r2, r4, r5, r3⟩
  · have x1 : EqK (TD e) M (mI Ma 3 1 0) := EqK.mI (r2.mono fun c k z => by unfold X57 Xd X3 Xp at z; unfold TD; omega) (Or.inl rfl)
    have y1 : ∀ c k, c ≠ 3 → (c < 5 ∨ 8 ≤ c) → (c < e ∨ e + 6 ≤ c) → gI (mI Ma 3 1 0) c k = gI M c k ∧ gJ (mI Ma 3 1 0) c k = gJ M c k ∧ gA (mI Ma 3 1 0) c k = gA M c k := fun c k h1 h2 h3 => by
      have z := r2 c k (by unfold X57 Xd X3 Xp; omega)
      exact ⟨(mIc h1).trans z.1, z.2.1, z.2.2⟩
    obtain ⟨Mb, s1, s2⟩ := r3 (mI Ma 3 1 0) ⟨(y1 184 1 (by decide) (by omega) (by omega)).1.trans tn2, fun k hk => (y1 185 k (by decide) (by omega) (by omega)).1.trans (tn3 k hk).1⟩
    have y2 : ∀ c k, c ≠ 184 → (c < 186 ∨ 190 < c ∨ ((c = 186 ∨ c = 187) ∧ k < 384) ∨ (c = 188 ∧ k ≠ 8)) → gI (mI Mb 184 1 0) c k = gI (mI Ma 3 1 0) c k ∧ gJ (mI Mb 184 1 0) c k = gJ (mI Ma 3 1 0) c k ∧ gA (mI Mb 184 1 0) c k = gA (mI Ma 3 1 0) c k := fun c k h1 h2 => by
      have z := s2 c k (by unfold Xr X5 Xq; omega)
      exact ⟨(mIc h1).trans z.1, z.2.1, z.2.2⟩
    have nk : ¬ nI k = -1 := fun z => absurd (show nI k < 0 by rw [z]; decide) (nI_pos (by omega))
    refine ⟨nI k, mI Ma 3 1 0, mI Mb 184 1 0, ?_, ?_, ?_⟩
    · rw [isl 1 hsl, if_neg (by decide), kM_eq, hE0, r1, bnd_eq]
      unfold f_Text_clear
      rw [kM_eq, bnd_eq, if_neg nk]
    · unfold f_Mod_define
      rw [if_neg hn0, if_pos hn7, s1, bnd_eq, kM_eq, if_pos (nI_pos' (by omega))]
    · have ee : ∀ q, eOf (mI Mb 184 1 0) q = eOf M q := eOf.cg (fun k => (y2 8 k (by decide) (by omega)).2.2.trans (y1 8 k (by decide) (by omega) (by omega)).2.2) ((y2 2 3 (by decide) (by omega)).2.2.trans (y1 2 3 (by decide) (by omega) (by omega)).2.2)
      have q8 : ∀ q, q < 8 → gI (mI Mb 184 1 0) 188 q = gI M 188 q := fun q hq => (y2 188 q (by decide) (by omega)).1.trans (y1 188 q (by decide) (by omega) (by omega)).1
      refine h.dfn he (x1.tr (EqK.mI (s2.mono fun c k z => by unfold Xr X5 Xq at z; unfold TD; omega) (by unfold TD; omega))) ?_ (mIs _ _ _ _) (fun q hq hw => by rw [q8 q hq]; exact hw) ⟨fun q hq => by rw [ee]; exact hp0.1 q hq, fun q1 q2 hq1 hq2 hz => by rw [ee, ee] at hz; exact hp0.2 q1 q2 hq1 hq2 hz⟩ (fun q hq => ?_)
      · rw [(y2 3 1 (by decide) (by omega)).1]
        exact mIs _ _ _ _
      · refine exC.kp (M := M) (ee q) (q8 q hq) (fun j hj k => ?_) (fun k hk => ?_) (hx0 q hq)
        · have z1 := apart q hq j hj
          have z2 := low q hq j hj
          exact ⟨(y2 _ k (by omega) (by omega)).1.trans (y1 _ k (by omega) (by omega) (by omega)).1, (y2 _ k (by omega) (by omega)).2.1.trans (y1 _ k (by omega) (by omega) (by omega)).2.1⟩
        · exact ⟨(y2 186 _ (by decide) (by omega)).1.trans (y1 186 _ (by decide) (by omega) (by omega)).1, (y2 187 _ (by decide) (by omega)).2.1.trans (y1 187 _ (by decide) (by omega) (by omega)).2.1⟩
  · have m0 : 0 < m := by
      obtain ⟨-, -, -, lo, be, en, -, -, -, z⟩ := kc
      omega
    have m48 := kc.2.2.1
    have x1 : EqK (TD e) M (mA (mA (mI Ma 3 1 0) 8 i e) 2 3 (gA M 8 i)) := EqK.tr (EqK.tr (EqK.mI (S := TD e) (r2.mono fun c k z => by unfold X57 Xd X3 Xp at z; unfold TD; omega) (Or.inl rfl)) (mA_eqk (by unfold TD; omega))) (mA_eqk (by unfold TD; omega))
    have y1 : ∀ c k, c ≠ 3 → (c < 5 ∨ 8 ≤ c) → (c < e ∨ e + 6 ≤ c) → gI (mA (mA (mI Ma 3 1 0) 8 i e) 2 3 (gA M 8 i)) c k = gI M c k ∧ gJ (mA (mA (mI Ma 3 1 0) 8 i e) 2 3 (gA M 8 i)) c k = gJ M c k := fun c k h1 h2 h3 => by
      have z := r2 c k (by unfold X57 Xd X3 Xp; omega)
      exact ⟨(mIc (M := Ma) (c := 3) (k := 1) (v := 0) h1).trans z.1, z.2.1⟩
    have yA : ∀ k, gA Ma 8 k = gA M 8 k := fun k => (r2 8 k (by unfold X57 Xd X3 Xp; omega)).2.2
    have yB : gA Ma 2 3 = e := (r2 2 3 (by unfold X57 Xd X3 Xp; omega)).2.2.trans hE0
    have a2 : gA (mA (mA (mI Ma 3 1 0) 8 i e) 2 3 (gA M 8 i)) 2 3 = gA M 8 i := mAs _ _ _ _
    have a8 : ∀ k, gA (mA (mA (mI Ma 3 1 0) 8 i e) 2 3 (gA M 8 i)) 8 k = if k = i then e else gA M 8 k := fun k => by
      rw [mAc (by decide)]
      by_cases z : k = i
      · rw [if_pos z, z]
        exact mAs _ _ _ _
      · rw [if_neg z]
        exact (if_neg (fun q => z q.2)).trans (yA k)
    have row1 : ∀ c k, e ≤ c → c < e + 6 → gI (mA (mA (mI Ma 3 1 0) 8 i e) 2 3 (gA M 8 i)) c k = gI Ma c k ∧ gJ (mA (mA (mI Ma 3 1 0) 8 i e) 2 3 (gA M 8 i)) c k = gJ Ma c k := fun c k h1 h2 => ⟨mIc (M := Ma) (c := 3) (k := 1) (v := 0) (by omega), rfl⟩
    have t31 : gI (mA (mA (mI Ma 3 1 0) 8 i e) 2 3 (gA M 8 i)) 3 1 = nI 0 := mIs Ma 3 1 0
    have cls : f_MW_define (nI i) M = some (-1, mA (mA (mI Ma 3 1 0) 8 i e) 2 3 (gA M 8 i)) := by
      rw [isl 1 hsl, if_neg (by decide), kM_eq, hE0, r1, bnd_eq]
      unfold f_Text_clear
      rw [kM_eq, bnd_eq, if_pos rfl, gi_nI hi (by decide), nI_clamp (by omega), kM_eq, kM_eq, show gA (mI Ma 3 1 0) 2 3 = e from yB, gk_pos he.1, kM_eq, kM_eq, show gA (mI Ma 3 1 0) 8 i = gA M 8 i from yA i]
    generalize mA (mA (mI Ma 3 1 0) 8 i e) 2 3 (gA M 8 i) = Mc at x1 y1 a2 a8 row1 t31 cls
    obtain ⟨Mb, s1, s2, s3, s4⟩ := r3 Mc ⟨(y1 184 1 (by decide) (by omega) (by omega)).1.trans tn2, fun k hk => (y1 185 k (by decide) (by omega) (by omega)).1.trans (tn3 k hk).1⟩
    have g8 : gI (mI (mI Mb 184 1 0) 188 i (nI m)) 188 8 = nI m := by
      rw [mIk (by omega), mIc (by decide)]
      exact s3
    obtain ⟨Md, d1, d2, -, d4⟩ := copy42 hi m48 m 64 (mI (mI Mb 184 1 0) 188 i (nI m)) (Nat.le_refl _) (by omega) g8
    rw [Nat.sub_self] at d1 d4
    have y2 : ∀ c k, c ≠ 184 → (c < 186 ∨ 190 < c ∨ ((c = 186 ∨ c = 187) ∧ k < 384 ∧ (k < 48 * i ∨ 48 * i + 48 ≤ k)) ∨ (c = 188 ∧ k ≠ 8 ∧ k ≠ i)) → gI Md c k = gI Mc c k ∧ gJ Md c k = gJ Mc c k ∧ gA Md c k = gA Mc c k := fun c k h1 h2 => by
      have z1 := d2 c k (by omega)
      have z2 := s2 c k (by unfold Xr X5 Xq; omega)
      refine ⟨z1.1.trans (Eq.trans ?_ z2.1), z1.2.1.trans z2.2.1, z1.2.2.trans z2.2.2⟩
      by_cases z : c = 188
      · rw [mIk (by omega), mIc (by omega)]
      · rw [mIc z, mIc h1]
    have d188 : gI Md 188 i = nI m := (d2 188 i (by omega)).1.trans (mIs _ _ _ _)
    have q8 : ∀ q, q < 8 → q ≠ i → gI Md 188 q = gI M 188 q := fun q hq hqi => (y2 188 q (by decide) (by omega)).1.trans (y1 188 q (by decide) (by omega) (by omega)).1
    have ee : ∀ q, q < 9 → eOf Md q = eOf M (sw i q) := fun q hq => by
      by_cases z8 : q = 8
      · subst z8
        rw [show sw i 8 = i by unfold sw; rw [if_neg (by omega), if_pos rfl], show eOf Md 8 = gA Md 2 3 from if_neg (by decide), show eOf M i = gA M 8 i from if_pos hi, (y2 2 3 (by decide) (by omega)).2.2]
        exact a2
      · rw [show eOf Md q = gA Md 8 q from if_pos (by omega), (y2 8 q (by decide) (by omega)).2.2, a8]
        by_cases zi : q = i
        · rw [if_pos zi, show sw i q = 8 by unfold sw; rw [if_pos zi], e8]
        · rw [if_neg zi, show sw i q = q by unfold sw; rw [if_neg zi, if_neg z8], show eOf M q = gA M 8 q from if_pos (by omega)]
    refine ⟨-1, Mc, Md, cls, ?_, ?_⟩
    · unfold f_Mod_define
      rw [if_neg hn0, if_pos hn7, s1, bnd_eq, kM_eq, if_neg (by decide), gi_nI (by omega) (by decide), nI_clamp (by omega), show Int32.toNatClampNeg 8 = 8 from rfl, show gI (mI Mb 184 1 0) 188 8 = nI m from (mIc (by decide)).trans s3, kM_eq]
      exact d1
    · have xx : EqK (TD e) Mc Md := EqK.tr (EqK.mI (EqK.mI (s2.mono fun c k z => by unfold Xr X5 Xq at z; unfold TD; omega) (by unfold TD; omega)) (by unfold TD; omega)) (d2.mono fun c k z => by unfold TD; omega)
      refine h.dfn he (x1.tr xx) ?_ ?_ (fun q hq hw => ?_) ⟨fun q hq => ?_, fun q1 q2 hq1 hq2 hz => ?_⟩ (fun q hq => ?_)
      · rw [(y2 3 1 (by decide) (by omega)).1]
        exact t31
      · rw [(d2 184 1 (by omega)).1, mIc (by decide)]
        exact mIs _ _ _ _
      · by_cases z : q = i
        · rw [z, d188]
          exact nI_lt (a := 0) m0 (by omega)
        · rw [q8 q hq z]
          exact hw
      · rw [ee q hq]
        exact hp0.1 _ (sw_lt hi hq)
      · rw [ee q1 hq1, ee q2 hq2] at hz
        exact sw_inj hi (hp0.2 _ _ (sw_lt hi hq1) (sw_lt hi hq2) hz)
      · by_cases z : q = i
        · subst z
          have ei : eOf Md q = e := by rw [ee q (by omega), show sw q q = 8 from if_pos rfl, e8]
          show exC Md q
          unfold exC
          rw [ei]
          have rw1 : ∀ c k, e ≤ c → c < e + 6 → gI Md c k = gI Ma c k ∧ gJ Md c k = gJ Ma c k := fun c k h1 h2 => ⟨(y2 c k (by omega) (by omega)).1.trans (row1 c k h1 h2).1, (y2 c k (by omega) (by omega)).2.1.trans (row1 c k h1 h2).2⟩
          refine Or.inr ⟨sz, m, (rw1 e 5 (by omega) (by omega)).1.trans r4, d188, Cmp.cg (fun p hp => ?_) (fun k hk => ?_) kc⟩
          · obtain ⟨b1, b2, b3, b4, b5⟩ := r5 p hp
            exact ⟨(rw1 _ p (by omega) (by omega)).1.trans b1, (rw1 _ p (by omega) (by omega)).1.trans b2, (rw1 _ p (by omega) (by omega)).1.trans b3, (rw1 _ p (by omega) (by omega)).1.trans b4, fun y => (rw1 _ p (by omega) (by omega)).2.trans (b5 y)⟩
          · obtain ⟨b1, b2⟩ := d4 k (by omega) hk
            obtain ⟨c1, c2⟩ := s4 k hk
            refine ⟨b1.trans (Eq.trans ?_ c1), fun y => b2.trans (c2 y)⟩
            rw [mIc (by decide), mIc (by decide)]
        · have eq' : eOf Md q = eOf M q := by
            rw [ee q (by omega)]
            congr 1
            unfold sw
            rw [if_neg z, if_neg (by omega)]
          refine exC.kp (M := M) eq' (q8 q hq z) (fun j hj k => ?_) (fun k hk => ?_) (hx0 q hq)
          · have z1 := apart q hq j hj
            have z2 := low q hq j hj
            exact ⟨(y2 _ k (by omega) (by omega)).1.trans (y1 _ k (by omega) (by omega) (by omega)).1, (y2 _ k (by omega) (by omega)).2.1.trans (y1 _ k (by omega) (by omega) (by omega)).2⟩
          · exact ⟨(y2 186 _ (by decide) (by omega)).1.trans (y1 186 _ (by decide) (by omega) (by omega)).1, (y2 187 _ (by decide) (by omega)).2.1.trans (y1 187 _ (by decide) (by omega) (by omega)).2⟩
