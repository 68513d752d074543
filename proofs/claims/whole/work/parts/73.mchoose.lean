/-! The reference's choices. -/
theorem keep_lp {h k : Nat} (hk : k < 48) (hhk : h ≤ k) {l : List Int32} (hl : l.length ≤ 5) {x : xV} (hx : x = xL l) : ∀ (j f : Nat) (M : ax_M), j ≤ l.length → j < f → gI M 184 29 = nI h → TRep M k x → (∀ q, q < l.length - j → gI M 204 (5 * h + q) = l.getD q 0) → TOk h M x (f_Mod_keep_24 f (nI k) (nI l.length) (nI (l.length - j)) M)
  | j, 0, _, _, hf, _, _, _ => absurd hf (by omega)
  | 0, f + 1, M, _, _, hh, t, hd => by
    show TOk h M x (f_Mod_keep_24_b (f_Mod_keep_24 f) (nI k) (nI l.length) (nI (l.length - 0)) M)
    subst hx
    unfold f_Mod_keep_24_b
    rw [if_pos (nI_le (by omega) (by omega)), gi_nI (by omega) (by decide), nI_clamp (by omega), u_id]
    refine ⟨_, push_eq hh (by omega) _ _, ⟨?_, fun q => absurd q (by show ¬ ((4 : Int32) = 1 ∨ (4 : Int32) = 2 ∨ (4 : Int32) = 3); decide), fun q => ⟨(mJs _ _ _ _).trans (t.2.2 rfl).1, hl, fun i hi => ?_⟩⟩, mIs _ _ _ _, push_fr⟩
    · rw [mIc (by decide)]
      exact (mIs _ _ _ _).trans t.1
    · rw [mIc (by decide)]
      show gI (mI M 202 h (gI M 202 k)) 204 (5 * h + i) = _
      rw [mIc (by decide)]
      exact hd i hi
  | j + 1, f + 1, M, hj, hf, hh, t, hd => by
    have e1 : nI (l.length - (j + 1)) + 1 = nI (l.length - j) := by rw [nI_1]; congr 1; omega
    have tx : gI M 204 (5 * k + (l.length - (j + 1))) = l.getD (l.length - (j + 1)) 0 := by
      have t3 := (t.2.2 (by rw [hx]; rfl)).2.2
      rw [hx] at t3
      exact t3 _ (by show _ < l.length; omega)
    have step : f_Mod_keep_24 (f + 1) (nI k) (nI l.length) (nI (l.length - (j + 1))) M = f_Mod_keep_24 f (nI k) (nI l.length) (nI (l.length - j)) (mI M 204 (5 * h + (l.length - (j + 1))) (l.getD (l.length - (j + 1)) 0)) := by
      show f_Mod_keep_24_b (f_Mod_keep_24 f) (nI k) (nI l.length) (nI (l.length - (j + 1))) M = _
      unfold f_Mod_keep_24_b
      rw [if_neg (nI_ge (by omega) (by omega)), hh, i5 (by omega) (by omega), i5 (by omega) (by omega), gi_nI (by omega) (by decide), gi_nI (by omega) (by decide), nI_clamp (by omega), nI_clamp (by omega), tx, kM_eq, kM_eq, e1]
    rw [step]
    have t1 : TRep (mI M 204 (5 * h + (l.length - (j + 1))) (l.getD (l.length - (j + 1)) 0)) k x := by
      refine ⟨(mIc (by decide)).trans t.1, t.2.1, fun q => ⟨(t.2.2 q).1, (t.2.2 q).2.1, fun i hi => ?_⟩⟩
      by_cases e : 5 * k + i = 5 * h + (l.length - (j + 1))
      · have l5 := (t.2.2 q).2.1
        have ekh : k = h := by omega
        have ei : i = l.length - (j + 1) := by omega
        rw [e, mIs, hx, ei]
        rfl
      · rw [mIk e]
        exact (t.2.2 q).2.2 i hi
    obtain ⟨M2, a1, a2, a3, a4⟩ := keep_lp hk hhk hl hx j f _ (by omega) (by omega) ((mIc (by decide)).trans hh) t1 (fun q hq => by
      by_cases e : q = l.length - (j + 1)
      · rw [e, mIs]
      · rw [mIk (by omega)]
        exact hd q (by omega))
    exact ⟨M2, a1, a2, a3, EqK.tr (EqK.mI (S := Xs h) (EqK.rf M) (Or.inr (Or.inr (Or.inl ⟨rfl, by omega⟩)))) a4⟩
theorem TOk.of4 {M : ax_M} {h : Nat} {x : xV} (q : x.1 = 4) {o : Option (Unit × ax_M)} (t : TOk h M (xL x.2.2) o) : TOk h M x o := by
  obtain ⟨M2, a1, a2, a3, a4⟩ := t
  refine ⟨M2, a1, ⟨a2.1.trans q.symm, fun z => ?_, fun _ => a2.2.2 rfl⟩, a3, a4⟩
  rw [q] at z
  exact absurd z (by decide)
theorem keep_ok {M : ax_M} {h k : Nat} {x : xV} (hk : k < 48) (hhk : h ≤ k) (hh : gI M 184 29 = nI h) (t : TRep M k x) : TOk h M x (f_Mod_keep (nI k) M) := by
  unfold f_Mod_keep
  rw [gi_nI hk (by decide), nI_clamp (by omega), t.1]
  by_cases q : x.1 = 4
  · obtain ⟨g1, g2, g3⟩ := t.2.2 q
    rw [if_pos q, kM_eq, g1, lN_i]
    have tl : TRep M k (xL x.2.2) := ⟨t.1.trans q, fun z => absurd z (by show ¬ ((4 : Int32) = 1 ∨ (4 : Int32) = 2 ∨ (4 : Int32) = 3); decide), fun _ => ⟨g1, g2, g3⟩⟩
    have z := keep_lp hk hhk g2 rfl x.2.2.length 64 M (Nat.le_refl _) (by omega) hh tl (fun q hq => absurd hq (by omega))
    rw [Nat.sub_self] at z
    exact TOk.of4 q z
  · rw [if_neg q]
    show TOk h M x (f_Mod_keep_24_b (f_Mod_keep_24 63) (nI k) 0 0 M)
    unfold f_Mod_keep_24_b
    rw [if_pos (show (0 : Int32) ≤ 0 by decide), gi_nI hk (by decide), nI_clamp (by omega), u_id, t.1]
    obtain ⟨M2, a1, a2, a3, a4⟩ := push_num (M := M) hh (show h < 48 by omega) (gJ M 203 k) q
    exact ⟨M2, a1, ⟨a2.1, fun z => (a2.2.1 z).trans (t.2.1 z), fun z => absurd z q⟩, a3, a4⟩
theorem m_ifno {M : ax_M} {h : Nat} {x y : xV} (hb : h + 1 < 48) (h1 : gI M 184 29 = nI (h + 2)) (t0 : TRep M h x) (u0 : TRep M (h + 1) y) : TOk h M (if x.1 = 0 then y else x) (f_Mod_choose 36 M) := by
  unfold f_Mod_choose
  rw [if_neg (show ¬ (36 : Int32) = 35 by decide)]
  unfold f_Mod_choose_15
  rw [h1, kM_eq, nI_m2, kM_eq, gi_nI (by omega) (by decide), kM_eq, nI_clamp (by omega), if_pos (show (36 : Int32) = 36 from rfl), u_id, u_id]
  apply TOk.of5 (v := nI h)
  have t : TRep (mI M 184 29 (nI h)) h x := t0.m29
  have u : TRep (mI M 184 29 (nI h)) (h + 1) y := u0.m29
  have hh : gI (mI M 184 29 (nI h)) 184 29 = nI h := mIs _ _ _ _
  generalize mI M 184 29 (nI h) = M5 at t u hh
  rw [t.1, nI_1]
  by_cases q : x.1 = 0
  · rw [if_pos q, if_pos q]
    exact keep_ok hb (by omega) hh u
  · rw [if_neg q, if_neg q]
    exact keep_ok (by omega) (Nat.le_refl _) hh t
theorem m_choice {M : ax_M} {h : Nat} {x y z : xV} (hb : h + 2 < 48) (h1 : gI M 184 29 = nI (h + 3)) (t0 : TRep M h x) (u0 : TRep M (h + 1) y) (v0 : TRep M (h + 2) z) : TOk h M (xChoice x y z) (f_Mod_choose 35 M) := by
  unfold f_Mod_choose
  rw [if_pos (show (35 : Int32) = 35 from rfl)]
  unfold f_Mod_choose_15
  have e3 : nI (h + 3) - 3 = nI h := by
    show nI (h + 3) - nI 3 = _
    rw [← nI_add, Int32.add_sub_cancel]
  rw [h1, kM_eq, e3, kM_eq, gi_nI (by omega) (by decide), kM_eq, nI_clamp (by omega), if_neg (show ¬ (35 : Int32) = 36 by decide), if_pos (show (35 : Int32) = 35 from rfl), u_id, u_id, u_id]
  apply TOk.of5 (v := nI h)
  have t : TRep (mI M 184 29 (nI h)) h x := t0.m29
  have u : TRep (mI M 184 29 (nI h)) (h + 1) y := u0.m29
  have v : TRep (mI M 184 29 (nI h)) (h + 2) z := v0.m29
  have hh : gI (mI M 184 29 (nI h)) 184 29 = nI h := mIs _ _ _ _
  generalize mI M 184 29 (nI h) = M5 at t u v hh
  unfold xChoice
  rw [t.1, nI_1, show nI h + 2 = nI (h + 2) from nI_add h 2]
  by_cases q : x.1 = 1
  · rw [if_pos q, if_pos q, t.2.1 (Or.inl q)]
    by_cases r : x.2.1 = 1
    · rw [if_pos ((lgc_eq _ _).mpr r), if_pos r]
      exact keep_ok (by omega) (by omega) hh u
    · rw [if_neg (fun w => r ((lgc_eq _ _).mp w)), if_neg r]
      exact keep_ok (by omega) (by omega) hh v
  · rw [if_neg q, if_neg q]
    exact push_any hh (by omega) 0 rfl (Or.inl rfl)
theorem m_117 {M : ax_M} {h : Nat} {x y : xV} (hb : h + 1 < 48) (hh : gI M 184 29 = nI h) (t : TRep M h x) (u : TRep M (h + 1) y) (n s : Int64) {p : Prop} [Decidable p] (hp : n = s ↔ p) : TOk h M (if p then x else if y.1 = 1 then y else xErr) (f_Mod_choose_117 (nI h) s n M) := by
  unfold f_Mod_choose_117
  rw [u_id, u_id, u_id, nI_1, gi_nI hb (by decide), nI_clamp (by omega), u.1]
  by_cases q : p
  · rw [if_pos q, if_pos ((lgc_eq _ _).mpr (hp.mpr q))]
    exact keep_ok (by omega) (Nat.le_refl _) hh t
  · rw [if_neg q, if_neg (fun w => q (hp.mp ((lgc_eq _ _).mp w)))]
    by_cases r : y.1 = 1
    · rw [if_pos r, if_pos r]
      exact keep_ok hb (by omega) hh u
    · rw [if_neg r, if_neg r]
      exact push_any hh (by omega) 0 rfl (Or.inl rfl)
theorem m_logic {M : ax_M} {h : Nat} {x y : xV} {o : Int32} (hb : h + 1 < 48) (h1 : gI M 184 29 = nI (h + 2)) (t0 : TRep M h x) (u0 : TRep M (h + 1) y) (hw : WfV x) (ho : o = 21 ∨ o = 22) : TOk h M (xLogic o x y) (f_Mod_choose (o + 1) M) := by
  unfold f_Mod_choose
  rw [if_neg (show ¬ o + 1 = 35 by rcases ho with z | z <;> rw [z] <;> decide)]
  unfold f_Mod_choose_15
  rw [h1, kM_eq, nI_m2, kM_eq, gi_nI (by omega) (by decide), kM_eq, nI_clamp (by omega), if_neg (show ¬ o + 1 = 36 by rcases ho with z | z <;> rw [z] <;> decide), if_neg (show ¬ o + 1 = 35 by rcases ho with z | z <;> rw [z] <;> decide)]
  apply TOk.of5 (v := nI h)
  have t : TRep (mI M 184 29 (nI h)) h x := t0.m29
  have u : TRep (mI M 184 29 (nI h)) (h + 1) y := u0.m29
  have hh : gI (mI M 184 29 (nI h)) 184 29 = nI h := mIs _ _ _ _
  generalize mI M 184 29 (nI h) = M5 at t u hh
  unfold xLogic
  rw [t.1]
  by_cases q : x.1 = 1
  · have w : x.2.1 = 0 ∨ x.2.1 = 1 := by
      rcases hw with z | z | z | z | z | z
      · rw [q] at z; exact absurd z (by decide)
      · have z := z.1; rw [q] at z; exact absurd z (by decide)
      · exact z.2
      · rw [q] at z; exact absurd z (by decide)
      · rw [q] at z; exact absurd z (by decide)
      · rw [q] at z; exact absurd z (by decide)
    rw [if_pos q, if_pos q, t.2.1 (Or.inl q)]
    rcases ho with z | z
    · rw [if_pos (show o + 1 = 22 by rw [z]; decide)]
      exact m_117 hb hh t u _ _ ⟨fun e => ⟨fun _ => z, fun _ => e⟩, fun e => e.mpr z⟩
    · have n21 : ¬ o = 21 := by rw [z]; decide
      rw [if_neg (show ¬ o + 1 = 22 by rw [z]; decide)]
      exact m_117 hb hh t u _ _ ⟨fun e => ⟨fun r => by rw [e] at r; exact absurd r (by decide), fun r => absurd r n21⟩, fun e => w.resolve_right (fun r => n21 (e.mp r))⟩
  · rw [if_neg q, if_neg q, u_id]
    exact push_any hh (by omega) 0 rfl (Or.inl rfl)
