/-! Searches. -/
def SS (lo q t c : Nat) : Prop := Rws lo q c ∨ c = t ∨ c = t + 1
theorem getD_mid {pre rest : List Int32} {k : Int32} : (pre ++ k :: rest).getD pre.length 0 = k := by
  rw [List.getD_eq_getElem?_getD, List.getElem?_append_right (Nat.le_refl _), Nat.sub_self]
  rfl
theorem sift_lp {e : Nat} {E : xRow} {ρ : xEnv} {it : Option Int32} {v : Int32 → Int32 → ax_M → Option (Nat × ax_M)} {lo q s t : Nat} {a b : Int32} {l : List Int32} (hq : q < 20) (hv : ∀ it M, EnvC M e E ρ it → VOk lo q M (evv E ρ q it) (v a b M))
    (hs : ¬ SS lo q t s) (hs1 : ¬ SS lo q t (s + 1)) (ht : ¬ Rws lo q t) (ht1 : ¬ Rws lo q (t + 1)) (hw : Wk t ∧ Wk (t + 1)) : ∀ (rest pre acc : List Int32) (fuel : Nat) (M : ax_M), l = pre ++ rest → rest.length < fuel → acc.length ≤ pre.length → EnvC M e E ρ it → IRep M s l → IRep M t acc →
      ∃ M', EqO (SS lo q t) M M' ∧ ((xSift (fun k => evv E ρ q (some k)) rest = none ∧ f_Worker_sift_8 v fuel a b s t (nI pre.length) M = some (0, M')) ∨ ∃ r, xSift (fun k => evv E ρ q (some k)) rest = some r ∧ f_Worker_sift_8 v fuel a b s t (nI pre.length) M = some (1, M') ∧ IRep M' t (acc ++ r))
  | _, _, _, 0, _, _, hf, _, _, _, _ => absurd hf (by omega)
  | [], pre, acc, f + 1, M, hl, _, ha, h, hS, hT => by
    refine ⟨M, EqO.rf M, Or.inr ⟨[], rfl, ?_, by rw [List.append_nil]; exact hT⟩⟩
    show f_Worker_sift_8_b v (f_Worker_sift_8 v f) a b s t (nI pre.length) M = _
    unfold f_Worker_sift_8_b
    have e : l.length = pre.length := by rw [hl, List.append_nil]
    have l5 := hS.2.1
    rw [gk_pos hS.1, hS.2.2.1, if_pos (nI_le (by omega) (by omega))]
  | k :: rest, pre, acc, f + 1, M, hl, hf, ha, h, hS, hT => by
    have len : l.length = pre.length + (rest.length + 1) := by rw [hl, List.length_append, List.length_cons]
    have l5 := hS.2.1
    rw [List.length_cons] at hf
    have gk1 : l.getD pre.length 0 = k := by rw [hl]; exact getD_mid
    obtain ⟨v1, M1, b1, b2, b3, b4⟩ := ans_ok hq hv h k
    have r1 : EqO (SS lo q t) M M1 := b3.mono fun c hc => Or.inl hc
    have h1 := h.eq (b3.mono (rws_wk hq))
    have hS1 : IRep M1 s l := hS.eq r1 hs hs1
    have hT1 : IRep M1 t acc := hT.eq b3 ht ht1
    have hl2 : l = (pre ++ [k]) ++ rest := by rw [hl, List.append_assoc]; rfl
    have e1 : nI pre.length + 1 = nI (pre ++ [k]).length := by rw [nI_1, List.length_append]; rfl
    have step : ∀ o : Option (Int32 × ax_M), f_Worker_sift_8 v (f + 1) a b s t (nI pre.length) M = o ↔ (if (if (evv E ρ q (some k)).1 = 1 then (1 : Int32) else 0) = 0 then (some (0, M1)) else (bnd (f_Val_isTrue v1 M1) (fun q14 M15 => if q14 = 0 then (kM (nI pre.length + 1) (fun x17 => f_Worker_sift_8 v f a b s t x17 M15)) else (gk t 5 (bnd (f_Items_append t k M15) (fun q19 M20 => kM (nI pre.length + 1) (fun x21 => f_Worker_sift_8 v f a b s t x21 M20))))))) = o := by
      intro o
      show f_Worker_sift_8_b v (f_Worker_sift_8 v f) a b s t (nI pre.length) M = o ↔ _
      unfold f_Worker_sift_8_b
      rw [gk_pos hS.1, hS.2.2.1, if_neg (nI_ge (by omega) (by omega)), get_ok hS (by omega), bnd_eq, gk1, b1, bnd_eq, gk_pos b2.1, is_truth b2, bnd_eq]
    by_cases k1 : (evv E ρ q (some k)).1 = 1
    · rw [if_pos k1, if_neg (show ¬ (1 : Int32) = 0 by decide), is_true b2] at step
      simp only [bnd_eq] at step
      by_cases k2 : (evv E ρ q (some k)).2.1 = 1
      · rw [if_pos (show (evv E ρ q (some k)).1 = 1 ∧ (evv E ρ q (some k)).2.1 = 1 from ⟨k1, k2⟩), if_neg (show ¬ (1 : Int32) = 0 by decide), gk_pos hT.1] at step
        obtain ⟨M2, c1, c2, c3⟩ := app_ok hT1 (by omega) k
        rw [c1] at step
        simp only [bnd_eq, kM_eq] at step
        rw [e1] at step
        have r2 : EqO (SS lo q t) M M2 := r1.tr (c2.mono fun c hc => Or.inr hc)
        have h2 : EnvC M2 e E ρ it := h1.eq (c2.mono fun c hc => hc.elim (fun z => by rw [z]; exact hw.1) (fun z => by rw [z]; exact hw.2))
        have hS2 : IRep M2 s l := hS.eq r2 hs hs1
        obtain ⟨M3, d1, d2⟩ := sift_lp hq hv hs hs1 ht ht1 hw rest (pre ++ [k]) (acc ++ [k]) f M2 hl2 (by omega) (by rw [List.length_append, List.length_append]; simp; omega) h2 hS2 c3
        refine ⟨M3, r2.tr d1, ?_⟩
        rcases d2 with ⟨z1, z2⟩ | ⟨r, z1, z2, z3⟩
        · refine Or.inl ⟨?_, (step _).mpr z2⟩
          unfold xSift
          rw [if_pos k1, z1]
        · refine Or.inr ⟨k :: r, ?_, (step _).mpr z2, ?_⟩
          · unfold xSift
            rw [if_pos k1, z1]
            show some (if (evv E ρ q (some k)).2.1 = 1 then k :: r else r) = _
            rw [if_pos k2]
          · rw [List.append_assoc] at z3
            exact z3
      · rw [if_neg (show ¬ ((evv E ρ q (some k)).1 = 1 ∧ (evv E ρ q (some k)).2.1 = 1) from fun z => k2 z.2), if_pos (show (0 : Int32) = 0 from rfl)] at step
        simp only [kM_eq] at step
        rw [e1] at step
        obtain ⟨M3, d1, d2⟩ := sift_lp hq hv hs hs1 ht ht1 hw rest (pre ++ [k]) acc f M1 hl2 (by omega) (by rw [List.length_append]; omega) h1 hS1 hT1
        refine ⟨M3, r1.tr d1, ?_⟩
        rcases d2 with ⟨z1, z2⟩ | ⟨r, z1, z2, z3⟩
        · refine Or.inl ⟨?_, (step _).mpr z2⟩
          unfold xSift
          rw [if_pos k1, z1]
        · refine Or.inr ⟨r, ?_, (step _).mpr z2, z3⟩
          unfold xSift
          rw [if_pos k1, z1]
          show some (if (evv E ρ q (some k)).2.1 = 1 then k :: r else r) = _
          rw [if_neg k2]
    · rw [if_neg k1, if_pos (show (0 : Int32) = 0 from rfl)] at step
      refine ⟨M1, r1, Or.inl ⟨?_, (step _).mpr rfl⟩⟩
      unfold xSift
      rw [if_neg k1]
theorem sift_ok {M : ax_M} {e : Nat} {E : xRow} {ρ : xEnv} {it : Option Int32} {v : Int32 → Int32 → ax_M → Option (Nat × ax_M)} {lo q s t : Nat} {a b : Int32} {l : List Int32} (hq : q < 20) (hv : ∀ it M, EnvC M e E ρ it → VOk lo q M (evv E ρ q it) (v a b M))
    (hs : ¬ SS lo q t s) (hs1 : ¬ SS lo q t (s + 1)) (ht : ¬ Rws lo q t) (ht1 : ¬ Rws lo q (t + 1)) (hw : Wk t ∧ Wk (t + 1)) (hk : kd t = 5) (h : EnvC M e E ρ it) (hS : IRep M s l) :
      ∃ M', EqO (SS lo q t) M M' ∧ ((xSift (fun k => evv E ρ q (some k)) l = none ∧ f_Worker_sift v a b s t M = some (0, M')) ∨ ∃ r, xSift (fun k => evv E ρ q (some k)) l = some r ∧ f_Worker_sift v a b s t M = some (1, M') ∧ IRep M' t r) := by
  have r0 : EqO (SS lo q t) M (mI M t 1 0) := EqO.mI (S := SS lo q t) (EqO.rf M) (Or.inr (Or.inl rfl))
  have r1 : EqO Wk M (mI M t 1 0) := EqO.mI (S := Wk) (EqO.rf M) hw.1
  have l5 := hS.2.1
  obtain ⟨M3, d1, d2⟩ := sift_lp hq hv hs hs1 ht ht1 hw l [] [] 64 (mI M t 1 0) rfl (by omega) (Nat.le_refl _) (h.eq r1) (hS.eq r0 hs hs1) ⟨hk, by decide, mIs _ _ _ _, fun k hk => absurd hk (by simp)⟩
  have eq : f_Worker_sift v a b s t M = f_Worker_sift_8 v 64 a b s t (nI ([] : List Int32).length) (mI M t 1 0) := by
    unfold f_Worker_sift f_Items_clear
    rw [gk_pos hk, gk_pos hk, kM_eq, bnd_eq]
    rfl
  rw [eq]
  exact ⟨M3, r0.tr d1, d2⟩
theorem find_lp {e : Nat} {E : xRow} {ρ : xEnv} {it : Option Int32} {v : Int32 → Int32 → ax_M → Option (Nat × ax_M)} {lo q s p : Nat} {a b rv : Int32} {l L : List Int32} (hq : q < p) (hp : p < 20) (hv : ∀ it M, EnvC M e E ρ it → VOk lo q M (evv E ρ q it) (v a b M)) (hL : (rv = 0 ∧ L = l) ∨ (rv ≠ 0 ∧ L = l.reverse))
    (lop : Nat) (hlo : lop ≤ lo) (hlp : lop ≤ p) (hs : ¬ Rws lo q s) (hs1 : ¬ Rws lo q (s + 1)) : ∀ (rest pre : List Int32) (fuel : Nat) (M : ax_M), L = pre ++ rest → rest.length < fuel → EnvC M e E ρ it → IRep M s l →
      VOk lop p M (xFind (fun k => evv E ρ q (some k)) rest) (f_Worker_find_3 v fuel a b s rv (75 + 3 * p) (nI pre.length) M)
  | _, _, 0, _, _, hf, _, _ => absurd hf (by omega)
  | [], pre, f + 1, M, hl, _, h, hS => by
    show VOk lop p M _ (f_Worker_find_3_b v (f_Worker_find_3 v f) a b s rv (75 + 3 * p) (nI pre.length) M)
    unfold f_Worker_find_3_b
    have e : l.length = pre.length := by
      rw [List.append_nil] at hl
      rcases hL with ⟨_, z⟩ | ⟨_, z⟩
      · rw [← hl, z]
      · rw [← hl, z, List.length_reverse]
    have l5 := hS.2.1
    rw [gk_pos hS.1, hS.2.2.1, if_pos (nI_le (by omega) (by omega)), gk_pos (kd_row hp), bnd_id]
    exact VOk.put hlp (EqO.rf M) (be_nothing (kd_row hp))
  | k :: rest, pre, f + 1, M, hl, hf, h, hS => by
    have lenL : L.length = pre.length + (rest.length + 1) := by rw [hl, List.length_append, List.length_cons]
    have len : l.length = L.length := by
      rcases hL with ⟨_, z⟩ | ⟨_, z⟩
      · rw [z]
      · rw [z, List.length_reverse]
    have l5 := hS.2.1
    rw [List.length_cons] at hf
    have gkL : L.getD pre.length 0 = k := by rw [hl]; exact getD_mid
    obtain ⟨v1, M1, b1, b2, b3, b4⟩ := ans_ok (by omega) hv h k
    have r1 : EqO (Rws lop p) M M1 := b3.mono (rws_in hlo (by omega))
    have h1 := h.eq (b3.mono (rws_wk (by omega)))
    have hS1 : IRep M1 s l := hS.eq b3 hs hs1
    have hl2 : L = (pre ++ [k]) ++ rest := by rw [hl, List.append_assoc]; rfl
    have e1 : nI pre.length + 1 = nI (pre ++ [k]).length := by rw [nI_1, List.length_append]; rfl
    have core : ∀ i : Nat, i < l.length → l.getD i 0 = k → VOk lop p M (xFind (fun k => evv E ρ q (some k)) (k :: rest)) (f_Worker_find_32 v (f_Worker_find_3 v f) a b s rv (75 + 3 * p) (nI pre.length) (nI i) s M) := by
      intro i hi hik
      unfold f_Worker_find_32
      rw [gk_pos hS.1, get_ok hS hi, bnd_eq, hik, b1, bnd_eq, gk_pos b2.1, is_truth b2, bnd_eq]
      show VOk lop p M (if (evv E ρ q (some k)).1 = 1 then (if (evv E ρ q (some k)).2.1 = 1 then xI k else xFind (fun k => evv E ρ q (some k)) rest) else xErr) _
      by_cases k1 : (evv E ρ q (some k)).1 = 1
      · rw [if_pos k1, if_pos k1, if_neg (show ¬ (1 : Int32) = 0 by decide), is_true b2, bnd_eq]
        by_cases k2 : (evv E ρ q (some k)).2.1 = 1
        · rw [if_pos (show (evv E ρ q (some k)).1 = 1 ∧ (evv E ρ q (some k)).2.1 = 1 from ⟨k1, k2⟩), if_pos k2, if_neg (show ¬ (1 : Int32) = 0 by decide), gk_pos (kd_row hp), bnd_id]
          exact VOk.put hlp r1 (be_int (kd_row hp) k)
        · rw [if_neg (show ¬ ((evv E ρ q (some k)).1 = 1 ∧ (evv E ρ q (some k)).2.1 = 1) from fun z => k2 z.2), if_neg k2, if_pos (show (0 : Int32) = 0 from rfl), kM_eq, e1]
          exact VOk.in (Nat.le_refl _) (Nat.le_refl _) r1 (find_lp hq hp hv hL lop hlo hlp hs hs1 rest (pre ++ [k]) f M1 hl2 (by omega) h1 hS1)
      · rw [if_neg k1, if_neg k1, if_pos (show (0 : Int32) = 0 from rfl)]
        exact VOk.err r1 h1.er0 rfl
    show VOk lop p M _ (f_Worker_find_3_b v (f_Worker_find_3 v f) a b s rv (75 + 3 * p) (nI pre.length) M)
    unfold f_Worker_find_3_b
    rw [gk_pos hS.1, hS.2.2.1, if_neg (nI_ge (by omega) (by omega))]
    rcases hL with ⟨z1, z2⟩ | ⟨z1, z2⟩
    · rw [if_pos z1]
      exact core pre.length (by omega) (by rw [← z2]; exact gkL)
    · rw [if_neg z1]
      have e2 : nI l.length - 1 - nI pre.length = nI (l.length - 1 - pre.length) := by
        have e3 : nI l.length = nI (l.length - 1 - pre.length) + nI pre.length + 1 := by
          rw [nI_add, nI_1]
          congr 1
          omega
        rw [e3, Int32.add_sub_cancel, Int32.add_sub_cancel]
      rw [e2]
      refine core _ (by omega) ?_
      rw [← gkL, z2, List.getD_eq_getElem?_getD, List.getD_eq_getElem?_getD, List.getElem?_reverse (by omega)]
theorem search_ok {M : ax_M} {e : Nat} {E : xRow} {ρ : xEnv} {it : Option Int32} {lo : Nat → Nat} {v : Int32 → Int32 → ax_M → Option (Nat × ax_M)} {p f q : Nat} {o : Int32} (hv : VH e E ρ lo v p) (h : EnvC M e E ρ it) (hp : p < 20) (hf : f < p) (hq : q < p) (l1 : lo p ≤ lo f) (l0 : lo f ≤ f) (l2 : lo q = f + 1) (e1 : E.2.1 p = nI f) (e2 : E.2.2.1 p = nI q) : VOk (lo p) p M (xSearch o (evv E ρ f it) (fun k => evv E ρ q (some k))) (f_Worker_valueOfSearch v (nI p) o M) := by
  unfold f_Worker_valueOfSearch
  rw [kM_eq, h.ex, gk_pos h.ek, gi_nI hp (by decide), nI_clamp (by omega), h.s2, e1]
  obtain ⟨v1, M1, b1, b2, b3, b4⟩ := hv f hf p hf (by omega) it M h
  have h1 := h.eq (b3.mono (rws_wk (by omega)))
  have r1 : EqO (Rws (lo p) p) M M1 := b3.mono (rws_in l1 (by omega))
  rw [b1, bnd_eq, gk_pos b2.1, is_list b2, bnd_eq]
  unfold xSearch
  by_cases k1 : (evv E ρ f it).1 = 4
  · have hl := b2.2.2.2 k1
    have l5 := hl.2.1
    rw [if_pos k1, if_pos k1, if_neg (show ¬ (1 : Int32) = 0 by decide), kM_eq, h1.ex, gk_pos h.ek, h1.s3, e2, kM_eq, kM_eq]
    have hv2 : ∀ it M, EnvC M e E ρ it → VOk (lo q) q M (evv E ρ q it) (v (nI q) (nI p) M) := fun it M z => hv q hq p hq (by omega) it M z
    have o1 : ¬ Rws (lo q) q (v1 + 1) := fun z => by unfold Rws at z; rcases b4 with a | a | ⟨k, a, b, c⟩ <;> omega
    have o2 : ¬ Rws (lo q) q (v1 + 1 + 1) := fun z => by unfold Rws at z; rcases b4 with a | a | ⟨k, a, b, c⟩ <;> omega
    by_cases k2 : o = 38
    · rw [if_pos k2, if_pos k2]
      obtain ⟨M2, c1, c2, c3⟩ := be_empty (M := M1) (kd_row hp)
      rw [c1, bnd_eq]
      have w : ∀ c, Rw (75 + 3 * p) c → Rws (lo p) p c := fun c hc => by unfold Rw at hc; unfold Rws; omega
      have h2 : EnvC M2 e E ρ it := h1.eq (c3.mono fun c hc => rws_wk hp c (w c hc))
      have p1 : ¬ Rw (75 + 3 * p) (v1 + 1) := fun z => by unfold Rw at z; rcases b4 with a | a | ⟨k, a, b, c⟩ <;> omega
      have p2 : ¬ Rw (75 + 3 * p) (v1 + 1 + 1) := fun z => by unfold Rw at z; rcases b4 with a | a | ⟨k, a, b, c⟩ <;> omega
      have hl2 : IRep M2 (v1 + 1) (evv E ρ f it).2.2 := hl.eq c3 p1 p2
      obtain ⟨M3, d1, d2⟩ := sift_ok (s := v1 + 1) (t := 75 + 3 * p + 1) (by omega) hv2 (fun z => by rcases z with z | z | z; exact o1 z; exact p1 ⟨by omega, by omega⟩; exact p1 ⟨by omega, by omega⟩) (fun z => by rcases z with z | z | z; exact o2 z; exact p2 ⟨by omega, by omega⟩; exact p2 ⟨by omega, by omega⟩) (fun z => by unfold Rws at z; omega) (fun z => by unfold Rws at z; omega) ⟨by unfold Wk; omega, by unfold Wk; omega⟩ (lf_Val_1 (kd_row hp)).1 h2 hl2
      have r3 : EqO (Rws (lo p) p) M M3 := (r1.tr (c3.mono w)).tr (d1.mono fun c hc => by
        unfold SS at hc
        unfold Rws at hc ⊢
        omega)
      rcases d2 with ⟨z1, z2⟩ | ⟨r, z1, z2, z3⟩
      · rw [z1, z2, bnd_eq, if_pos (show (0 : Int32) = 0 from rfl)]
        exact VOk.err r3 (h.eq (r3.mono (rws_wk hp))).er0 rfl
      · rw [z1, z2, bnd_eq, if_neg (show ¬ (1 : Int32) = 0 by decide)]
        refine ⟨_, M3, rfl, ⟨kd_row hp, ?_, fun z => absurd rfl z, fun _ => z3⟩, r3, Or.inr (Or.inr ⟨p, by omega, Nat.le_refl _, rfl⟩)⟩
        rw [(d1 (75 + 3 * p) (fun z => by unfold SS Rws at z; omega) 0).1]
        exact c2.2.1
    · rw [if_neg k2, if_neg k2]
      by_cases k3 : o = 40
      · rw [if_pos k3, if_pos k3, bnd_id]
        exact VOk.in (Nat.le_refl _) (Nat.le_refl _) r1 (find_lp hq hp hv2 (Or.inr ⟨by decide, rfl⟩) (lo p) (by omega) (by omega) o1 o2 _ [] 64 M1 rfl (by rw [List.length_reverse]; omega) h1 hl)
      · rw [if_neg k3, if_neg k3, bnd_id]
        exact VOk.in (Nat.le_refl _) (Nat.le_refl _) r1 (find_lp hq hp hv2 (Or.inl ⟨rfl, rfl⟩) (lo p) (by omega) (by omega) o1 o2 _ [] 64 M1 rfl (by omega) h1 hl)
  · rw [if_neg k1, if_neg k1, if_pos (show (0 : Int32) = 0 from rfl)]
    exact VOk.err r1 h1.er0 rfl
