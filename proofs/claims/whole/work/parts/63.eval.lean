/-! The value of a part, as a function of the row of parts and of what it is worked out for. -/
abbrev xEnv : Type := Int32 × Nat × Int32 × Int64 × List Int32 × Option xV
abbrev xEnv.u (ρ : xEnv) : Int32 := ρ.1
abbrev xEnv.s (ρ : xEnv) : Nat := ρ.2.1
abbrev xEnv.a (ρ : xEnv) : Int32 := ρ.2.2.1
abbrev xEnv.b (ρ : xEnv) : Int64 := ρ.2.2.2.1
abbrev xEnv.l (ρ : xEnv) : List Int32 := ρ.2.2.2.2.1
abbrev xEnv.r (ρ : xEnv) : Option xV := ρ.2.2.2.2.2
def xLeaf (ρ : xEnv) (it : Option Int32) (o : Int32) (n : Int64) : xV :=
  if o = 2 then xI n.toInt32 else if o = 3 then xJ n else if o = 4 then xT 1 else if o = 5 then xT 0 else if o = 6 then xNo
  else if o = 7 then (if ρ.u = -1 then xNo else xI ρ.u) else if o = 8 then xI ρ.a else if o = 9 then xJ ρ.b
  else if o = 10 then (match it with | none => xErr | some k => xI k) else if o = 11 then (match ρ.r with | none => xErr | some x => x) else xL ρ.l
def xSift (v : Int32 → xV) : List Int32 → Option (List Int32)
  | [] => some []
  | k :: r => if (v k).1 = 1 then (match xSift v r with | none => none | some l => some (if (v k).2.1 = 1 then k :: l else l)) else none
def xFind (v : Int32 → xV) : List Int32 → xV
  | [] => xNo
  | k :: r => if (v k).1 = 1 then (if (v k).2.1 = 1 then xI k else xFind v r) else xErr
def xLogic (o : Int32) (x y : xV) : xV := if x.1 = 1 then (if x.2.1 = 1 ↔ o = 21 then x else if y.1 = 1 then y else xErr) else xErr
def xChoice (x y z : xV) : xV := if x.1 = 1 then (if x.2.1 = 1 then y else z) else xErr
def xSearch (o : Int32) (x : xV) (v : Int32 → xV) : xV := if x.1 = 4 then (if o = 38 then (match xSift v x.2.2 with | none => xErr | some l => xL l) else xFind v (if o = 40 then x.2.2.reverse else x.2.2)) else xErr
abbrev isOne (o : Int32) : Prop := o = 13 ∨ o = 14 ∨ o = 34 ∨ o = 41 ∨ o = 43
def evB (E : xRow) (ρ : xEnv) (V : Nat → Option Int32 → xV) (p : Nat) (it : Option Int32) : xV :=
  if E.1 p ≤ 12 then xLeaf ρ it (E.1 p) (E.2.2.2.2 p)
  else if E.1 p = 21 ∨ E.1 p = 22 then xLogic (E.1 p) (V (E.2.1 p).toNatClampNeg it) (V (E.2.2.1 p).toNatClampNeg it)
  else if E.1 p = 37 then (if (V (E.2.1 p).toNatClampNeg it).1 = 0 then V (E.2.2.1 p).toNatClampNeg it else V (E.2.1 p).toNatClampNeg it)
  else if 38 ≤ E.1 p ∧ E.1 p ≤ 40 then xSearch (E.1 p) (V (E.2.1 p).toNatClampNeg it) (fun k => V (E.2.2.1 p).toNatClampNeg (some k))
  else if E.1 p = 42 then xChoice (V (E.2.1 p).toNatClampNeg it) (V (E.2.2.1 p).toNatClampNeg it) (V (E.2.2.2.1 p).toNatClampNeg it)
  else if (V (E.2.1 p).toNatClampNeg it).1 = -1 then xErr
  else if isOne (E.1 p) then xOne ρ.s (E.1 p) (V (E.2.1 p).toNatClampNeg it)
  else if (V (E.2.2.1 p).toNatClampNeg it).1 = -1 then xErr
  else xTwo (E.1 p) (V (E.2.1 p).toNatClampNeg it) (V (E.2.2.1 p).toNatClampNeg it)
def ev (E : xRow) (ρ : xEnv) : Nat → Nat → Option Int32 → xV
  | 0, _, _ => xErr
  | n + 1, p, it => evB E ρ (fun q j => if q < p then ev E ρ n q j else xErr) p it
theorem ev_fuel (E : xRow) (ρ : xEnv) : ∀ (n m p : Nat) (it : Option Int32), p < n → p < m → ev E ρ n p it = ev E ρ m p it
  | 0, _, _, _, h, _ => absurd h (by omega)
  | _ + 1, 0, _, _, _, h => absurd h (by omega)
  | n + 1, m + 1, p, it, h1, h2 => by
    show evB E ρ (fun q j => if q < p then ev E ρ n q j else xErr) p it = evB E ρ (fun q j => if q < p then ev E ρ m q j else xErr) p it
    have e : (fun (q : Nat) (j : Option Int32) => if q < p then ev E ρ n q j else xErr) = (fun q j => if q < p then ev E ρ m q j else xErr) := by
      funext q j
      by_cases hq : q < p
      · rw [if_pos hq, if_pos hq]
        exact ev_fuel E ρ n m q j (by omega) (by omega)
      · rw [if_neg hq, if_neg hq]
    rw [e]
def evv (E : xRow) (ρ : xEnv) (p : Nat) (it : Option Int32) : xV := ev E ρ (p + 1) p it
theorem evv_eq (E : xRow) (ρ : xEnv) (p : Nat) (it : Option Int32) : evv E ρ p it = evB E ρ (fun q j => if q < p then evv E ρ q j else xErr) p it := by
  show evB E ρ (fun q j => if q < p then ev E ρ p q j else xErr) p it = _
  have e : (fun (q : Nat) (j : Option Int32) => if q < p then ev E ρ p q j else xErr) = (fun q j => if q < p then evv E ρ q j else xErr) := by
    funext q j
    by_cases hq : q < p
    · rw [if_pos hq, if_pos hq]
      exact ev_fuel E ρ p (q + 1) q j hq (by omega)
    · rw [if_neg hq, if_neg hq]
  rw [e]
/-! what the class's cells hold while it works out -/
theorem reach_cg {M M' : ax_M} (h3 : gI M' 63 3 = gI M 63 3) (h5 : ∀ k, gI M' 65 k = gI M 65 k) : ∀ (n : Nat) (a b r : Int32), f_Ctx_reachable_4 n a b M = some (r, M) → f_Ctx_reachable_4 n a b M' = some (r, M')
  | 0, _, _, _, h => by cases h
  | n + 1, a, b, r, h => by
    change f_Ctx_reachable_4_b (f_Ctx_reachable_4 n) a b M = _ at h
    show f_Ctx_reachable_4_b (f_Ctx_reachable_4 n) a b M' = _
    unfold f_Ctx_reachable_4_b at h ⊢
    by_cases q : 16 ≤ b
    · rw [if_pos q] at h ⊢
      cases h
      rfl
    · rw [if_neg q] at h ⊢
      rw [h3]
      by_cases q2 : ((gI M 63 3 >>> (b &&& 31)) &&& 1) = 1
      · rw [if_pos q2] at h ⊢
        by_cases q3 : vp_in b 16
        · rw [gi_pos q3] at h ⊢
          rw [kM_eq, kM_eq] at h ⊢
          rw [h5]
          exact reach_cg h3 h5 n _ _ _ h
        · unfold gi at h
          rw [if_pos (Classical.not_not.mp q3)] at h
          cases h
      · rw [if_neg q2] at h ⊢
        rw [kM_eq] at h ⊢
        exact reach_cg h3 h5 n _ _ _ h
def RetC (M : ax_M) : Option xV → Prop
  | none => gA M 68 7 = 0
  | some x => gA M 68 7 = 139 ∧ VRep M 139 x
def ItC (M : ax_M) : Option Int32 → Prop
  | none => gI M 68 8 = 0
  | some k => gI M 68 8 = 1 ∧ gI M 68 9 = k
def EnvC (M : ax_M) (e : Nat) (E : xRow) (ρ : xEnv) (it : Option Int32) : Prop :=
  (gA M 68 3 = e) ∧ (kd e = 3) ∧ (e + 6 ≤ 63) ∧ (rowOf M e = E) ∧ (gI M 63 2 = ρ.u) ∧ (f_Ctx_reachable M = some (nI ρ.s, M)) ∧ (ρ.s < 65536) ∧ (gI M 68 4 = ρ.a) ∧ (gJ M 68 5 = ρ.b) ∧ (IRep M (gA M 68 6) ρ.l) ∧ (gA M 68 6 + 1 < 68 ∨ 135 ≤ gA M 68 6) ∧ (RetC M ρ.r) ∧ (ItC M it) ∧ (VRep M 70 xErr)
theorem EnvC.ex {M : ax_M} {e : Nat} {E : xRow} {ρ : xEnv} {it : Option Int32} (h : EnvC M e E ρ it) : gA M 68 3 = e := h.1
theorem EnvC.ek {M : ax_M} {e : Nat} {E : xRow} {ρ : xEnv} {it : Option Int32} (h : EnvC M e E ρ it) : kd e = 3 := h.2.1
theorem EnvC.el {M : ax_M} {e : Nat} {E : xRow} {ρ : xEnv} {it : Option Int32} (h : EnvC M e E ρ it) : e + 6 ≤ 63 := h.2.2.1
theorem EnvC.er {M : ax_M} {e : Nat} {E : xRow} {ρ : xEnv} {it : Option Int32} (h : EnvC M e E ρ it) : rowOf M e = E := h.2.2.2.1
theorem EnvC.us {M : ax_M} {e : Nat} {E : xRow} {ρ : xEnv} {it : Option Int32} (h : EnvC M e E ρ it) : gI M 63 2 = ρ.u := h.2.2.2.2.1
theorem EnvC.rc {M : ax_M} {e : Nat} {E : xRow} {ρ : xEnv} {it : Option Int32} (h : EnvC M e E ρ it) : f_Ctx_reachable M = some (nI ρ.s, M) := h.2.2.2.2.2.1
theorem EnvC.rs {M : ax_M} {e : Nat} {E : xRow} {ρ : xEnv} {it : Option Int32} (h : EnvC M e E ρ it) : ρ.s < 65536 := h.2.2.2.2.2.2.1
theorem EnvC.av {M : ax_M} {e : Nat} {E : xRow} {ρ : xEnv} {it : Option Int32} (h : EnvC M e E ρ it) : gI M 68 4 = ρ.a := h.2.2.2.2.2.2.2.1
theorem EnvC.bv {M : ax_M} {e : Nat} {E : xRow} {ρ : xEnv} {it : Option Int32} (h : EnvC M e E ρ it) : gJ M 68 5 = ρ.b := h.2.2.2.2.2.2.2.2.1
theorem EnvC.ll {M : ax_M} {e : Nat} {E : xRow} {ρ : xEnv} {it : Option Int32} (h : EnvC M e E ρ it) : IRep M (gA M 68 6) ρ.l := h.2.2.2.2.2.2.2.2.2.1
theorem EnvC.lp {M : ax_M} {e : Nat} {E : xRow} {ρ : xEnv} {it : Option Int32} (h : EnvC M e E ρ it) : gA M 68 6 + 1 < 68 ∨ 135 ≤ gA M 68 6 := h.2.2.2.2.2.2.2.2.2.2.1
theorem EnvC.rv {M : ax_M} {e : Nat} {E : xRow} {ρ : xEnv} {it : Option Int32} (h : EnvC M e E ρ it) : RetC M ρ.r := h.2.2.2.2.2.2.2.2.2.2.2.1
theorem EnvC.iv {M : ax_M} {e : Nat} {E : xRow} {ρ : xEnv} {it : Option Int32} (h : EnvC M e E ρ it) : ItC M it := h.2.2.2.2.2.2.2.2.2.2.2.2.1
theorem EnvC.er0 {M : ax_M} {e : Nat} {E : xRow} {ρ : xEnv} {it : Option Int32} (h : EnvC M e E ρ it) : VRep M 70 xErr := h.2.2.2.2.2.2.2.2.2.2.2.2.2
def Wk (c : Nat) : Prop := 73 ≤ c ∧ c ≤ 134
theorem EnvC.eq {M M' : ax_M} {e : Nat} {E : xRow} {ρ : xEnv} {it : Option Int32} (h : EnvC M e E ρ it) (hE : EqO Wk M M') : EnvC M' e E ρ it := by
  have w : ∀ c, c < 73 ∨ 134 < c → ¬ Wk c := fun c hc q => by unfold Wk at q; omega
  have eI : ∀ c, c < 73 ∨ 134 < c → ∀ k, gI M' c k = gI M c k := fun c hc k => (hE c (w c hc) k).1
  have eJ : ∀ c, c < 73 ∨ 134 < c → ∀ k, gJ M' c k = gJ M c k := fun c hc k => (hE c (w c hc) k).2.1
  have eA : ∀ c, c < 73 ∨ 134 < c → ∀ k, gA M' c k = gA M c k := fun c hc k => (hE c (w c hc) k).2.2
  have el := h.el
  refine ⟨(eA 68 (by omega) 3).trans h.ex, h.ek, h.el, ?_, (eI 63 (by omega) 2).trans h.us, reach_cg (eI 63 (by omega) 3) (eI 65 (by omega)) 64 0 0 _ h.rc, h.rs, (eI 68 (by omega) 4).trans h.av, (eJ 68 (by omega) 5).trans h.bv, ?_, ?_, ?_, ?_, ?_⟩
  · rw [rowOf.cg (M := M) (fun j hj k => ⟨eI _ (by omega) k, eJ _ (by omega) k⟩)]
    exact h.er
  · have lp := h.lp
    rw [eA 68 (by omega) 6]
    exact h.ll.kp (eI _ (by omega)) (eI _ (by omega))
  · rw [eA 68 (by omega) 6]
    exact h.lp
  · have rv := h.rv
    revert rv
    generalize ρ.r = z
    intro rv
    match z, rv with
    | none, rv => exact (eA 68 (by omega) 7).trans rv
    | some x, rv => exact ⟨(eA 68 (by omega) 7).trans rv.1, rv.2.kp (eI _ (by omega)) (eJ _ (by omega)) (eI _ (by omega)) (eI _ (by omega))⟩
  · have iv := h.iv
    unfold ItC at iv ⊢
    cases it with
    | none => exact (eI 68 (by omega) 8).trans iv
    | some k => exact ⟨(eI 68 (by omega) 8).trans iv.1, (eI 68 (by omega) 9).trans iv.2⟩
  · exact h.er0.kp (eI _ (by omega)) (eJ _ (by omega)) (eI _ (by omega)) (eI _ (by omega))
/-- where a value lies; the rows lo to p may change -/
def At (lo p v : Nat) : Prop := v = 70 ∨ v = 139 ∨ ∃ q, lo ≤ q ∧ q ≤ p ∧ v = 75 + 3 * q
def Rws (lo p c : Nat) : Prop := 75 + 3 * lo ≤ c ∧ c < 78 + 3 * p
def VOk (lo p : Nat) (M : ax_M) (x : xV) (o : Option (Nat × ax_M)) : Prop := ∃ v M', o = some (v, M') ∧ VRep M' v x ∧ EqO (Rws lo p) M M' ∧ At lo p v
theorem kd_row {p : Nat} (hp : p < 20) : kd (75 + 3 * p) = 7 := by
  have h : ∀ q : Fin 20, kd (75 + 3 * q.1) = 7 := by decide +kernel
  exact h ⟨p, hp⟩
theorem VOk.put {lo p : Nat} {M M1 : ax_M} {x : xV} {o : Option (Nat × ax_M)} (hl : lo ≤ p) (h1 : EqO (Rws lo p) M M1) (h : Put M1 (75 + 3 * p) x o) : VOk lo p M x o := by
  obtain ⟨M2, a1, a2, a3⟩ := h
  exact ⟨_, M2, a1, a2, h1.tr (a3.mono fun c hc => by unfold Rw at hc; unfold Rws; omega), Or.inr (Or.inr ⟨p, hl, Nat.le_refl _, rfl⟩)⟩
theorem VOk.err {lo p : Nat} {M M1 : ax_M} {o : Option (Nat × ax_M)} (h1 : EqO (Rws lo p) M M1) (he : VRep M1 70 xErr) (h : o = some (70, M1)) : VOk lo p M xErr o :=
  ⟨70, M1, h, he, h1, Or.inl rfl⟩
theorem bnd_id {o : Option (Nat × ax_M)} : bnd o (fun q m => some (q, m)) = o := by
  cases o with
  | none => rfl
  | some q => rfl
theorem VOk.p0 {p : Nat} (hp : p < 20) {M : ax_M} {x : xV} {o : Option (Nat × ax_M)} (h : Put M (75 + 3 * p) x o) : VOk p p M x (gk (75 + 3 * p) 7 (bnd o (fun q m => some (q, m)))) := by
  rw [gk_pos (kd_row hp), bnd_id]
  exact VOk.put (Nat.le_refl _) (EqO.rf M) h
theorem leaf_ok {M : ax_M} {e : Nat} {E : xRow} {ρ : xEnv} {it : Option Int32} {p : Nat} (h : EnvC M e E ρ it) (hp : p < 20) (o : Int32) (ho : 2 ≤ o ∧ o ≤ 12) (n : Int64) : VOk p p M (xLeaf ρ it o n) (f_Worker_valueOfLeaf o n (75 + 3 * p) M) := by
  have hk := kd_row hp
  unfold f_Worker_valueOfLeaf xLeaf
  by_cases h2 : o = 2
  · rw [if_pos h2, if_pos h2]
    exact VOk.p0 hp (be_int hk _)
  rw [if_neg h2, if_neg h2]
  by_cases h3 : o = 3
  · rw [if_pos h3, if_pos h3]
    exact VOk.p0 hp (be_long hk _)
  rw [if_neg h3, if_neg h3]
  by_cases h4 : o = 4
  · rw [if_pos h4, if_pos h4]
    exact VOk.p0 hp (be_truth hk 1)
  rw [if_neg h4, if_neg h4]
  by_cases h5 : o = 5
  · rw [if_pos h5, if_pos h5]
    exact VOk.p0 hp (be_truth hk 0)
  rw [if_neg h5, if_neg h5]
  by_cases h6 : o = 6
  · rw [if_pos h6, if_pos h6]
    exact VOk.p0 hp (be_nothing hk)
  rw [if_neg h6, if_neg h6]
  by_cases h7 : o = 7
  · rw [if_pos h7, if_pos h7]
    unfold f_Ctx_isNobody
    rw [h.us]
    by_cases q : ρ.u = -1
    · rw [if_pos q, if_pos q, bnd_eq, if_neg (show ¬ (1 : Int32) = 0 by decide)]
      exact VOk.p0 hp (be_nothing hk)
    · rw [if_neg q, if_neg q, bnd_eq, if_pos (show (0 : Int32) = 0 from rfl), h.us]
      exact VOk.p0 hp (be_int hk _)
  rw [if_neg h7, if_neg h7]
  by_cases h8 : o = 8
  · rw [if_pos h8, if_pos h8, h.av]
    exact VOk.p0 hp (be_int hk _)
  rw [if_neg h8, if_neg h8]
  by_cases h9 : o = 9
  · rw [if_pos h9, if_pos h9, h.bv]
    exact VOk.p0 hp (be_long hk _)
  rw [if_neg h9, if_neg h9]
  by_cases h10 : o = 10
  · rw [if_pos h10, if_pos h10]
    have iv := h.iv
    match it, iv with
    | none, iv =>
      rw [if_pos (show gI M 68 8 = 0 from iv)]
      exact VOk.err (EqO.rf M) h.er0 rfl
    | some k, iv =>
      rw [if_neg (show ¬ gI M 68 8 = 0 by rw [iv.1]; decide), show gI M 68 9 = k from iv.2]
      exact VOk.p0 hp (be_int hk _)
  rw [if_neg h10, if_neg h10]
  by_cases h11 : o = 11
  · rw [if_pos h11, if_pos h11, kM_eq]
    have rv := h.rv
    revert rv
    generalize ρ.r = z
    intro rv
    match z, rv with
    | none, rv =>
      rw [if_pos (show gA M 68 7 = 0 from rv)]
      exact VOk.err (EqO.rf M) h.er0 rfl
    | some x, rv =>
      rw [if_neg (show ¬ gA M 68 7 = 0 by rw [rv.1]; decide), kM_eq, show gA M 68 7 = 139 from rv.1]
      exact ⟨139, M, rfl, rv.2, EqO.rf M, Or.inr (Or.inl rfl)⟩
  rw [if_neg h11, if_neg h11]
  have h12 : o = 12 := by
    have a1 := Int32.le_iff_toInt_le.mp ho.1
    have a2 := Int32.le_iff_toInt_le.mp ho.2
    have ee (k : Int32) (n : Int) (hk : k.toInt = n) (z : ¬ o = k) : o.toInt ≠ n := fun q => z (Int32.toInt_inj.mp (q.trans hk.symm))
    have b2 := ee 2 2 (by decide) h2
    have b3 := ee 3 3 (by decide) h3
    have b4 := ee 4 4 (by decide) h4
    have b5 := ee 5 5 (by decide) h5
    have b6 := ee 6 6 (by decide) h6
    have b7 := ee 7 7 (by decide) h7
    have b8 := ee 8 8 (by decide) h8
    have b9 := ee 9 9 (by decide) h9
    have b10 := ee 10 10 (by decide) h10
    have b11 := ee 11 11 (by decide) h11
    have c1 : (2 : Int32).toInt = 2 := by decide
    have c2 : (12 : Int32).toInt = 12 := by decide
    rw [c1] at a1
    rw [c2] at a2
    apply Int32.toInt_inj.mp
    rw [c2]
    omega
  rw [if_pos h12, kM_eq]
  have lp := h.lp
  exact VOk.p0 hp (be_list hk h.ll (by unfold Rw; omega) (by unfold Rw; omega))
