/-! Roles: sets of roles as numbers below 65536; the class's wholes and the reference's closure say the same. -/
theorem rb_sl : ∀ n, n < 32 → ((nI n &&& 31).toBitVec.smod 32).toNat = n := by decide +kernel
theorem rb_or (a b : Nat) : nI a ||| nI b = nI (a ||| b) := by
  apply Int32.toBitVec_inj.1
  show BitVec.ofNat 32 a ||| BitVec.ofNat 32 b = BitVec.ofNat 32 (a ||| b)
  apply BitVec.eq_of_getLsbD_eq
  intro i hi
  simp [hi]
theorem rb_bit {S k : Nat} (hS : S < 65536) (hk : k < 32) : ((nI S >>> (nI k &&& 31)) &&& 1) = 1 ↔ S.testBit k = true := by
  have h1 : S / 2 ^ k ≤ S := Nat.div_le_self _ _
  rw [pk_shrN (by omega) _ k (rb_sl k hk), pk_andN (m := 1) (by omega) 1 (by decide), Nat.testBit_eq_decide_div_mod_eq, decide_eq_true_iff]
  have h2 : S / 2 ^ k % 2 ^ 1 < 2 := Nat.mod_lt _ (by decide)
  exact nI_eq (b := 1) (by omega) (by decide)
theorem rb_one {k : Nat} (hk : k < 16) : (1 : Int32) <<< (nI k &&& 31) = nI (2 ^ k) := by
  have h : 1 * 2 ^ k < 2 ^ 32 := by
    have := Nat.pow_lt_pow_right (a := 2) (by decide) (show k < 32 by omega)
    omega
  have h2 := pk_shlN (n := 1) (nI k &&& 31) k (rb_sl k (by omega)) h
  rw [Nat.one_mul] at h2
  exact h2
theorem pw16 {k : Nat} (hk : k < 16) : 2 ^ k < 65536 := Nat.pow_lt_pow_right (a := 2) (n := 16) (by decide) hk
theorem tb_hi {x i : Nat} (h : x < 65536) (hi : 16 ≤ i) : x.testBit i = false := Nat.testBit_lt_two_pow (Nat.lt_of_lt_of_le h (Nat.pow_le_pow_right (n := 2) (by decide) hi))
theorem or16 {a b : Nat} (ha : a < 65536) (hb : b < 65536) : a ||| b < 65536 := Nat.or_lt_two_pow (n := 16) ha hb
theorem ext16 {a b : Nat} (ha : a < 65536) (hb : b < 65536) (h : ∀ i, i < 16 → (a.testBit i = true ↔ b.testBit i = true)) : a = b := by
  apply Nat.eq_of_testBit_eq
  intro i
  rcases Nat.lt_or_ge i 16 with hi | hi
  · have := h i hi
    cases h1 : a.testBit i <;> cases h2 : b.testBit i <;> simp_all
  · rw [tb_hi ha hi, tb_hi hb hi]
theorem or_tb {a b i : Nat} : (a ||| b).testBit i = true ↔ a.testBit i = true ∨ b.testBit i = true := by
  rw [Nat.testBit_or, Bool.or_eq_true]
/-! reaching -/
def Rch (D : Nat → Nat) (x y : Nat) : Prop := ∃ n, rch D n x y
theorem rch_refl (D : Nat → Nat) (x : Nat) : Rch D x x := ⟨0, rfl⟩
theorem rch_step {D : Nat → Nat} {x z y : Nat} (hz : z < 16) (h : (D x).testBit z = true) (h2 : Rch D z y) : Rch D x y := by
  obtain ⟨n, hn⟩ := h2
  exact ⟨n + 1, Or.inr ⟨z, hz, h, hn⟩⟩
theorem rch_tr {D : Nat → Nat} : ∀ {n x y z : Nat}, rch D n x y → Rch D y z → Rch D x z
  | 0, x, y, z, h, h2 => by
    have h : x = y := h
    rw [h]
    exact h2
  | n + 1, x, y, z, h, h2 => by
    rcases h with h | ⟨w, hw, h3, h4⟩
    · rw [h]
      exact h2
    · exact rch_step hw h3 (rch_tr h4 h2)
/-- a new edge from a to b -/
theorem rch_new {D D' : Nat → Nat} {a b : Nat} (hb : b < 16) (hD : ∀ x z, z < 16 → ((D' x).testBit z = true ↔ (D x).testBit z = true ∨ (x = a ∧ z = b))) (x y : Nat) : Rch D' x y ↔ Rch D x y ∨ (Rch D x a ∧ Rch D b y) := by
  constructor
  · rintro ⟨n, hn⟩
    induction n generalizing x with
    | zero =>
      have hn : x = y := hn
      rw [hn]
      exact Or.inl (rch_refl D y)
    | succ n ih =>
      rcases hn with hn | ⟨z, hz, h1, h2⟩
      · rw [hn]
        exact Or.inl (rch_refl D y)
      · rcases (hD x z hz).mp h1 with h3 | ⟨rfl, rfl⟩
        · rcases ih z h2 with h4 | ⟨h4, h5⟩
          · exact Or.inl (rch_step hz h3 h4)
          · exact Or.inr ⟨rch_step hz h3 h4, h5⟩
        · rcases ih z h2 with h4 | ⟨-, h5⟩
          · exact Or.inr ⟨rch_refl D x, h4⟩
          · exact Or.inr ⟨rch_refl D x, h5⟩
  · have up : ∀ n x y, rch D n x y → Rch D' x y := by
      intro n
      induction n with
      | zero => intro x y h; exact ⟨0, h⟩
      | succ n ih =>
        intro x y h
        rcases h with h | ⟨z, hz, h1, h2⟩
        · exact ⟨0, h⟩
        · exact rch_step hz ((hD x z hz).mpr (Or.inl h1)) (ih z y h2)
    rintro (⟨n, hn⟩ | ⟨⟨n, hn⟩, ⟨m, hm⟩⟩)
    · exact up n x y hn
    · obtain ⟨k, hk⟩ := up n x a hn
      exact rch_tr hk (rch_step hb ((hD a b hb).mpr (Or.inr ⟨rfl, rfl⟩)) (up m b y hm))
/-! the class: the wholes of a set's roles -/
def orW (Wm : Nat → Nat) (S : Nat) : Nat → Nat → Nat
  | 0, acc => acc
  | n + 1, acc => orW Wm S n (if S.testBit (15 - n) then acc ||| Wm (15 - n) else acc)
theorem orW_lt {Wm : Nat → Nat} {S : Nat} (hW : ∀ k, k < 16 → Wm k < 65536) : ∀ (n acc : Nat), n ≤ 16 → acc < 65536 → orW Wm S n acc < 65536
  | 0, acc, _, h => h
  | n + 1, acc, hn, h => by
    unfold orW
    refine orW_lt hW n _ (by omega) ?_
    split
    · exact or16 h (hW _ (by omega))
    · exact h
theorem orW_tb {Wm : Nat → Nat} {S i : Nat} : ∀ (n acc : Nat), n ≤ 16 → ((orW Wm S n acc).testBit i = true ↔ acc.testBit i = true ∨ ∃ k, 16 - n ≤ k ∧ k < 16 ∧ S.testBit k = true ∧ (Wm k).testBit i = true)
  | 0, acc, _ => by
    unfold orW
    constructor
    · exact Or.inl
    · rintro (h | ⟨k, h1, h2, -⟩)
      · exact h
      · omega
  | n + 1, acc, hn => by
    unfold orW
    rw [orW_tb n _ (by omega)]
    constructor
    · rintro (h | ⟨k, h1, h2, h3⟩)
      · split at h
        next hs =>
          rcases or_tb.mp h with h | h
          · exact Or.inl h
          · exact Or.inr ⟨15 - n, by omega, by omega, hs, h⟩
        next => exact Or.inl h
      · exact Or.inr ⟨k, by omega, h2, h3⟩
    · rintro (h | ⟨k, h1, h2, h3, h4⟩)
      · left
        split
        · exact or_tb.mpr (Or.inl h)
        · exact h
      · by_cases hk : k = 15 - n
        · left
          rw [← hk, if_pos h3]
          exact or_tb.mpr (Or.inr h4)
        · exact Or.inr ⟨k, by omega, h2, h3, h4⟩
theorem reach_c {M : ax_M} {Wm : Nat → Nat} {S : Nat} (hS : S < 65536) (eS : gI M 63 3 = nI S) (hW : ∀ k, k < 16 → Wm k < 65536 ∧ gI M 65 k = nI (Wm k)) : ∀ (n f acc : Nat), n ≤ 16 → n < f → acc < 65536 → f_Ctx_reachable_4 f (nI acc) (nI (16 - n)) M = some (nI (orW Wm S n acc), M)
  | n, 0, acc, _, hf, _ => absurd hf (by omega)
  | 0, f + 1, acc, _, _, _ => by
    show f_Ctx_reachable_4_b (f_Ctx_reachable_4 f) (nI acc) (nI 16) M = _
    unfold f_Ctx_reachable_4_b
    rw [if_pos (show (16 : Int32) ≤ nI 16 by decide)]
    rfl
  | n + 1, f + 1, acc, hn, hf, ha => by
    show f_Ctx_reachable_4_b (f_Ctx_reachable_4 f) (nI acc) (nI (16 - (n + 1))) M = _
    unfold f_Ctx_reachable_4_b orW
    have e0 : 16 - (n + 1) = 15 - n := by omega
    have e1 : nI (15 - n) + 1 = nI (16 - n) := by rw [nI_1]; congr 1; omega
    rw [e0, if_neg (show ¬ (16 : Int32) ≤ nI (15 - n) from nI_ge (b := 16) (by omega) (by decide)), eS]
    by_cases h : S.testBit (15 - n) = true
    · rw [if_pos ((rb_bit hS (by omega)).mpr h), gi_nI (by omega) (by decide), kM_eq, kM_eq, nI_clamp (by omega), (hW (15 - n) (by omega)).2, rb_or, e1, if_pos h]
      exact reach_c hS eS hW n f _ (by omega) (by omega) (or16 ha (hW _ (by omega)).1)
    · rw [if_neg (fun q => h ((rb_bit hS (by omega)).mp q)), kM_eq, e1, if_neg h]
      exact reach_c hS eS hW n f _ (by omega) (by omega) ha
/-! the reference: rounds over the direct ones -/
def clI (D : Nat → Nat) : Nat → Nat → Nat
  | 0, S => S
  | n + 1, S => clI D n (if S.testBit (15 - n) then S ||| D (15 - n) else S)
def clO (D : Nat → Nat) : Nat → Nat → Nat
  | 0, S => S
  | n + 1, S => clO D n (clI D 16 S)
theorem clI_lt {D : Nat → Nat} (hD : ∀ k, k < 16 → D k < 65536) : ∀ (n S : Nat), n ≤ 16 → S < 65536 → clI D n S < 65536
  | 0, S, _, h => h
  | n + 1, S, hn, h => by
    unfold clI
    refine clI_lt hD n _ (by omega) ?_
    split
    · exact or16 h (hD _ (by omega))
    · exact h
theorem clO_lt {D : Nat → Nat} (hD : ∀ k, k < 16 → D k < 65536) : ∀ (n S : Nat), S < 65536 → clO D n S < 65536
  | 0, S, h => h
  | n + 1, S, h => by
    unfold clO
    exact clO_lt hD n _ (clI_lt hD 16 S (by omega) h)
theorem clI_m {M : ax_M} {D : Nat → Nat} (hD : ∀ k, k < 16 → D k < 65536 ∧ gI M 191 k = nI (D k)) (K4 : Int32 → Int32 → ax_M → Option (Int32 × ax_M)) (r : Int32) : ∀ (n f S : Nat), n ≤ 16 → n < f → S < 65536 → f_Mod_closure_13 K4 f (nI S) r (nI (16 - n)) M = K4 (nI (clI D n S)) (r + 1) M
  | n, 0, S, _, hf, _ => absurd hf (by omega)
  | 0, f + 1, S, _, _, _ => by
    show f_Mod_closure_13_b K4 (f_Mod_closure_13 K4 f) (nI S) r (nI 16) M = _
    unfold f_Mod_closure_13_b
    rw [if_pos (show (16 : Int32) ≤ nI 16 by decide)]
    rfl
  | n + 1, f + 1, S, hn, hf, hS => by
    show f_Mod_closure_13_b K4 (f_Mod_closure_13 K4 f) (nI S) r (nI (16 - (n + 1))) M = _
    unfold f_Mod_closure_13_b clI
    have e0 : 16 - (n + 1) = 15 - n := by omega
    have e1 : nI (15 - n) + 1 = nI (16 - n) := by rw [nI_1]; congr 1; omega
    rw [e0, if_neg (show ¬ (16 : Int32) ≤ nI (15 - n) from nI_ge (b := 16) (by omega) (by decide))]
    by_cases h : S.testBit (15 - n) = true
    · rw [if_pos ((rb_bit hS (by omega)).mpr h), gi_nI (by omega) (by decide), kM_eq, kM_eq, nI_clamp (by omega), (hD (15 - n) (by omega)).2, rb_or, e1, if_pos h]
      exact clI_m hD K4 r n f _ (by omega) (by omega) (or16 hS (hD _ (by omega)).1)
    · rw [if_neg (fun q => h ((rb_bit hS (by omega)).mp q)), kM_eq, e1, if_neg h]
      exact clI_m hD K4 r n f _ (by omega) (by omega) hS
theorem clO_m {M : ax_M} {D : Nat → Nat} (hD : ∀ k, k < 16 → D k < 65536 ∧ gI M 191 k = nI (D k)) : ∀ (n f S : Nat), n ≤ 16 → n < f → S < 65536 → f_Mod_closure_4 f (nI S) (nI (16 - n)) M = some (nI (clO D n S), M)
  | n, 0, S, _, hf, _ => absurd hf (by omega)
  | 0, f + 1, S, _, _, _ => by
    show f_Mod_closure_4_b (f_Mod_closure_4 f) (nI S) (nI 16) M = _
    unfold f_Mod_closure_4_b
    rw [if_pos (show (16 : Int32) ≤ nI 16 by decide)]
    rfl
  | n + 1, f + 1, S, hn, hf, hS => by
    show f_Mod_closure_4_b (f_Mod_closure_4 f) (nI S) (nI (16 - (n + 1))) M = _
    unfold f_Mod_closure_4_b clO
    have e0 : 16 - (n + 1) = 15 - n := by omega
    have e1 : nI (15 - n) + 1 = nI (16 - n) := by rw [nI_1]; congr 1; omega
    rw [e0, if_neg (show ¬ (16 : Int32) ≤ nI (15 - n) from nI_ge (b := 16) (by omega) (by decide))]
    have h1 := clI_m hD (f_Mod_closure_4 f) (nI (15 - n)) 16 64 S (by omega) (by omega) hS
    rw [show nI (16 - 16) = 0 from rfl] at h1
    rw [h1, e1]
    exact clO_m hD n f _ (by omega) (by omega) (clI_lt (fun k hk => (hD k hk).1) 16 S (by omega) hS)
/-! what the rounds bring -/
theorem clI_ge {D : Nat → Nat} {i : Nat} : ∀ (n S : Nat), S.testBit i = true → (clI D n S).testBit i = true
  | 0, _, h => h
  | n + 1, S, h => by
    unfold clI
    refine clI_ge n _ ?_
    split
    · exact or_tb.mpr (Or.inl h)
    · exact h
theorem clI_in {D : Nat → Nat} {i k : Nat} (hk : k < 16) (h2 : (D k).testBit i = true) : ∀ (n S : Nat), n ≤ 16 → 16 - n ≤ k → S.testBit k = true → (clI D n S).testBit i = true
  | 0, S, _, h, _ => absurd h (by omega)
  | n + 1, S, hn, h, h1 => by
    unfold clI
    by_cases e : k = 15 - n
    · refine clI_ge n _ ?_
      rw [← e, if_pos h1]
      exact or_tb.mpr (Or.inr h2)
    · refine clI_in hk h2 n _ (by omega) (by omega) ?_
      split
      · exact or_tb.mpr (Or.inl h1)
      · exact h1
theorem clI_snd {D : Nat → Nat} {i : Nat} : ∀ (n S : Nat), n ≤ 16 → i < 16 → (clI D n S).testBit i = true → ∃ k, k < 16 ∧ S.testBit k = true ∧ Rch D k i
  | 0, S, _, hi, h => ⟨i, hi, h, rch_refl D i⟩
  | n + 1, S, hn, hi, h => by
    unfold clI at h
    obtain ⟨k, hk, h1, h2⟩ := clI_snd n _ (by omega) hi h
    split at h1
    next hs =>
      rcases or_tb.mp h1 with h3 | h3
      · exact ⟨k, hk, h3, h2⟩
      · exact ⟨15 - n, by omega, hs, rch_step hk h3 h2⟩
    next => exact ⟨k, hk, h1, h2⟩
theorem clO_snd {D : Nat → Nat} {i : Nat} : ∀ (n S : Nat), i < 16 → (clO D n S).testBit i = true → ∃ k, k < 16 ∧ S.testBit k = true ∧ Rch D k i
  | 0, S, hi, h => ⟨i, hi, h, rch_refl D i⟩
  | n + 1, S, hi, h => by
    unfold clO at h
    obtain ⟨k, hk, h1, ⟨m, hm⟩⟩ := clO_snd n _ hi h
    obtain ⟨j, hj, h2, ⟨q, hq⟩⟩ := clI_snd 16 S (by omega) hk h1
    exact ⟨j, hj, h2, rch_tr hq ⟨m, hm⟩⟩
theorem clO_ge {D : Nat → Nat} {i : Nat} : ∀ (n S : Nat), S.testBit i = true → (clO D n S).testBit i = true
  | 0, _, h => h
  | n + 1, S, h => by
    unfold clO
    exact clO_ge n _ (clI_ge 16 S h)
/-- how many roles a set has -/
def crd (S : Nat) : Nat → Nat
  | 0 => 0
  | n + 1 => crd S n + (if S.testBit n then 1 else 0)
theorem crd_le (S : Nat) : ∀ n, crd S n ≤ n
  | 0 => Nat.le_refl _
  | n + 1 => by
    unfold crd
    have := crd_le S n
    split <;> omega
theorem crd_mono {S T : Nat} (h : ∀ i, S.testBit i = true → T.testBit i = true) : ∀ n, crd S n ≤ crd T n
  | 0 => Nat.le_refl _
  | n + 1 => by
    unfold crd
    have := crd_mono h n
    by_cases h1 : S.testBit n = true
    · rw [if_pos h1, if_pos (h n h1)]
      omega
    · rw [if_neg h1]
      omega
theorem crd_lt {S T i : Nat} (h : ∀ i, S.testBit i = true → T.testBit i = true) (h1 : ¬ S.testBit i = true) (h2 : T.testBit i = true) : ∀ n, i < n → crd S n < crd T n
  | 0, hn => absurd hn (by omega)
  | n + 1, hn => by
    unfold crd
    by_cases e : i = n
    · subst e
      have := crd_mono h i
      rw [if_neg h1, if_pos h2]
      omega
    · have := crd_lt h h1 h2 n (by omega)
      by_cases h3 : S.testBit n = true
      · rw [if_pos h3, if_pos (h n h3)]
        omega
      · rw [if_neg h3]
        omega
/-- closed: with a role all that it names -/
def Clo (D : Nat → Nat) (S : Nat) : Prop := ∀ k i, k < 16 → i < 16 → S.testBit k = true → (D k).testBit i = true → S.testBit i = true
theorem crd_full {S : Nat} : ∀ n, crd S n = n → ∀ i, i < n → S.testBit i = true
  | 0, _, i, hi => absurd hi (by omega)
  | n + 1, h, i, hi => by
    unfold crd at h
    have h1 := crd_le S n
    by_cases h2 : S.testBit n = true
    · by_cases e : i = n
      · rw [e]; exact h2
      · rw [if_pos h2] at h
        exact crd_full n (by omega) i (by omega)
    · rw [if_neg h2] at h
      omega
theorem clO_clo {D : Nat → Nat} (hD : ∀ k, k < 16 → D k < 65536) : ∀ (n S : Nat), S < 65536 → 16 ≤ n + crd S 16 → Clo D (clO D n S)
  | 0, S, hS, hn => by
    have h1 := crd_le S 16
    intro k i _ hi _ _
    exact crd_full (S := S) 16 (by omega) i hi
  | n + 1, S, hS, hn => by
    unfold clO
    by_cases hc : Clo D S
    · have h1 : clI D 16 S = S := by
        refine ext16 (clI_lt hD 16 S (by omega) hS) hS (fun i hi => ⟨fun h => ?_, clI_ge 16 S⟩)
        obtain ⟨k, hk, h2, ⟨m, hm⟩⟩ := clI_snd 16 S (by omega) hi h
        have key : ∀ m k, k < 16 → S.testBit k = true → rch D m k i → S.testBit i = true := by
          intro m
          induction m with
          | zero => intro k _ h2 h3; have h3 : k = i := h3; rw [← h3]; exact h2
          | succ m ih =>
            intro k hk h2 h3
            rcases h3 with h3 | ⟨z, hz, h4, h5⟩
            · rw [← h3]; exact h2
            · exact ih z hz (hc k z hk hz h2 h4) h5
        exact key m k hk h2 hm
      rw [h1]
      have st : ∀ m, clO D m S = S := by
        intro m
        induction m with
        | zero => rfl
        | succ m ih => unfold clO; rw [h1]; exact ih
      rw [st]
      exact hc
    · have h1 : crd S 16 < crd (clI D 16 S) 16 := by
        unfold Clo at hc
        have hc2 : ∃ k i, k < 16 ∧ i < 16 ∧ S.testBit k = true ∧ (D k).testBit i = true ∧ ¬ S.testBit i = true := by
          refine Classical.byContradiction fun q => hc (fun k i hk hi a b => Classical.byContradiction fun z => q ⟨k, i, hk, hi, a, b, z⟩)
        obtain ⟨k, i, hk, hi, a, b, z⟩ := hc2
        exact crd_lt (fun j hj => clI_ge 16 S hj) z (clI_in hk b 16 S (by omega) (by omega) a) 16 hi
      exact clO_clo hD n _ (clI_lt hD 16 S (by omega) hS) (by omega)
theorem clo_tb {D : Nat → Nat} (hD : ∀ k, k < 16 → D k < 65536) {S i : Nat} (hS : S < 65536) (hi : i < 16) : (clO D 16 S).testBit i = true ↔ ∃ k, k < 16 ∧ S.testBit k = true ∧ Rch D k i := by
  refine ⟨clO_snd 16 S hi, ?_⟩
  rintro ⟨k, hk, h1, ⟨m, hm⟩⟩
  have hc := clO_clo hD 16 S hS (by omega)
  have key : ∀ m k, k < 16 → (clO D 16 S).testBit k = true → rch D m k i → (clO D 16 S).testBit i = true := by
    intro m
    induction m with
    | zero => intro k _ h2 h3; have h3 : k = i := h3; rw [← h3]; exact h2
    | succ m ih =>
      intro k hk h2 h3
      rcases h3 with h3 | ⟨z, hz, h4, h5⟩
      · rw [← h3]; exact h2
      · exact ih z hz (hc k z hk hz h2 h4) h5
  exact key m k hk (clO_ge 16 S h1) hm
/-- the class's set and the reference's -/
theorem roles_both {M : ax_M} {D Wm : Nat → Nat} (hR : ∀ k, k < 16 → D k < 65536 ∧ gI M 64 k = nI (D k) ∧ gI M 191 k = nI (D k) ∧ Wm k < 65536 ∧ gI M 65 k = nI (Wm k) ∧ ∀ y, y < 16 → ((Wm k).testBit y = true ↔ ∃ n, rch D n k y)) {S : Nat} (hS : S < 65536) : clO D 16 S < 65536 ∧ f_Mod_closure (nI S) M = some (nI (clO D 16 S), M) ∧ (gI M 63 3 = nI S → f_Ctx_reachable M = some (nI (clO D 16 S), M)) := by
  have hD : ∀ k, k < 16 → D k < 65536 ∧ gI M 191 k = nI (D k) := fun k hk => ⟨(hR k hk).1, (hR k hk).2.2.1⟩
  have hW : ∀ k, k < 16 → Wm k < 65536 ∧ gI M 65 k = nI (Wm k) := fun k hk => ⟨(hR k hk).2.2.2.1, (hR k hk).2.2.2.2.1⟩
  have hl := clO_lt (fun k hk => (hD k hk).1) 16 S hS
  refine ⟨hl, ?_, fun e => ?_⟩
  · have h := clO_m hD 16 64 S (by omega) (by omega) hS
    exact h
  · have h := reach_c hS e hW 16 64 0 (by omega) (by omega) (by omega)
    have e2 : orW Wm S 16 0 = clO D 16 S := by
      refine ext16 (orW_lt (fun k hk => (hW k hk).1) 16 0 (by omega) (by omega)) hl (fun i hi => ?_)
      rw [orW_tb 16 0 (by omega), clo_tb (fun k hk => (hD k hk).1) hS hi]
      constructor
      · rintro (h | ⟨k, -, hk, h1, h2⟩)
        · rw [Nat.zero_testBit] at h
          cases h
        · exact ⟨k, hk, h1, ((hR k hk).2.2.2.2.2 i hi).mp h2⟩
      · rintro ⟨k, hk, h1, h2⟩
        exact Or.inr ⟨k, by omega, hk, h1, ((hR k hk).2.2.2.2.2 i hi).mpr h2⟩
    rw [e2] at h
    exact h
theorem sim_context {M : ax_M} (h : Sim M) : ∃ r, f_MW_context M = some (r, M) ∧ f_Mod_context M = some (r, M) := by
  obtain ⟨D, Wm, hR⟩ := h.2.2.2.1
  obtain ⟨c1, c2, c3, c4, c5, c6, c7⟩ := h.2.2.1
  obtain ⟨S, hS, eS⟩ := nI_of2 (n := 65535) (M := 65535) (by decide) (Int32.not_lt.mpr c5) c6
  obtain ⟨-, h1, h2⟩ := roles_both hR (S := S) (by omega)
  unfold f_MW_context f_Ctx_isNobody f_Mod_context
  rw [c1, c2]
  by_cases hn : gI M 63 2 = -1
  · rw [if_pos hn, hn, if_neg (by decide)]
    exact ⟨-1, rfl, rfl⟩
  · have hp : 0 ≤ gI M 63 2 := by
      have h4 := i_ne hn
      rw [Int32.le_iff_toInt_le] at c3 ⊢
      rw [i_m1] at c3 h4
      rw [i_0]
      omega
    rw [if_neg hn, if_pos hp, bnd_eq, if_pos rfl, h2 eS, eS, h1]
    exact ⟨_, rfl, rfl⟩
/-! senior -/
def wNew (Wm : Nat → Nat) (a b k : Nat) : Nat := if (Wm k).testBit a then Wm k ||| Wm b else Wm k
theorem incl_c {Wm : Nat → Nat} {a b : Nat} (ha : a < 16) (hb : b < 16) (hW : ∀ k, k < 16 → Wm k < 65536) (hab : ¬ (Wm b).testBit a = true) : ∀ (n f : Nat) (M : ax_M), n ≤ 16 → n < f → (∀ k, k < 16 → gI M 65 k = nI (if k < 16 - n then wNew Wm a b k else Wm k)) → ∃ M', f_Ctx_include_42 f (nI a) (nI b) (nI (16 - n)) M = some (1, M') ∧ EqO (fun c => c = 65) M M' ∧ ∀ k, k < 16 → gI M' 65 k = nI (wNew Wm a b k)
  | n, 0, M, _, hf, _ => absurd hf (by omega)
  | 0, f + 1, M, _, _, hk => by
    refine ⟨M, ?_, EqO.rf M, fun k hk2 => by rw [hk k hk2, if_pos (by omega)]⟩
    show f_Ctx_include_42_b (f_Ctx_include_42 f) (nI a) (nI b) (nI 16) M = _
    unfold f_Ctx_include_42_b
    rw [if_pos (show (16 : Int32) ≤ nI 16 by decide)]
  | n + 1, f + 1, M, hn, hf, hk => by
    have e0 : 16 - (n + 1) = 15 - n := by omega
    have e1 : nI (15 - n) + 1 = nI (16 - n) := by rw [nI_1]; congr 1; omega
    have g1 : gI M 65 (15 - n) = nI (Wm (15 - n)) := by rw [hk (15 - n) (by omega), if_neg (by omega)]
    have wb : wNew Wm a b b = Wm b := if_neg hab
    have g2' : gI M 65 b = nI (Wm b) := by
      rw [hk b hb]
      split
      · rw [wb]
      · rfl
    have go : ∀ M', f_Ctx_include_42_b (f_Ctx_include_42 f) (nI a) (nI b) (nI (15 - n)) M = f_Ctx_include_42 f (nI a) (nI b) (nI (16 - n)) M' → EqO (fun c => c = 65) M M' → (∀ k, k < 16 → gI M' 65 k = nI (if k < 16 - n then wNew Wm a b k else Wm k)) → ∃ M', f_Ctx_include_42_b (f_Ctx_include_42 f) (nI a) (nI b) (nI (15 - n)) M = some (1, M') ∧ EqO (fun c => c = 65) M M' ∧ ∀ k, k < 16 → gI M' 65 k = nI (wNew Wm a b k) := by
      intro M' h1 h2 h3
      obtain ⟨M2, a1, a2, a3⟩ := incl_c ha hb hW hab n f M' (by omega) (by omega) h3
      exact ⟨M2, by rw [h1]; exact a1, h2.tr a2, a3⟩
    show ∃ M', f_Ctx_include_42_b (f_Ctx_include_42 f) (nI a) (nI b) (nI (16 - (n + 1))) M = _ ∧ _
    rw [e0]
    by_cases h : (Wm (15 - n)).testBit a = true
    · refine go (mI M 65 (15 - n) (nI (Wm (15 - n) ||| Wm b))) ?_ ((EqO.rf M).mI rfl) (fun k hk2 => ?_)
      · unfold f_Ctx_include_42_b f_Ctx_holds
        rw [if_neg (show ¬ (16 : Int32) ≤ nI (15 - n) from nI_ge (b := 16) (by omega) (by decide)), gi_nI (by omega) (by decide), nI_clamp (by omega), g1, if_pos ((rb_bit (hW _ (by omega)) (by omega)).mpr h), bnd_eq, if_neg (by decide), gi_nI hb (by decide), kM_eq, kM_eq, kM_eq, g1, nI_clamp (by omega), g2', rb_or, e1]
      · by_cases e : k = 15 - n
        · rw [e, mIs, if_pos (by omega)]
          unfold wNew
          rw [if_pos h]
        · rw [mIk e, hk k hk2]
          by_cases h3 : k < 15 - n
          · rw [if_pos (by omega), if_pos (by omega)]
          · rw [if_neg (by omega), if_neg (by omega)]
    · refine go M ?_ (EqO.rf M) (fun k hk2 => ?_)
      · unfold f_Ctx_include_42_b f_Ctx_holds
        rw [if_neg (show ¬ (16 : Int32) ≤ nI (15 - n) from nI_ge (b := 16) (by omega) (by decide)), gi_nI (by omega) (by decide), nI_clamp (by omega), g1, if_neg (fun q => h ((rb_bit (hW _ (by omega)) (by omega)).mp q)), bnd_eq, if_pos rfl, kM_eq, e1]
      · rw [hk k hk2]
        by_cases e : k = 15 - n
        · rw [if_neg (by omega), if_pos (by omega)]
          unfold wNew
          rw [e, if_neg h]
        · by_cases h3 : k < 15 - n
          · rw [if_pos (by omega), if_pos (by omega)]
          · rw [if_neg (by omega), if_neg (by omega)]
/-- all pieces but the roles, from equal cells -/
theorem Sim.roles {M M' : ax_M} (h : Sim M) (hE : EqO (fun c => c = 64 ∨ c = 65 ∨ c = 191) M M') (hr : S_roles M') : Sim M' := by
  obtain ⟨h_text, h_list, h_ctx, h_roles, h_guard, h_meth, h_val, h_perm, h_expr, h_gate, h_ask, h_misc⟩ := h
  refine ⟨S_text.cg (M := M) (fun c k hf => ?_) h_text, S_list.cg (M := M) (fun c k hf => ?_) h_list, S_ctx.cg (M := M) (fun c k hf => ?_) h_ctx, hr, S_guard.cg (M := M) (fun c k hf => ?_) h_guard, S_meth.cg (M := M) (fun c k hf => ?_) h_meth, S_val.cg (M := M) (fun c k hf => ?_) h_val, S_perm.cg (M := M) (fun k => (hE 8 (by decide) k).2.2) (hE 2 (by decide) 3).2.2 h_perm, S_expr.cg h_perm (fun k => (hE 8 (by decide) k).2.2) (hE 2 (by decide) 3).2.2 (fun c k hf => ?_) h_expr, S_gate.cg (M := M) (fun c k hf => ?_) (hE 139 (by decide) 1).2.1 h_gate, ?_, S_misc.cg (M := M) (hE 68 (by decide) 8).1 (hE 70 (by decide) 0).1 (hE 70 (by decide) 1).2.1 h_misc⟩
  · exact (hE c (by unfold F_text at hf; omega) k).1
  · exact (hE c (by unfold F_list at hf; omega) k).1
  · exact (hE c (by unfold F_ctx at hf; omega) k).1
  · exact (hE c (by unfold F_guard at hf; omega) k).1
  · exact (hE c (by unfold F_meth at hf; omega) k).1
  · exact (hE c (by unfold F_val at hf; omega) k).1
  · exact ⟨(hE c (by unfold F_expr at hf; omega) k).1, (hE c (by unfold F_expr at hf; omega) k).2.1⟩
  · exact (hE c (by unfold F_gate at hf; omega) k).1
  · unfold S_ask
    rw [(hE 184 (by decide) 60).2.1, (hE 2 (by decide) 8).2.1]
    exact h_ask
theorem role_c {M : ax_M} (x : Int32) : (x < 0 ∧ f_MW_isRole x M = some (0, M)) ∨ (¬ x < 0 ∧ 15 < x ∧ f_MW_isRole x M = some (0, M)) ∨ ∃ i, i < 16 ∧ x = nI i ∧ ¬ x < 0 ∧ ¬ 15 < x ∧ f_MW_isRole x M = some (1, M) := by
  unfold f_MW_isRole
  rcases pk_ix x (n := 16) (by decide) with h1 | h1 | ⟨i, hi, rfl⟩
  · exact Or.inl ⟨h1, by rw [if_pos h1]⟩
  · have h2 : ¬ x < 0 := fun q => absurd (Int32.lt_of_le_of_lt h1 q) (by decide)
    have h3 : 15 < x := Int32.lt_of_lt_of_le (by decide) h1
    exact Or.inr (Or.inl ⟨h2, h3, by rw [if_neg h2, if_pos (show (16 : Int32) ≤ x from h1)]⟩)
  · have h2 : ¬ nI i < 0 := nI_pos (by omega)
    have h3 : ¬ (15 : Int32) < nI i := nI_nlt (a := 15) (b := i) (by omega) (by decide)
    exact Or.inr (Or.inr ⟨i, hi, rfl, h2, h3, by rw [if_neg h2, if_neg (show ¬ (16 : Int32) ≤ nI i from nI_ge (b := 16) hi (by decide))]⟩)
theorem sim_senior {M : ax_M} (h : Sim M) (x y : Int32) : ∃ r M1 M2, f_MW_senior x y M = some (r, M1) ∧ f_Mod_senior x y M1 = some (r, M2) ∧ Sim M2 := by
  rcases role_c (M := M) x with ⟨h1, h2⟩ | ⟨h1, h3, h2⟩ | ⟨a, ha, rfl, x1, x2, hx⟩
  · exact ⟨0, M, M, by unfold f_MW_senior; rw [h2]; rfl, by unfold f_Mod_senior; rw [if_pos h1], h⟩
  · exact ⟨0, M, M, by unfold f_MW_senior; rw [h2]; rfl, by unfold f_Mod_senior; rw [if_neg h1, if_pos h3], h⟩
  rcases role_c (M := M) y with ⟨h1, h2⟩ | ⟨h1, h3, h2⟩ | ⟨b, hb, rfl, y1, y2, hy⟩
  · exact ⟨0, M, M, by unfold f_MW_senior; rw [hx, bnd_eq, if_neg (by decide), h2]; rfl, by unfold f_Mod_senior; rw [if_neg x1, if_neg x2, if_pos h1], h⟩
  · exact ⟨0, M, M, by unfold f_MW_senior; rw [hx, bnd_eq, if_neg (by decide), h2]; rfl, by unfold f_Mod_senior; rw [if_neg x1, if_neg x2, if_neg h1, if_pos h3], h⟩
  obtain ⟨D, Wm, hR⟩ := h.2.2.2.1
  obtain ⟨d1, d2, d3, d4, d5, d6⟩ := hR a ha
  obtain ⟨b1, b2, b3, b4, b5, b6⟩ := hR b hb
  have cls : f_MW_senior (nI a) (nI b) M = bnd (f_Ctx_include (nI a) (nI b) M) (fun q7 M8 => if q7 = 0 then (some (0, M8)) else (some (1, M8))) := by
    unfold f_MW_senior
    rw [hx, bnd_eq, if_neg (by decide), hy, bnd_eq, if_neg (by decide)]
  have mod0 : ∀ M1, f_Mod_senior (nI a) (nI b) M1 = if nI a = nI b then (some ((0 : Int32), M1)) else (gi (nI a) 16 (if (((gI M1 191 (nI a).toNatClampNeg) >>> (nI b &&& 31)) &&& 1) = 1 then (some (0, M1)) else (bnd (f_Mod_closure (1 <<< (nI b &&& 31)) M1) (fun q8 M9 => if ((q8 >>> (nI a &&& 31)) &&& 1) = 1 then (some (0, M9)) else (kM (mI M9 191 (nI a).toNatClampNeg ((gI M9 191 (nI a).toNatClampNeg) ||| (1 <<< (nI b &&& 31)))) (fun M11 => some (1, M11))))))) := by
    intro M1
    unfold f_Mod_senior
    rw [if_neg x1, if_neg x2, if_neg y1, if_neg y2]
  have inc : f_Ctx_include (nI a) (nI b) M = if (D a).testBit b = true then some (0, M) else if (Wm b).testBit a = true then some (0, M) else f_Ctx_include_42 64 (nI a) (nI b) 0 (mI M 64 a (nI (D a ||| 2 ^ b))) := by
    unfold f_Ctx_include f_Ctx_holds
    rw [gi_nI ha (by decide), nI_clamp (by omega), d2]
    by_cases q1 : (D a).testBit b = true
    · rw [if_pos ((rb_bit d1 (by omega)).mpr q1), if_pos q1]
      rfl
    · rw [if_neg (fun q => q1 ((rb_bit d1 (by omega)).mp q)), if_neg q1, bnd_eq, if_pos rfl, gi_nI hb (by decide), nI_clamp (by omega), b5]
      by_cases q2 : (Wm b).testBit a = true
      · rw [if_pos ((rb_bit b4 (by omega)).mpr q2), if_pos q2]
        rfl
      · rw [if_neg (fun q => q2 ((rb_bit b4 (by omega)).mp q)), if_neg q2, bnd_eq, if_pos rfl, kM_eq, d2, rb_one hb, rb_or]
  have wbb : (Wm b).testBit b = true := (b6 b hb).mpr (rch_refl D b)
  by_cases q1 : (D a).testBit b = true
  · refine ⟨0, M, M, by rw [cls, inc, if_pos q1]; rfl, ?_, h⟩
    rw [mod0]
    by_cases e : nI a = nI b
    · rw [if_pos e]
    · rw [if_neg e, gi_nI ha (by decide), nI_clamp (by omega), d3, if_pos ((rb_bit d1 (by omega)).mpr q1)]
  by_cases q2 : (Wm b).testBit a = true
  · refine ⟨0, M, M, by rw [cls, inc, if_neg q1, if_pos q2]; rfl, ?_, h⟩
    rw [mod0]
    by_cases e : nI a = nI b
    · rw [if_pos e]
    · obtain ⟨c1, c2, -⟩ := roles_both hR (S := 2 ^ b) (pw16 hb)
      have c3 : (clO D 16 (2 ^ b)).testBit a = true := (clo_tb (fun k hk => (hR k hk).1) (pw16 hb) ha).mpr ⟨b, hb, by rw [Nat.testBit_two_pow]; simp, (b6 a ha).mp q2⟩
      rw [if_neg e, gi_nI ha (by decide), nI_clamp (by omega), d3, if_neg (fun q => q1 ((rb_bit d1 (by omega)).mp q)), rb_one hb, c2, bnd_eq, if_pos ((rb_bit c1 (by omega)).mpr c3)]
  have hne : ¬ a = b := fun e => q2 (e ▸ wbb)
  obtain ⟨M1, i1, i2, i3⟩ := incl_c ha hb (fun k hk => (hR k hk).2.2.2.1) q2 16 64 (mI M 64 a (nI (D a ||| 2 ^ b))) (by omega) (by omega) (fun k hk => by rw [mIc (by decide), if_neg (by omega)]; exact (hR k hk).2.2.2.2.1)
  rw [show nI (16 - 16) = 0 from rfl] at i1
  have e1 : ∀ k, gI M1 191 k = gI M 191 k := fun k => by rw [(i2 191 (by decide) k).1, mIc (by decide)]
  have hD1 : ∀ k, k < 16 → D k < 65536 ∧ gI M1 191 k = nI (D k) := fun k hk => ⟨(hR k hk).1, (e1 k).trans (hR k hk).2.2.1⟩
  refine ⟨1, M1, mI M1 191 a (nI (D a ||| 2 ^ b)), by rw [cls, inc, if_neg q1, if_neg q2, i1]; rfl, ?_, ?_⟩
  · have c1 := clO_lt (fun k hk => (hD1 k hk).1) 16 (2 ^ b) (pw16 hb)
    have c2 := clO_m hD1 16 64 (2 ^ b) (by omega) (by omega) (pw16 hb)
    rw [show nI (16 - 16) = 0 from rfl] at c2
    have c2 : f_Mod_closure (nI (2 ^ b)) M1 = some (nI (clO D 16 (2 ^ b)), M1) := c2
    have c3 : ¬ (clO D 16 (2 ^ b)).testBit a = true := by
      intro q
      obtain ⟨k, hk, k1, k2⟩ := (clo_tb (fun k hk => (hR k hk).1) (pw16 hb) ha).mp q
      rw [Nat.testBit_two_pow] at k1
      have k1 : b = k := of_decide_eq_true k1
      subst k1
      exact q2 ((b6 a ha).mpr k2)
    rw [mod0, if_neg (fun e => hne ((nI_eq (by omega) (by omega)).mp e)), gi_nI ha (by decide), nI_clamp (by omega), (hD1 a ha).2, if_neg (fun q => q1 ((rb_bit d1 (by omega)).mp q)), rb_one hb, c2, bnd_eq, if_neg (fun q => c3 ((rb_bit c1 (by omega)).mp q)), kM_eq, (hD1 a ha).2, rb_or]
  · refine Sim.roles h ?_ ?_
    · refine EqO.mI (((EqO.rf M).mI (Or.inl rfl)).tr (i2.mono (fun c hc => Or.inr (Or.inl hc)))) (Or.inr (Or.inr rfl))
    · have hDt : ∀ x z, z < 16 → (((fun k => if k = a then D a ||| 2 ^ b else D k) x).testBit z = true ↔ (D x).testBit z = true ∨ (x = a ∧ z = b)) := by
        intro x z hz
        by_cases e : x = a
        · subst e
          show (if x = x then D x ||| 2 ^ b else D x).testBit z = true ↔ _
          rw [if_pos rfl, or_tb, Nat.testBit_two_pow, decide_eq_true_iff]
          constructor
          · rintro (q | q)
            · exact Or.inl q
            · exact Or.inr ⟨rfl, q.symm⟩
          · rintro (q | ⟨-, q⟩)
            · exact Or.inl q
            · exact Or.inr q.symm
        · show (if x = a then D a ||| 2 ^ b else D x).testBit z = true ↔ _
          rw [if_neg e]
          exact ⟨Or.inl, fun q => q.elim id (fun z => absurd z.1 e)⟩
      refine ⟨fun k => if k = a then D a ||| 2 ^ b else D k, wNew Wm a b, fun k hk => ?_⟩
      obtain ⟨k1, k2, k3, k4, k5, k6⟩ := hR k hk
      refine ⟨?_, ?_, ?_, ?_, ?_, fun z hz => ?_⟩
      · show (if k = a then D a ||| 2 ^ b else D k) < 65536
        split
        · exact or16 d1 (pw16 hb)
        · exact k1
      · rw [mIc (by decide), (i2 64 (by decide) k).1]
        show gI (mI M 64 a (nI (D a ||| 2 ^ b))) 64 k = nI (if k = a then D a ||| 2 ^ b else D k)
        by_cases e : k = a
        · rw [e, mIs, if_pos rfl]
        · rw [mIk e, if_neg e, k2]
      · show gI (mI M1 191 a (nI (D a ||| 2 ^ b))) 191 k = nI (if k = a then D a ||| 2 ^ b else D k)
        by_cases e : k = a
        · rw [e, mIs, if_pos rfl]
        · rw [mIk e, if_neg e, e1, k3]
      · unfold wNew
        split
        · exact or16 k4 b4
        · exact k4
      · rw [mIc (by decide)]
        exact i3 k hk
      · have hn := rch_new hb hDt k z
        refine Iff.trans ?_ hn.symm
        unfold wNew
        have ka : (Wm k).testBit a = true ↔ Rch D k a := k6 a ha
        have kz : (Wm k).testBit z = true ↔ Rch D k z := k6 z hz
        have bz : (Wm b).testBit z = true ↔ Rch D b z := b6 z hz
        by_cases q : (Wm k).testBit a = true
        · rw [if_pos q, or_tb, kz, bz]
          exact ⟨fun t => t.imp id (fun u => ⟨ka.mp q, u⟩), fun t => t.imp id (fun u => u.2)⟩
        · rw [if_neg q, kz]
          exact ⟨Or.inl, fun t => t.elim id (fun u => absurd (ka.mpr u.1) q)⟩
