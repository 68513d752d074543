/-! The pure part: words for the functions, and the relation between the class's cells and the reference's. -/
theorem kM_eq {α β : Type} (a : α) (f : α → Option β) : kM a f = f a := rfl
theorem bnd_eq {α β : Type} (a : α) (m : ax_M) (f : α → ax_M → Option β) : bnd (some (a, m)) f = f a m := rfl
theorem bnd_of {α β : Type} {o : Option (α × ax_M)} {a : α} {m : ax_M} (f : α → ax_M → Option β) (h : o = some (a, m)) : bnd o f = f a m := by
  rw [h]
  rfl
theorem gk_pos {β : Type} {r K : Nat} {x : Option β} (h : kd r = K) : gk r K x = x := if_pos h
theorem gi_pos {β : Type} {i : Int32} {n : Nat} {x : Option β} (h : vp_in i n) : gi i n x = x := if_neg h
theorem gi_nI {β : Type} {k n : Nat} {x : Option β} (h : k < n) (hn : n < 2 ^ 31) : gi (nI k) n x = x := gi_pos (vp_in_nI h hn)
theorem g2_0 {β : Type} {x : Option β} : g2 0 x = x := rfl
theorem g2_1 {β : Type} {x : Option β} : g2 1 x = x := rfl
theorem g2_pos {β : Type} {y : Int32} {x : Option β} (h : y = 0 ∨ y = 1) : g2 y x = x := if_pos h
theorem gc_pos {β : Type} {y : Int32} {x : Option β} (h : narrow .char (.int y) = .int y) : gc y x = x := if_pos h
theorem gz_pos {β : Type} {y : Int64} {x : Option β} (h : ¬ y = 0) : gz y x = x := if_neg h
theorem mIs (M : ax_M) (c k : Nat) (v : Int32) : gI (mI M c k v) c k = v := if_pos ⟨rfl, rfl⟩
theorem mJs (M : ax_M) (c k : Nat) (v : Int64) : gJ (mJ M c k v) c k = v := if_pos ⟨rfl, rfl⟩
theorem mAs (M : ax_M) (c k : Nat) (v : Nat) : gA (mA M c k v) c k = v := if_pos ⟨rfl, rfl⟩
theorem mIc {M : ax_M} {c k a j : Nat} {v : Int32} (h : a ≠ c) : gI (mI M c k v) a j = gI M a j := if_neg (fun q => h q.1)
theorem mJc {M : ax_M} {c k a j : Nat} {v : Int64} (h : a ≠ c) : gJ (mJ M c k v) a j = gJ M a j := if_neg (fun q => h q.1)
theorem mAc {M : ax_M} {c k a j : Nat} {v : Nat} (h : a ≠ c) : gA (mA M c k v) a j = gA M a j := if_neg (fun q => h q.1)
theorem mIk {M : ax_M} {c k a j : Nat} {v : Int32} (h : j ≠ k) : gI (mI M c k v) a j = gI M a j := if_neg (fun q => h q.2)
/-- the class's and the reference's memory outside some cells -/
def EqO (S : Nat → Prop) (M M' : ax_M) : Prop := ∀ c, ¬ S c → ∀ k, gI M' c k = gI M c k ∧ gJ M' c k = gJ M c k ∧ gA M' c k = gA M c k
theorem EqO.rf {S : Nat → Prop} (M : ax_M) : EqO S M M := fun _ _ _ => ⟨rfl, rfl, rfl⟩
theorem EqO.tr {S : Nat → Prop} {M M' M'' : ax_M} (h : EqO S M M') (h2 : EqO S M' M'') : EqO S M M'' := fun c hc k => ⟨(h2 c hc k).1.trans (h c hc k).1, (h2 c hc k).2.1.trans (h c hc k).2.1, (h2 c hc k).2.2.trans (h c hc k).2.2⟩
theorem EqO.mono {S T : Nat → Prop} {M M' : ax_M} (h : EqO S M M') (hs : ∀ c, S c → T c) : EqO T M M' := fun c hc k => h c (fun z => hc (hs c z)) k
theorem EqO.mI {S : Nat → Prop} {M M' : ax_M} (h : EqO S M M') {c k : Nat} {v : Int32} (hc : S c) : EqO S M (mI M' c k v) := h.tr (fun a ha j => ⟨mIc (fun q => ha (q ▸ hc)), rfl, rfl⟩)
theorem EqO.mJ {S : Nat → Prop} {M M' : ax_M} (h : EqO S M M') {c k : Nat} {v : Int64} (hc : S c) : EqO S M (mJ M' c k v) := h.tr (fun a ha j => ⟨rfl, mJc (fun q => ha (q ▸ hc)), rfl⟩)
theorem EqO.mA {S : Nat → Prop} {M M' : ax_M} (h : EqO S M M') {c k : Nat} {v : Nat} (hc : S c) : EqO S M (mA M' c k v) := h.tr (fun a ha j => ⟨rfl, rfl, mAc (fun q => ha (q ▸ hc))⟩)
/-! the relation, piece by piece -/
def S_text (M : ax_M) : Prop := ∃ n, n ≤ 48 ∧ gI M 3 1 = nI n ∧ gI M 184 1 = nI n ∧ ∀ k, k < n → gI M 185 k = gI M 4 k ∧ 32 ≤ gI M 4 k ∧ gI M 4 k ≤ 126
def S_list (M : ax_M) : Prop := ∃ n, n ≤ 5 ∧ gI M 66 1 = nI n ∧ gI M 184 16 = nI n ∧ ∀ k, k < n → gI M 192 k = gI M 67 k
def S_ctx (M : ax_M) : Prop := gI M 184 13 = gI M 63 2 ∧ gI M 184 14 = gI M 63 3 ∧ -1 ≤ gI M 63 2 ∧ gI M 63 2 ≤ 999 ∧ 0 ≤ gI M 63 3 ∧ gI M 63 3 ≤ 65535 ∧ (gI M 63 2 = -1 → gI M 63 3 = 0)
def S_guard (M : ax_M) : Prop := ∀ p, p < 10 → gI M 193 p = gI M (158 + p) 0 ∧ gI M 194 p = gI M (158 + p) 1 ∧ 0 ≤ gI M (158 + p) 0 ∧ gI M (158 + p) 0 ≤ 4
def S_meth (M : ax_M) : Prop := ∀ m, m < 8 → (gI M 195 m = gI M (142 + 2 * m) 0 ∧ gI M 196 m = gI M (142 + 2 * m) 1 ∧ gI M 197 m = gI M (142 + 2 * m) 2 ∧ gI M 198 m = gI M (142 + 2 * m) 3 ∧ gI M 199 m = gI M (142 + 2 * m) 4 ∧ gI M 200 m = gI M (142 + 2 * m) 5) ∧ ∀ e, e < 6 → gI M 201 (6 * m + e) = gI M (143 + 2 * m) e
/-- a slot with an expression; a rule: none, or such a slot -/
def wr (M : ax_M) (x : Int32) : Prop := ∃ i, i < 8 ∧ x = nI i ∧ 0 < gI M 188 i
def rl (M : ax_M) (x : Int32) : Prop := x = -1 ∨ wr M x
def S_val (M : ax_M) : Prop := (∀ p, p < 10 → gI M (158 + p) 0 = 4 → wr M (gI M (158 + p) 1)) ∧ ∀ m, m < 8 → rl M (gI M (142 + 2 * m) 0) ∧ rl M (gI M (142 + 2 * m) 1) ∧ rl M (gI M (142 + 2 * m) 2) ∧ 0 ≤ gI M (142 + 2 * m) 3 ∧ gI M (142 + 2 * m) 3 ≤ 6 ∧ (gI M (142 + 2 * m) 3 = 4 → 0 ≤ gI M (142 + 2 * m) 4 ∧ gI M (142 + 2 * m) 4 ≤ 999) ∧ (5 ≤ gI M (142 + 2 * m) 3 → ∃ k, k < 8 ∧ gI M (142 + 2 * m) 4 = nI k) ∧ 0 ≤ gI M (142 + 2 * m) 5 ∧ gI M (142 + 2 * m) 5 ≤ 65535
/-! an expression: the class's row of parts against the reference's code -/
abbrev xRow : Type := (Nat → Int32) × (Nat → Int32) × (Nat → Int32) × (Nat → Int32) × (Nat → Int64)
def nLeaf (E : xRow) (c : Nat → Int32) (ar : Nat → Int64) (lo be en : Nat → Nat) (p : Nat) : Prop :=
  2 ≤ E.1 p ∧ E.1 p ≤ 12 ∧ lo p = p ∧ be p = en p ∧ c (en p) = E.1 p - 1 ∧ (E.1 p ≤ 3 → ar (en p) = E.2.2.2.2 p) ∧ (E.1 p = 2 → E.2.2.2.2 p = (E.2.2.2.2 p).toInt32.toInt64)
def nOne (E : xRow) (c : Nat → Int32) (lo be en : Nat → Nat) (p : Nat) : Prop :=
  ∃ q, p = q + 1 ∧ E.2.1 p = nI q ∧ lo p = lo q ∧ be p = be q ∧ en p = en q + 1 ∧
    ((E.1 p = 13 ∧ c (en p) = 12) ∨ (E.1 p = 14 ∧ c (en p) = 13) ∨ (E.1 p = 43 ∧ c (en p) = 14) ∨ (E.1 p = 41 ∧ c (en p) = 20) ∨ (E.1 p = 34 ∧ c (en p) = 21))
def nTwo (E : xRow) (c : Nat → Int32) (lo be en : Nat → Nat) (p : Nat) : Prop :=
  ∃ f q, p = q + 1 ∧ lo q = f + 1 ∧ E.2.1 p = nI f ∧ E.2.2.1 p = nI q ∧ lo p = lo f ∧ be p = be f ∧ be q = en f + 1 ∧ en p = en q + 1 ∧
    ((21 ≤ E.1 p ∧ E.1 p ≤ 33 ∧ c (en p) = E.1 p + 1) ∨ (E.1 p = 17 ∧ c (en p) = 15) ∨ (E.1 p = 37 ∧ c (en p) = 36))
def nSearch (E : xRow) (c : Nat → Int32) (ar : Nat → Int64) (lo be en : Nat → Nat) (p : Nat) : Prop :=
  ∃ f q, p = q + 1 ∧ lo q = f + 1 ∧ E.2.1 p = nI f ∧ E.2.2.1 p = nI q ∧ lo p = lo f ∧ be p = be f ∧ be q = en f + 2 ∧ en p = en q + 1 ∧
    38 ≤ E.1 p ∧ E.1 p ≤ 40 ∧ c (en f + 1) = E.1 p - 22 ∧ ar (en f + 1) = lN (en p) ∧ c (en p) = 19 ∧ ar (en p) = lN (en f + 1)
def nChoose (E : xRow) (c : Nat → Int32) (lo be en : Nat → Nat) (p : Nat) : Prop :=
  ∃ f h q, p = q + 1 ∧ lo q = h + 1 ∧ lo h = f + 1 ∧ E.2.1 p = nI f ∧ E.2.2.1 p = nI h ∧ E.2.2.2.1 p = nI q ∧ lo p = lo f ∧ be p = be f ∧ be h = en f + 1 ∧ be q = en h + 1 ∧ en p = en q + 1 ∧ E.1 p = 42 ∧ c (en p) = 35
def Node (E : xRow) (c : Nat → Int32) (ar : Nat → Int64) (lo be en : Nat → Nat) (p : Nat) : Prop :=
  nLeaf E c ar lo be en p ∨ nOne E c lo be en p ∨ nTwo E c lo be en p ∨ nSearch E c ar lo be en p ∨ nChoose E c lo be en p
def Cmp (E : xRow) (n : Nat) (c : Nat → Int32) (ar : Nat → Int64) (m : Nat) : Prop :=
  0 < n ∧ n ≤ 20 ∧ m ≤ 48 ∧ ∃ lo be en : Nat → Nat, (∀ p, p < n → lo p ≤ p ∧ Node E c ar lo be en p) ∧ lo (n - 1) = 0 ∧ be (n - 1) = 0 ∧ en (n - 1) + 1 = m
def rowOf (M : ax_M) (e : Nat) : xRow := (gI M (e + 1), gI M (e + 2), gI M (e + 3), gI M (e + 4), gJ M (e + 5))
def eOf (M : ax_M) (i : Nat) : Nat := if i < 8 then gA M 8 i else gA M 2 3
def S_perm (M : ax_M) : Prop := (∀ i, i < 9 → ∃ j, j < 9 ∧ eOf M i = 9 + 6 * j) ∧ ∀ i j, i < 9 → j < 9 → eOf M i = eOf M j → i = j
def S_expr (M : ax_M) : Prop := ∀ i, i < 8 → (gI M (eOf M i) 5 = 0 ∧ gI M 188 i = 0) ∨
  ∃ n m, gI M (eOf M i) 5 = nI n ∧ gI M 188 i = nI m ∧ Cmp (rowOf M (eOf M i)) n (fun k => gI M 186 (48 * i + k)) (fun k => gJ M 187 (48 * i + k)) m
/-! what the latest call brought -/
def kindC (M : ax_M) : Int32 := if gI M 135 9 = 0 then (if gI M 139 0 = 0 then 0 else if gI M 139 0 = 4 then 2 else 1) else -1
def numC (M : ax_M) : Int32 := if gI M 135 9 = 1 then gI M 135 8 else if gI M 135 9 = 0 then (if gI M 139 0 = 4 then gI M 140 1 else (gJ M 139 1).toInt32) else 0
def S_gate (M : ax_M) : Prop := gI M 184 57 = kindC M ∧ gI M 184 58 = numC M ∧ (kindC M = 2 → ∃ n, n ≤ 5 ∧ gI M 140 1 = nI n ∧ ∀ k, k < n → gI M 221 k = gI M 141 k)
def S_ask (M : ax_M) : Prop := gJ M 184 60 = gJ M 2 8
def S_misc (M : ax_M) : Prop := gI M 68 8 = 0 ∧ gI M 70 0 = -1 ∧ gJ M 70 1 = 0
/-! where each piece looks -/
def F_text (c k : Nat) : Prop := (c = 3 ∧ k = 1) ∨ c = 4 ∨ (c = 184 ∧ k = 1) ∨ c = 185
def F_list (c k : Nat) : Prop := (c = 66 ∧ k = 1) ∨ c = 67 ∨ (c = 184 ∧ k = 16) ∨ c = 192
def F_ctx (c k : Nat) : Prop := (c = 63 ∧ (k = 2 ∨ k = 3)) ∨ (c = 184 ∧ (k = 13 ∨ k = 14))
def F_guard (c : Nat) : Prop := (158 ≤ c ∧ c < 168) ∨ c = 193 ∨ c = 194
def F_meth (c : Nat) : Prop := (142 ≤ c ∧ c < 158) ∨ (195 ≤ c ∧ c ≤ 201)
def F_val (c : Nat) : Prop := (142 ≤ c ∧ c < 168) ∨ c = 188
def F_expr (c k : Nat) : Prop := (9 ≤ c ∧ c < 63) ∨ (186 ≤ c ∧ c ≤ 188)
def F_gate (c k : Nat) : Prop := (c = 135 ∧ (k = 8 ∨ k = 9)) ∨ (139 ≤ c ∧ c ≤ 141) ∨ (c = 184 ∧ (k = 57 ∨ k = 58)) ∨ c = 221
theorem S_text.cg {M M' : ax_M} (h : ∀ c k, F_text c k → gI M' c k = gI M c k) (hs : S_text M) : S_text M' := by
  obtain ⟨n, h1, h2, h3, h4⟩ := hs
  refine ⟨n, h1, (h 3 1 (by unfold F_text; omega)).trans h2, (h 184 1 (by unfold F_text; omega)).trans h3, fun k hk => ?_⟩
  rw [h 185 k (by unfold F_text; omega), h 4 k (by unfold F_text; omega)]
  exact h4 k hk
theorem S_list.cg {M M' : ax_M} (h : ∀ c k, F_list c k → gI M' c k = gI M c k) (hs : S_list M) : S_list M' := by
  obtain ⟨n, h1, h2, h3, h4⟩ := hs
  refine ⟨n, h1, (h 66 1 (by unfold F_list; omega)).trans h2, (h 184 16 (by unfold F_list; omega)).trans h3, fun k hk => ?_⟩
  rw [h 192 k (by unfold F_list; omega), h 67 k (by unfold F_list; omega)]
  exact h4 k hk
theorem S_ctx.cg {M M' : ax_M} (h : ∀ c k, F_ctx c k → gI M' c k = gI M c k) (hs : S_ctx M) : S_ctx M' := by
  unfold S_ctx
  rw [h 184 13 (by unfold F_ctx; omega), h 184 14 (by unfold F_ctx; omega), h 63 2 (by unfold F_ctx; omega), h 63 3 (by unfold F_ctx; omega)]
  exact hs
theorem S_guard.cg {M M' : ax_M} (h : ∀ c k, F_guard c → gI M' c k = gI M c k) (hs : S_guard M) : S_guard M' := by
  intro p hp
  rw [h 193 p (by unfold F_guard; omega), h 194 p (by unfold F_guard; omega), h (158 + p) 0 (by unfold F_guard; omega), h (158 + p) 1 (by unfold F_guard; omega)]
  exact hs p hp
theorem S_meth.cg {M M' : ax_M} (h : ∀ c k, F_meth c → gI M' c k = gI M c k) (hs : S_meth M) : S_meth M' := by
  intro m hm
  refine ⟨?_, fun e he => ?_⟩
  · rw [h 195 m (by unfold F_meth; omega), h 196 m (by unfold F_meth; omega), h 197 m (by unfold F_meth; omega), h 198 m (by unfold F_meth; omega), h 199 m (by unfold F_meth; omega), h 200 m (by unfold F_meth; omega)]
    rw [h (142 + 2 * m) 0 (by unfold F_meth; omega), h (142 + 2 * m) 1 (by unfold F_meth; omega), h (142 + 2 * m) 2 (by unfold F_meth; omega), h (142 + 2 * m) 3 (by unfold F_meth; omega), h (142 + 2 * m) 4 (by unfold F_meth; omega), h (142 + 2 * m) 5 (by unfold F_meth; omega)]
    exact (hs m hm).1
  · rw [h 201 _ (by unfold F_meth; omega), h (143 + 2 * m) e (by unfold F_meth; omega)]
    exact (hs m hm).2 e he
theorem wr.cg {M M' : ax_M} (h : ∀ k, gI M' 188 k = gI M 188 k) {x : Int32} (hs : wr M x) : wr M' x := by
  obtain ⟨i, h1, h2, h3⟩ := hs
  exact ⟨i, h1, h2, by rw [h]; exact h3⟩
theorem rl.cg {M M' : ax_M} (h : ∀ k, gI M' 188 k = gI M 188 k) {x : Int32} (hs : rl M x) : rl M' x := hs.imp id (wr.cg h)
theorem S_val.cg {M M' : ax_M} (h : ∀ c k, F_val c → gI M' c k = gI M c k) (hs : S_val M) : S_val M' := by
  have h8 : ∀ k, gI M' 188 k = gI M 188 k := fun k => h 188 k (by unfold F_val; omega)
  refine ⟨fun p hp => ?_, fun m hm => ?_⟩
  · rw [h (158 + p) 0 (by unfold F_val; omega), h (158 + p) 1 (by unfold F_val; omega)]
    exact fun q => wr.cg h8 (hs.1 p hp q)
  · rw [h (142 + 2 * m) 0 (by unfold F_val; omega), h (142 + 2 * m) 1 (by unfold F_val; omega), h (142 + 2 * m) 2 (by unfold F_val; omega), h (142 + 2 * m) 3 (by unfold F_val; omega), h (142 + 2 * m) 4 (by unfold F_val; omega), h (142 + 2 * m) 5 (by unfold F_val; omega)]
    obtain ⟨a1, a2, a3, a4⟩ := hs.2 m hm
    exact ⟨rl.cg h8 a1, rl.cg h8 a2, rl.cg h8 a3, a4⟩
theorem eOf.cg {M M' : ax_M} (h1 : ∀ k, gA M' 8 k = gA M 8 k) (h2 : gA M' 2 3 = gA M 2 3) (i : Nat) : eOf M' i = eOf M i := by
  unfold eOf
  rw [h1, h2]
theorem S_perm.cg {M M' : ax_M} (h1 : ∀ k, gA M' 8 k = gA M 8 k) (h2 : gA M' 2 3 = gA M 2 3) (hs : S_perm M) : S_perm M' := by
  refine ⟨fun i hi => ?_, fun i j hi hj => ?_⟩
  · rw [eOf.cg h1 h2]; exact hs.1 i hi
  · rw [eOf.cg h1 h2, eOf.cg h1 h2]; exact hs.2 i j hi hj
theorem rowOf.cg {M M' : ax_M} {e : Nat} (h : ∀ j, j < 6 → ∀ k, gI M' (e + j) k = gI M (e + j) k ∧ gJ M' (e + j) k = gJ M (e + j) k) : rowOf M' e = rowOf M e := by
  unfold rowOf
  rw [show gI M' (e + 1) = gI M (e + 1) from funext fun k => (h 1 (by omega) k).1, show gI M' (e + 2) = gI M (e + 2) from funext fun k => (h 2 (by omega) k).1, show gI M' (e + 3) = gI M (e + 3) from funext fun k => (h 3 (by omega) k).1, show gI M' (e + 4) = gI M (e + 4) from funext fun k => (h 4 (by omega) k).1, show gJ M' (e + 5) = gJ M (e + 5) from funext fun k => (h 5 (by omega) k).2]
theorem S_expr.cg {M M' : ax_M} (hp : S_perm M) (h1 : ∀ k, gA M' 8 k = gA M 8 k) (h2 : gA M' 2 3 = gA M 2 3) (h : ∀ c k, F_expr c k → gI M' c k = gI M c k ∧ gJ M' c k = gJ M c k) (hs : S_expr M) : S_expr M' := by
  intro i hi
  obtain ⟨j, hj, he⟩ := hp.1 i (by omega)
  rw [eOf.cg h1 h2, rowOf.cg (M := M) (fun q hq k => h _ k (by unfold F_expr; rw [he]; omega)), (h (eOf M i) 5 (by unfold F_expr; rw [he]; omega)).1, (h 188 i (by unfold F_expr; omega)).1]
  rw [show (fun k => gI M' 186 (48 * i + k)) = (fun k => gI M 186 (48 * i + k)) from funext fun k => (h 186 _ (by unfold F_expr; omega)).1, show (fun k => gJ M' 187 (48 * i + k)) = (fun k => gJ M 187 (48 * i + k)) from funext fun k => (h 187 _ (by unfold F_expr; omega)).2]
  exact hs i hi
theorem S_gate.cg {M M' : ax_M} (h : ∀ c k, F_gate c k → gI M' c k = gI M c k) (hj : gJ M' 139 1 = gJ M 139 1) (hs : S_gate M) : S_gate M' := by
  have e1 : kindC M' = kindC M := by
    unfold kindC
    rw [h 135 9 (by unfold F_gate; omega), h 139 0 (by unfold F_gate; omega)]
  have e2 : numC M' = numC M := by
    unfold numC
    rw [h 135 9 (by unfold F_gate; omega), h 135 8 (by unfold F_gate; omega), h 139 0 (by unfold F_gate; omega), h 140 1 (by unfold F_gate; omega), hj]
  unfold S_gate
  rw [e1, e2, h 184 57 (by unfold F_gate; omega), h 184 58 (by unfold F_gate; omega)]
  refine ⟨hs.1, hs.2.1, fun q => ?_⟩
  obtain ⟨n, a1, a2, a3⟩ := hs.2.2 q
  refine ⟨n, a1, (h 140 1 (by unfold F_gate; omega)).trans a2, fun k hk => ?_⟩
  rw [h 221 k (by unfold F_gate; omega), h 141 k (by unfold F_gate; omega)]
  exact a3 k hk
/-! roles: which reach which -/
def rch (D : Nat → Nat) : Nat → Nat → Nat → Prop
  | 0, x, y => x = y
  | n + 1, x, y => x = y ∨ ∃ z, z < 16 ∧ (D x).testBit z = true ∧ rch D n z y
def S_roles (M : ax_M) : Prop := ∃ D Wm : Nat → Nat, ∀ k, k < 16 → D k < 65536 ∧ gI M 64 k = nI (D k) ∧ gI M 191 k = nI (D k) ∧ Wm k < 65536 ∧ gI M 65 k = nI (Wm k) ∧ ∀ y, y < 16 → ((Wm k).testBit y = true ↔ ∃ n, rch D n k y)
def F_roles (c : Nat) : Prop := c = 64 ∨ c = 65 ∨ c = 191
theorem S_roles.cg {M M' : ax_M} (h : ∀ c k, F_roles c → gI M' c k = gI M c k) (hs : S_roles M) : S_roles M' := by
  obtain ⟨D, Wm, h1⟩ := hs
  refine ⟨D, Wm, fun k hk => ?_⟩
  rw [h 64 k (by unfold F_roles; omega), h 65 k (by unfold F_roles; omega), h 191 k (by unfold F_roles; omega)]
  exact h1 k hk
def Sim (M : ax_M) : Prop := S_text M ∧ S_list M ∧ S_ctx M ∧ S_roles M ∧ S_guard M ∧ S_meth M ∧ S_val M ∧ S_perm M ∧ S_expr M ∧ S_gate M ∧ S_ask M ∧ S_misc M
