/-! The engine: a memory of ints, longs and references by cell and place; AW: the machine at a frame over such a memory; a row an instruction. -/
abbrev ax_V : Type := Int32 ⊕ Int64 ⊕ Nat
abbrev ax_M : Type := (Nat → Nat → Int32) × (Nat → Nat → Int64) × (Nat → Nat → Nat) × Nat
abbrev ax_G : Type := va_G × (Nat → ClassId) × Nat × Nat × Nat × (Nat → Int32) × (Nat → Nat) × (Nat → Nat)
abbrev ax_Y : Type := MethodName × ByteArray × Nat × Option FieldType × List (Nat × Instr × Nat)
abbrev vI (x : Int32) : ax_V := .inl x
abbrev vJ (x : Int64) : ax_V := .inr (.inl x)
abbrev vA (r : Nat) : ax_V := .inr (.inr r)
def ax_up {α : Type} (f : Nat → Nat → α) (c k : Nat) (v : α) : Nat → Nat → α := fun a j => if a = c ∧ j = k then v else f a j
def mI (M : ax_M) (c k : Nat) (v : Int32) : ax_M := (ax_up M.1 c k v, M.2)
def mJ (M : ax_M) (c k : Nat) (v : Int64) : ax_M := (M.1, ax_up M.2.1 c k v, M.2.2)
def mA (M : ax_M) (c k : Nat) (v : Nat) : ax_M := (M.1, M.2.1, ax_up M.2.2.1 c k v, M.2.2.2)
def mS (M : ax_M) : ax_M := (M.1, M.2.1, M.2.2.1, M.2.2.2 + 1)
def gI (M : ax_M) (c k : Nat) : Int32 := M.1 c k
def gJ (M : ax_M) (c k : Nat) : Int64 := M.2.1 c k
def gA (M : ax_M) (c k : Nat) : Nat := M.2.2.1 c k
def gn (M : ax_M) : Nat := M.2.2.2
def kd (c : Nat) : Nat := SHK.getD c 999
def ln (c : Nat) : Nat := SHN.getD c 0
/-- the sum of the first n cells' places -/
def szs : List Nat → Nat → Nat
  | _, 0 => 0
  | [], _ + 1 => 0
  | a :: l, n + 1 => a + szs l n
def SZ (n : Nat) : Nat := szs (SHN.drop 2) n
abbrev gD (g : ax_G) : va_G := g.1
abbrev gdA (g : ax_G) : Nat → ClassId := g.2.1
abbrev gb (g : ax_G) : Nat := g.2.2.1
abbrev gs (g : ax_G) : Nat := g.2.2.2.1
abbrev gL (g : ax_G) : Nat := g.2.2.2.2.1
abbrev gx (g : ax_G) : Nat → Int32 := g.2.2.2.2.2.1
abbrev gK (g : ax_G) : Nat → Nat := g.2.2.2.2.2.2.1
abbrev gV (g : ax_G) : Nat → Nat := g.2.2.2.2.2.2.2
/-- the address of a reference -/
def am (g : ax_G) (r : Nat) : Nat := if r = 1 then gs g else if r < 1000 then gb g + (r - 2) else if r < 2000 then gK g (r - 1000) else gV g (r - 2000)
def rv (g : ax_G) (r : Nat) : Value := if r = 0 then .null else .ref (am g r)
def ro (g : ax_G) (r : Nat) : Option Nat := if r = 0 then none else some (am g r)
def cv (g : ax_G) (v : ax_V) : Value := match v with
  | .inl x => .int x
  | .inr (.inl x) => .long x
  | .inr (.inr r) => rv g r
def ct (v : ax_V) : Nat := match v with
  | .inr (.inl _) => 2
  | _ => 1
theorem rv_ro (g : ax_G) (r : Nat) : va_rf (ro g r) = rv g r := by
  unfold ro rv
  split <;> rfl
theorem cv_I (g : ax_G) (x : Int32) : cv g (vI x) = .int x := rfl
theorem cv_J (g : ax_G) (x : Int64) : cv g (vJ x) = .long x := rfl
theorem cv_A (g : ax_G) (r : Nat) : cv g (vA r) = rv g r := rfl
theorem rv_pos {g : ax_G} {r : Nat} (h : ¬ r = 0) : rv g r = .ref (am g r) := if_neg h
theorem rv_0 {g : ax_G} : rv g 0 = .null := if_pos rfl
theorem rv_cat (g : ax_G) (r : Nat) : (rv g r).category = 1 := by
  unfold rv
  split <;> rfl
theorem cv_cat (g : ax_G) (v : ax_V) : (cv g v).category = ct v := by
  rcases v with x | x | r
  · rfl
  · rfl
  · exact rv_cat g r
def ax_cl (g : ax_G) (q : Nat × ax_V) : Nat × Value := (q.1, cv g q.2)
/-- the value of a field: 1 long, 2 reference, else int -/
def fv (g : ax_G) (M : ax_M) (c k : Nat) : Value := if FTC (kd c) k = 1 then .long (gJ M c k) else if FTC (kd c) k = 2 then rv g (gA M c k) else .int (gI M c k)
def cont (g : ax_G) (M : ax_M) (c : Nat) : (Nat → Int32) ⊕ (Nat → Int64) ⊕ (Nat → UInt32) ⊕ (Nat → UInt64) ⊕ (Nat → Option Nat) :=
  if kd c = 101 then .inr (.inl (gJ M c)) else if kd c < 104 then .inl (gI M c) else .inr (.inr (.inr (.inr (fun k => ro g (gA M c k)))))
def ent (g : ax_G) (M : ax_M) (c : Nat) : va_E :=
  if kd c < 100 then .inr (kd c, (List.range (ln c)).map (fv g M c)) else .inl (gdA g (kd c - 100), (ln c, cont g M c))
def WS (g : ax_G) (M : ax_M) : va_W := (List.range (gn M)).map (fun a => (gb g + a, ent g M (a + 2)))
/-- references that stay as the constructors left them -/
def Lay (M : ax_M) : Prop := ∀ c k, c < NT + 2 → k < ln c → LYS (kd c) k = true → gA M c k = LYO (kd c) k c
def hok (g : ax_G) (ly : Bool) (M : ax_M) (H : Heap) : Prop :=
  va_P (gD g) classes (WS g M) H ∧ H.size = gb g + gn M ∧ gn M ≤ NT ∧ (∀ c k, gn M + 2 ≤ c → gI M c k = 0 ∧ gJ M c k = 0 ∧ gA M c k = 0) ∧ (ly = true → gn M = NT ∧ Lay M)
def tysOf (g : ax_G) : List (ClassId × FieldType) := (List.range ATS.length).map (fun t => (gdA g t, ATS.getD t .int))
def sok (g : ax_G) (U : State) : Prop :=
  va_K (gD g) classes (tysOf g) U ∧ (∀ w ∈ NW, va_Nw w U) ∧ (∀ i, i < NST → vk_R (STO i) (STI i) (STX i) (gK g i) U) ∧ va_X (gs g) (gL g) (gx g) U U.heap ∧ gs g < gb g ∧ gb g ≤ U.heap.size ∧
    vk_S NST STLEN STBYT (gK g) (gV g) (fun q => gb g ≤ q) U U.heap ∧ (∀ C ∈ AON, va_AO C U) ∧ va_Z "java/lang/String" "COMPACT_STRINGS" "Z" (.int 1) (fun q => gb g ≤ q) U U.heap ∧
    (va_Z "jdk/internal/util/Preconditions" "SIOOBE_FORMATTER" "Ljava/util/function/BiFunction;" .null (fun q => gb g ≤ q) U U.heap ∨ va_Z "jdk/internal/util/Preconditions" "SIOOBE_FORMATTER" "Ljava/util/function/BiFunction;" (.ref (gV g 1000)) (fun q => gb g ≤ q) U U.heap)
abbrev ax_A (g : ax_G) : Nat → Prop := fun q => gb g ≤ q
theorem nw_warm {w : Cond} (hw : w ∈ NW) {s U : State} (hW : s.WarmedH U.vm) (h : va_Nw w s) : va_Nw w U := by
  have h1 := nw_kind w hw
  rcases h1 with ⟨a, i, b, n, d, hh, rfl⟩ | ⟨a, i, x, hh, rfl⟩
  · exact va_Nw.warmF hW h
  · exact va_Nw.warmM hW h
theorem nw_same {w : Cond} (hw : w ∈ NW) {s U : State} (hv : s.vm = U.vm) (h : va_Nw w s) : va_Nw w U := by
  have h1 := nw_kind w hw
  rcases h1 with ⟨a, i, b, n, d, hh, rfl⟩ | ⟨a, i, x, hh, rfl⟩
  · exact va_Nw.same rfl hv h
  · exact va_Nw.same rfl hv h
theorem sok.warm {g : ax_G} {s U : State} (hW : s.WarmedH U.vm) (hb : gb g ≤ U.heap.size) (hq : ∀ q, q < gb g → U.heap[q]? = s.heap[q]?) (h : sok g s) : sok g U := by
  obtain ⟨h1, h2, h3, h4, h5, h6, h7, h8, h9, h10⟩ := h
  refine ⟨va_K.moved hW.alike h1, fun w hw => nw_warm hw hW (h2 w hw), fun i hi => vk_R.warm hW (h3 i hi), (va_X.moved hW.alike h4).kept (hq _ h5), h5, hb, (vk_S.moved hW.alike h7).kept (fun a _ hn => hq a (Nat.not_le.mp hn)), fun C hC => va_AO.moved hW.alike (h8 C hC), (va_Z.moved hW.alike h9).kept (fun a _ hn => hq a (Nat.not_le.mp hn)), h10.imp (fun z => (va_Z.moved hW.alike z).kept (fun a _ hn => hq a (Nat.not_le.mp hn))) (fun z => (va_Z.moved hW.alike z).kept (fun a _ hn => hq a (Nat.not_le.mp hn)))⟩
theorem sok.calling {g : ax_G} {U : State} {f : JFrame} {mk : MethodId} {a : Array Value} (h : sok g U) : sok g (U.calling f mk a) := by
  obtain ⟨h1, h2, h3, h4, h5, h6, h7, h8, h9, h10⟩ := h
  exact ⟨va_K.moved (u := U) (U := U.calling f mk a) (Vm.Alike.refl U.vm) h1, fun w hw => nw_same hw (s := U) (U := U.calling f mk a) rfl (h2 w hw), fun i hi => vk_R.same (u := U) (U := U.calling f mk a) rfl (h3 i hi), va_X.moved (u := U) (U := U.calling f mk a) (Vm.Alike.refl U.vm) h4, h5, h6, vk_S.moved (u := U) (U := U.calling f mk a) (Vm.Alike.refl U.vm) h7, fun C hC => va_AO.moved (u := U) (U := U.calling f mk a) (Vm.Alike.refl U.vm) (h8 C hC), va_Z.moved (u := U) (U := U.calling f mk a) (Vm.Alike.refl U.vm) h9, h10.imp (va_Z.moved (u := U) (U := U.calling f mk a) (Vm.Alike.refl U.vm)) (va_Z.moved (u := U) (U := U.calling f mk a) (Vm.Alike.refl U.vm))⟩
/-! the world as a list -/
theorem am_cell {g : ax_G} {c : Nat} (h : 2 ≤ c) (h1 : c < 1000) : am g c = gb g + (c - 2) := by
  unfold am
  rw [if_neg (by omega), if_pos h1]
theorem kd_lt {c K : Nat} (h : kd c = K) (hK : K ≠ 999) : 2 ≤ c ∧ c < NT + 2 := by
  unfold kd at h
  have h2 : SHK.length = NT + 2 := shk_len
  rcases Nat.lt_or_ge c (NT + 2) with h1 | h1
  · refine ⟨?_, h1⟩
    rcases Nat.lt_or_ge c 2 with h3 | h3
    · exfalso
      have h4 : c = 0 ∨ c = 1 := by omega
      rcases h4 with rfl | rfl
      · exact hK (h.symm.trans shk_0)
      · exact hK (h.symm.trans shk_1)
    · exact h3
  · exfalso
    rw [List.getD_eq_getElem?_getD, List.getElem?_eq_none (by omega)] at h
    exact hK h.symm
theorem ws_len (g : ax_G) (M : ax_M) : (WS g M).length = gn M := by simp [WS]
theorem ws_get {g : ax_G} {M : ax_M} {c : Nat} (h : 2 ≤ c) (h1 : c < gn M + 2) (h2 : c < 1000) : (WS g M)[c - 2]? = some (am g c, ent g M c) := by
  unfold WS
  rw [List.getElem?_map, List.getElem?_range (by omega), am_cell h h2]
  show some (gb g + (c - 2), ent g M (c - 2 + 2)) = _
  rw [show c - 2 + 2 = c by omega]
theorem ws_D (g : ax_G) (M : ax_M) : va_D (ax_A g) (WS g M) := by
  have key : ∀ (k : Nat) (q : Nat × va_E), (WS g M)[k]? = some q → q.1 = gb g + k := by
    intro k q hk
    unfold WS at hk
    rw [List.getElem?_map] at hk
    have hl : k < (List.range (gn M)).length := by
      rcases Nat.lt_or_ge k (List.range (gn M)).length with h | h
      · exact h
      · rw [List.getElem?_eq_none h] at hk
        cases hk
    rw [List.length_range] at hl
    rw [List.getElem?_range hl] at hk
    cases hk
    rfl
  refine ⟨fun i j p q hi hj e => ?_, fun k q hk => ?_⟩
  · have h1 := key i p hi
    have h2 := key j q hj
    omega
  · have h1 := key k q hk
    show gb g ≤ q.1
    omega
theorem ws_set {g : ax_G} {M M' : ax_M} {c : Nat} (h : 2 ≤ c) (h1 : c < gn M + 2) (h2 : c < 1000) (hn : gn M' = gn M) (ho : ∀ a, a ≠ c → ent g M' a = ent g M a) : (WS g M).set (c - 2) (am g c, ent g M' c) = WS g M' := by
  apply List.ext_getElem?
  intro k
  rcases Nat.lt_or_ge k (gn M) with hk | hk
  · have e1 := ws_get (g := g) (M := M) (c := k + 2) (by omega) (by omega)
    by_cases hkc : k = c - 2
    · subst hkc
      rw [List.getElem?_set_self (by rw [ws_len]; omega), ws_get h (by rw [hn]; exact h1) h2]
    · rw [List.getElem?_set_ne (Ne.symm hkc)]
      unfold WS
      rw [List.getElem?_map, List.getElem?_map, hn, List.getElem?_range hk]
      show some (gb g + k, ent g M (k + 2)) = some (gb g + k, ent g M' (k + 2))
      rw [ho (k + 2) (by omega)]
  · rw [List.getElem?_eq_none (by rw [List.length_set, ws_len]; exact hk), List.getElem?_eq_none (by rw [ws_len, hn]; exact hk)]
theorem fv_other {g : ax_G} {M M' : ax_M} {a : Nat} (hI : ∀ k, gI M' a k = gI M a k) (hJ : ∀ k, gJ M' a k = gJ M a k) (hA : ∀ k, gA M' a k = gA M a k) (k : Nat) : fv g M' a k = fv g M a k := by
  unfold fv
  rw [hI, hJ, hA]
theorem ent_other {g : ax_G} {M M' : ax_M} {a : Nat} (hI : ∀ k, gI M' a k = gI M a k) (hJ : ∀ k, gJ M' a k = gJ M a k) (hA : ∀ k, gA M' a k = gA M a k) : ent g M' a = ent g M a := by
  have e1 : fv g M' a = fv g M a := funext (fv_other hI hJ hA)
  have e2 : cont g M' a = cont g M a := by
    unfold cont
    rw [show gI M' a = gI M a from funext hI, show gJ M' a = gJ M a from funext hJ, show gA M' a = gA M a from funext hA]
  unfold ent
  rw [e1, e2]
theorem gI_mI (M : ax_M) (c k : Nat) (v : Int32) (a j : Nat) : gI (mI M c k v) a j = if a = c ∧ j = k then v else gI M a j := rfl
theorem gJ_mI (M : ax_M) (c k : Nat) (v : Int32) (a j : Nat) : gJ (mI M c k v) a j = gJ M a j := rfl
theorem gA_mI (M : ax_M) (c k : Nat) (v : Int32) (a j : Nat) : gA (mI M c k v) a j = gA M a j := rfl
theorem gn_mI (M : ax_M) (c k : Nat) (v : Int32) : gn (mI M c k v) = gn M := rfl
theorem gI_mJ (M : ax_M) (c k : Nat) (v : Int64) (a j : Nat) : gI (mJ M c k v) a j = gI M a j := rfl
theorem gJ_mJ (M : ax_M) (c k : Nat) (v : Int64) (a j : Nat) : gJ (mJ M c k v) a j = if a = c ∧ j = k then v else gJ M a j := rfl
theorem gA_mJ (M : ax_M) (c k : Nat) (v : Int64) (a j : Nat) : gA (mJ M c k v) a j = gA M a j := rfl
theorem gn_mJ (M : ax_M) (c k : Nat) (v : Int64) : gn (mJ M c k v) = gn M := rfl
theorem gI_mA (M : ax_M) (c k : Nat) (v : Nat) (a j : Nat) : gI (mA M c k v) a j = gI M a j := rfl
theorem gJ_mA (M : ax_M) (c k : Nat) (v : Nat) (a j : Nat) : gJ (mA M c k v) a j = gJ M a j := rfl
theorem gA_mA (M : ax_M) (c k : Nat) (v : Nat) (a j : Nat) : gA (mA M c k v) a j = if a = c ∧ j = k then v else gA M a j := rfl
theorem gn_mA (M : ax_M) (c k : Nat) (v : Nat) : gn (mA M c k v) = gn M := rfl
theorem ent_mI {g : ax_G} {M : ax_M} {c k : Nat} {v : Int32} {a : Nat} (h : a ≠ c) : ent g (mI M c k v) a = ent g M a :=
  ent_other (fun j => by rw [gI_mI, if_neg (fun q => h q.1)]) (fun _ => rfl) (fun _ => rfl)
theorem ent_mJ {g : ax_G} {M : ax_M} {c k : Nat} {v : Int64} {a : Nat} (h : a ≠ c) : ent g (mJ M c k v) a = ent g M a :=
  ent_other (fun _ => rfl) (fun j => by rw [gJ_mJ, if_neg (fun q => h q.1)]) (fun _ => rfl)
theorem ent_mA {g : ax_G} {M : ax_M} {c k : Nat} {v : Nat} {a : Nat} (h : a ≠ c) : ent g (mA M c k v) a = ent g M a :=
  ent_other (fun _ => rfl) (fun _ => rfl) (fun j => by rw [gA_mA, if_neg (fun q => h q.1)])
/-- an object's fields behind a store -/
theorem fs_set {g : ax_G} {M M' : ax_M} {c N k : Nat} {v : Value} (hk : k < N) (hv : fv g M' c k = v) (ho : ∀ j, j ≠ k → fv g M' c j = fv g M c j) : ((List.range N).map (fv g M c)).set k v = (List.range N).map (fv g M' c) := by
  apply List.ext_getElem?
  intro j
  rcases Nat.lt_or_ge j N with hj | hj
  · by_cases hjk : j = k
    · subst hjk
      rw [List.getElem?_set_self (by simpa using hj), List.getElem?_map, List.getElem?_range hj]
      show some v = some (fv g M' c j)
      rw [hv]
    · rw [List.getElem?_set_ne (Ne.symm hjk), List.getElem?_map, List.getElem?_map, List.getElem?_range hj]
      show some _ = some _
      rw [ho j hjk]
  · rw [List.getElem?_eq_none (by simpa using hj), List.getElem?_eq_none (by simpa using hj)]
theorem ent_obj {g : ax_G} {M : ax_M} {c ci : Nat} (h : kd c = ci) (h1 : ci < 100) : ent g M c = .inr (ci, (List.range (ln c)).map (fv g M c)) := by
  unfold ent
  rw [h, if_pos h1]
theorem ent_arr {g : ax_G} {M : ax_M} {c t : Nat} (h : kd c = 100 + t) : ent g M c = .inl (gdA g t, (ln c, cont g M c)) := by
  unfold ent
  rw [h, if_neg (by omega), show 100 + t - 100 = t by omega]
theorem fs_at {g : ax_G} {M : ax_M} {c N k : Nat} (hk : k < N) : ((List.range N).map (fv g M c))[k]? = some (fv g M c k) := by
  rw [List.getElem?_map, List.getElem?_range hk]
  rfl
/-! the judgement -/
abbrev yn (Y : ax_Y) : MethodName := Y.1
abbrev yb (Y : ax_Y) : ByteArray := Y.2.1
abbrev yl (Y : ax_Y) : Nat := Y.2.2.1
abbrev yr (Y : ax_Y) : Option FieldType := Y.2.2.2.1
abbrev yt (Y : ax_Y) : List (Nat × Instr × Nat) := Y.2.2.2.2
def codeAt (Y : ax_Y) (pc : Nat) : Option (Instr × Nat) := (yt Y).lookup pc
def yw (Y : ax_Y) : List Cond := Cond.code (yn Y) (yb Y) (yl Y) (yr Y) :: WG
def yOK (Y : ax_Y) : Prop := plainName (yn Y).cls = true ∧ (∀ e ∈ yt Y, decode (yb Y) e.1 = .ok e.2) ∧ Cond.code (yn Y) (yb Y) (yl Y) (yr Y) ∈ WG ∧ Cond.initialized (yn Y).cls ∈ WG ∧ ((yn Y).cls ≠ "java/lang/invoke/MethodHandle" ∧ (yn Y).cls ≠ "java/lang/invoke/VarHandle")
def rtOK (Y : ax_Y) (i : Instr) (r : Option ax_V) : Prop :=
  (i = .ireturn ∧ yr Y = some .int ∧ ∃ x, r = some (vI x)) ∨ (i = .ireturn ∧ yr Y = some .boolean ∧ (r = some (vI 0) ∨ r = some (vI 1))) ∨ (i = .lreturn ∧ yr Y = some .long ∧ ∃ x, r = some (vJ x)) ∨
  (i = .areturn ∧ (∃ n, yr Y = some (.object n)) ∧ ∃ a, r = some (vA a)) ∨ (i = .return_ ∧ yr Y = none ∧ r = none) ∨ (i = .ireturn ∧ ∃ ty x, yr Y = some ty ∧ r = some (vI x) ∧ narrow ty (.int x) = .int x)
def ax_Fix (g : ax_G) (Y : ax_Y) (p : Program) (s : State) (m : MethodId) (args : Array Value) (meth : Method) (c : Code) : Prop :=
  p.tables.exec = Jvm.exec ∧ c.code = yb Y ∧ c.maxLocals = yl Y ∧ s.vm.findClass (yn Y).cls = some m.cls ∧ (∀ w ∈ WG, w.before args s = true) ∧ sok g s ∧ ((yn Y).name = "<init>" → meth.name = "<init>") ∧ (∀ e ∈ yt Y, decode (yb Y) e.1 = .ok e.2)
abbrev ax_R : Type := Option ax_V × ax_M
/-- what is made between two counts; nothing in the mode of calls -/
def al (ly : Bool) (a b : Nat) : Nat := match ly with
  | true => 0
  | false => b - a
theorem al_self (ly : Bool) (a : Nat) : al ly a a = 0 := by
  cases ly
  · exact Nat.sub_self a
  · rfl
theorem al_add {ly : Bool} {a b c : Nat} (h : ly = true ∨ (a ≤ b ∧ b ≤ c)) : al ly a b + al ly b c = al ly a c := by
  cases ly
  · rcases h with h | h
    · cases h
    · show b - a + (c - b) = c - a
      omega
  · rfl
theorem al_le {ly : Bool} {a b c : Nat} (h : ly = true ∨ (b ≤ c)) : al ly a b ≤ al ly a c := by
  cases ly
  · rcases h with h | h
    · cases h
    · show b - a ≤ c - a
      omega
  · exact Nat.le_refl _
def AW (l : Launch) (g : ax_G) (ly : Bool) (Y : ax_Y) (d : Nat) (res : ax_R) (pc : Nat) (Ls : List (Nat × ax_V)) (st : List ax_V) (M : ax_M) : Prop :=
  ∀ (p : Program) (e : Env) (R : Room) (s : State) (m : MethodId) (args : Array Value) (below : List Frame) (meth : Method) (c : Code) (Q : State → Prop) (n0 kc ks : Nat),
    ax_Fix g Y p s m args meth c → (d ≤ R.frames ∧ 60 * d ≤ R.locals) → ((ly = true ∨ (n0 ≤ gn M ∧ gn M ≤ gn res.2)) ∧ kc + al ly n0 (gn res.2) ≤ R.cells ∧ ks + al ly (SZ n0) (SZ (gn res.2)) ≤ R.slots) →
    (∀ (H' : Heap) (locs' : List Loc) (ls' : Array Slot) (pc' : Nat), (∃ i, codeAt Y pc' = some (i, 1) ∧ rtOK Y i res.1) → hok g ly res.2 H' → va_S (ax_A g) s.heap H' locs' →
      W p l e R s m args below meth c H' locs' (kc + al ly n0 (gn res.2)) (ks + al ly (SZ n0) (SZ (gn res.2))) Q (F0 m pc' ls' (res.1.map (cv g)).toList)) →
    ∀ (H : Heap) (locs : List Loc) (ls : Array Slot), hok g ly M H → va_S (ax_A g) s.heap H locs → lv_has ls (yl Y) (Ls.map (ax_cl g)) →
      W p l e R s m args below meth c H locs (kc + al ly n0 (gn M)) (ks + al ly (SZ n0) (SZ (gn M))) Q (F0 m pc ls (st.map (cv g)))
def Qx (g : ax_G) (ly : Bool) (res : ax_R) : Array Value → State → Outcome → State → Prop := fun _ st oc t => oc = .returned (res.1.map (cv g)) ∧ hok g ly res.2 t.heap ∧ va_F (ax_A g) st t
def rmx (d c s : Nat) : Room := { frames := d, cells := c, slots := s, locals := 60 * d }
def Ctr (l : Launch) (g : ax_G) (ly : Bool) (Y : ax_Y) (d : Nat) (as : List ax_V) (M : ax_M) (res : ax_R) : Prop :=
  (ly = true ∨ gn M ≤ gn res.2) ∧ Met l (yn Y) (yw Y) (rmx d (al ly (gn M) (gn res.2)) (al ly (SZ (gn M)) (SZ (gn res.2)))) (va_Pc (as.map (cv g)) (fun U => sok g U ∧ hok g ly M U.heap)) (Qx g ly res) (al ly (gn M) (gn res.2)) (al ly (SZ (gn M)) (SZ (gn res.2))) (ax_A g)
theorem cd {Y : ax_Y} {pc : Nat} {x : Instr × Nat} (h : codeAt Y pc = some x) (hy : ∀ e ∈ yt Y, decode (yb Y) e.1 = .ok e.2) : decode (yb Y) pc = .ok x := by
  unfold codeAt at h
  have key : ∀ (t : List (Nat × Instr × Nat)), t.lookup pc = some x → (pc, x) ∈ t := by
    intro t
    induction t with
    | nil => intro h; cases h
    | cons a t ih =>
      intro h
      obtain ⟨i, v⟩ := a
      rw [List.lookup_cons] at h
      by_cases hi : (pc == i) = true
      · rw [hi] at h
        have e1 : pc = i := by simpa using hi
        have e2 : v = x := by simpa using h
        rw [e1, e2]
        exact List.mem_cons_self
      · have hf : (pc == i) = false := by simpa using hi
        rw [hf] at h
        exact List.mem_cons_of_mem _ (ih h)
  have h2 := hy (pc, x) (key _ h)
  exact h2
theorem szs_mono : ∀ (t : List Nat) (a b : Nat), a ≤ b → szs t a ≤ szs t b
  | _, 0, b, _ => by unfold szs; exact Nat.zero_le _
  | [], a + 1, b, _ => by unfold szs; exact Nat.zero_le _
  | x :: t, a + 1, 0, h => by omega
  | x :: t, a + 1, b + 1, h => by
    unfold szs
    have := szs_mono t a b (by omega)
    omega
theorem SZ_mono {a b : Nat} (h : a ≤ b) : SZ a ≤ SZ b := szs_mono _ _ _ h
theorem szs_succ : ∀ (t : List Nat) (a : Nat), a < t.length → szs t (a + 1) = szs t a + t.getD a 0
  | [], a, h => by simp at h
  | x :: t, 0, _ => by simp [szs]
  | x :: t, a + 1, h => by
    have h1 : a < t.length := by simpa using h
    have := szs_succ t a h1
    simp only [szs] at this ⊢
    rw [this]
    simp
    omega
theorem SZ_succ {a : Nat} (h : a < NT) : SZ (a + 1) = SZ a + ln (a + 2) := by
  unfold SZ
  have h2 : SHN.length = NT + 2 := shn_len
  rw [szs_succ _ _ (by rw [List.length_drop]; omega)]
  unfold ln
  simp [List.getD_eq_getElem?_getD, List.getElem?_drop, Nat.add_comm]
def ax_args : Nat → List ax_V → List (Nat × ax_V)
  | _, [] => []
  | i, v :: vs => (i, v) :: ax_args (if ct v = 2 then i + 2 else i + 1) vs
theorem ax_args_map (g : ax_G) : ∀ (as : List ax_V) (i : Nat), (ax_args i as).map (ax_cl g) = lv_args i (as.map (cv g))
  | [], i => rfl
  | v :: vs, i => by
    show ax_cl g (i, v) :: (ax_args (if ct v = 2 then i + 2 else i + 1) vs).map (ax_cl g) = (i, cv g v) :: lv_args (if (cv g v).category = 2 then i + 2 else i + 1) (vs.map (cv g))
    rw [ax_args_map g vs, cv_cat]
    rfl
def ax_wd (as : List ax_V) : Nat := (as.map ct).sum
theorem ax_wd_len (g : ax_G) : ∀ (as : List ax_V), (lg_sl (as.map (cv g))).length = ax_wd as
  | [] => rfl
  | v :: vs => by
    have h1 := ax_wd_len g vs
    unfold lg_sl at h1 ⊢
    rw [List.map_cons, List.flatMap_cons, List.length_append, h1, cv_cat]
    unfold ax_wd
    rw [List.map_cons, List.sum_cons]
    congr 1
    rcases v with x | x | r <;> rfl
theorem Ctr.ofAW {l : Launch} {g : ax_G} {ly : Bool} {Y : ax_Y} {d : Nat} {as : List ax_V} {M : ax_M} {res : ax_R} (hY : yOK Y) (hw : ax_wd as ≤ yl Y) (hn : ly = true ∨ gn M ≤ gn res.2) (h : AW l g ly Y d res 0 (ax_args 0 as) [] M) : Ctr l g ly Y d as M res := by
  refine ⟨hn, ?_⟩
  refine Met.ofW (cc := yb Y) (maxL := yl Y) (ret := yr Y) hY.1 rfl ?_
  intro p e s m args below meth c s₁ B hml hv
  obtain ⟨rfl, hs, hh⟩ := hv
  have hx := B.exec
  have hb := B.bytes
  have hr := B.returns
  have hts := atoms_spec (ws := yw Y) B.pre
  have hown : s.vm.findClass (yn Y).cls = some m.cls := findClass_of_methodNamed B.named
  have hlocks := B.notSynchronized
  have hin : meth.name = (yn Y).name := (name_of_methodNamed B.named B.method).1
  have hl := lv_entry (as.map (cv g)) (n := yl Y) (by rw [ax_wd_len]; exact hw)
  rw [lg_entry_eq]
  generalize (lg_sl (as.map (cv g)) ++ List.replicate (yl Y - (lg_sl (as.map (cv g))).length) Slot.unset).toArray = ls at hl ⊢
  rw [← ax_args_map g] at hl
  have key := h p e (rmx d (al ly (gn M) (gn res.2)) (al ly (SZ (gn M)) (SZ (gn res.2)))) s m _ below meth c (MQ below (Qx g ly res) ((as.map (cv g)).toArray) s (al ly (gn M) (gn res.2)) (al ly (SZ (gn M)) (SZ (gn res.2))) (ax_A g)) (gn M) 0 0
    ⟨hx, hb, hml, hown, fun w hw => hts w (List.mem_cons_of_mem _ hw), hs, fun z => hin.trans z, hY.2.1⟩ ⟨Nat.le_refl _, Nat.le_refl _⟩ ⟨hn.imp id (fun h => ⟨Nat.le_refl _, h⟩), by rw [Nat.zero_add]; exact Nat.le_refl _, by rw [Nat.zero_add]; exact Nat.le_refl _⟩ ?_ s.heap [] ls hh va_S.rf hl
  · rw [al_self, al_self] at key
    exact key
  · intro H' locs' ls' pc' hret hH hS
    rw [Nat.zero_add, Nat.zero_add]
    obtain ⟨i, hi, hrt⟩ := hret
    have hd := cd hi hY.2.1
    have hq : ∀ t : State, t.heap = H' → s.WarmedH t.vm → Qx g ly res ((as.map (cv g)).toArray) s (.returned (res.1.map (cv g))) t := fun t ht _ => ⟨rfl, by rw [ht]; exact hH, hS.F ht⟩
    rcases hrt with ⟨rfl, h1, x, h2⟩ | ⟨rfl, h1, h2⟩ | ⟨rfl, h1, x, h2⟩ | ⟨rfl, ⟨n, h1⟩, a, h2⟩ | ⟨rfl, h1, h2⟩ | ⟨rfl, ty, x, h1, h2, h3⟩
    · rw [h2] at hq ⊢
      exact W.iret hx hb (hr.trans h1) hq hS.2.2 hd
    · rcases h2 with h2 | h2
      · rw [h2] at hq ⊢
        exact W.zret hx hb (hr.trans h1) (by decide) hq hS.2.2 hd
      · rw [h2] at hq ⊢
        exact W.zret hx hb (hr.trans h1) (by decide) hq hS.2.2 hd
    · rw [h2] at hq ⊢
      exact W.lret hx hb (hr.trans h1) hq hS.2.2 hd
    · rw [h2] at hq ⊢
      refine W.aret (v := rv g a) hx hb (hr.trans h1) (Or.inl ⟨n, rfl⟩) ?_ hq hS.2.2 hd
      unfold rv
      split
      · exact Or.inl rfl
      · exact Or.inr ⟨_, rfl⟩
    · rw [h2] at hq ⊢
      exact W.vret hx hb (hr.trans h1) hq hS.2.2 hd
    · rw [h2] at hq ⊢
      exact W.zret hx hb (hr.trans h1) h3 hq hS.2.2 hd
