/-! String constants: length and charAt, as functions of the constant's number -/
def f_Str_length (w : Nat) (M : ax_M) : Option (Int32 × ax_M) := if 1000 ≤ w ∧ w < 1000 + NST then some (nI (STLEN.getD (w - 1000) 0), M) else none
def f_Str_charAt (w : Nat) (i : Int32) (M : ax_M) : Option (Int32 × ax_M) := if (1000 ≤ w ∧ w < 1000 + NST) ∧ ¬ (i < 0 ∨ STLEN.getD (w - 1000) 0 ≤ i.toNatClampNeg) then some ((STBYT.getD (w - 1000) []).getD i.toNatClampNeg 0, M) else none
section AXT
variable {l : Launch} {g : ax_G} {ly : Bool} {Y : ax_Y} {d : Nat} {res : ax_R} {pc : Nat} {Ls : List (Nat × ax_V)} {st : List ax_V} {M : ax_M}
theorem A_ldcS {idx i : Nat} (hd : codeAt Y pc = some (.ldc idx, 2)) (h1 : STO i = (yn Y).cls) (h2 : STI i = idx) (hi : i < NST) (K : AW l g ly Y d res (pc + 2) Ls (vA (1000 + i) :: st) M) : AW l g ly Y d res pc Ls st M := by
  intro p e R s m args below meth c0 Q n0 kc ks F hR hN hret H locs ls hH hS hl
  have hs := F.2.2.2.2.2.1
  have h3 := hs.2.2.1 i hi
  rw [h1, h2] at h3
  have h4 : cv g (vA (1000 + i)) = .ref (gK g i) := by
    rw [cv_A, rv_pos (by omega)]
    unfold am
    rw [if_neg (by omega), if_neg (by omega), show 1000 + i - 1000 = i by omega]
  have h9 := K p e R s m args below meth c0 Q n0 kc ks F hR hN hret H locs ls hH hS hl
  rw [List.map_cons, h4] at h9
  exact va_ldcS F.1 F.2.1 F.2.2.2.1 h3 (cd hd F.2.2.2.2.2.2.2) h9
theorem A_strLength {idx w : Nat} {x : Int32} {M' : ax_M} {st' : List ax_V} (hd : codeAt Y pc = some (.invokevirtual idx, 3)) (hl : Cond.methodLink (yn Y).cls idx ⟨"java/lang/String", "length", "()I"⟩ ∈ WG) (hcat : ax_wd st' ≤ 8) (hd' : 6 ≤ d) (h : f_Str_length w M = some (x, M')) (K : AW l g ly Y d res (pc + 3) Ls (vI x :: st') M') : AW l g ly Y d res pc Ls (vA w :: st') M := sorry
theorem A_strCharAt {idx w : Nat} {i x : Int32} {M' : ax_M} {st' : List ax_V} (hd : codeAt Y pc = some (.invokevirtual idx, 3)) (hl : Cond.methodLink (yn Y).cls idx ⟨"java/lang/String", "charAt", "(I)C"⟩ ∈ WG) (hcat : ax_wd st' ≤ 8) (hd' : 6 ≤ d) (h : f_Str_charAt w i M = some (x, M')) (K : AW l g ly Y d res (pc + 3) Ls (vI x :: st') M') : AW l g ly Y d res pc Ls (vI i :: vA w :: st') M := sorry
end AXT
