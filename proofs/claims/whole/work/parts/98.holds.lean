/-- the pure claim (open yet) -/
theorem law_holds (L : Nat) (xs : Nat → Int32) (hL : L ≤ 2560) (M2 : ax_M) (h2 : Init M2) : ∃ M', f_Law_law L xs M2 = some (1, M') := sorry
