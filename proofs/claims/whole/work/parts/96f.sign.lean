/-! Reading: signs, both sides. -/
def sgT (c d e : Int32) : Int32 × Nat := if c = 37 then (33, 1) else if c = 38 then (22, 1) else if c = 40 then (15, 1) else if c = 41 then (16, 1) else if c = 42 then (31, 1) else if c = 43 then (29, 1) else if c = 45 then (30, 1) else if c = 47 then (32, 1) else if c = 58 then (19, 1) else if c = 91 then (17, 1) else if c = 93 then (18, 1) else if c = 124 then (21, 1) else if c = 33 then (if d = 61 then (24, 2) else (34, 1)) else if c = 46 then (if e = 91 then (if d = 36 then (40, 3) else if d = 63 then (38, 3) else if d = 94 then (39, 3) else (35, 1)) else (35, 1)) else if c = 60 then (if d = 61 then (26, 2) else (25, 1)) else if c = 61 then (if d = 61 then (23, 2) else (1, 1)) else if c = 62 then (if d = 61 then (28, 2) else (27, 1)) else if c = 63 then (if d = 58 then (37, 2) else if d = 46 then (36, 2) else (20, 1)) else (1, 1)
theorem sgT_tk (c d e : Int32) : Tk (sgT c d e).1 ∧ ¬ (sgT c d e).1 = 2 ∧ ¬ (sgT c d e).1 = 3 := by
  have k : ∀ j : Nat, 1 ≤ j → j ≤ 40 → j ≠ 2 → j ≠ 3 → ∀ z : Nat, Tk ((nI j, z) : Int32 × Nat).1 ∧ ¬ ((nI j, z) : Int32 × Nat).1 = 2 ∧ ¬ ((nI j, z) : Int32 × Nat).1 = 3 := fun j h1 h2 h3 h4 z => ⟨⟨j, h1, h2, rfl⟩, fun q => h3 ((nI_eq (b := 2) (by omega) (by decide)).mp q), fun q => h4 ((nI_eq (b := 3) (by omega) (by decide)).mp q)⟩
  unfold sgT
  by_cases q37 : c = 37
  · rw [if_pos q37]
    exact k 33 (by decide) (by decide) (by decide) (by decide) 1
  rw [if_neg q37]
  by_cases q38 : c = 38
  · rw [if_pos q38]
    exact k 22 (by decide) (by decide) (by decide) (by decide) 1
  rw [if_neg q38]
  by_cases q40 : c = 40
  · rw [if_pos q40]
    exact k 15 (by decide) (by decide) (by decide) (by decide) 1
  rw [if_neg q40]
  by_cases q41 : c = 41
  · rw [if_pos q41]
    exact k 16 (by decide) (by decide) (by decide) (by decide) 1
  rw [if_neg q41]
  by_cases q42 : c = 42
  · rw [if_pos q42]
    exact k 31 (by decide) (by decide) (by decide) (by decide) 1
  rw [if_neg q42]
  by_cases q43 : c = 43
  · rw [if_pos q43]
    exact k 29 (by decide) (by decide) (by decide) (by decide) 1
  rw [if_neg q43]
  by_cases q45 : c = 45
  · rw [if_pos q45]
    exact k 30 (by decide) (by decide) (by decide) (by decide) 1
  rw [if_neg q45]
  by_cases q47 : c = 47
  · rw [if_pos q47]
    exact k 32 (by decide) (by decide) (by decide) (by decide) 1
  rw [if_neg q47]
  by_cases q58 : c = 58
  · rw [if_pos q58]
    exact k 19 (by decide) (by decide) (by decide) (by decide) 1
  rw [if_neg q58]
  by_cases q91 : c = 91
  · rw [if_pos q91]
    exact k 17 (by decide) (by decide) (by decide) (by decide) 1
  rw [if_neg q91]
  by_cases q93 : c = 93
  · rw [if_pos q93]
    exact k 18 (by decide) (by decide) (by decide) (by decide) 1
  rw [if_neg q93]
  by_cases q124 : c = 124
  · rw [if_pos q124]
    exact k 21 (by decide) (by decide) (by decide) (by decide) 1
  rw [if_neg q124]
  by_cases q33 : c = 33
  · rw [if_pos q33]
    by_cases d1 : d = 61
    · rw [if_pos d1]
      exact k 24 (by decide) (by decide) (by decide) (by decide) 2
    · rw [if_neg d1]
      exact k 34 (by decide) (by decide) (by decide) (by decide) 1
  rw [if_neg q33]
  by_cases q46 : c = 46
  · rw [if_pos q46]
    by_cases e1 : e = 91
    · rw [if_pos e1]
      by_cases d36 : d = 36
      · rw [if_pos d36]
        exact k 40 (by decide) (by decide) (by decide) (by decide) 3
      rw [if_neg d36]
      by_cases d63 : d = 63
      · rw [if_pos d63]
        exact k 38 (by decide) (by decide) (by decide) (by decide) 3
      rw [if_neg d63]
      by_cases d94 : d = 94
      · rw [if_pos d94]
        exact k 39 (by decide) (by decide) (by decide) (by decide) 3
      rw [if_neg d94]
      exact k 35 (by decide) (by decide) (by decide) (by decide) 1
    · rw [if_neg e1]
      exact k 35 (by decide) (by decide) (by decide) (by decide) 1
  rw [if_neg q46]
  by_cases q60 : c = 60
  · rw [if_pos q60]
    by_cases d1 : d = 61
    · rw [if_pos d1]
      exact k 26 (by decide) (by decide) (by decide) (by decide) 2
    · rw [if_neg d1]
      exact k 25 (by decide) (by decide) (by decide) (by decide) 1
  rw [if_neg q60]
  by_cases q61 : c = 61
  · rw [if_pos q61]
    by_cases d1 : d = 61
    · rw [if_pos d1]
      exact k 23 (by decide) (by decide) (by decide) (by decide) 2
    · rw [if_neg d1]
      exact k 1 (by decide) (by decide) (by decide) (by decide) 1
  rw [if_neg q61]
  by_cases q62 : c = 62
  · rw [if_pos q62]
    by_cases d1 : d = 61
    · rw [if_pos d1]
      exact k 28 (by decide) (by decide) (by decide) (by decide) 2
    · rw [if_neg d1]
      exact k 27 (by decide) (by decide) (by decide) (by decide) 1
  rw [if_neg q62]
  by_cases q63 : c = 63
  · rw [if_pos q63]
    by_cases d1 : d = 58
    · rw [if_pos d1]
      exact k 37 (by decide) (by decide) (by decide) (by decide) 2
    · rw [if_neg d1]
      by_cases d2 : d = 46
      · rw [if_pos d2]
        exact k 36 (by decide) (by decide) (by decide) (by decide) 2
      · rw [if_neg d2]
        exact k 20 (by decide) (by decide) (by decide) (by decide) 1
  rw [if_neg q63]
  exact k 1 (by decide) (by decide) (by decide) (by decide) 1
theorem sgT_len {tx : Nat → Int32} {n p0 : Nat} (hp : p0 < n) : 0 < (sgT (tx p0) (txa tx n (p0 + 1)) (txa tx n (p0 + 2))).2 ∧ p0 + (sgT (tx p0) (txa tx n (p0 + 1)) (txa tx n (p0 + 2))).2 ≤ n := by
  have h1 : ∀ x : Int32, ¬ x = 0 → txa tx n (p0 + 1) = x → p0 + 2 ≤ n := fun x hx h => by
    by_cases q : p0 + 1 < n
    · omega
    · rw [txa_out (by omega)] at h
      exact absurd h.symm hx
  have h2 : txa tx n (p0 + 2) = 91 → p0 + 3 ≤ n := fun h => by
    by_cases q : p0 + 2 < n
    · omega
    · rw [txa_out (by omega)] at h
      exact absurd h (by decide)
  unfold sgT
  by_cases q37 : tx p0 = 37
  · rw [if_pos q37]
    exact ⟨by decide, hp⟩
  rw [if_neg q37]
  by_cases q38 : tx p0 = 38
  · rw [if_pos q38]
    exact ⟨by decide, hp⟩
  rw [if_neg q38]
  by_cases q40 : tx p0 = 40
  · rw [if_pos q40]
    exact ⟨by decide, hp⟩
  rw [if_neg q40]
  by_cases q41 : tx p0 = 41
  · rw [if_pos q41]
    exact ⟨by decide, hp⟩
  rw [if_neg q41]
  by_cases q42 : tx p0 = 42
  · rw [if_pos q42]
    exact ⟨by decide, hp⟩
  rw [if_neg q42]
  by_cases q43 : tx p0 = 43
  · rw [if_pos q43]
    exact ⟨by decide, hp⟩
  rw [if_neg q43]
  by_cases q45 : tx p0 = 45
  · rw [if_pos q45]
    exact ⟨by decide, hp⟩
  rw [if_neg q45]
  by_cases q47 : tx p0 = 47
  · rw [if_pos q47]
    exact ⟨by decide, hp⟩
  rw [if_neg q47]
  by_cases q58 : tx p0 = 58
  · rw [if_pos q58]
    exact ⟨by decide, hp⟩
  rw [if_neg q58]
  by_cases q91 : tx p0 = 91
  · rw [if_pos q91]
    exact ⟨by decide, hp⟩
  rw [if_neg q91]
  by_cases q93 : tx p0 = 93
  · rw [if_pos q93]
    exact ⟨by decide, hp⟩
  rw [if_neg q93]
  by_cases q124 : tx p0 = 124
  · rw [if_pos q124]
    exact ⟨by decide, hp⟩
  rw [if_neg q124]
  by_cases q33 : tx p0 = 33
  · rw [if_pos q33]
    by_cases d1 : txa tx n (p0 + 1) = 61
    · rw [if_pos d1]
      exact ⟨by decide, h1 _ (by decide) d1⟩
    · rw [if_neg d1]
      exact ⟨by decide, hp⟩
  rw [if_neg q33]
  by_cases q46 : tx p0 = 46
  · rw [if_pos q46]
    by_cases e1 : txa tx n (p0 + 2) = 91
    · rw [if_pos e1]
      by_cases d36 : txa tx n (p0 + 1) = 36
      · rw [if_pos d36]
        exact ⟨by decide, h2 e1⟩
      rw [if_neg d36]
      by_cases d63 : txa tx n (p0 + 1) = 63
      · rw [if_pos d63]
        exact ⟨by decide, h2 e1⟩
      rw [if_neg d63]
      by_cases d94 : txa tx n (p0 + 1) = 94
      · rw [if_pos d94]
        exact ⟨by decide, h2 e1⟩
      rw [if_neg d94]
      exact ⟨by decide, hp⟩
    · rw [if_neg e1]
      exact ⟨by decide, hp⟩
  rw [if_neg q46]
  by_cases q60 : tx p0 = 60
  · rw [if_pos q60]
    by_cases d1 : txa tx n (p0 + 1) = 61
    · rw [if_pos d1]
      exact ⟨by decide, h1 _ (by decide) d1⟩
    · rw [if_neg d1]
      exact ⟨by decide, hp⟩
  rw [if_neg q60]
  by_cases q61 : tx p0 = 61
  · rw [if_pos q61]
    by_cases d1 : txa tx n (p0 + 1) = 61
    · rw [if_pos d1]
      exact ⟨by decide, h1 _ (by decide) d1⟩
    · rw [if_neg d1]
      exact ⟨by decide, hp⟩
  rw [if_neg q61]
  by_cases q62 : tx p0 = 62
  · rw [if_pos q62]
    by_cases d1 : txa tx n (p0 + 1) = 61
    · rw [if_pos d1]
      exact ⟨by decide, h1 _ (by decide) d1⟩
    · rw [if_neg d1]
      exact ⟨by decide, hp⟩
  rw [if_neg q62]
  by_cases q63 : tx p0 = 63
  · rw [if_pos q63]
    by_cases d1 : txa tx n (p0 + 1) = 58
    · rw [if_pos d1]
      exact ⟨by decide, h1 _ (by decide) d1⟩
    · rw [if_neg d1]
      by_cases d2 : txa tx n (p0 + 1) = 46
      · rw [if_pos d2]
        exact ⟨by decide, h1 _ (by decide) d2⟩
      · rw [if_neg d2]
        exact ⟨by decide, hp⟩
  rw [if_neg q63]
  exact ⟨by decide, hp⟩
theorem csign {M : ax_M} {tx : Nat → Int32} {n p0 : Nat} (hT : TxC M tx n) (hn : n ≤ 48) (hp : p0 < n) (g2 : gI M 3 2 = nI p0) : ∃ M', f_Text_cutSign M = some ((sgT (tx p0) (txa tx n (p0 + 1)) (txa tx n (p0 + 2))).1, M') ∧ EqK (fun c k => c = 3 ∧ k = 2) M M' ∧ gI M' 3 2 = nI (p0 + (sgT (tx p0) (txa tx n (p0 + 1)) (txa tx n (p0 + 2))).2) := by
  have e3 : EqK (fun c k => c = 3 ∧ k = 2) M (mI M 3 2 (nI (p0 + 1))) := (EqK.rf M).mI (S := fun c k => c = 3 ∧ k = 2) ⟨rfl, rfl⟩
  have h3 : gI (mI M 3 2 (nI (p0 + 1))) 3 2 = nI (p0 + 1) := mIs _ _ _ _
  have hT3 : TxC (mI M 3 2 (nI (p0 + 1))) tx n := hT.kp (e3.mono fun c k z => by unfold X3; omega)
  unfold f_Text_cutSign
  rw [g2, gi_nI (by omega) (by decide), nI_clamp (by omega), hT.2 p0 hp, kM_eq, nI_1, kM_eq]
  generalize mI M 3 2 (nI (p0 + 1)) = M3 at e3 h3 hT3 ⊢
  have pas : ∀ x : Int32, ¬ x = 0 → f_Text_passes x M3 = if txa tx n (p0 + 1) = x then some (1, mI M3 3 2 (nI (p0 + 2))) else some (0, M3) := fun x hx => c_passes hT3 hn (by omega) h3 hx
  have e4 : ∀ y, EqK (fun c k => c = 3 ∧ k = 2) M (mI M3 3 2 y) := fun y => e3.mI ⟨rfl, rfl⟩
  have dn : ∀ p, n ≤ p → ¬ txa tx n p = 91 := fun p hp => by rw [txa_out hp]; decide
  generalize tx p0 = c
  unfold sgT
  by_cases q37 : c = 37
  · rw [if_pos q37, if_pos q37]
    exact ⟨M3, rfl, e3, h3⟩
  rw [if_neg q37, if_neg q37]
  by_cases q38 : c = 38
  · rw [if_pos q38, if_pos q38]
    exact ⟨M3, rfl, e3, h3⟩
  rw [if_neg q38, if_neg q38]
  by_cases q40 : c = 40
  · rw [if_pos q40, if_pos q40]
    exact ⟨M3, rfl, e3, h3⟩
  rw [if_neg q40, if_neg q40]
  by_cases q41 : c = 41
  · rw [if_pos q41, if_pos q41]
    exact ⟨M3, rfl, e3, h3⟩
  rw [if_neg q41, if_neg q41]
  by_cases q42 : c = 42
  · rw [if_pos q42, if_pos q42]
    exact ⟨M3, rfl, e3, h3⟩
  rw [if_neg q42, if_neg q42]
  by_cases q43 : c = 43
  · rw [if_pos q43, if_pos q43]
    exact ⟨M3, rfl, e3, h3⟩
  rw [if_neg q43, if_neg q43]
  by_cases q45 : c = 45
  · rw [if_pos q45, if_pos q45]
    exact ⟨M3, rfl, e3, h3⟩
  rw [if_neg q45, if_neg q45]
  by_cases q47 : c = 47
  · rw [if_pos q47, if_pos q47]
    exact ⟨M3, rfl, e3, h3⟩
  rw [if_neg q47, if_neg q47]
  by_cases q58 : c = 58
  · rw [if_pos q58, if_pos q58]
    exact ⟨M3, rfl, e3, h3⟩
  rw [if_neg q58, if_neg q58]
  by_cases q91 : c = 91
  · rw [if_pos q91, if_pos q91]
    exact ⟨M3, rfl, e3, h3⟩
  rw [if_neg q91, if_neg q91]
  by_cases q93 : c = 93
  · rw [if_pos q93, if_pos q93]
    exact ⟨M3, rfl, e3, h3⟩
  rw [if_neg q93, if_neg q93]
  by_cases q124 : c = 124
  · rw [if_pos q124, if_pos q124]
    exact ⟨M3, rfl, e3, h3⟩
  rw [if_neg q124, if_neg q124]
  rw [u_id3]
  unfold f_Text_cutLongSign
  by_cases q33 : c = 33
  · rw [if_pos q33, if_pos q33, pas 61 (by decide)]
    by_cases d1 : txa tx n (p0 + 1) = 61
    · rw [if_pos d1, if_pos d1, bnd_eq, if_neg (show ¬ (1 : Int32) = 0 by decide)]
      exact ⟨_, rfl, e4 _, mIs _ _ _ _⟩
    · rw [if_neg d1, if_neg d1, bnd_eq, if_pos (show (0 : Int32) = 0 from rfl)]
      exact ⟨M3, rfl, e3, h3⟩
  rw [if_neg q33, if_neg q33]
  by_cases q46 : c = 46
  · rw [if_pos q46, if_pos q46, u_id3]
    unfold f_Text_cutDot
    rw [hT3.1, h3, nI_1]
    by_cases z : p0 + 2 < n
    · rw [if_neg (nI_ge z (by omega)), gi_nI (by omega) (by decide), nI_clamp (show p0 + 1 + 1 < 2 ^ 31 by omega), hT3.2 (p0 + 2) z, show tx (p0 + 2) = txa tx n (p0 + 2) from (txa_in z).symm]
      by_cases e91 : txa tx n (p0 + 2) = 91
      · rw [if_pos e91, if_pos e91, gi_nI (by omega) (by decide), nI_clamp (show p0 + 1 < 2 ^ 31 by omega), hT3.2 (p0 + 1) (by omega), show tx (p0 + 1) = txa tx n (p0 + 1) from (txa_in (by omega)).symm]
        unfold f_Text_endingOf
        by_cases d36 : txa tx n (p0 + 1) = 36
        · rw [if_pos d36, if_pos d36, bnd_eq, if_neg (by decide), h3, kM_eq]
          exact ⟨_, rfl, e4 _, by rw [mIs]; exact nI_add (p0 + 1) 2⟩
        rw [if_neg d36, if_neg d36]
        by_cases d63 : txa tx n (p0 + 1) = 63
        · rw [if_pos d63, if_pos d63, bnd_eq, if_neg (by decide), h3, kM_eq]
          exact ⟨_, rfl, e4 _, by rw [mIs]; exact nI_add (p0 + 1) 2⟩
        rw [if_neg d63, if_neg d63]
        by_cases d94 : txa tx n (p0 + 1) = 94
        · rw [if_pos d94, if_pos d94, bnd_eq, if_neg (by decide), h3, kM_eq]
          exact ⟨_, rfl, e4 _, by rw [mIs]; exact nI_add (p0 + 1) 2⟩
        rw [if_neg d94, if_neg d94]
        rw [bnd_eq, if_pos rfl]
        exact ⟨M3, rfl, e3, h3⟩
      · rw [if_neg e91, if_neg e91]
        exact ⟨M3, rfl, e3, h3⟩
    · rw [if_pos (nI_le (by omega) (by omega)), if_neg (dn (p0 + 2) (by omega))]
      exact ⟨M3, rfl, e3, h3⟩
  rw [if_neg q46, if_neg q46]
  by_cases q60 : c = 60
  · rw [if_pos q60, if_pos q60, pas 61 (by decide)]
    by_cases d1 : txa tx n (p0 + 1) = 61
    · rw [if_pos d1, if_pos d1, bnd_eq, if_neg (show ¬ (1 : Int32) = 0 by decide)]
      exact ⟨_, rfl, e4 _, mIs _ _ _ _⟩
    · rw [if_neg d1, if_neg d1, bnd_eq, if_pos (show (0 : Int32) = 0 from rfl)]
      exact ⟨M3, rfl, e3, h3⟩
  rw [if_neg q60, if_neg q60]
  by_cases q61 : c = 61
  · rw [if_pos q61, if_pos q61, pas 61 (by decide)]
    by_cases d1 : txa tx n (p0 + 1) = 61
    · rw [if_pos d1, if_pos d1, bnd_eq, if_neg (show ¬ (1 : Int32) = 0 by decide)]
      exact ⟨_, rfl, e4 _, mIs _ _ _ _⟩
    · rw [if_neg d1, if_neg d1, bnd_eq, if_pos (show (0 : Int32) = 0 from rfl)]
      exact ⟨M3, rfl, e3, h3⟩
  rw [if_neg q61, if_neg q61]
  by_cases q62 : c = 62
  · rw [if_pos q62, if_pos q62, pas 61 (by decide)]
    by_cases d1 : txa tx n (p0 + 1) = 61
    · rw [if_pos d1, if_pos d1, bnd_eq, if_neg (show ¬ (1 : Int32) = 0 by decide)]
      exact ⟨_, rfl, e4 _, mIs _ _ _ _⟩
    · rw [if_neg d1, if_neg d1, bnd_eq, if_pos (show (0 : Int32) = 0 from rfl)]
      exact ⟨M3, rfl, e3, h3⟩
  rw [if_neg q62, if_neg q62]
  by_cases q63 : c = 63
  · rw [if_pos q63, if_pos q63, u_id3]
    unfold f_Text_cutQuestion
    rw [pas 58 (by decide)]
    by_cases d1 : txa tx n (p0 + 1) = 58
    · rw [if_pos d1, if_pos d1, bnd_eq, if_neg (show ¬ (1 : Int32) = 0 by decide)]
      exact ⟨_, rfl, e4 _, mIs _ _ _ _⟩
    · rw [if_neg d1, if_neg d1, bnd_eq, if_pos (show (0 : Int32) = 0 from rfl), pas 46 (by decide)]
      by_cases d2 : txa tx n (p0 + 1) = 46
      · rw [if_pos d2, if_pos d2, bnd_eq, if_neg (show ¬ (1 : Int32) = 0 by decide)]
        exact ⟨_, rfl, e4 _, mIs _ _ _ _⟩
      · rw [if_neg d2, if_neg d2, bnd_eq, if_pos (show (0 : Int32) = 0 from rfl)]
        exact ⟨M3, rfl, e3, h3⟩
  rw [if_neg q63, if_neg q63]
  exact ⟨M3, rfl, e3, h3⟩
def sM0 (c : Int32) : Int32 := if c = 40 then 60 else if c = 41 then 61 else if c = 91 then 62 else if c = 93 then 63 else if c = 58 then 64 else if c = 124 then 22 else if c = 38 then 23 else if c = 43 then 30 else if c = 45 then 31 else if c = 42 then 32 else if c = 47 then 33 else if c = 37 then 34 else 0
theorem ms403 {M : ax_M} {p0 : Nat} (g5 : gI M 184 5 = nI p0) (k : Nat) (t : Int32) : f_Mod_signToken_403 (nI k) t M = some (t, mI M 184 5 (nI (p0 + k))) := by
  unfold f_Mod_signToken_403
  rw [g5, nI_add, kM_eq]
theorem msign0 {M : ax_M} {tx : Nat → Int32} {n p0 : Nat} (hT : TxM M tx n) (hn : n ≤ 48) (hp : p0 < n) (g5 : gI M 184 5 = nI p0) : f_Mod_signToken M = f_Mod_signToken_167 (tx p0) (txa tx n (p0 + 1)) (txa tx n (p0 + 2)) 1 (sM0 (tx p0)) M := by
  unfold f_Mod_signToken sM0
  rw [g5, m_at hT hn (by omega), bnd_eq, g5, nI_1, m_at hT hn (by omega), bnd_eq, g5, show nI p0 + 2 = nI (p0 + 2) from nI_add p0 2, m_at hT hn (by omega), bnd_eq, txa_in hp]
  generalize tx p0 = c
  by_cases q40 : c = 40
  · rw [if_pos q40, if_pos q40]
  rw [if_neg q40, if_neg q40]
  by_cases q41 : c = 41
  · rw [if_pos q41, if_pos q41]
  rw [if_neg q41, if_neg q41]
  by_cases q91 : c = 91
  · rw [if_pos q91, if_pos q91]
  rw [if_neg q91, if_neg q91]
  by_cases q93 : c = 93
  · rw [if_pos q93, if_pos q93]
  rw [if_neg q93, if_neg q93]
  by_cases q58 : c = 58
  · rw [if_pos q58, if_pos q58]
  rw [if_neg q58, if_neg q58]
  by_cases q124 : c = 124
  · rw [if_pos q124, if_pos q124]
  rw [if_neg q124, if_neg q124]
  by_cases q38 : c = 38
  · rw [if_pos q38, if_pos q38]
  rw [if_neg q38, if_neg q38]
  by_cases q43 : c = 43
  · rw [if_pos q43, if_pos q43]
  rw [if_neg q43, if_neg q43]
  by_cases q45 : c = 45
  · rw [if_pos q45, if_pos q45]
  rw [if_neg q45, if_neg q45]
  by_cases q42 : c = 42
  · rw [if_pos q42, if_pos q42]
  rw [if_neg q42, if_neg q42]
  by_cases q47 : c = 47
  · rw [if_pos q47, if_pos q47]
  rw [if_neg q47, if_neg q47]
  by_cases q37 : c = 37
  · rw [if_pos q37, if_pos q37]
  rw [if_neg q37, if_neg q37]
theorem msign {M : ax_M} {tx : Nat → Int32} {n p0 : Nat} (hT : TxM M tx n) (hn : n ≤ 48) (hp : p0 < n) (g5 : gI M 184 5 = nI p0) : f_Mod_signToken M = some (tokM (sgT (tx p0) (txa tx n (p0 + 1)) (txa tx n (p0 + 2))).1, mI M 184 5 (nI (p0 + (sgT (tx p0) (txa tx n (p0 + 1)) (txa tx n (p0 + 2))).2))) := by
  rw [msign0 hT hn hp g5]
  generalize tx p0 = c
  generalize txa tx n (p0 + 1) = d
  generalize txa tx n (p0 + 2) = e
  have f1 : ∀ t, f_Mod_signToken_403 1 t M = some (t, mI M 184 5 (nI (p0 + 1))) := ms403 g5 1
  have f2 : ∀ t, f_Mod_signToken_403 2 t M = some (t, mI M 184 5 (nI (p0 + 2))) := ms403 g5 2
  have f3 : ∀ t, f_Mod_signToken_403 3 t M = some (t, mI M 184 5 (nI (p0 + 3))) := ms403 g5 3
  by_cases q37 : c = 37
  · subst q37
    exact f1 34
  by_cases q38 : c = 38
  · subst q38
    exact f1 23
  by_cases q40 : c = 40
  · subst q40
    exact f1 60
  by_cases q41 : c = 41
  · subst q41
    exact f1 61
  by_cases q42 : c = 42
  · subst q42
    exact f1 32
  by_cases q43 : c = 43
  · subst q43
    exact f1 30
  by_cases q45 : c = 45
  · subst q45
    exact f1 31
  by_cases q47 : c = 47
  · subst q47
    exact f1 33
  by_cases q58 : c = 58
  · subst q58
    exact f1 64
  by_cases q91 : c = 91
  · subst q91
    exact f1 62
  by_cases q93 : c = 93
  · subst q93
    exact f1 63
  by_cases q124 : c = 124
  · subst q124
    exact f1 22
  by_cases q33 : c = 33
  · subst q33
    by_cases d1 : d = 61
    · subst d1
      exact f2 25
    · have s1 : sgT 33 d e = (if d = 61 then (24, 2) else (34, 1)) := rfl
      rw [s1, if_neg d1]
      unfold f_Mod_signToken_167
      repeat rw [if_neg (by decide)]
      rw [if_pos rfl, if_neg d1]
      exact f1 21
  by_cases q46 : c = 46
  · subst q46
    have s1 : sgT 46 d e = (if e = 91 then (if d = 36 then (40, 3) else if d = 63 then (38, 3) else if d = 94 then (39, 3) else (35, 1)) else (35, 1)) := rfl
    have m1 : f_Mod_signToken_167 46 d e 1 (sM0 46) M = (if e = 91 then (if d = 63 then (f_Mod_signToken_387 16 M) else (if d = 94 then (f_Mod_signToken_387 17 M) else (if d = 36 then (f_Mod_signToken_387 18 M) else (f_Mod_signToken_387 67 M)))) else (f_Mod_signToken_387 67 M)) := rfl
    rw [s1, m1]
    by_cases e1 : e = 91
    · rw [if_pos e1, if_pos e1]
      by_cases d1 : d = 36
      · subst d1
        exact f3 18
      · rw [if_neg d1, if_neg d1]
        by_cases d2 : d = 63
        · rw [if_pos d2, if_pos d2]
          exact f3 16
        · rw [if_neg d2, if_neg d2]
          by_cases d3 : d = 94
          · rw [if_pos d3, if_pos d3]
            exact f3 17
          · rw [if_neg d3, if_neg d3]
            exact f1 67
    · rw [if_neg e1, if_neg e1]
      exact f1 67
  by_cases q60 : c = 60
  · subst q60
    by_cases d1 : d = 61
    · subst d1
      exact f2 27
    · have s1 : sgT 60 d e = (if d = 61 then (26, 2) else (25, 1)) := rfl
      rw [s1, if_neg d1]
      unfold f_Mod_signToken_167
      repeat rw [if_neg (by decide)]
      rw [if_pos rfl, if_neg d1]
      exact f1 26
  by_cases q61 : c = 61
  · subst q61
    by_cases d1 : d = 61
    · subst d1
      exact f2 24
    · have s1 : sgT 61 d e = (if d = 61 then (23, 2) else (1, 1)) := rfl
      rw [s1, if_neg d1]
      unfold f_Mod_signToken_167
      repeat rw [if_neg (by decide)]
      rw [if_pos rfl, if_neg d1]
      exact f1 0
  by_cases q62 : c = 62
  · subst q62
    by_cases d1 : d = 61
    · subst d1
      exact f2 29
    · have s1 : sgT 62 d e = (if d = 61 then (28, 2) else (27, 1)) := rfl
      rw [s1, if_neg d1]
      unfold f_Mod_signToken_167
      repeat rw [if_neg (by decide)]
      rw [if_pos rfl, if_neg d1]
      exact f1 28
  by_cases q63 : c = 63
  · subst q63
    have s1 : sgT 63 d e = (if d = 58 then (37, 2) else if d = 46 then (36, 2) else (20, 1)) := rfl
    have m1 : f_Mod_signToken_167 63 d e 1 (sM0 63) M = (if d = 58 then (f_Mod_signToken_304 d 2 M) else (if d = 46 then (f_Mod_signToken_304 d 2 M) else (f_Mod_signToken_304 d 1 M))) := rfl
    rw [s1, m1]
    by_cases d1 : d = 58
    · subst d1
      exact f2 36
    · rw [if_neg d1, if_neg d1]
      by_cases d2 : d = 46
      · subst d2
        exact f2 66
      · rw [if_neg d2, if_neg d2]
        unfold f_Mod_signToken_304
        rw [if_neg d1, if_neg d2]
        exact f1 65
  have s1 : sgT c d e = (1, 1) := by
    unfold sgT
    rw [if_neg q37, if_neg q38, if_neg q40, if_neg q41, if_neg q42, if_neg q43, if_neg q45, if_neg q47, if_neg q58, if_neg q91, if_neg q93, if_neg q124, if_neg q33, if_neg q46, if_neg q60, if_neg q61, if_neg q62, if_neg q63]
  have s2 : sM0 c = 0 := by
    unfold sM0
    rw [if_neg q40, if_neg q41, if_neg q91, if_neg q93, if_neg q58, if_neg q124, if_neg q38, if_neg q43, if_neg q45, if_neg q42, if_neg q47, if_neg q37]
  rw [s1, s2]
  unfold f_Mod_signToken_167
  rw [if_neg q60, if_neg q62, if_neg q61, if_neg q33, if_neg q63, if_neg q46]
  exact f1 0
theorem lex_sign {tx : Nat → Int32} {n p0 : Nat} (hn : n ≤ 48) (hp : p0 < n) : ∃ t v p1, p0 < p1 ∧ p1 ≤ n ∧ Tk t ∧ (t = 2 → v = v.toInt32.toInt64) ∧ LexR tx n p0 t v p1 f_Text_cutSign f_Mod_signToken := by
  obtain ⟨k1, k2, k3⟩ := sgT_tk (tx p0) (txa tx n (p0 + 1)) (txa tx n (p0 + 2))
  obtain ⟨l1, l2⟩ := sgT_len (tx := tx) hp
  refine ⟨(sgT (tx p0) (txa tx n (p0 + 1)) (txa tx n (p0 + 2))).1, 0, p0 + (sgT (tx p0) (txa tx n (p0 + 1)) (txa tx n (p0 + 2))).2, by omega, l2, k1, fun z => absurd z k2, fun M hT g4 g2 g5 => ?_, fun M hT g5 => ?_⟩
  · obtain ⟨M', a1, a2, a3⟩ := csign hT hn hp g2
    refine ⟨M', a1, a2.mono fun c k z => by unfold X3; omega, a3, (a2 3 4 (by omega)).1.trans g4, fun z => ?_⟩
    rcases z with z | z
    · exact absurd z k2
    · exact absurd z k3
  · refine ⟨_, msign hT hn hp g5, (EqK.rf M).mI ⟨rfl, Or.inl rfl⟩, mIs _ _ _ _, fun z => ?_⟩
    rcases z with z | z
    · exact absurd z k2
    · exact absurd z k3
