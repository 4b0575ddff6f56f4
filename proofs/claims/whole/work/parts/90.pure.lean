/-! level 3's end -/
theorem law_pure {L : Nat} {xs : Nat → Int32} (hL : L ≤ 3584) : ∃ M' : Mm, f_L_law_20 xs L mLw = some (1, M') ∧ zC M' ≤ 601024 ∧ zS M' ≤ 7293034 := sorry
