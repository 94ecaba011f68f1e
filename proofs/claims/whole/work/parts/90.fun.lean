theorem law_ok (xs : Nat → Int32) (L : Nat) (hL : L ≤ 2048) : ∃ M' : Mem, Law_law_h18 xs L FU 0 MSt = some (1, M') := by
  sorry
