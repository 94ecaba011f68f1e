theorem i32_step (A S n T x : Int32) : A - S * (n + 1) - (T + x) = A - S * n - T - (x + S) := by grind
theorem ends_left {f : Nat → Int32} {g : Nat → Int32} {c s : Nat} (hg : ∀ t, t < 8 → s.testBit t = true → g t = f (41 + 3 * t + 1)) : ∀ k, k ≤ 8 → leftS f c s k = (f (13 + 4 * c + 1) - (if f (13 + 4 * c + 2) = 0 then leadV (f (13 + 4 * c)) (f 0) else 0)) - slateV (f (13 + 4 * c)) * nI (cnt (fun i => s.testBit i) k) - sumS g s k
  | 0, _ => by
    have e : nI (cnt (fun i => s.testBit i) 0) = 0 := rfl
    simp only [leftS, sumS, e]
    grind
  | k + 1, hk => by
    have ih := ends_left (c := c) hg k (by omega)
    simp only [leftS, sumS, cnt]
    by_cases hb : s.testBit k = true
    · rw [if_pos hb, if_pos hb, if_pos hb, ← nI_1, hg k (by omega) hb, ih]
      exact (i32_step _ _ _ _ _).symm
    · rw [if_neg hb, if_neg hb, if_neg hb, Nat.add_zero, Int32.add_zero]
      exact ih
