def qb (y : Int64) (R : Nat) : Bool := y.toBitVec.getLsbD R
theorem sh_amt : ∀ k, k < 6 → (Int32.toInt64 ((1 : Int32) <<< (nI k &&& 31)) &&& 63).toBitVec.smod 64 = BitVec.ofNat 64 (2 ^ k) := by decide +kernel
theorem wo_bit : ∀ k, k < 6 → ∀ R, R < 64 → (cWO k).toBitVec.getLsbD R = !R.testBit k := by decide +kernel
theorem wo_d1 : ∀ k, k < 6 → ∀ R, R < 64 → (!(decide (R < 2 ^ k)) && !((R - 2 ^ k).testBit k)) = R.testBit k := by decide +kernel
theorem wo_d2 : ∀ k, k < 6 → ∀ R, R < 64 → R.testBit k = true → R - 2 ^ k = R ^^^ 2 ^ k := by decide +kernel
theorem qb_or (a b : Int64) (R : Nat) : qb (a ||| b) R = (qb a R || qb b R) := by
  unfold qb
  rw [Int64.toBitVec_or, BitVec.getLsbD_or]
theorem qb_wo {k R : Nat} (hk : k < 6) (hR : R < 64) (y : Int64) : qb ((y &&& cWO k) <<< (Int32.toInt64 ((1 : Int32) <<< (nI k &&& 31)) &&& 63)) R = (R.testBit k && qb y (R ^^^ 2 ^ k)) := by
  have h2 : 2 ^ k < 64 := Nat.lt_of_lt_of_le (Nat.pow_lt_pow_right (by omega) hk) (by decide)
  have h3 : R - 2 ^ k < 64 := Nat.lt_of_le_of_lt (Nat.sub_le _ _) hR
  unfold qb
  rw [Int64.toBitVec_shiftLeft, sh_amt k hk]
  rw [BitVec.shiftLeft_eq', BitVec.toNat_ofNat, Nat.mod_eq_of_lt (by omega : 2 ^ k < 2 ^ 64), BitVec.getLsbD_shiftLeft, Int64.toBitVec_and, BitVec.getLsbD_and, wo_bit k hk _ h3]
  have d1 := wo_d1 k hk R hR
  by_cases hb : R.testBit k = true
  · rw [hb] at d1 ⊢
    rw [← wo_d2 k hk R hR hb]
    simp only [Bool.and_eq_true] at d1
    rw [d1.1, d1.2]
    simp [hR]
  · have hb' : R.testBit k = false := by simpa using hb
    rw [hb'] at d1 ⊢
    cases h1 : (!(decide (R < 2 ^ k))) with
    | false => simp
    | true =>
      rw [h1, Bool.true_and] at d1
      rw [d1]; simp
theorem ip_amt : ∀ R, R < 64 → ((Int32.toInt64 (nI R)).toUInt64 &&& Int64.toUInt64 63).toBitVec % 64#64 = BitVec.ofNat 64 R := by decide +kernel
theorem ip_val {R : Nat} (hR : R < 64) (y : Int64) : (((Int64.toUInt64 y >>> ((Int32.toInt64 (nI R)).toUInt64 &&& Int64.toUInt64 63)).toInt64) &&& 1) = 1 ↔ qb y R = true := by
  have e : (((Int64.toUInt64 y >>> ((Int32.toInt64 (nI R)).toUInt64 &&& Int64.toUInt64 63)).toInt64) &&& 1).toBitVec = (y.toBitVec >>> R) &&& 1#64 := by
    have h1 := ip_amt R hR
    simp only [Int64.toBitVec_and]
    congr 1
    show (Int64.toUInt64 y >>> ((Int32.toInt64 (nI R)).toUInt64 &&& Int64.toUInt64 63)).toBitVec = _
    rw [UInt64.toBitVec_shiftRight]
    rw [show (64 : BitVec 64) = 64#64 from rfl, h1, BitVec.ushiftRight_eq', BitVec.toNat_ofNat, Nat.mod_eq_of_lt (by omega)]
    rfl
  rw [← Int64.toBitVec_inj, e]
  unfold qb
  constructor
  · intro h
    have := congrArg (fun z => z.getLsbD 0) h
    simpa using this
  · intro h
    apply BitVec.eq_of_getLsbD_eq
    intro i hi
    rw [BitVec.getLsbD_and, BitVec.getLsbD_ushiftRight]
    by_cases h0 : i = 0
    · subst h0; simpa using h
    · have : (1#64).getLsbD i = false := by
        rw [BitVec.getLsbD_one]; simp [h0]
      show (_ && _) = (1 : Int64).toBitVec.getLsbD i
      rw [this]
      have h2 : (1 : Int64).toBitVec = 1#64 := rfl
      rw [h2, this]; simp
theorem qb_m1 : ∀ R, R < 64 → qb (-1) R = true := by decide +kernel
theorem qb_0 (R : Nat) : qb 0 R = false := by
  unfold qb
  show (0#64).getLsbD R = false
  simp

theorem add_one_in {hs : Nat} (y1 : Int64) (h64 : hs < 64) {M : Mem} : ∀ m k q y, k + m = 6 → m < q → ∃ y', Reach_withOneMore_h16 q y1 (nI hs) y (nI k) M = some (y', M) ∧ ∀ R, R < 64 → (qb y' R = true ↔ (qb y R = true ∨ ∃ j, k ≤ j ∧ j < 6 ∧ hs.testBit j = true ∧ R.testBit j = true ∧ qb y1 (R ^^^ 2 ^ j) = true)) := by
  have e6 : (6 : Int32) = nI 6 := rfl
  intro m
  induction m with
  | zero =>
    intro k q y hk hq
    obtain ⟨q, rfl⟩ : ∃ z, q = z + 1 := ⟨q - 1, by omega⟩
    have hge : ¬ nI k < nI 6 := nI_nlt (by omega) (by omega)
    refine ⟨y, by simp only [Reach_withOneMore_h16, e6, hge, if_false], fun R hR => ⟨Or.inl, fun h => ?_⟩⟩
    rcases h with h | ⟨j, h1, h2, _⟩
    · exact h
    · omega
  | succ m ih =>
    intro k q y hk hq
    obtain ⟨q, rfl⟩ : ∃ z, q = z + 1 := ⟨q - 1, by omega⟩
    have hlt : nI k < nI 6 := nI_lt (by omega) (by omega)
    have hv := has_val hs (by omega) k (by omega)
    by_cases hb : hs.testBit k = true
    · obtain ⟨y', r1, r2⟩ := ih (k + 1) q (y ||| ((y1 &&& cWO k) <<< (Int32.toInt64 ((1 : Int32) <<< (nI k &&& 31)) &&& 63))) (by omega) (by omega)
      refine ⟨y', ?_, fun R hR => ?_⟩
      · rw [← r1]
        simp only [Reach_withOneMore_h16, Reach_withOneMore_b51, e6, hlt, if_true, hv.mpr hb, gd_t (inb_nI (show k < 6 by omega) (show 6 < 2 ^ 31 by omega)), ix_nI (show k < 2 ^ 31 by omega), lq_eq, nI_1]
      · rw [r2 R hR, qb_or, qb_wo (by omega) hR, Bool.or_eq_true, Bool.and_eq_true]
        constructor
        · rintro ((g | g) | ⟨j, g1, g2, g3⟩)
          · exact Or.inl g
          · exact Or.inr ⟨k, Nat.le_refl k, by omega, hb, g.1, g.2⟩
          · exact Or.inr ⟨j, by omega, g2, g3⟩
        · rintro (g | ⟨j, g1, g2, g3⟩)
          · exact Or.inl (Or.inl g)
          · by_cases hj : j = k
            · subst hj
              exact Or.inl (Or.inr g3.2)
            · exact Or.inr ⟨j, by omega, g2, g3⟩
    · obtain ⟨y', r1, r2⟩ := ih (k + 1) q y (by omega) (by omega)
      have hv' : ¬ ((nI hs >>> (nI k &&& 31)) &&& 1) = 1 := fun z => hb (hv.mp z)
      refine ⟨y', ?_, fun R hR => ?_⟩
      · rw [← r1]
        simp only [Reach_withOneMore_h16, Reach_withOneMore_b51, e6, hlt, if_true, hv', if_false, lq_eq, nI_1]
      · rw [r2 R hR]
        constructor
        · rintro (g | ⟨j, g1, g2, g3⟩)
          · exact Or.inl g
          · exact Or.inr ⟨j, by omega, g2, g3⟩
        · rintro (g | ⟨j, g1, g2, g3⟩)
          · exact Or.inl g
          · by_cases hj : j = k
            · subst hj
              exact absurd g3.1 hb
            · exact Or.inr ⟨j, by omega, g2, g3⟩
theorem add_one_c {hs : Nat} (y1 : Int64) (h64 : hs < 64) (M : Mem) : ∃ y', j_Reach_withOneMore y1 (nI hs) M = some (y', M) ∧ ∀ R, R < 64 → (qb y' R = true ↔ ∃ j, j < 6 ∧ hs.testBit j = true ∧ R.testBit j = true ∧ qb y1 (R ^^^ 2 ^ j) = true) := by
  by_cases h0 : y1 = 0
  · refine ⟨0, ?_, fun R _ => ⟨fun z => (by rw [qb_0] at z; cases z), fun ⟨j, _, _, _, z⟩ => by rw [h0, qb_0] at z; cases z⟩⟩
    unfold j_Reach_withOneMore
    rw [lq_e, if_pos h0]
  · by_cases hh : hs = 0
    · refine ⟨0, ?_, fun R _ => ⟨fun z => (by rw [qb_0] at z; cases z), fun ⟨j, _, z, _, _⟩ => by rw [hh, Nat.zero_testBit] at z; cases z⟩⟩
      unfold j_Reach_withOneMore
      rw [lq_e, if_neg h0, if_pos (by rw [hh]; rfl)]
    · obtain ⟨y', r1, r2⟩ := add_one_in y1 h64 (M := M) 6 0 FU 0 (by omega) (by unfold FU; omega)
      refine ⟨y', ?_, fun R hR => ?_⟩
      · rw [← r1]
        unfold j_Reach_withOneMore
        rw [lq_e, if_neg h0, if_neg (by rw [nI_eq0 (by omega)]; exact hh), lq_e]
        exact congrArg (fun z => Reach_withOneMore_h16 FU y1 (nI hs) 0 z M) (rfl : (0 : Int32) = nI 0)
      · rw [r2 R hR, qb_0]
        constructor
        · rintro (g | ⟨j, g1, g2⟩)
          · cases g
          · exact ⟨j, g2⟩
        · rintro ⟨j, g⟩
          exact Or.inr ⟨j, Nat.zero_le j, g⟩
