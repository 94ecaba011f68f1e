def Fl (M : Mem) (k p : Nat) : Prop := gi M 326 12 = nI k ∧ 0 < k ∧ k < 4 ∧ gi M 326 13 = nI p
theorem Fl.ne {M : Mem} {k p : Nat} (h : Fl M k p) : ¬ gi M 326 12 = 0 := by
  obtain ⟨h1, h2, h3, _⟩ := h
  rw [h1, nI_eq0 (by omega)]; omega
theorem bad_f {M : Mem} {k p : Nat} {x : Int32} (h : Fl M k p) : j_Md_bad x M = some ((), M) := by
  simp only [j_Md_bad, h.ne, if_false]
theorem goes_f {M : Mem} {k p : Nat} (h : Fl M k p) : j_Md_goesOn M = some ((), M) := by
  simp only [j_Md_goesOn, h.ne, if_false]
theorem sign_f {M : Mem} {k p : Nat} {x : Int32} (h : Fl M k p) : j_Md_sign x M = some ((), M) := by
  by_cases h1 : gi M 326 10 = 3
  · by_cases h2 : gi M 326 11 = x
    · simp only [j_Md_sign, Md_sign_b21, h1, h2, if_true, goes_f h, bd_some]
    · simp only [j_Md_sign, Md_sign_b16, Md_sign_b21, h1, h2, if_true, if_false, bad_f h, goes_f h, bd_some]
  · simp only [j_Md_sign, Md_sign_b16, Md_sign_b21, h1, if_false, bad_f h, goes_f h, bd_some]
theorem num_f {M : Mem} {k p : Nat} {lo hi : Int32} (h : Fl M k p) : j_Md_number lo hi M = some (lo, M) := by
  by_cases h1 : gi M 326 10 = 2
  · have hin := md_in (M := M) (gi M 326 11) lo hi rfl rfl rfl
    by_cases h2 : lo.toInt ≤ (gi M 326 11).toInt ∧ (gi M 326 11).toInt ≤ hi.toInt
    · simp only [j_Md_number, Md_number_b36, Md_number_b51, h1, if_true, hin, h2, and_self, bd_some, z1, if_false, h.ne, goes_f h]
    · simp only [j_Md_number, Md_number_b36, Md_number_b51, h1, if_true, hin, h2, if_false, bd_some, bad_f h, h.ne, goes_f h]
  · simp only [j_Md_number, Md_number_b36, Md_number_b51, h1, if_false, bad_f h, bd_some, h.ne, goes_f h]
theorem told_f {M : Mem} {k p : Nat} (h : Fl M k p) : j_Md_isCanTold M = some (0, M) := by
  simp only [j_Md_isCanTold, h.ne, if_false]
theorem bad_m {M : Mem} {k p : Nat} (h0 : gi M 326 12 = 0) (h9 : gi M 326 9 = nI p) (hk : 0 < k ∧ k < 4) : ∃ M', j_Md_bad (nI k) M = some ((), M') ∧ FM M M' ∧ Fl M' k p := by
  refine ⟨uI (uI M 326 12 (nI k)) 326 13 (nI p), ?_, (FM.up (by omega) (by omega)).trans (FM.up (by omega) (by omega)), ?_, hk.1, hk.2, gi_uIs _ _ _ _⟩
  · have : gi (uI M 326 12 (nI k)) 326 9 = nI p := by rw [gi_uIi _ _ _ _ _ _ (by omega)]; exact h9
    simp only [j_Md_bad, h0, if_true, sq_eq, this]
  · rw [gi_uIi _ _ _ _ _ _ (by omega), gi_uIs]
theorem goes_m {M : Mem} {B : Nat → Int32} {n p : Nat} (hT : TM M B n) (h0 : gi M 326 12 = 0) (h8 : gi M 326 8 = nI p) (hpn : p ≤ n) : ∃ M', j_Md_goesOn M = some ((), M') ∧ FM M M' ∧ Tok M' B n p ∧ gi M' 326 12 = 0 := by
  obtain ⟨M', r1, r2, r3, r4⟩ := next_m hT h8 hpn
  refine ⟨M', ?_, r2, r3, by rw [r4]; exact h0⟩
  simp only [j_Md_goesOn, h0, if_true, r1, bd_some]
theorem k1 : (1 : Int32) = nI 1 := rfl
theorem k2 : (2 : Int32) = nI 2 := rfl
theorem k3 : (3 : Int32) = nI 3 := rfl
theorem sign_m {M : Mem} {B : Nat → Int32} {n p : Nat} {x : Int32} (hx : x = 44 ∨ x = 59) (hT : TM M B n) (h0 : gi M 326 12 = 0) (hk : Tok M B n p) (hpn : p ≤ n) : ((p < n ∧ B p = x) → ∃ M', j_Md_sign x M = some ((), M') ∧ FM M M' ∧ Tok M' B n (p + 1) ∧ gi M' 326 12 = 0) ∧ (¬ (p < n ∧ B p = x) → ∃ M', j_Md_sign x M = some ((), M') ∧ FM M M' ∧ Fl M' 1 p) := by
  obtain ⟨k9, ka, kb, kc, kd, ke⟩ := hk
  constructor
  · rintro ⟨h1, h2⟩
    obtain ⟨d1, d2, d3⟩ := kd ⟨h1, by rw [h2]; exact hx⟩
    obtain ⟨M', r1, r2, r3, r4⟩ := goes_m hT h0 d3 (by omega)
    refine ⟨M', ?_, r2, r3, r4⟩
    simp only [j_Md_sign, Md_sign_b21, d1, d2, h2, if_true, r1, bd_some]
  · intro hn
    obtain ⟨M', r1, r2, r3⟩ := bad_m (k := 1) h0 k9 (by omega)
    rw [← k1] at r1
    refine ⟨M', ?_, r2, r3⟩
    have hmis : ¬ (gi M 326 10 = 3 ∧ gi M 326 11 = x) := by
      rintro ⟨z1, z2⟩
      by_cases hp : p < n
      · by_cases hs : B p = 44 ∨ B p = 59
        · rw [(kd ⟨hp, hs⟩).2.1] at z2
          exact hn ⟨hp, z2⟩
        · by_cases hl : 97 ≤ (B p).toInt ∧ (B p).toInt ≤ 122
          · rw [(kb ⟨hp, hl⟩).1] at z1; exact absurd z1 (by decide)
          · by_cases hd : dgB B n p = true
            · rw [(kc hd).1] at z1
              by_cases h2 : 2 < fe B n p - p
              · rw [if_pos h2] at z1; exact absurd z1 (by decide)
              · rw [if_neg h2] at z1; exact absurd z1 (by decide)
            · rw [ke ⟨hp, hl, hd, hs⟩] at z1; exact absurd z1 (by decide)
      · rw [ka (by omega)] at z1; exact absurd z1 (by decide)
    by_cases h1 : gi M 326 10 = 3
    · have h2 : ¬ gi M 326 11 = x := fun z => hmis ⟨h1, z⟩
      simp only [j_Md_sign, Md_sign_b16, Md_sign_b21, h1, h2, if_true, if_false, r1, goes_f r3, bd_some]
    · simp only [j_Md_sign, Md_sign_b16, Md_sign_b21, h1, if_false, r1, goes_f r3, bd_some]
theorem letter_m {M : Mem} {B : Nat → Int32} {n p : Nat} (hT : TM M B n) (h0 : gi M 326 12 = 0) (hk : Tok M B n p) (hpn : p ≤ n) : ((p < n ∧ B p = 104) → ∃ M', j_Md_letter 104 M = some ((), M') ∧ FM M M' ∧ Tok M' B n (p + 1) ∧ gi M' 326 12 = 0) ∧ (¬ (p < n ∧ B p = 104) → ∃ M', j_Md_letter 104 M = some ((), M') ∧ FM M M' ∧ Fl M' 1 p) := by
  obtain ⟨k9, ka, kb, kc, kd, ke⟩ := hk
  have t104 : (104 : Int32).toInt = 104 := by decide
  constructor
  · rintro ⟨h1, h2⟩
    obtain ⟨d1, d2, d3⟩ := kb ⟨h1, by rw [h2, t104]; omega⟩
    obtain ⟨M', r1, r2, r3, r4⟩ := goes_m hT h0 d3 (by omega)
    refine ⟨M', ?_, r2, r3, r4⟩
    simp only [j_Md_letter, Md_letter_b21, d1, d2, h2, if_true, r1, bd_some]
  · intro hn
    obtain ⟨M', r1, r2, r3⟩ := bad_m (k := 1) h0 k9 (by omega)
    rw [← k1] at r1
    refine ⟨M', ?_, r2, r3⟩
    have hmis : ¬ (gi M 326 10 = 1 ∧ gi M 326 11 = 104) := by
      rintro ⟨z1, z2⟩
      by_cases hp : p < n
      · by_cases hs : B p = 44 ∨ B p = 59
        · rw [(kd ⟨hp, hs⟩).1] at z1; exact absurd z1 (by decide)
        · by_cases hl : 97 ≤ (B p).toInt ∧ (B p).toInt ≤ 122
          · rw [(kb ⟨hp, hl⟩).2.1] at z2
            exact hn ⟨hp, z2⟩
          · by_cases hd : dgB B n p = true
            · rw [(kc hd).1] at z1
              by_cases h2 : 2 < fe B n p - p
              · rw [if_pos h2] at z1; exact absurd z1 (by decide)
              · rw [if_neg h2] at z1; exact absurd z1 (by decide)
            · rw [ke ⟨hp, hl, hd, hs⟩] at z1; exact absurd z1 (by decide)
      · rw [ka (by omega)] at z1; exact absurd z1 (by decide)
    by_cases h1 : gi M 326 10 = 1
    · have h2 : ¬ gi M 326 11 = 104 := fun z => hmis ⟨h1, z⟩
      simp only [j_Md_letter, Md_letter_b16, Md_letter_b21, h1, h2, if_true, if_false, r1, goes_f r3, bd_some]
    · simp only [j_Md_letter, Md_letter_b16, Md_letter_b21, h1, if_false, r1, goes_f r3, bd_some]
theorem num_m {M : Mem} {B : Nat → Int32} {n p : Nat} {lo hi : Int32} (hT : TM M B n) (h0 : gi M 326 12 = 0) (hk : Tok M B n p) (hpn : p ≤ n) : (numOK B n lo hi p → ∃ M', j_Md_number lo hi M = some (vm B p (fe B n p), M') ∧ FM M M' ∧ Tok M' B n (fe B n p) ∧ gi M' 326 12 = 0) ∧ (¬ (dgB B n p = true ∧ fe B n p - p ≤ 2) → ∃ M', j_Md_number lo hi M = some (lo, M') ∧ FM M M' ∧ Fl M' 1 p) ∧ ((dgB B n p = true ∧ fe B n p - p ≤ 2) → ¬ numOK B n lo hi p → ∃ M', j_Md_number lo hi M = some (lo, M') ∧ FM M M' ∧ Fl M' 2 p) := by
  obtain ⟨k9, ka, kb, kc, kd, ke⟩ := hk
  refine ⟨?_, ?_, ?_⟩
  · rintro ⟨⟨hd, hle⟩, v1, v2⟩
    obtain ⟨d1, d2, d3⟩ := kc hd
    rw [if_neg (by omega)] at d1
    have hin := md_in (M := M) (vm B p (fe B n p)) lo hi rfl rfl rfl
    obtain ⟨M', r1, r2, r3, r4⟩ := goes_m hT h0 d3 (fe_le hpn).2
    refine ⟨M', ?_, r2, r3, r4⟩
    simp only [j_Md_number, Md_number_b36, Md_number_b51, d1, if_true, d2, hin, v1, v2, and_self, bd_some, z1, if_false, h0, r1]
  · intro hn
    obtain ⟨M', r1, r2, r3⟩ := bad_m (k := 1) h0 k9 (by omega)
    rw [← k1] at r1
    refine ⟨M', ?_, r2, r3⟩
    have hmis : ¬ gi M 326 10 = 2 := by
      intro z1
      by_cases hp : p < n
      · by_cases hs : B p = 44 ∨ B p = 59
        · rw [(kd ⟨hp, hs⟩).1] at z1; exact absurd z1 (by decide)
        · by_cases hl : 97 ≤ (B p).toInt ∧ (B p).toInt ≤ 122
          · rw [(kb ⟨hp, hl⟩).1] at z1; exact absurd z1 (by decide)
          · by_cases hd : dgB B n p = true
            · rw [(kc hd).1, if_pos (by
                apply Classical.byContradiction
                intro z
                exact hn ⟨hd, by omega⟩)] at z1
              exact absurd z1 (by decide)
            · rw [ke ⟨hp, hl, hd, hs⟩] at z1; exact absurd z1 (by decide)
      · rw [ka (by omega)] at z1; exact absurd z1 (by decide)
    simp only [j_Md_number, Md_number_b36, Md_number_b51, hmis, if_false, r1, bd_some, r3.ne, goes_f r3]
  · rintro ⟨hd, hle⟩ hn
    obtain ⟨d1, d2, d3⟩ := kc hd
    rw [if_neg (by omega)] at d1
    have hin := md_in (M := M) (vm B p (fe B n p)) lo hi rfl rfl rfl
    have hno : ¬ (lo.toInt ≤ (vm B p (fe B n p)).toInt ∧ (vm B p (fe B n p)).toInt ≤ hi.toInt) := fun z => hn ⟨⟨hd, hle⟩, z⟩
    obtain ⟨M', r1, r2, r3⟩ := bad_m (k := 2) h0 k9 (by omega)
    rw [← k2] at r1
    refine ⟨M', ?_, r2, r3⟩
    simp only [j_Md_number, Md_number_b36, Md_number_b51, d1, if_true, d2, hin, hno, if_false, bd_some, r1, r3.ne, goes_f r3]
