theorem s_book : Sim j_Fc_book j_Md_book := by
  intro M h
  obtain ⟨hB, hT, hH, hG⟩ := id h
  obtain ⟨⟨n, n1, n2, n3, n4⟩, n5⟩ := hT
  have hTC : TC M (fun i => gi M 2 i) n := ⟨n1, n2, fun i hi => ⟨rfl, (n4 i hi).2⟩⟩
  have mkTM : ∀ M', gi M' 326 7 = gi M 326 7 → (∀ i, gi M' 332 i = gi M 332 i) → TM M' (fun i => gi M 2 i) n := fun M' e1 e2 => ⟨n1, by rw [e1]; exact n3, fun i hi => ⟨by rw [e2]; exact (n4 i hi).1.symm, (n4 i hi).2⟩⟩
  rcases parse hTC (mkTM M rfl (fun _ => rfl)) with ⟨_, _, C, _, a1, _, _, _, _, a6, _, a8⟩ | ⟨_, _, C, _, a1, _, _, _, a6, _⟩
  · obtain ⟨M2, hM2⟩ : ∃ M2, M2 = uI C 1 1 0 := ⟨_, rfl⟩
    rw [← hM2] at a1
    have f2 : ∀ b i, b ≠ 1 → ¬ (15 ≤ b ∧ b ≤ 26) → gi M2 b i = gi M b i := fun b i h1 h2 => by rw [hM2, gi_uIa _ _ _ _ _ _ h1]; exact a6 b i h2 (by omega)
    obtain ⟨M4, k1, k2, k3, k4⟩ := copyFrom_ok day_3 day_15 (by omega) M2
    obtain ⟨M6, hM6⟩ : ∃ M6, M6 = uI M4 27 2 0 := ⟨_, rfl⟩
    have f6 : ∀ b i, b ≠ 27 → (b < 3 ∨ 14 < b) → gi M6 b i = gi M2 b i := fun b i h1 h2 => by rw [hM6, gi_uIa _ _ _ _ _ _ h1]; exact k2 b i (by omega)
    have g6 : ∀ b i, 3 ≤ b → b ≤ 14 → gi M6 b i = gi M4 b i := fun b i h1 h2 => by rw [hM6, gi_uIa _ _ _ _ _ _ (by omega)]
    have hcl : j_Fc_book M = some (gi M6 3 0, M6) := by
      simp only [j_Fc_book, a1, bd_some, z1, if_false, k1, j_Hist_forget, sq_eq, ← hM6]
    rcases parse hTC (mkTM M6 (by rw [f6 _ _ (by omega) (by omega), f2 _ _ (by omega) (by omega)]) (fun i => by rw [f6 _ _ (by omega) (by omega), f2 _ _ (by omega) (by omega)])) with ⟨nc, nt, C', N, b1, b2, b3, b4, b5, b6, b7, b8⟩ | ⟨_, _, C', N, b1, _⟩
    · rw [a1] at b1
      have hC : M2 = uI C' 1 1 0 := by
        have := Option.some.inj b1
        exact (Prod.mk.inj this).2
      have hD : D15 M2 N nc nt := b4.cong (fun b i h1 h2 => by rw [hC, gi_uIa _ _ _ _ _ _ (by omega)]) (fun _ => rfl)
      obtain ⟨D1, D2, D3⟩ := hD
      have e13 : gi M2 1 3 = gi M 1 3 := by rw [hC, gi_uIi _ _ _ _ _ _ (by omega)]; exact b8
      obtain ⟨Na, hNa⟩ : ∃ Na, Na = uI N 326 7 0 := ⟨_, rfl⟩
      obtain ⟨Mf, hMf⟩ : ∃ Mf, Mf = uI (cpyM Na 328 0 327 0 89) 326 3 0 := ⟨_, rfl⟩
      have hcp := copies_ok (a0 := 328) (p := 0) (a2 := 327) (q := 0) Na (by omega) (by rw [ln328]; omega) (by rw [ln327]; omega) (by rw [ln328]; omega) (by rw [ln327]; omega)
      have e0 : nI 0 = (0 : Int32) := rfl
      rw [e0] at hcp
      have r7 : ∀ i, i < 89 → gi Mf 327 i = gi N 328 i := fun i hi => by
        rw [hMf, gi_uIa _ _ _ _ _ _ (by omega), gi_cpyM, if_pos ⟨rfl, by omega, by omega⟩, Nat.zero_add, Nat.sub_zero, hNa, gi_uIa _ _ _ _ _ _ (by omega)]
      have ff : ∀ b i, b ≠ 326 → b ≠ 327 → b ≠ 328 → gi Mf b i = gi M6 b i := fun b i h1 h2 h3 => by
        rw [hMf, gi_uIa _ _ _ _ _ _ h1, gi_cpyM, if_neg (fun z => h2 z.1), hNa, gi_uIa _ _ _ _ _ _ h1]
        exact b7 b i h3 (Or.inl h1)
      have hmd : j_Md_book M6 = some (gi Mf 327 4, Mf) := by
        have hf : ¬ (0 : Int32) < gi Na 326 12 := by rw [hNa, gi_uIi _ _ _ _ _ _ (by omega), b3]; decide
        rw [b2]
        unfold Md_book_b195
        rw [sq_e, ← hNa, if_neg hf, hcp, bd_some, sq_e, ← hMf]
      refine ⟨nI nc, M6, Mf, ?_, ?_, ?_⟩
      · rw [hcl, g6 3 0 (by omega) (by omega), k3 0 (by omega), D1.1.1]
      · rw [hmd, r7 4 (by omega)]
        have := D2.2.1.1
        simp only at this
        rw [this]
      · obtain ⟨a, q, p1, p2, p3, p4, p5, p6⟩ := hH
        refine ⟨⟨nc, nt, 0, D1.cong D2.1 (fun i hi => ?_) (fun j hj1 hj2 i hi => ?_) (fun i hi => ?_), D2.cong (fun i hi => ?_)⟩, ⟨⟨0, by omega, ?_, ?_, fun i hi => absurd hi (by omega)⟩, ?_⟩, ⟨0, q, by omega, p2, ?_, ?_, ?_, fun j hj => absurd hj (by omega)⟩, hG.same (fun b i h1 h2 => ?_) (fun i => ?_) (fun i => ?_)⟩
        · rw [ff 3 i (by omega) (by omega) (by omega), g6 3 i (by omega) (by omega), k3 i hi]
        · rw [ff _ i (by omega) (by omega) (by omega), g6 _ i (by omega) (by omega), k4 j hj1 hj2 i hi]
        · show gi Mf 327 (0 + i) = gi N 328 i
          rw [Nat.zero_add]; exact r7 i hi
        · show gi Mf 327 (0 + i) = gi N 328 i
          rw [Nat.zero_add]; exact r7 i hi
        · rw [ff 1 1 (by omega) (by omega) (by omega), f6 1 1 (by omega) (by omega), hM2, gi_uIs]; rfl
        · rw [hMf, gi_uIi _ _ _ _ _ _ (by omega), gi_cpyM, if_neg (fun z => absurd z.1 (by omega)), hNa, gi_uIs]; rfl
        · rw [ff 1 3 (by omega) (by omega) (by omega), f6 1 3 (by omega) (by omega), e13, hMf, gi_uIi _ _ _ _ _ _ (by omega), gi_cpyM, if_neg (fun z => absurd z.1 (by omega)), hNa, gi_uIi _ _ _ _ _ _ (by omega), b7 326 14 (by omega) (by omega), f6 326 14 (by omega) (by omega), f2 326 14 (by omega) (by omega)]
          exact n5
        · rw [ff 27 2 (by omega) (by omega) (by omega), hM6, gi_uIs]; rfl
        · rw [hMf, gi_uIs]; rfl
        · rw [ff 27 1 (by omega) (by omega) (by omega), hM6, gi_uIi _ _ _ _ _ _ (by omega), k2 27 1 (by omega), f2 27 1 (by omega) (by omega)]; exact p5
        · rw [ff b i (by omega) (by omega) (by omega), f6 b i (by omega) (by omega), f2 b i (by omega) (by omega)]
        · rw [ff 330 i (by omega) (by omega) (by omega), f6 330 i (by omega) (by omega), f2 330 i (by omega) (by omega)]
        · rw [ff 331 i (by omega) (by omega) (by omega), f6 331 i (by omega) (by omega), f2 331 i (by omega) (by omega)]
    · rw [a1] at b1
      have := (Prod.mk.inj (Option.some.inj b1)).1
      exact absurd this (by decide)
  · obtain ⟨M2, hM2⟩ : ∃ M2, M2 = uI C 1 1 0 := ⟨_, rfl⟩
    rw [← hM2] at a1
    have f2 : ∀ b i, b ≠ 1 → ¬ (15 ≤ b ∧ b ≤ 26) → gi M2 b i = gi M b i := fun b i h1 h2 => by rw [hM2, gi_uIa _ _ _ _ _ _ h1]; exact a6 b i h2 (by omega)
    rcases parse hTC (mkTM M2 (f2 _ _ (by omega) (by omega)) (fun i => f2 _ _ (by omega) (by omega))) with ⟨_, _, C', N, b1, _⟩ | ⟨k, r, C', N, b1, b2, b3, b4, b5, b6⟩
    · rw [a1] at b1
      have := (Prod.mk.inj (Option.some.inj b1)).1
      exact absurd this (by decide)
    · rw [a1] at b1
      have hC : M2 = uI C' 1 1 0 := (Prod.mk.inj (Option.some.inj b1)).2
      have e13 : gi M2 1 3 = nI k := by rw [hC, gi_uIi _ _ _ _ _ _ (by omega)]; exact b3.1
      have e12 : gi M2 1 2 = nI r := by rw [hC, gi_uIi _ _ _ _ _ _ (by omega)]; exact b3.2
      obtain ⟨Na, hNa⟩ : ∃ Na, Na = uI N 326 7 0 := ⟨_, rfl⟩
      obtain ⟨Mf, hMf⟩ : ∃ Mf, Mf = uI Na 326 14 (nI k) := ⟨_, rfl⟩
      have e12' : gi Na 326 12 = nI k := by rw [hNa, gi_uIi _ _ _ _ _ _ (by omega)]; exact b4.1
      have e13' : gi Mf 326 13 = nI r := by rw [hMf, gi_uIi _ _ _ _ _ _ (by omega), hNa, gi_uIi _ _ _ _ _ _ (by omega)]; exact b4.2.2.2
      have ff : ∀ b i, b ≠ 326 → b ≠ 328 → gi Mf b i = gi M2 b i := fun b i h1 h3 => by
        rw [hMf, gi_uIa _ _ _ _ _ _ h1, hNa, gi_uIa _ _ _ _ _ _ h1]
        exact b6 b i h3 (Or.inl h1)
      refine ⟨((-1000100) : Int32) - nI r, M2, Mf, ?_, ?_, ?_⟩
      · simp only [j_Fc_book, a1, bd_some, if_true, e12]
      · have hpos : (0 : Int32) < nI k := by
          have := b4.2.1
          have := b4.2.2.1
          rw [i32_lt, t0, nI_toInt (by omega)]; omega
        rw [b2]
        unfold Md_book_b195
        rw [sq_e, ← hNa, e12', if_pos hpos, sq_e, ← hMf, e13']
      · refine ⟨hB.cong (fun j hj i => ?_) (fun i hi => ?_), ⟨⟨0, by omega, ?_, ?_, fun i hi => absurd hi (by omega)⟩, ?_⟩, hH.same (fun b i h1 h2 => ?_) (fun i => ?_) ?_, hG.same (fun b i h1 h2 => ?_) (fun i => ?_) (fun i => ?_)⟩
        · rw [ff _ i (by omega) (by omega), f2 _ i (by omega) (by omega)]
        · rw [ff 327 _ (by omega) (by omega), f2 327 _ (by omega) (by omega)]
        · rw [ff 1 1 (by omega) (by omega), hM2, gi_uIs]; rfl
        · rw [hMf, gi_uIi _ _ _ _ _ _ (by omega), hNa, gi_uIs]; rfl
        · rw [ff 1 3 (by omega) (by omega), e13, hMf, gi_uIs]
        · rw [ff b i (by omega) (by omega), f2 b i (by omega) (by omega)]
        · rw [ff 329 i (by omega) (by omega), f2 329 i (by omega) (by omega)]
        · rw [hMf, gi_uIi _ _ _ _ _ _ (by omega), hNa, gi_uIi _ _ _ _ _ _ (by omega), b6 326 3 (by omega) (by omega), f2 326 3 (by omega) (by omega)]
        · rw [ff b i (by omega) (by omega), f2 b i (by omega) (by omega)]
        · rw [ff 330 i (by omega) (by omega), f2 330 i (by omega) (by omega)]
        · rw [ff 331 i (by omega) (by omega), f2 331 i (by omega) (by omega)]
