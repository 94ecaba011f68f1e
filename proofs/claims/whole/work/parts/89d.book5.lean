def mRest (M : Mem) : Option (Int32 × Mem) := sq (uI M 328 11 (-1)) (fun M3 => sq (uI M3 326 8 0) (fun M4 => sq (uI M4 326 12 0) (fun M5 => bd (j_Md_next M5) (fun _ M7 => bd (j_Md_letter 104 M7) (fun _ M9 => mLaws M9)))))
theorem zero_in {M0 : Mem} : ∀ m k q M, k + m = 89 → m < q → (∀ b i, b ≠ 328 → gi M b i = gi M0 b i) → (∀ i, i < k → gi M 328 i = 0) → ∃ M', Md_book_h2 q (nI k) M = mRest M' ∧ (∀ b i, b ≠ 328 → gi M' b i = gi M0 b i) ∧ (∀ i, i < 89 → gi M' 328 i = 0) := by
  have e89 : (89 : Int32) = nI 89 := rfl
  intro m
  induction m with
  | zero =>
    intro k q M hk hq hM h8
    obtain ⟨q, rfl⟩ : ∃ z, q = z + 1 := ⟨q - 1, by omega⟩
    have hge : ¬ nI k < nI 89 := nI_nlt (by omega) (by omega)
    refine ⟨M, ?_, hM, fun i hi => h8 i (by omega)⟩
    rw [Md_book_h2, e89, if_neg hge]
    unfold mRest mLaws mL mEnd
    rfl
  | succ m ih =>
    intro k q M hk hq hM h8
    obtain ⟨q, rfl⟩ : ∃ z, q = z + 1 := ⟨q - 1, by omega⟩
    have hlt : nI k < nI 89 := nI_lt (by omega) (by omega)
    obtain ⟨M', r1, r2, r3⟩ := ih (k + 1) q (uI M 328 k 0) (by omega) (by omega) (fun b i hb => by rw [gi_uIa _ _ _ _ _ _ hb]; exact hM b i hb) (fun i hi => by
      by_cases hik : i = k
      · rw [hik, gi_uIs]
      · rw [gi_uIi _ _ _ _ _ _ hik]; exact h8 i (by omega))
    refine ⟨M', ?_, r2, r3⟩
    rw [← r1, Md_book_h2, e89, if_pos hlt, gd_t (inb_nI (show k < 89 by omega) (by omega)), ix_nI (show k < 2 ^ 31 by omega), sq_e, lq_e, nI_1]
theorem mEnd_f {M : Mem} {k p : Nat} (h : Fl M k p) : mEnd M = Md_book_b195 M := by
  obtain ⟨q, hq⟩ : ∃ q, FU = q + 1 := ⟨FU - 1, by unfold FU; omega⟩
  unfold mEnd
  rw [told_f h, bd_some, if_pos rfl, bad_f h, bd_some, hq, h138_f h]
theorem mLaws_f {M : Mem} {k p : Nat} (h : Fl M k p) : ∃ M', mLaws M = mEnd M' ∧ Fl M' k p ∧ MF M M' := by
  obtain ⟨N0, a1, a2, a3⟩ := mL_f (lo := 0) (hi := 9) (sg := 44) (i := 0) (K := mL 1 40 1 44 (mL 10 99 2 44 (mL 0 20 3 59 mEnd))) h
  obtain ⟨N1, b1, b2, b3⟩ := mL_f (lo := 1) (hi := 40) (sg := 44) (i := 1) (K := mL 10 99 2 44 (mL 0 20 3 59 mEnd)) a2
  obtain ⟨N2, c1, c2, c3⟩ := mL_f (lo := 10) (hi := 99) (sg := 44) (i := 2) (K := mL 0 20 3 59 mEnd) b2
  obtain ⟨N3, d1, d2, d3⟩ := mL_f (lo := 0) (hi := 20) (sg := 59) (i := 3) (K := mEnd) c2
  refine ⟨N3, ?_, d2, ((a3.trans b3).trans c3).trans d3⟩
  unfold mLaws
  rw [a1, b1, c1, d1]
theorem parse {Mc Mm : Mem} {B : Nat → Int32} {n : Nat} (hTC : TC Mc B n) (hTM : TM Mm B n) : (∃ nc nt Mc' Mm', j_Tape_readInto 15 Mc = some (1, uI Mc' 1 1 0) ∧ j_Md_book Mm = Md_book_b195 Mm' ∧ gi Mm' 326 12 = 0 ∧ D15 Mc' Mm' nc nt ∧ 0 < nc ∧ CF Mc Mc' ∧ MF Mm Mm' ∧ gi Mc' 1 3 = gi Mc 1 3) ∨ (∃ k r Mc' Mm', j_Tape_readInto 15 Mc = some (0, uI Mc' 1 1 0) ∧ j_Md_book Mm = Md_book_b195 Mm' ∧ FC Mc' k r ∧ Fl Mm' k r ∧ CF Mc Mc' ∧ MF Mm Mm') := by
  have n110 := hTC.1
  have hg0 : isB (0 : Int32) = true := by decide
  have hg1 : isB (1 : Int32) = true := by decide
  -- the class clears its draft
  obtain ⟨C0, hC0⟩ : ∃ C0, C0 = uI (uI (uI (uI (uI (uI (uI (uI (uI (uI Mc 1 2 0) 15 0 0) 15 1 0) 15 2 0) 15 3 (-1000000)) 15 4 0) 15 5 0) 15 6 0) 15 7 0) 15 8 0 := ⟨_, rfl⟩
  have hclear : j_Day_clear 15 (uI Mc 1 2 0) = some ((), C0) := by rw [hC0]; rfl
  have fC0 : CF Mc C0 := fun b i q1 q2 => by
    rw [hC0, gi_uIa _ _ _ _ _ _ (by omega), gi_uIa _ _ _ _ _ _ (by omega), gi_uIa _ _ _ _ _ _ (by omega), gi_uIa _ _ _ _ _ _ (by omega), gi_uIa _ _ _ _ _ _ (by omega), gi_uIa _ _ _ _ _ _ (by omega), gi_uIa _ _ _ _ _ _ (by omega), gi_uIa _ _ _ _ _ _ (by omega), gi_uIa _ _ _ _ _ _ (by omega), gi_uI, if_neg (by omega)]
  have c13 : gi C0 1 3 = gi Mc 1 3 := by
    rw [hC0, gi_uIa _ _ _ _ _ _ (by omega), gi_uIa _ _ _ _ _ _ (by omega), gi_uIa _ _ _ _ _ _ (by omega), gi_uIa _ _ _ _ _ _ (by omega), gi_uIa _ _ _ _ _ _ (by omega), gi_uIa _ _ _ _ _ _ (by omega), gi_uIa _ _ _ _ _ _ (by omega), gi_uIa _ _ _ _ _ _ (by omega), gi_uIa _ _ _ _ _ _ (by omega), gi_uIi _ _ _ _ _ _ (by omega)]
  have c12 : gi C0 1 2 = nI 0 := by
    rw [hC0, gi_uIa _ _ _ _ _ _ (by omega), gi_uIa _ _ _ _ _ _ (by omega), gi_uIa _ _ _ _ _ _ (by omega), gi_uIa _ _ _ _ _ _ (by omega), gi_uIa _ _ _ _ _ _ (by omega), gi_uIa _ _ _ _ _ _ (by omega), gi_uIa _ _ _ _ _ _ (by omega), gi_uIa _ _ _ _ _ _ (by omega), gi_uIa _ _ _ _ _ _ (by omega), gi_uIs]; rfl
  have hC : ∀ i, i < 9 → gi C0 15 i = if i = 3 then -1000000 else 0 := fun i hi => by
    rw [hC0]
    have : i = 0 ∨ i = 1 ∨ i = 2 ∨ i = 3 ∨ i = 4 ∨ i = 5 ∨ i = 6 ∨ i = 7 ∨ i = 8 := by omega
    rcases this with h | h | h | h | h | h | h | h | h <;> subst h <;> simp [gi_uI]
  have hSC0 : SC C0 B n 0 := ⟨hTC.cong (fC0 1 1 (by omega) (by omega)) (fun i => fC0 2 i (by omega) (by omega)), c12, by omega⟩
  have hcst : j_Tape_readInto 15 Mc = bd (j_Tape_readLaws 15 C0) (fun r4 M5 => (if r4 = 0 then (Tape_readInto_b37 M5) else bd (j_Tape_readCans 15 M5) (fun r8 M9 => (if r8 = 0 then (Tape_readInto_b37 M9) else bd (j_Tape_readTakes 15 M9) (fun r10 M11 => (if r10 = 0 then (Tape_readInto_b37 M11) else lq (1 : Int32) (fun x12_ => sq (uI M11 1 1 0) (fun M13 => (gd (isB x12_) (some (x12_, M13)))))))))) ) := by
    unfold j_Tape_readInto
    rw [sq_e, hclear, bd_some]
  have hb37 : ∀ M, Tape_readInto_b37 M = some (0, uI M 1 1 0) := fun M => by
    unfold Tape_readInto_b37
    rw [lq_e, sq_e, gd_t hg0]
  -- the reference's start
  obtain ⟨N0, z1', z2, z3⟩ := zero_in (M0 := Mm) 89 0 FU Mm (by omega) (by unfold FU; omega) (fun _ _ _ => rfl) (fun i hi => absurd hi (by omega))
  have hbk : j_Md_book Mm = mRest N0 := by
    unfold j_Md_book
    rw [lq_e]
    exact z1'
  obtain ⟨N1, hN1⟩ : ∃ N1, N1 = uI (uI (uI N0 328 11 (-1)) 326 8 0) 326 12 0 := ⟨_, rfl⟩
  have fN1 : MF Mm N1 := fun b i q1 q2 => by
    rw [hN1, gi_uI, if_neg (by omega), gi_uI, if_neg (by omega), gi_uIa _ _ _ _ _ _ q1]; exact z2 b i q1
  have hTM1 : TM N1 B n := ⟨hTM.1, by rw [fN1 326 7 (by omega) (by omega)]; exact hTM.2.1, fun i hi => by rw [fN1 332 i (by omega) (by omega)]; exact hTM.2.2 i hi⟩
  obtain ⟨N2, x1, x2, x3, x4⟩ := next_m (p := 0) hTM1 (by rw [hN1, gi_uIi _ _ _ _ _ _ (by omega), gi_uIs]; rfl) (by omega)
  have hf2 : gi N2 326 12 = 0 := by rw [x4, hN1, gi_uIs]
  have hTM2 := hTM1.cong x2
  have hmst : j_Md_book Mm = bd (j_Md_letter 104 N2) (fun _ M9 => mLaws M9) := by
    rw [hbk]
    unfold mRest
    rw [sq_e, sq_e, sq_e, ← hN1, x1, bd_some]
  have hrow2 : ∀ i, i < 89 → gi N2 328 i = if i = 11 then -1 else 0 := fun i hi => by
    rw [x2 328 i (by omega), hN1, gi_uIa _ _ _ _ _ _ (by omega), gi_uIa _ _ _ _ _ _ (by omega), gi_uI]
    by_cases h : i = 11
    · rw [if_pos ⟨rfl, h⟩, if_pos h]
    · rw [if_neg (fun z => h z.2), if_neg h]; exact z3 i hi
  obtain ⟨la, lb'⟩ := letter_m hTM2 hf2 x3 (by omega)
  obtain ⟨pa, pb⟩ := pass_c (x := 104) (by decide) hSC0.1 c12 (by omega)
  have fN2 : MF Mm N2 := fN1.trans (MF.of x2)
  by_cases hh : 0 < n ∧ B 0 = 104
  · obtain ⟨N3, y1, y2, y3, y4⟩ := la hh
    have hSC1 := hSC0.up (e := 1) (by omega)
    have hSM1 : SM N3 B n 1 := ⟨hTM2.cong y2, y3, y4⟩
    have hcl : ∀ r M5, Tape_readLaws_h13 FU 15 (nI 0) (uI C0 1 2 (nI 1)) = some (r, M5) → j_Tape_readLaws 15 C0 = some (r, M5) := fun r M5 z => by
      unfold j_Tape_readLaws
      rw [pa hh, bd_some, if_neg (by decide), lq_e]
      exact z
    have hFU : FU = (FU - 5) + 5 := by unfold FU; omega
    rw [hmst, y1, bd_some]
    rcases laws_both (q := FU - 5) hSC1 hSM1 with ⟨p1, C1, M1, a1, a2, a3, a4, a5, a6, a7, a8, a9, a10, a11, a12⟩ | ⟨k, r, C1, M1, a1, a2, a3, a4, a5, a6⟩
    · rw [← hFU] at a1
      have hl := hcl 1 C1 a1
      have hcc : ∀ i, i < 9 → gi C1 15 i = if i = 3 then -1000000 else 0 := fun i hi => by
        rw [a11 15 i (by omega) (by omega), gi_uIa _ _ _ _ _ _ (by omega)]; exact hC i hi
      have hrr : ∀ i, 4 ≤ i → i < 89 → gi M1 328 i = if i = 11 then -1 else 0 := fun i h1 h2 => by
        rw [a12 i h1, y2 328 i (by omega)]; exact hrow2 i h2
      have hD : D15 C1 M1 0 0 := by
        refine ⟨⟨⟨hcc 0 (by omega), hcc 1 (by omega), hcc 2 (by omega)⟩, Or.inl ⟨hcc 3 (by omega), hrr 11 (by omega) (by omega)⟩, ⟨?_, ?_, ?_, ?_, ?_⟩, fun i hi => a8 i hi, fun c hc => absurd hc (by omega), fun t ht => absurd ht (by omega), fun r hr => absurd hr (by omega)⟩, ⟨⟨by omega, by omega, by omega⟩, ⟨hrr 4 (by omega) (by omega), hrr 5 (by omega) (by omega), hrr 6 (by omega) (by omega)⟩, ⟨a9.1, a9.2, a10.1, a10.2⟩, Or.inl (hrr 11 (by omega) (by omega)), fun c hc => absurd hc (by omega), fun t ht => absurd ht (by omega), fun r hr => absurd hr (by omega), fun _ => ⟨rfl, rfl⟩⟩, hrr 11 (by omega) (by omega)⟩
        · rw [hcc 4 (by omega)]; exact (hrr 12 (by omega) (by omega)).symm
        · rw [hcc 5 (by omega)]; exact (hrr 7 (by omega) (by omega)).symm
        · rw [hcc 6 (by omega)]; exact (hrr 8 (by omega) (by omega)).symm
        · rw [hcc 7 (by omega)]; exact (hrr 9 (by omega) (by omega)).symm
        · rw [hcc 8 (by omega)]; exact (hrr 10 (by omega) (by omega)).symm
      rw [hcst, hl, bd_some, if_neg (by decide), a2]
      have fC1 : CF Mc C1 := (fC0.trans (CF.up (Or.inl rfl))).trans a5
      have fM1 : MF Mm M1 := (fN2.trans (MF.of y2)).trans a6
      have c13' : gi C1 1 3 = gi Mc 1 3 := by rw [a7, gi_uIi _ _ _ _ _ _ (by omega), c13]
      by_cases ht : p1 < n ∧ ¬ kl (B p1) = 0
      · have hme : mEnd M1 = Md_book_h138 FU M1 := by
          unfold mEnd
          rw [((told_m a4).1 ht).1, bd_some, if_neg (by decide)]
        rw [hme]
        rcases cans_both 6 0 FU FU C1 M1 p1 (by omega) (by unfold FU; omega) (by unfold FU; omega) a3 a4 hD (Or.inr ht) with ⟨p2, nc, C2, M2, b1, b2, b3, b4, b5, b6, b7, b8, b9⟩ | ⟨k, r, C2, M2, b1, b2, b3, b4, b5, b6⟩
        · have hb1 : j_Tape_readCans 15 C1 = some (1, C2) := b1
          rw [hb1, bd_some, if_neg (by decide), b2]
          rcases takes_both b6 8 0 FU FU C2 M2 p2 (by omega) (by unfold FU; omega) (by unfold FU; omega) b3 b4 b5 with ⟨nt, C3, M3, d1, d2, d3, d4, d5, d6, d7⟩ | ⟨k, r, C3, M3, d1, d2, d3, d4, d5, d6⟩
          · left
            have hd1 : j_Tape_readTakes 15 C2 = some (1, C3) := d1
            refine ⟨nc, nt, C3, M3, ?_, d2, d3, d4, b6, (fC1.trans b7).trans d5, (fM1.trans b8).trans d6, ?_⟩
            · rw [hd1, bd_some, if_neg (by decide), lq_e, sq_e, gd_t hg1]
            · rw [d7, b9, c13']
          · right
            have hd1 : j_Tape_readTakes 15 C2 = some (0, C3) := d1
            refine ⟨k, r, C3, M3, ?_, d2, d3, d4, (fC1.trans b7).trans d5, (fM1.trans b8).trans d6⟩
            rw [hd1, bd_some, if_pos rfl, hb37]
        · right
          have hb1 : j_Tape_readCans 15 C1 = some (0, C2) := b1
          refine ⟨k, r, C2, M2, ?_, b2, b3, b4, fC1.trans b5, fM1.trans b6⟩
          rw [hb1, bd_some, if_pos rfl, hb37]
      · right
        obtain ⟨M2, r1, r2, r3⟩ := bad_m (k := 1) a4.2.2 a4.2.1.1 (by omega)
        rw [← k1] at r1
        have hme : mEnd M1 = Md_book_b195 M2 := by
          obtain ⟨q, hq⟩ : ∃ q, FU = q + 1 := ⟨FU - 1, by unfold FU; omega⟩
          unfold mEnd
          rw [(told_m a4).2 ht, bd_some, if_pos rfl, r1, bd_some, hq, h138_f r3]
        have hnx := next_c a3.1 a3.2.1 a3.2.2
        have hz : kl (if p1 < n then B p1 else -1000000) = 0 := by
          by_cases hp : p1 < n
          · rw [if_pos hp]
            apply Classical.byContradiction
            intro z
            exact ht ⟨hp, z⟩
          · rw [if_neg hp]; decide
        have hof := kl_c (if p1 < n then B p1 else -1000000) C1
        rw [if_pos hz] at hof
        have hcans : j_Tape_readCans 15 C1 = some (0, uI C1 1 3 (nI 1)) := by
          obtain ⟨q, hq⟩ : ∃ q, FU = q + 1 := ⟨FU - 1, by unfold FU; omega⟩
          have h6 : ¬ (6 : Int32) < 0 := by decide
          have hc0 : gi C1 15 0 = 0 := hcc 0 (by omega)
          have h00 : ¬ (0 : Int32) < 0 := by decide
          unfold j_Tape_readCans
          rw [lq_e, hq, Tape_readCans_h2, if_neg h6, hnx, bd_some, hof, bd_some, if_pos rfl]
          unfold Tape_readCans_b36
          rw [hc0, if_neg h00]
          unfold j_Tape_refuse
          rw [sq_e, bd_some, if_pos rfl]
          rfl
        refine ⟨1, p1, uI C1 1 3 (nI 1), M2, ?_, hme, FC.up a3.2.1, r3, fC1.trans (CF.up (Or.inr rfl)), fM1.trans (MF.of r2)⟩
        rw [hcans, bd_some, if_pos rfl, hb37]
    · right
      rw [← hFU] at a1
      have hl := hcl 0 C1 a1
      refine ⟨k, r, C1, M1, ?_, ?_, a3, a4, (fC0.trans (CF.up (Or.inl rfl))).trans a5, (fN2.trans (MF.of y2)).trans a6⟩
      · rw [hcst, hl, bd_some, if_pos rfl, hb37]
      · rw [a2, mEnd_f a4]
  · right
    obtain ⟨N3, y1, y2, y3⟩ := lb' hh
    obtain ⟨N4, w1, w2, w3⟩ := mLaws_f y3
    have hl : j_Tape_readLaws 15 C0 = some (0, uI C0 1 3 1) := by
      unfold j_Tape_readLaws
      rw [pb hh, bd_some, if_pos rfl]
    refine ⟨1, 0, uI C0 1 3 (nI 1), N4, ?_, ?_, FC.up c12, w2, fC0.trans (CF.up (Or.inr rfl)), (fN2.trans (MF.of y2)).trans w3⟩
    · rw [hcst, hl, bd_some, if_pos rfl, hb37]
      rfl
    · rw [hmst, y1, bd_some, w1, mEnd_f w2]
