def D15 (Mc Mm : Mem) (nc nt : Nat) : Prop := DR Mc 15 (fun i => gi Mm 328 i) nc nt 0 ∧ Iv (fun i => gi Mm 328 i) nc nt 0 ∧ gi Mm 328 11 = -1
theorem D15.cong {Mc Mm Mc' Mm' : Mem} {nc nt : Nat} (h : D15 Mc Mm nc nt) (hc : ∀ b i, 15 ≤ b → b ≤ 26 → gi Mc' b i = gi Mc b i) (hm : ∀ i, gi Mm' 328 i = gi Mm 328 i) : D15 Mc' Mm' nc nt := by
  obtain ⟨h1, h2, h3⟩ := h
  have e : (fun i => gi Mm' 328 i) = (fun i => gi Mm 328 i) := funext hm
  unfold D15
  rw [e]
  exact ⟨h1.cong h2.1 (fun i _ => hc 15 i (by omega) (by omega)) (fun j j1 j2 i _ => hc (15 + j) i (by omega) (by omega)) (fun _ _ => rfl), h2, by rw [hm]; exact h3⟩
theorem one_can {Mc Mm : Mem} {B : Nat → Int32} {n p nc : Nat} (hc : SC Mc B n p) (hm : SM Mm B n p) (hD : D15 Mc Mm nc 0) (ht : p < n ∧ ¬ kl (B p) = 0) : (∃ p' Mc' Mm', nc < 6 ∧ j_Tape_readCan 15 Mc = some (1, Mc') ∧ j_Md_readsCan Mm = some ((), Mm') ∧ SC Mc' B n p' ∧ SM Mm' B n p' ∧ D15 Mc' Mm' (nc + 1) 0 ∧ CF Mc Mc' ∧ MF Mm Mm' ∧ gi Mc' 1 3 = gi Mc 1 3) ∨ (∃ k r Mc' Mm', j_Tape_readCan 15 Mc = some (0, Mc') ∧ j_Md_readsCan Mm = some ((), Mm') ∧ FC Mc' k r ∧ Fl Mm' k r ∧ CF Mc Mc' ∧ MF Mm Mm') := by
  have e6 : (6 : Int32) = nI 6 := rfl
  obtain ⟨_, v11, v8⟩ := (told_m hm).1 ht
  have n6 := hD.2.1.1.1
  have c0 : gi Mc 15 0 = nI nc := hD.1.1.1
  have m4 : gi Mm 328 4 = nI nc := hD.2.1.2.1.1
  have hg0 : isB (0 : Int32) = true := by decide
  by_cases h6 : nc < 6
  · have hlt : nI nc < nI 6 := nI_lt h6 (by omega)
    have hne : ¬ nI nc = nI 6 := by rw [nI_eq (by omega) (by omega)]; omega
    have hnx := next_c hc.1 hc.2.1 hc.2.2
    rw [if_pos ht.1] at hnx
    have hof := kl_c (B p) Mc
    rw [if_neg ht.2] at hof
    have hc1 := hc.up (e := p + 1) (by omega)
    obtain ⟨M1, g1, g2, g3, g4⟩ := goes_m hm.1 hm.2.2 v8 (by omega)
    have hm1 : SM M1 B n (p + 1) := ⟨hm.1.cong g2, g3, g4⟩
    have hcs : j_Tape_readCan 15 Mc = bd (j_Tape_readNumber 1 99 (uI Mc 1 2 (nI (p + 1)))) (fun r6 M7 => (if r6 = (-1000000) then (some (0, M7)) else bd (j_Tape_pass 59 M7) (fun r8 M9 => (if r8 = 0 then (some (0, M9)) else bd (j_Day_addCan 15 (kl (B p)) r6 M9) (fun r10 M11 => (some (1, M11))))))) := by
      simp only [j_Tape_readCan, c0, e6, hlt, if_true, hnx, bd_some, hof, hc.2.1, nI_1, sq_eq]
    have hms : j_Md_readsCan Mm = bd (j_Md_number 1 99 M1) (fun r6 M7 => bd (j_Md_sign 59 M7) (fun _ M9 => (if (gi M9 326 12) = 0 then bd (j_Md_adds 328 (kl (B p)) r6 M9) (fun _ M11 => (some ((), M11))) else (some ((), M9))))) := by
      simp only [j_Md_readsCan, Md_readsCan_b24, v11, kl_m, bd_some, m4, e6, hne, if_false, g1]
    rcases num_both (lo := 1) (hi := 99) hc1 hm1 with ⟨e, v, M2, a1, a2, a3, a4, a5, a6, a7⟩ | ⟨k, M2, a1, a2, a3, a4⟩
    · have hv : ¬ v = -1000000 := fun z => by rw [z, tN, t1] at a6; omega
      have hc2 := hc1.up a5
      rcases sign_both (x := 59) (Or.inr rfl) hc2 a4 with ⟨M3, b1, b2, b3, b4, b5⟩ | ⟨M3, b1, b2, b3, b4⟩
      · left
        have hc3 := hc2.up b5
        obtain ⟨C3, hC3⟩ : ∃ C3, C3 = uI (uI (uI Mc 1 2 (nI (p + 1))) 1 2 (nI e)) 1 2 (nI (e + 1)) := ⟨_, rfl⟩
        rw [← hC3] at b1 hc3
        have cC : ∀ b i, b ≠ 1 → gi C3 b i = gi Mc b i := fun b i hb => by rw [hC3, gi_uIa _ _ _ _ _ _ hb, gi_uIa _ _ _ _ _ _ hb, gi_uIa _ _ _ _ _ _ hb]
        have rM : ∀ i, gi M3 328 i = gi Mm 328 i := fun i => by rw [b3 328 i (by omega), a3 328 i (by omega), g2 328 i (by omega)]
        have hD3 : D15 C3 M3 nc 0 := hD.cong (fun b i h1 h2 => cC b i (by omega)) rM
        have c05 : gi C3 15 5 = gi M3 328 7 := hD3.1.2.2.1.2.1
        have c00 : gi C3 15 0 = nI nc := hD3.1.1.1
        have m44 : gi M3 328 4 = nI nc := hD3.2.1.2.1.1
        obtain ⟨C', hC'⟩ : ∃ C', C' = uI (uI (uI (uI (uI (uI C3 17 nc (kl (B p))) 18 nc v) 19 nc 0) 20 nc 0) 15 5 (gi M3 328 7 + v)) 15 0 (nI (nc + 1)) := ⟨_, rfl⟩
        obtain ⟨N', hN'⟩ : ∃ N', N' = uI (uI (uI (uI (uI (uI M3 328 (13 + 4 * nc) (kl (B p))) 328 (13 + 4 * nc + 1) v) 328 (13 + 4 * nc + 2) 0) 328 (13 + 4 * nc + 3) 0) 328 4 (nI (nc + 1))) 328 7 (gi M3 328 7 + v) := ⟨_, rfl⟩
        have hadd : j_Day_addCan 15 (kl (B p)) v C3 = some (nI nc, C') := by
          have q5 : gi (uI (uI (uI (uI C3 17 nc (kl (B p))) 18 nc v) 19 nc 0) 20 nc 0) 15 5 = gi M3 328 7 := by rw [gi_uIa _ _ _ _ _ _ (by omega), gi_uIa _ _ _ _ _ _ (by omega), gi_uIa _ _ _ _ _ _ (by omega), gi_uIa _ _ _ _ _ _ (by omega)]; exact c05
          have q0 : gi (uI (uI (uI (uI (uI C3 17 nc (kl (B p))) 18 nc v) 19 nc 0) 20 nc 0) 15 5 (gi M3 328 7 + v)) 15 0 = nI nc := by rw [gi_uIi _ _ _ _ _ _ (by omega), gi_uIa _ _ _ _ _ _ (by omega), gi_uIa _ _ _ _ _ _ (by omega), gi_uIa _ _ _ _ _ _ (by omega), gi_uIa _ _ _ _ _ _ (by omega)]; exact c00
          simp only [j_Day_addCan, c00, e6, hlt, if_true, lq_eq, gd_t (inb_nI h6 (show 6 < 2 ^ 31 by omega)), ix_nI (show nc < 2 ^ 31 by omega), sq_eq, q5, q0, nI_1, ← hC']
        have hadm : j_Md_adds 328 (kl (B p)) v M3 = some ((), N') := by
          have q4 : gi (uI (uI (uI (uI M3 328 (13 + 4 * nc) (kl (B p))) 328 (13 + 4 * nc + 1) v) 328 (13 + 4 * nc + 2) 0) 328 (13 + 4 * nc + 3) 0) 328 4 = nI nc := by rw [gi_uIi _ _ _ _ _ _ (by omega), gi_uIi _ _ _ _ _ _ (by omega), gi_uIi _ _ _ _ _ _ (by omega), gi_uIi _ _ _ _ _ _ (by omega)]; exact m44
          have q7 : gi (uI (uI (uI (uI (uI M3 328 (13 + 4 * nc) (kl (B p))) 328 (13 + 4 * nc + 1) v) 328 (13 + 4 * nc + 2) 0) 328 (13 + 4 * nc + 3) 0) 328 4 (nI (nc + 1))) 328 7 = gi M3 328 7 := by rw [gi_uIi _ _ _ _ _ _ (by omega), gi_uIi _ _ _ _ _ _ (by omega), gi_uIi _ _ _ _ _ _ (by omega), gi_uIi _ _ _ _ _ _ (by omega), gi_uIi _ _ _ _ _ _ (by omega)]
          simp only [j_Md_adds, m44, i4, lq_eq, nI_1, nI_p2, nI_p3, gd_t (inb_nI (show 13 + 4 * nc < 89 by omega) (show 89 < 2 ^ 31 by omega)), gd_t (inb_nI (show 13 + 4 * nc + 1 < 89 by omega) (show 89 < 2 ^ 31 by omega)), gd_t (inb_nI (show 13 + 4 * nc + 2 < 89 by omega) (show 89 < 2 ^ 31 by omega)), gd_t (inb_nI (show 13 + 4 * nc + 3 < 89 by omega) (show 89 < 2 ^ 31 by omega)), ix_nI (show 13 + 4 * nc < 2 ^ 31 by omega), ix_nI (show 13 + 4 * nc + 1 < 2 ^ 31 by omega), ix_nI (show 13 + 4 * nc + 2 < 2 ^ 31 by omega), ix_nI (show 13 + 4 * nc + 3 < 2 ^ 31 by omega), sq_eq, q4, q7, ← hN']
        have hkk := ((kl_cases (B p)).resolve_left ht.2).2
        have t99 : (99 : Int32).toInt = 99 := by decide
        rw [t1] at a6
        rw [t99] at a7
        have hrow : (fun i => gi N' 328 i) = fu (fu (fu (fu (fu (fu (fun i => gi M3 328 i) (13 + 4 * nc) (kl (B p))) (13 + 4 * nc + 1) v) (13 + 4 * nc + 2) 0) (13 + 4 * nc + 3) 0) 4 (nI (nc + 1))) 7 (gi M3 328 7 + v) := by
          rw [hN', row_up, row_up, row_up, row_up, row_up, row_up]
        have fC : CF C3 C' := fun b i q1 q2 => by
          rw [hC', gi_uIa _ _ _ _ _ _ (by omega), gi_uIa _ _ _ _ _ _ (by omega), gi_uIa _ _ _ _ _ _ (by omega), gi_uIa _ _ _ _ _ _ (by omega), gi_uIa _ _ _ _ _ _ (by omega), gi_uIa _ _ _ _ _ _ (by omega)]
        have c1C : ∀ i, gi C' 1 i = gi C3 1 i := fun i => by
          rw [hC', gi_uIa _ _ _ _ _ _ (by omega), gi_uIa _ _ _ _ _ _ (by omega), gi_uIa _ _ _ _ _ _ (by omega), gi_uIa _ _ _ _ _ _ (by omega), gi_uIa _ _ _ _ _ _ (by omega), gi_uIa _ _ _ _ _ _ (by omega)]
        refine ⟨e + 1, C', N', h6, ?_, ?_, hc3.cf fC (c1C 2), ?_, ⟨?_, ?_, ?_⟩, ?_, ?_, ?_⟩
        · rw [hcs, a1, bd_some, if_neg hv, b1, bd_some, if_neg (by decide), hadd, bd_some]
        · rw [hms, a2, bd_some, b2, bd_some, if_pos b4.2.2, hadm, bd_some]
        · rw [hN']; exact b4.row.row.row.row.row.row
        · rw [hrow, hC']
          exact dr15_can ⟨h6, by omega, by omega⟩ hD3.1
        · rw [hrow]
          exact iv15_can h6 hD3.2.2 hkk ⟨by omega, a7⟩ hD3.2.1
        · rw [hN', gi_uIi _ _ _ _ _ _ (by omega), gi_uIi _ _ _ _ _ _ (by omega), gi_uIi _ _ _ _ _ _ (by omega), gi_uIi _ _ _ _ _ _ (by omega), gi_uIi _ _ _ _ _ _ (by omega), gi_uIi _ _ _ _ _ _ (by omega)]
          exact hD3.2.2
        · refine CF.trans ?_ fC
          rw [hC3]
          exact ((CF.up (Or.inl rfl)).trans (CF.up (Or.inl rfl))).trans (CF.up (Or.inl rfl))
        · rw [hN']
          exact (((((((((MF.of g2).trans (MF.of a3)).trans (MF.of b3)).trans MF.up).trans MF.up).trans MF.up).trans MF.up).trans MF.up).trans MF.up)
        · rw [c1C, hC3, gi_uIi _ _ _ _ _ _ (by omega), gi_uIi _ _ _ _ _ _ (by omega), gi_uIi _ _ _ _ _ _ (by omega)]
      · right
        refine ⟨1, e, uI (uI (uI Mc 1 2 (nI (p + 1))) 1 2 (nI e)) 1 3 (nI 1), M3, ?_, ?_, FC.up (gi_uIs _ _ _ _), b4, ((CF.up (Or.inl rfl)).trans (CF.up (Or.inl rfl))).trans (CF.up (Or.inr rfl)), ((MF.of g2).trans (MF.of a3)).trans (MF.of b3)⟩
        · rw [hcs, a1, bd_some, if_neg hv, b1, bd_some, if_pos rfl]
        · rw [hms, a2, bd_some, b2, bd_some, if_neg b4.ne]
    · right
      refine ⟨k, p + 1, uI (uI Mc 1 2 (nI (p + 1))) 1 3 (nI k), M2, ?_, ?_, FC.up (gi_uIs _ _ _ _), a4, (CF.up (Or.inl rfl)).trans (CF.up (Or.inr rfl)), (MF.of g2).trans (MF.of a3)⟩
      · rw [hcs, a1, bd_some, if_pos rfl]
      · rw [hms, a2, bd_some, sign_f a4, bd_some, if_neg a4.ne]
  · right
    have hlt : ¬ nI nc < nI 6 := nI_nlt (by omega) (by omega)
    have heq : nI nc = nI 6 := by congr 1; omega
    obtain ⟨M1, r1, r2, r3⟩ := bad_m (k := 3) hm.2.2 hm.2.1.1 (by omega)
    rw [← k3] at r1
    refine ⟨3, p, uI Mc 1 3 (nI 3), M1, ?_, ?_, FC.up hc.2.1, r3, CF.up (Or.inr rfl), MF.of r2⟩
    · simp only [j_Tape_readCan, c0, e6, hlt, if_false, j_Tape_refuse, sq_eq, bd_some, gd_t hg0]
      rfl
    · simp only [j_Md_readsCan, Md_readsCan_b24, v11, kl_m, bd_some, m4, e6, heq, if_true, r1, goes_f r3, num_f r3, sign_f r3, r3.ne, if_false]
theorem h152_f {M : Mem} {k p q : Nat} (h : Fl M k p) : Md_book_h152 (q + 1) M = Md_book_b195 M := by
  by_cases h0 : gi M 326 10 = 0
  · simp only [Md_book_h152, Md_book_b183, h.ne, if_false, h0, if_true]
  · simp only [Md_book_h152, Md_book_b183, h.ne, if_false, h0, bad_f h, bd_some]
theorem h152_ff {M : Mem} {k p : Nat} (h : Fl M k p) : Md_book_h152 FU M = Md_book_b195 M := by
  obtain ⟨q, hq⟩ : ∃ q, FU = q + 1 := ⟨FU - 1, by unfold FU; omega⟩
  rw [hq]; exact h152_f h
theorem h138_f {M : Mem} {k p q : Nat} (h : Fl M k p) : Md_book_h138 (q + 1) M = Md_book_b195 M := by
  rw [Md_book_h138, told_f h, bd_some, if_pos rfl, h152_ff h]
theorem cans_both {B : Nat → Int32} {n : Nat} : ∀ m nc q q2 Mc Mm p, nc + m = 6 → m + 1 < q → m + 1 < q2 → SC Mc B n p → SM Mm B n p → D15 Mc Mm nc 0 → (0 < nc ∨ (p < n ∧ ¬ kl (B p) = 0)) → (∃ p' nc' Mc' Mm', Tape_readCans_h2 q 15 (nI nc) Mc = some (1, Mc') ∧ Md_book_h138 q2 Mm = Md_book_h152 FU Mm' ∧ SC Mc' B n p' ∧ SM Mm' B n p' ∧ D15 Mc' Mm' nc' 0 ∧ 0 < nc' ∧ CF Mc Mc' ∧ MF Mm Mm' ∧ gi Mc' 1 3 = gi Mc 1 3) ∨ (∃ k r Mc' Mm', Tape_readCans_h2 q 15 (nI nc) Mc = some (0, Mc') ∧ Md_book_h138 q2 Mm = Md_book_b195 Mm' ∧ FC Mc' k r ∧ Fl Mm' k r ∧ CF Mc Mc' ∧ MF Mm Mm') := by
  have e6 : (6 : Int32) = nI 6 := rfl
  intro m
  induction m with
  | zero =>
    intro nc q q2 Mc Mm p hm6 hq hq2 hc hm hD hor
    obtain ⟨q, rfl⟩ : ∃ z, q = z + 1 := ⟨q - 1, by omega⟩
    obtain ⟨q2, rfl⟩ : ∃ z, q2 = z + 1 := ⟨q2 - 1, by omega⟩
    have hlt : ¬ nI 6 < nI nc := nI_nlt (by omega) (by omega)
    have hnx := next_c hc.1 hc.2.1 hc.2.2
    have c0 : gi Mc 15 0 = nI nc := hD.1.1.1
    by_cases ht : p < n ∧ ¬ kl (B p) = 0
    · rcases one_can hc hm hD ht with ⟨_, _, _, h6, _⟩ | ⟨k, r, C1, M1, a1, a2, a3, a4, a5, a6⟩
      · omega
      · right
        rw [if_pos ht.1] at hnx
        have hof := kl_c (B p) Mc
        rw [if_neg ht.2] at hof
        have hkne : ¬ kl (B p) = -1000000 := fun z => by
          have := ((kl_cases (B p)).resolve_left ht.2).2
          rw [z, tN] at this; omega
        refine ⟨k, r, C1, M1, ?_, ?_, a3, a4, a5, a6⟩
        · simp only [Tape_readCans_h2, e6, hlt, if_false, hnx, bd_some, hof, hkne, a1, if_true]
        · obtain ⟨q3, rfl⟩ : ∃ z, q2 = z + 1 := ⟨q2 - 1, by omega⟩
          rw [Md_book_h138, ((told_m hm).1 ht).1, bd_some, if_neg (by decide), a2, bd_some, h138_f a4]
    · left
      have hz : kl (if p < n then B p else -1000000) = 0 := by
        by_cases hp : p < n
        · rw [if_pos hp]
          apply Classical.byContradiction
          intro z
          exact ht ⟨hp, z⟩
        · rw [if_neg hp]; decide
      have hof := kl_c (if p < n then B p else -1000000) Mc
      rw [if_pos hz] at hof
      have hpos : (0 : Int32) < nI nc := by rw [i32_lt, t0, nI_toInt (by omega)]; omega
      refine ⟨p, nc, Mc, Mm, ?_, ?_, hc, hm, hD, by omega, CF.rfl, MF.rfl, rfl⟩
      · simp only [Tape_readCans_h2, Tape_readCans_b36, Tape_readCans_b51, e6, hlt, if_false, hnx, bd_some, hof, if_true, c0, hpos]
      · rw [Md_book_h138, (told_m hm).2 ht, bd_some, if_pos rfl]
  | succ m ih =>
    intro nc q q2 Mc Mm p hm6 hq hq2 hc hm hD hor
    obtain ⟨q, rfl⟩ : ∃ z, q = z + 1 := ⟨q - 1, by omega⟩
    obtain ⟨q2, rfl⟩ : ∃ z, q2 = z + 1 := ⟨q2 - 1, by omega⟩
    have hlt : ¬ nI 6 < nI nc := nI_nlt (by omega) (by omega)
    have hnx := next_c hc.1 hc.2.1 hc.2.2
    have c0 : gi Mc 15 0 = nI nc := hD.1.1.1
    by_cases ht : p < n ∧ ¬ kl (B p) = 0
    · rw [if_pos ht.1] at hnx
      have hof := kl_c (B p) Mc
      rw [if_neg ht.2] at hof
      have hkne : ¬ kl (B p) = -1000000 := fun z => by
        have := ((kl_cases (B p)).resolve_left ht.2).2
        rw [z, tN] at this; omega
      have hmst : ∀ M1, j_Md_readsCan Mm = some ((), M1) → Md_book_h138 (q2 + 1) Mm = Md_book_h138 q2 M1 := fun M1 z => by
        rw [Md_book_h138, ((told_m hm).1 ht).1, bd_some, if_neg (by decide), z, bd_some]
      rcases one_can hc hm hD ht with ⟨p1, C1, M1, h6, a1, a2, a3, a4, a5, a6, a7, a8⟩ | ⟨k, r, C1, M1, a1, a2, a3, a4, a5, a6⟩
      · have hcst : Tape_readCans_h2 (q + 1) 15 (nI nc) Mc = Tape_readCans_h2 q 15 (nI (nc + 1)) C1 := by
          simp only [Tape_readCans_h2, e6, hlt, if_false, hnx, bd_some, hof, hkne, a1, z1, lq_eq, nI_1]
        rw [hcst, hmst M1 a2]
        rcases ih (nc + 1) q q2 C1 M1 p1 (by omega) (by omega) (by omega) a3 a4 a5 (Or.inl (by omega)) with ⟨p', nc', C', N', b1, b2, b3, b4, b5, b6, b7, b8, b9⟩ | ⟨k, r, C', N', b1, b2, b3, b4, b5, b6⟩
        · exact Or.inl ⟨p', nc', C', N', b1, b2, b3, b4, b5, b6, a6.trans b7, a7.trans b8, b9.trans a8⟩
        · exact Or.inr ⟨k, r, C', N', b1, b2, b3, b4, a6.trans b5, a7.trans b6⟩
      · right
        refine ⟨k, r, C1, M1, ?_, ?_, a3, a4, a5, a6⟩
        · simp only [Tape_readCans_h2, e6, hlt, if_false, hnx, bd_some, hof, hkne, a1, if_true]
        · obtain ⟨q3, rfl⟩ : ∃ z, q2 = z + 1 := ⟨q2 - 1, by omega⟩
          rw [hmst M1 a2, h138_f a4]
    · left
      have hpos0 : 0 < nc := hor.resolve_right ht
      have hz : kl (if p < n then B p else -1000000) = 0 := by
        by_cases hp : p < n
        · rw [if_pos hp]
          apply Classical.byContradiction
          intro z
          exact ht ⟨hp, z⟩
        · rw [if_neg hp]; decide
      have hof := kl_c (if p < n then B p else -1000000) Mc
      rw [if_pos hz] at hof
      have hpos : (0 : Int32) < nI nc := by rw [i32_lt, t0, nI_toInt (by omega)]; omega
      refine ⟨p, nc, Mc, Mm, ?_, ?_, hc, hm, hD, hpos0, CF.rfl, MF.rfl, rfl⟩
      · simp only [Tape_readCans_h2, Tape_readCans_b36, Tape_readCans_b51, e6, hlt, if_false, hnx, bd_some, hof, if_true, c0, hpos]
      · rw [Md_book_h138, (told_m hm).2 ht, bd_some, if_pos rfl]
