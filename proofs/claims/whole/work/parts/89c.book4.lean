theorem t116_m {M : Mem} {B : Nat → Int32} {n p : Nat} (hm : SM M B n p) : ((p < n ∧ B p = 116) → gi M 326 10 = 1 ∧ gi M 326 11 = 116 ∧ gi M 326 8 = nI (p + 1)) ∧ (¬ (p < n ∧ B p = 116) → ¬ (gi M 326 10 = 1 ∧ gi M 326 11 = 116)) ∧ (p < n → ¬ gi M 326 10 = 0) ∧ (n ≤ p → gi M 326 10 = 0) := by
  obtain ⟨m1, ⟨k9, ka, kb, kc, kd, ke⟩, m3⟩ := hm
  have t116 : (116 : Int32).toInt = 116 := by decide
  have hcls : p < n → (∃ v : Int32, gi M 326 10 = v ∧ ¬ v = 0 ∧ (v = 1 → 97 ≤ (B p).toInt ∧ (B p).toInt ≤ 122)) := by
    intro hpn
    by_cases hs : B p = 44 ∨ B p = 59
    · exact ⟨3, (kd ⟨hpn, hs⟩).1, by decide, fun z => absurd z (by decide)⟩
    · by_cases hl : 97 ≤ (B p).toInt ∧ (B p).toInt ≤ 122
      · exact ⟨1, (kb ⟨hpn, hl⟩).1, by decide, fun _ => hl⟩
      · by_cases hd : dgB B n p = true
        · have := (kc hd).1
          by_cases h2 : 2 < fe B n p - p
          · rw [if_pos h2] at this; exact ⟨4, this, by decide, fun z => absurd z (by decide)⟩
          · rw [if_neg h2] at this; exact ⟨2, this, by decide, fun z => absurd z (by decide)⟩
        · exact ⟨4, ke ⟨hpn, hl, hd, hs⟩, by decide, fun z => absurd z (by decide)⟩
  refine ⟨?_, ?_, ?_, ka⟩
  · rintro ⟨h1, h2⟩
    obtain ⟨d1, d2, d3⟩ := kb ⟨h1, by rw [h2, t116]; omega⟩
    exact ⟨d1, by rw [d2, h2], d3⟩
  · rintro hn ⟨z1, z2⟩
    by_cases hpn : p < n
    · obtain ⟨v, v1, v2, v3⟩ := hcls hpn
      have hl := v3 (by rw [← v1]; exact z1)
      rw [(kb ⟨hpn, hl⟩).2.1] at z2
      exact hn ⟨hpn, z2⟩
    · rw [ka (by omega)] at z1; exact absurd z1 (by decide)
  · intro hpn z
    obtain ⟨v, v1, v2, v3⟩ := hcls hpn
    rw [v1] at z
    exact v2 z
theorem one_take {Mc Mm : Mem} {B : Nat → Int32} {n p nc nt : Nat} (hnc : 0 < nc) (hc : SC Mc B n p) (hm : SM Mm B n p) (hD : D15 Mc Mm nc nt) (ht : p < n ∧ B p = 116) : (∃ p' Mc' Mm', nt < 8 ∧ j_Tape_readTake 15 Mc = some (1, Mc') ∧ j_Md_readsTake Mm = some ((), Mm') ∧ SC Mc' B n p' ∧ SM Mm' B n p' ∧ D15 Mc' Mm' nc (nt + 1) ∧ CF Mc Mc' ∧ MF Mm Mm' ∧ gi Mc' 1 3 = gi Mc 1 3) ∨ (∃ k r Mc' Mm', j_Tape_readTake 15 Mc = some (0, Mc') ∧ j_Md_readsTake Mm = some ((), Mm') ∧ FC Mc' k r ∧ Fl Mm' k r ∧ CF Mc Mc' ∧ MF Mm Mm') := by
  have e8 : (8 : Int32) = nI 8 := rfl
  obtain ⟨_, _, v8⟩ := (t116_m hm).1 ht
  have n6 := hD.2.1.1.1
  have n8 := hD.2.1.1.2.1
  have c1 : gi Mc 15 1 = nI nt := hD.1.1.2.1
  have m5 : gi Mm 328 5 = nI nt := hD.2.1.2.1.2.1
  have hg0 : isB (0 : Int32) = true := by decide
  by_cases h8 : nt < 8
  · have hlt : nI nt < nI 8 := nI_lt h8 (by omega)
    have hne : ¬ nI nt = nI 8 := by rw [nI_eq (by omega) (by omega)]; omega
    have hc1 := hc.up (e := p + 1) (by omega)
    obtain ⟨M1, g1, g2, g3, g4⟩ := goes_m hm.1 hm.2.2 v8 (by omega)
    have hm1 : SM M1 B n (p + 1) := ⟨hm.1.cong g2, g3, g4⟩
    have hcs : j_Tape_readTake 15 Mc = bd (j_Tape_readNumber 0 5 (uI Mc 1 2 (nI (p + 1)))) (fun r2 M3 => (if r2 = (-1000000) then (some (0, M3)) else bd (j_Tape_pass 44 M3) (fun r4 M5 => (if r4 = 0 then (some (0, M5)) else bd (j_Tape_readNumber 1 60 M5) (fun r6 M7 => (if r6 = (-1000000) then (some (0, M7)) else bd (j_Tape_pass 59 M7) (fun r8 M9 => (if r8 = 0 then (some (0, M9)) else bd (j_Day_addTake 15 r2 r6 M9) (fun r10 M11 => (some (1, M11))))))))))) := by
      simp only [j_Tape_readTake, c1, e8, hlt, if_true, hc.2.1, nI_1, sq_eq]
    have hms : j_Md_readsTake Mm = bd (j_Md_number 0 5 M1) (fun r4 M5 => bd (j_Md_sign 44 M5) (fun _ M7 => bd (j_Md_number 1 60 M7) (fun r8 M9 => bd (j_Md_sign 59 M9) (fun _ M11 => (if (gi M11 326 12) = 0 then lq ((41 : Int32) + ((3 : Int32) * (gi M11 328 5))) (fun x13_ => gd (inb x13_ 89) (sq (uI M11 328 (ix x13_) r4) (fun M15 => gd (inb (x13_ + 1) 89) (sq (uI M15 328 (ix (x13_ + 1)) r8) (fun M17 => gd (inb (x13_ + 2) 89) (sq (uI M17 328 (ix (x13_ + 2)) (-1)) (fun M19 => sq (uI M19 328 5 ((gi M19 328 5) + 1)) (fun M22 => (some ((), M22)))))))))) else (some ((), M11))))))) := by
      simp only [j_Md_readsTake, Md_readsTake_b16, m5, e8, hne, if_false, g1, bd_some]
    rcases num_both (lo := 0) (hi := 5) hc1 hm1 with ⟨e, v, M2, a1, a2, a3, a4, a5, a6, a7⟩ | ⟨k, M2, a1, a2, a3, a4⟩
    · have hv : ¬ v = -1000000 := fun z => by rw [z, tN, t0] at a6; omega
      have hc2 := hc1.up a5
      rcases sign_both (x := 44) (Or.inl rfl) hc2 a4 with ⟨M3, b1, b2, b3, b4, b5⟩ | ⟨M3, b1, b2, b3, b4⟩
      · have hc3 := hc2.up b5
        rcases num_both (lo := 1) (hi := 60) hc3 b4 with ⟨e', v', M4, d1, d2, d3, d4, d5, d6, d7⟩ | ⟨k, M4, d1, d2, d3, d4⟩
        · have hv' : ¬ v' = -1000000 := fun z => by rw [z, tN, t1] at d6; omega
          have hc4 := hc3.up d5
          rcases sign_both (x := 59) (Or.inr rfl) hc4 d4 with ⟨M5, f1, f2, f3, f4, f5⟩ | ⟨M5, f1, f2, f3, f4⟩
          · left
            have hc5 := hc4.up f5
            obtain ⟨C3, hC3⟩ : ∃ C3, C3 = uI (uI (uI (uI (uI Mc 1 2 (nI (p + 1))) 1 2 (nI e)) 1 2 (nI (e + 1))) 1 2 (nI e')) 1 2 (nI (e' + 1)) := ⟨_, rfl⟩
            rw [← hC3] at f1 hc5
            have cC : ∀ b i, b ≠ 1 → gi C3 b i = gi Mc b i := fun b i hb => by rw [hC3, gi_uIa _ _ _ _ _ _ hb, gi_uIa _ _ _ _ _ _ hb, gi_uIa _ _ _ _ _ _ hb, gi_uIa _ _ _ _ _ _ hb, gi_uIa _ _ _ _ _ _ hb]
            have rM : ∀ i, gi M5 328 i = gi Mm 328 i := fun i => by rw [f3 328 i (by omega), d3 328 i (by omega), b3 328 i (by omega), a3 328 i (by omega), g2 328 i (by omega)]
            have hD3 : D15 C3 M5 nc nt := hD.cong (fun b i h1 h2 => cC b i (by omega)) rM
            have c01 : gi C3 15 1 = nI nt := hD3.1.1.2.1
            have m55 : gi M5 328 5 = nI nt := hD3.2.1.2.1.2.1
            obtain ⟨C', hC'⟩ : ∃ C', C' = uI (uI (uI (uI C3 21 nt v) 22 nt v') 23 nt (-1000000)) 15 1 (nI (nt + 1)) := ⟨_, rfl⟩
            obtain ⟨N', hN'⟩ : ∃ N', N' = uI (uI (uI (uI M5 328 (41 + 3 * nt) v) 328 (41 + 3 * nt + 1) v') 328 (41 + 3 * nt + 2) (-1)) 328 5 (nI (nt + 1)) := ⟨_, rfl⟩
            have hadd : j_Day_addTake 15 v v' C3 = some (nI nt, C') := by
              have q0 : gi (uI (uI (uI C3 21 nt v) 22 nt v') 23 nt (-1000000)) 15 1 = nI nt := by rw [gi_uIa _ _ _ _ _ _ (by omega), gi_uIa _ _ _ _ _ _ (by omega), gi_uIa _ _ _ _ _ _ (by omega)]; exact c01
              simp only [j_Day_addTake, c01, e8, hlt, if_true, lq_eq, gd_t (inb_nI h8 (show 8 < 2 ^ 31 by omega)), ix_nI (show nt < 2 ^ 31 by omega), sq_eq, q0, nI_1, ← hC']
            have q5 : gi (uI (uI (uI M5 328 (41 + 3 * nt) v) 328 (41 + 3 * nt + 1) v') 328 (41 + 3 * nt + 2) (-1)) 328 5 = nI nt := by rw [gi_uIi _ _ _ _ _ _ (by omega), gi_uIi _ _ _ _ _ _ (by omega), gi_uIi _ _ _ _ _ _ (by omega)]; exact m55
            have t5 : (5 : Int32).toInt = 5 := by decide
            have t60 : (60 : Int32).toInt = 60 := by decide
            rw [t0] at a6
            rw [t5] at a7
            rw [t1] at d6
            rw [t60] at d7
            have hrow : (fun i => gi N' 328 i) = fu (fu (fu (fu (fun i => gi M5 328 i) (41 + 3 * nt) v) (41 + 3 * nt + 1) v') (41 + 3 * nt + 2) (-1)) 5 (nI (nt + 1)) := by
              rw [hN', row_up, row_up, row_up, row_up]
            have fC : CF C3 C' := fun b i q1 q2 => by
              rw [hC', gi_uIa _ _ _ _ _ _ (by omega), gi_uIa _ _ _ _ _ _ (by omega), gi_uIa _ _ _ _ _ _ (by omega), gi_uIa _ _ _ _ _ _ (by omega)]
            have c1C : ∀ i, gi C' 1 i = gi C3 1 i := fun i => by
              rw [hC', gi_uIa _ _ _ _ _ _ (by omega), gi_uIa _ _ _ _ _ _ (by omega), gi_uIa _ _ _ _ _ _ (by omega), gi_uIa _ _ _ _ _ _ (by omega)]
            refine ⟨e' + 1, C', N', h8, ?_, ?_, hc5.cf fC (c1C 2), ?_, ⟨?_, ?_, ?_⟩, ?_, ?_, ?_⟩
            · rw [hcs, a1, bd_some, if_neg hv, b1, bd_some, if_neg (by decide), d1, bd_some, if_neg hv', f1, bd_some, if_neg (by decide), hadd, bd_some]
            · rw [hms, a2, bd_some, b2, bd_some, d2, bd_some, f2, bd_some, if_pos f4.2.2]
              simp only [m55, i3, lq_eq, nI_1, nI_p2, gd_t (inb_nI (show 41 + 3 * nt < 89 by omega) (show 89 < 2 ^ 31 by omega)), gd_t (inb_nI (show 41 + 3 * nt + 1 < 89 by omega) (show 89 < 2 ^ 31 by omega)), gd_t (inb_nI (show 41 + 3 * nt + 2 < 89 by omega) (show 89 < 2 ^ 31 by omega)), ix_nI (show 41 + 3 * nt < 2 ^ 31 by omega), ix_nI (show 41 + 3 * nt + 1 < 2 ^ 31 by omega), ix_nI (show 41 + 3 * nt + 2 < 2 ^ 31 by omega), sq_eq, q5, ← hN']
            · rw [hN']; exact f4.row.row.row.row
            · rw [hrow, hC']
              exact dr15_take ⟨n6, h8, by omega⟩ hD3.1
            · rw [hrow]
              exact iv_addtake hnc h8 ⟨a6, a7⟩ ⟨d6, d7⟩ hD3.2.1
            · rw [hN', gi_uIi _ _ _ _ _ _ (by omega), gi_uIi _ _ _ _ _ _ (by omega), gi_uIi _ _ _ _ _ _ (by omega), gi_uIi _ _ _ _ _ _ (by omega)]
              exact hD3.2.2
            · refine CF.trans ?_ fC
              rw [hC3]
              exact ((((CF.up (Or.inl rfl)).trans (CF.up (Or.inl rfl))).trans (CF.up (Or.inl rfl))).trans (CF.up (Or.inl rfl))).trans (CF.up (Or.inl rfl))
            · rw [hN']
              exact ((((((((MF.of g2).trans (MF.of a3)).trans (MF.of b3)).trans (MF.of d3)).trans (MF.of f3)).trans MF.up).trans MF.up).trans MF.up).trans MF.up
            · rw [c1C, hC3, gi_uIi _ _ _ _ _ _ (by omega), gi_uIi _ _ _ _ _ _ (by omega), gi_uIi _ _ _ _ _ _ (by omega), gi_uIi _ _ _ _ _ _ (by omega), gi_uIi _ _ _ _ _ _ (by omega)]
          · right
            refine ⟨1, e', uI (uI (uI (uI (uI Mc 1 2 (nI (p + 1))) 1 2 (nI e)) 1 2 (nI (e + 1))) 1 2 (nI e')) 1 3 (nI 1), M5, ?_, ?_, FC.up (gi_uIs _ _ _ _), f4, ((((CF.up (Or.inl rfl)).trans (CF.up (Or.inl rfl))).trans (CF.up (Or.inl rfl))).trans (CF.up (Or.inl rfl))).trans (CF.up (Or.inr rfl)), ((((MF.of g2).trans (MF.of a3)).trans (MF.of b3)).trans (MF.of d3)).trans (MF.of f3)⟩
            · rw [hcs, a1, bd_some, if_neg hv, b1, bd_some, if_neg (by decide), d1, bd_some, if_neg hv', f1, bd_some, if_pos rfl]
            · rw [hms, a2, bd_some, b2, bd_some, d2, bd_some, f2, bd_some, if_neg f4.ne]
        · right
          refine ⟨k, e + 1, uI (uI (uI (uI Mc 1 2 (nI (p + 1))) 1 2 (nI e)) 1 2 (nI (e + 1))) 1 3 (nI k), M4, ?_, ?_, FC.up (gi_uIs _ _ _ _), d4, (((CF.up (Or.inl rfl)).trans (CF.up (Or.inl rfl))).trans (CF.up (Or.inl rfl))).trans (CF.up (Or.inr rfl)), (((MF.of g2).trans (MF.of a3)).trans (MF.of b3)).trans (MF.of d3)⟩
          · rw [hcs, a1, bd_some, if_neg hv, b1, bd_some, if_neg (by decide), d1, bd_some, if_pos rfl]
          · rw [hms, a2, bd_some, b2, bd_some, d2, bd_some, sign_f d4, bd_some, if_neg d4.ne]
      · right
        refine ⟨1, e, uI (uI (uI Mc 1 2 (nI (p + 1))) 1 2 (nI e)) 1 3 (nI 1), M3, ?_, ?_, FC.up (gi_uIs _ _ _ _), b4, ((CF.up (Or.inl rfl)).trans (CF.up (Or.inl rfl))).trans (CF.up (Or.inr rfl)), ((MF.of g2).trans (MF.of a3)).trans (MF.of b3)⟩
        · rw [hcs, a1, bd_some, if_neg hv, b1, bd_some, if_pos rfl]
        · rw [hms, a2, bd_some, b2, bd_some, num_f b4, bd_some, sign_f b4, bd_some, if_neg b4.ne]
    · right
      refine ⟨k, p + 1, uI (uI Mc 1 2 (nI (p + 1))) 1 3 (nI k), M2, ?_, ?_, FC.up (gi_uIs _ _ _ _), a4, (CF.up (Or.inl rfl)).trans (CF.up (Or.inr rfl)), (MF.of g2).trans (MF.of a3)⟩
      · rw [hcs, a1, bd_some, if_pos rfl]
      · rw [hms, a2, bd_some, sign_f a4, bd_some, num_f a4, bd_some, sign_f a4, bd_some, if_neg a4.ne]
  · right
    have hlt : ¬ nI nt < nI 8 := nI_nlt (by omega) (by omega)
    have heq : nI nt = nI 8 := by congr 1; omega
    obtain ⟨M1, r1, r2, r3⟩ := bad_m (k := 3) hm.2.2 hm.2.1.1 (by omega)
    rw [← k3] at r1
    refine ⟨3, p, uI Mc 1 3 (nI 3), M1, ?_, ?_, FC.up hc.2.1, r3, CF.up (Or.inr rfl), MF.of r2⟩
    · simp only [j_Tape_readTake, c1, e8, hlt, if_false, j_Tape_refuse, sq_eq, bd_some, gd_t hg0]
      rfl
    · simp only [j_Md_readsTake, Md_readsTake_b16, m5, e8, heq, if_true, r1, bd_some, goes_f r3, num_f r3, sign_f r3, r3.ne, if_false]
theorem takes_both {B : Nat → Int32} {n nc : Nat} (hnc : 0 < nc) : ∀ m nt q q2 Mc Mm p, nt + m = 8 → m + 1 < q → m + 1 < q2 → SC Mc B n p → SM Mm B n p → D15 Mc Mm nc nt → (∃ nt' Mc' Mm', Tape_readTakes_h2 q 15 (nI nt) Mc = some (1, Mc') ∧ Md_book_h152 q2 Mm = Md_book_b195 Mm' ∧ gi Mm' 326 12 = 0 ∧ D15 Mc' Mm' nc nt' ∧ CF Mc Mc' ∧ MF Mm Mm' ∧ gi Mc' 1 3 = gi Mc 1 3) ∨ (∃ k r Mc' Mm', Tape_readTakes_h2 q 15 (nI nt) Mc = some (0, Mc') ∧ Md_book_h152 q2 Mm = Md_book_b195 Mm' ∧ FC Mc' k r ∧ Fl Mm' k r ∧ CF Mc Mc' ∧ MF Mm Mm') := by
  have e8 : (8 : Int32) = nI 8 := rfl
  -- no take told here: the end
  have hend : ∀ nt q q2 Mc Mm p, nt ≤ 8 → SC Mc B n p → SM Mm B n p → D15 Mc Mm nc nt → ¬ (p < n ∧ B p = 116) → (∃ nt' Mc' Mm', Tape_readTakes_h2 (q + 1) 15 (nI nt) Mc = some (1, Mc') ∧ Md_book_h152 (q2 + 1) Mm = Md_book_b195 Mm' ∧ gi Mm' 326 12 = 0 ∧ D15 Mc' Mm' nc nt' ∧ CF Mc Mc' ∧ MF Mm Mm' ∧ gi Mc' 1 3 = gi Mc 1 3) ∨ (∃ k r Mc' Mm', Tape_readTakes_h2 (q + 1) 15 (nI nt) Mc = some (0, Mc') ∧ Md_book_h152 (q2 + 1) Mm = Md_book_b195 Mm' ∧ FC Mc' k r ∧ Fl Mm' k r ∧ CF Mc Mc' ∧ MF Mm Mm') := by
    intro nt q q2 Mc Mm p hnt hc hm hD ht
    have n110 := hc.1.1
    have hlt : ¬ nI 8 < nI nt := nI_nlt (by omega) (by omega)
    have hnx := next_c hc.1 hc.2.1 hc.2.2
    have hne : ¬ (if p < n then B p else -1000000) = 116 := by
      by_cases hp : p < n
      · rw [if_pos hp]; exact fun z => ht ⟨hp, z⟩
      · rw [if_neg hp]; decide
    obtain ⟨_, t2', t3, t4⟩ := t116_m hm
    have hno := t2' ht
    have hcst : Tape_readTakes_h2 (q + 1) 15 (nI nt) Mc = Tape_readTakes_b33 Mc := by
      simp only [Tape_readTakes_h2, e8, hlt, if_false, hnx, bd_some, hne]
    have hmst : Md_book_h152 (q2 + 1) Mm = Md_book_b183 Mm := by
      by_cases h1 : gi Mm 326 10 = 1
      · have h2 : ¬ gi Mm 326 11 = 116 := fun z => hno ⟨h1, z⟩
        simp only [Md_book_h152, hm.2.2, if_true, h1, h2, if_false]
      · simp only [Md_book_h152, hm.2.2, if_true, h1, if_false]
    rw [hcst, hmst]
    by_cases hp : p < n
    · right
      have hpn : ¬ nI p = nI n := by rw [nI_eq (by omega) (by omega)]; omega
      obtain ⟨M1, r1, r2, r3⟩ := bad_m (k := 1) hm.2.2 hm.2.1.1 (by omega)
      rw [← k1] at r1
      refine ⟨1, p, uI Mc 1 3 (nI 1), M1, ?_, ?_, FC.up hc.2.1, r3, CF.up (Or.inr rfl), MF.of r2⟩
      · simp only [Tape_readTakes_b33, hc.2.1, hc.1.2.1, hpn, if_false, j_Tape_refuse, sq_eq, bd_some, if_true]
        rfl
      · simp only [Md_book_b183, t3 hp, if_false, r1, bd_some]
    · left
      have hpn : p = n := by have := hc.2.2; omega
      refine ⟨nt, Mc, Mm, ?_, ?_, hm.2.2, hD, CF.rfl, MF.rfl, rfl⟩
      · simp only [Tape_readTakes_b33, Tape_readTakes_b52, hc.2.1, hc.1.2.1, hpn, if_true]
      · simp only [Md_book_b183, t4 (by omega), if_true]
  intro m
  induction m with
  | zero =>
    intro nt q q2 Mc Mm p hm8 hq hq2 hc hm hD
    obtain ⟨q, rfl⟩ : ∃ z, q = z + 1 := ⟨q - 1, by omega⟩
    obtain ⟨q2, rfl⟩ : ∃ z, q2 = z + 1 := ⟨q2 - 1, by omega⟩
    by_cases ht : p < n ∧ B p = 116
    · have hlt : ¬ nI 8 < nI nt := nI_nlt (by omega) (by omega)
      have hnx := next_c hc.1 hc.2.1 hc.2.2
      rw [if_pos ht.1, ht.2] at hnx
      obtain ⟨d1, d2, _⟩ := (t116_m hm).1 ht
      rcases one_take hnc hc hm hD ht with ⟨_, _, _, h8, _⟩ | ⟨k, r, C1, M1, a1, a2, a3, a4, a5, a6⟩
      · omega
      · right
        refine ⟨k, r, C1, M1, ?_, ?_, a3, a4, a5, a6⟩
        · simp only [Tape_readTakes_h2, e8, hlt, if_false, hnx, bd_some, if_true, a1]
        · obtain ⟨q3, rfl⟩ : ∃ z, q2 = z + 1 := ⟨q2 - 1, by omega⟩
          rw [Md_book_h152, if_pos hm.2.2, if_pos d1, if_pos d2, a2, bd_some, h152_f a4]
    · exact hend nt q q2 Mc Mm p (by omega) hc hm hD ht
  | succ m ih =>
    intro nt q q2 Mc Mm p hm8 hq hq2 hc hm hD
    obtain ⟨q, rfl⟩ : ∃ z, q = z + 1 := ⟨q - 1, by omega⟩
    obtain ⟨q2, rfl⟩ : ∃ z, q2 = z + 1 := ⟨q2 - 1, by omega⟩
    by_cases ht : p < n ∧ B p = 116
    · have hlt : ¬ nI 8 < nI nt := nI_nlt (by omega) (by omega)
      have hnx := next_c hc.1 hc.2.1 hc.2.2
      rw [if_pos ht.1, ht.2] at hnx
      obtain ⟨d1, d2, _⟩ := (t116_m hm).1 ht
      have hmst : ∀ M1, j_Md_readsTake Mm = some ((), M1) → Md_book_h152 (q2 + 1) Mm = Md_book_h152 q2 M1 := fun M1 z => by
        rw [Md_book_h152, if_pos hm.2.2, if_pos d1, if_pos d2, z, bd_some]
      rcases one_take hnc hc hm hD ht with ⟨p1, C1, M1, h8, a1, a2, a3, a4, a5, a6, a7, a8⟩ | ⟨k, r, C1, M1, a1, a2, a3, a4, a5, a6⟩
      · have hcst : Tape_readTakes_h2 (q + 1) 15 (nI nt) Mc = Tape_readTakes_h2 q 15 (nI (nt + 1)) C1 := by
          simp only [Tape_readTakes_h2, e8, hlt, if_false, hnx, bd_some, if_true, a1, z1, lq_eq, nI_1]
        rw [hcst, hmst M1 a2]
        rcases ih (nt + 1) q q2 C1 M1 p1 (by omega) (by omega) (by omega) a3 a4 a5 with ⟨nt', C', N', b1, b2, b3, b4, b5, b6, b7⟩ | ⟨k, r, C', N', b1, b2, b3, b4, b5, b6⟩
        · exact Or.inl ⟨nt', C', N', b1, b2, b3, b4, a6.trans b5, a7.trans b6, b7.trans a8⟩
        · exact Or.inr ⟨k, r, C', N', b1, b2, b3, b4, a6.trans b5, a7.trans b6⟩
      · right
        refine ⟨k, r, C1, M1, ?_, ?_, a3, a4, a5, a6⟩
        · simp only [Tape_readTakes_h2, e8, hlt, if_false, hnx, bd_some, if_true, a1]
        · obtain ⟨q3, rfl⟩ : ∃ z, q2 = z + 1 := ⟨q2 - 1, by omega⟩
          rw [hmst M1 a2, h152_f a4]
    · exact hend nt q q2 Mc Mm p (by omega) hc hm hD ht
