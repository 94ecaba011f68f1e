theorem iv_load {f : Nat → Int32} {nc nt nr c : Nat} (hc : c < nc) (h11 : f 11 = -1) (hI : Iv f nc nt nr) : Iv (fu (fu f (13 + 4 * c + 2) 1) 11 (nI c)) nc nt nr := by
  obtain ⟨⟨n1, n2, n3⟩, ⟨a1, a2, a3⟩, a4, a5, b1, b2, b3, b4⟩ := hI
  refine ⟨⟨n1, n2, n3⟩, ⟨?_, ?_, ?_⟩, ?_, Or.inr ⟨c, hc, fu_eq⟩, fun c' hc' => ?_, fun t' ht' => ?_, fun r' hr' => ?_, b4⟩
  · rw [fu_ne (by omega), fu_ne (by omega)]; exact a1
  · rw [fu_ne (by omega), fu_ne (by omega)]; exact a2
  · rw [fu_ne (by omega), fu_ne (by omega)]; exact a3
  · rw [fu_ne (by omega), fu_ne (by omega), fu_ne (by omega), fu_ne (by omega)]; exact a4
  · have := b1 c' hc'
    rw [fu_ne (by omega : 13 + 4 * c' ≠ 11), fu_ne (by omega : 13 + 4 * c' ≠ 13 + 4 * c + 2), fu_ne (by omega : 13 + 4 * c' + 1 ≠ 11), fu_ne (by omega : 13 + 4 * c' + 1 ≠ 13 + 4 * c + 2), fu_ne (by omega : 13 + 4 * c' + 2 ≠ 11)]
    by_cases h : c' = c
    · subst h
      rw [fu_eq, fu_eq, t1]
      exact ⟨this.1, this.2.1, by omega, ⟨fun _ => rfl, fun _ => rfl⟩⟩
    · rw [fu_ne (by omega), fu_eq]
      refine ⟨this.1, this.2.1, this.2.2.1, ⟨fun q => ?_, fun q => ?_⟩⟩
      · have := this.2.2.2.mp q
        rw [h11] at this
        exact absurd this (nI_m1 (by omega))
      · rw [nI_eq (by omega) (by omega)] at q; omega
  · have := b2 t' ht'
    rw [fu_ne (by omega), fu_ne (by omega), fu_ne (by omega), fu_ne (by omega), fu_ne (by omega), fu_ne (by omega)]; exact this
  · rw [fu_ne (by omega), fu_ne (by omega)]; exact b3 r' hr'
theorem iv_unload {f : Nat → Int32} {nc nt nr c : Nat} {v : Int32} (hc : c < nc) (h11 : f 11 = nI c) (hv : v = 0 ∨ v = 2) (hI : Iv f nc nt nr) : Iv (fu (fu f (13 + 4 * c + 2) v) 11 (-1)) nc nt nr := by
  obtain ⟨⟨n1, n2, n3⟩, ⟨a1, a2, a3⟩, a4, a5, b1, b2, b3, b4⟩ := hI
  refine ⟨⟨n1, n2, n3⟩, ⟨?_, ?_, ?_⟩, ?_, Or.inl fu_eq, fun c' hc' => ?_, fun t' ht' => ?_, fun r' hr' => ?_, b4⟩
  · rw [fu_ne (by omega), fu_ne (by omega)]; exact a1
  · rw [fu_ne (by omega), fu_ne (by omega)]; exact a2
  · rw [fu_ne (by omega), fu_ne (by omega)]; exact a3
  · rw [fu_ne (by omega), fu_ne (by omega), fu_ne (by omega), fu_ne (by omega)]; exact a4
  · have := b1 c' hc'
    rw [fu_ne (by omega : 13 + 4 * c' ≠ 11), fu_ne (by omega : 13 + 4 * c' ≠ 13 + 4 * c + 2), fu_ne (by omega : 13 + 4 * c' + 1 ≠ 11), fu_ne (by omega : 13 + 4 * c' + 1 ≠ 13 + 4 * c + 2), fu_ne (by omega : 13 + 4 * c' + 2 ≠ 11)]
    by_cases h : c' = c
    · subst h
      rw [fu_eq, fu_eq]
      refine ⟨this.1, this.2.1, by rcases hv with q | q <;> subst q <;> decide, ⟨fun q => ?_, fun q => absurd q (nI_m1 (by omega))⟩⟩
      rcases hv with z | z <;> subst z <;> exact absurd q (by decide)
    · rw [fu_ne (by omega), fu_eq]
      refine ⟨this.1, this.2.1, this.2.2.1, ⟨fun q => ?_, fun q => absurd q (nI_m1 (by omega))⟩⟩
      have := this.2.2.2.mp q
      rw [h11, nI_eq (by omega) (by omega)] at this
      omega
  · have := b2 t' ht'
    rw [fu_ne (by omega), fu_ne (by omega), fu_ne (by omega), fu_ne (by omega), fu_ne (by omega), fu_ne (by omega)]; exact this
  · rw [fu_ne (by omega), fu_ne (by omega)]; exact b3 r' hr'
theorem nn_nI {c : Nat} (h : c < 2 ^ 31) : nn (nI c) (nI c) := Or.inr ⟨rfl, by rw [nI_toInt h]; omega⟩
theorem nn_in {v : Int32} {f : Int32} {nc : Nat} (h : nn v f) (hf : f = -1 ∨ ∃ c, c < nc ∧ f = nI c) (hn : nc < 2 ^ 31) : (v = -1000000 ∧ f = -1) ∨ ∃ c, c < nc ∧ v = nI c ∧ f = nI c := by
  rcases h with ⟨h1, h2⟩ | ⟨h1, h2⟩
  · exact Or.inl ⟨h1, h2⟩
  · rcases hf with q | ⟨c, q1, q2⟩
    · rw [q, tm1] at h2; omega
    · exact Or.inr ⟨c, q1, h1.trans q2, q2⟩
theorem lead_bound {k l : Int32} (hl : 0 ≤ l.toInt ∧ l.toInt ≤ 9) : 0 ≤ (leadV k l).toInt ∧ (leadV k l).toInt ≤ 18 := by
  have t2' : (2 : Int32).toInt = 2 := by decide
  unfold leadV
  by_cases h : k < 4
  · rw [if_pos h]; omega
  · rw [if_neg h, Int32.toInt_mul, t2']
    simp only [Int.bmod]
    omega
theorem sub_toInt {a b : Int32} (ha : 0 ≤ a.toInt ∧ a.toInt ≤ 1000000) (hb : 0 ≤ b.toInt ∧ b.toInt ≤ 1000000) : (a - b).toInt = a.toInt - b.toInt := by
  rw [Int32.toInt_sub]
  simp only [Int.bmod]
  omega
theorem add_toInt {a b : Int32} (ha : 0 ≤ a.toInt ∧ a.toInt ≤ 1000000) (hb : 0 ≤ b.toInt ∧ b.toInt ≤ 1000000) : (a + b).toInt = a.toInt + b.toInt := by
  rw [Int32.toInt_add]
  simp only [Int.bmod]
  omega
theorem s_load (x : Int32) : Sim (j_Fc_load x) (j_Md_load x) := by
  intro M h
  have hR := h
  obtain ⟨nc, nt, nr, d1, d2⟩ := h.1
  have hc0 : gi M 3 0 = nI nc := d1.1.1
  have hm0 : gi M 327 4 = nI nc := d2.2.1.1
  have n6 : nc ≤ 6 := d2.1.1
  rcases there_or (n := nc) x (by omega) with hx | ⟨c, hc, rfl⟩
  · refine ⟨-1000001, M, M, ?_, ?_, hR⟩
    · simp only [j_Fc_load, hasCan_no hc0 (by omega) hx, bd_some, z0, if_true]
    · simp only [j_Md_load, isCan_no hm0 (by omega) hx, bd_some, z0, if_true]
  · have hcan := d1.2.2.2.2.1 c hc
    have hI := d2.2.2.2.2.1 c hc
    have hin := inb_nI (show c < 6 by omega) (show 6 < 2 ^ 31 by omega)
    have hix := ix_nI (show c < 2 ^ 31 by omega)
    simp only [row_at, Nat.reduceAdd] at hcan hI
    obtain ⟨r1, r2, r3, r4⟩ := hcan
    have rl : gi M 4 0 = gi M 327 0 := by have := d1.2.2.2.1 0 (by omega); rw [row_at] at this; exact this
    have hl := d2.2.2.1
    simp only [row_at] at hl
    have hlead : j_Day_leadOf 3 (nI c) M = some (leadV (gi M 327 (13 + 4 * c)) (gi M 327 0), M) := by
      simp only [j_Day_leadOf, gd_t hin, hix, Nat.reduceAdd, r1, rl, kinds_lead hI.1, bd_some]
    have hcam := nn_in (d1.2.1) (d2.2.2.2.1) (by omega)
    simp only [row_at] at hcam
    rcases hcam with ⟨cam1, cam2⟩ | ⟨c', hc', cam1, cam2⟩
    · have mneg : (gi M 327 11) < 0 := by rw [cam2]; decide
      by_cases hw : gi M 327 (13 + 4 * c + 2) = 0
      · by_cases hlt : gi M 327 (13 + 4 * c + 1) < leadV (gi M 327 (13 + 4 * c)) (gi M 327 0)
        · refine ⟨-1000002, M, M, ?_, ?_, hR⟩
          · simp only [j_Fc_load, hasCan_yes hc0 (by omega) hc, bd_some, z1, if_false, cam1, if_true, gd_t hin, hix, r3, hw, hlead, r2, hlt]
          · simp only [j_Md_load, isCan_yes hm0 (by omega) hc, bd_some, z1, if_false, mneg, if_true, md_where (show c < 7 by omega), hw, md_feet (show c < 7 by omega), md_lead (show c < 7 by omega), hlt]
        · obtain ⟨Mk, k1, k2⟩ := keep_day hR
          obtain ⟨LV, hLV⟩ : ∃ v, v = leadV (gi M 327 (13 + 4 * c)) (gi M 327 0) := ⟨_, rfl⟩
          rw [← hLV] at hlt hlead
          obtain ⟨M1, hM1⟩ : ∃ M1, M1 = uI (uI (uI (uI (uI Mk 7 c 1) 6 c (gi M 327 (13 + 4 * c + 1) - LV)) 3 7 (gi M 327 9 + LV)) 3 3 (nI c)) 3 4 0 := ⟨_, rfl⟩
          have fr1 : ∀ a i, (a < 3 ∨ 14 < a) → gi M1 a i = gi Mk a i := fun a i ha => by rw [hM1, gi_uIa _ _ _ _ _ _ (by omega), gi_uIa _ _ _ _ _ _ (by omega), gi_uIa _ _ _ _ _ _ (by omega), gi_uIa _ _ _ _ _ _ (by omega), gi_uIa _ _ _ _ _ _ (by omega)]
          obtain ⟨Mn, m1, m2⟩ := notes_row (M1 := M1) hR (by rw [fr1 326 3 (by omega)]; exact k2 326 3 (by omega))
          have r0' : ∀ i, gi M1 327 i = gi M 327 i := fun i => by rw [fr1 327 i (by omega), k2 327 i (by omega)]
          have r0 : ∀ i, gi Mn 327 i = gi M 327 i := fun i => by rw [m2 327 i (by omega) (by omega), r0']
          have kk : ∀ b i, 3 ≤ b → b ≤ 14 → gi Mk b i = gi M b i := fun b i h1 h2 => k2 b i (by omega)
          refine ⟨gi M 327 (13 + 4 * c + 1) - LV, M1, uI (uI (uI (uI (uI Mn 327 (13 + 4 * c + 1) (gi M 327 (13 + 4 * c + 1) - LV)) 327 (13 + 4 * c + 2) 1) 327 9 (gi M 327 9 + LV)) 327 11 (nI c)) 327 12 0, ?_, ?_, ?_⟩
          · have g9 : gi M 3 7 = gi M 327 9 := by have := d1.2.2.1.2.2.2.1; rw [row_at] at this; exact this
            have hlead2 : j_Day_leadOf 3 (nI c) Mk = some (LV, Mk) := by
              simp only [j_Day_leadOf, gd_t hin, hix, Nat.reduceAdd, kk 5 c (by omega) (by omega), kk 4 0 (by omega) (by omega), r1, rl, kinds_lead hI.1, bd_some, hLV]
            have q1 : gi (uI Mk 7 c 1) 6 c = gi M 327 (13 + 4 * c + 1) := by rw [gi_uIa _ _ _ _ _ _ (by omega), kk 6 c (by omega) (by omega)]; exact r2
            have q2 : gi (uI (uI Mk 7 c 1) 6 c (gi M 327 (13 + 4 * c + 1) - LV)) 3 7 = gi M 327 9 := by rw [gi_uIa _ _ _ _ _ _ (by omega), gi_uIa _ _ _ _ _ _ (by omega), kk 3 7 (by omega) (by omega)]; exact g9
            have q3 : gi (uI (uI (uI (uI (uI Mk 7 c 1) 6 c (gi M 327 (13 + 4 * c + 1) - LV)) 3 7 (gi M 327 9 + LV)) 3 3 (nI c)) 3 4 0) 6 c = gi M 327 (13 + 4 * c + 1) - LV := by rw [gi_uIa _ _ _ _ _ _ (by omega), gi_uIa _ _ _ _ _ _ (by omega), gi_uIa _ _ _ _ _ _ (by omega), gi_uIs]
            simp only [j_Fc_load, hasCan_yes hc0 (by omega) hc, bd_some, z1, if_false, cam1, if_true, gd_t hin, hix, r3, hw, hlead, r2, hlt, k1, j_Day_thread, hlead2, Nat.reduceAdd, sq_eq, q1, q2, q3, hM1]
          · have hM2 : ∀ A : Mem, (∀ i, gi A 327 i = gi M 327 i) → j_Md_lead 327 (nI c) A = some (LV, A) := fun A hA => by rw [md_lead (by omega), hA, hA, hLV]
            have q1 : gi (uI (uI Mn 327 (13 + 4 * c + 1) (gi M 327 (13 + 4 * c + 1) - LV)) 327 (13 + 4 * c + 2) 1) 327 9 = gi M 327 9 := by rw [gi_uIi _ _ _ _ _ _ (by omega), gi_uIi _ _ _ _ _ _ (by omega)]; exact r0 9
            have q2 : gi (uI (uI (uI (uI (uI Mn 327 (13 + 4 * c + 1) (gi M 327 (13 + 4 * c + 1) - LV)) 327 (13 + 4 * c + 2) 1) 327 9 (gi M 327 9 + LV)) 327 11 (nI c)) 327 12 0) 327 (13 + 4 * c + 1) = gi M 327 (13 + 4 * c + 1) - LV := by rw [gi_uIi _ _ _ _ _ _ (by omega), gi_uIi _ _ _ _ _ _ (by omega), gi_uIi _ _ _ _ _ _ (by omega), gi_uIi _ _ _ _ _ _ (by omega), gi_uIs]
            simp only [j_Md_load, isCan_yes ((r0' 4).trans hm0) (by omega) hc, bd_some, z1, if_false, r0', mneg, if_true, md_where (show c < 7 by omega), hw, md_feet (show c < 7 by omega), hM2 M1 r0', hlt, m1, hM2 Mn r0, i4, nI_1, nI_p2, gd_t (inb_nI (show 13 + 4 * c + 1 < 89 by omega) (by omega)), gd_t (inb_nI (show 13 + 4 * c + 2 < 89 by omega) (by omega)), ix_nI (show 13 + 4 * c + 1 < 2 ^ 31 by omega), ix_nI (show 13 + 4 * c + 2 < 2 ^ 31 by omega), sq_eq, r0, q1, q2]
          · have hLb : 0 ≤ LV.toInt ∧ LV.toInt ≤ 18 := by rw [hLV]; exact lead_bound ⟨hl.1, hl.2.1⟩
            have hsub : (gi M 327 (13 + 4 * c + 1) - LV).toInt = (gi M 327 (13 + 4 * c + 1)).toInt - LV.toInt := sub_toInt (by omega) (by omega)
            have hge : ¬ (gi M 327 (13 + 4 * c + 1)).toInt < LV.toInt := fun q => hlt (i32_lt.mpr q)
            have hD := dr_croll (v := 0) d2.1 (dr_in (nn_nI (show c < 2 ^ 31 by omega)) d2.1 (dr_waste (v := gi M 327 9 + LV) d2.1 (dr_feet (v := gi M 327 (13 + 4 * c + 1) - LV) hc d2.1 (dr_where (v := 1) hc d2.1 (dr_keep d2.1 kk d1)))))
            rw [← hM1] at hD
            have hI3 := iv_misc (k := 12) (v := 0) (by omega) (iv_misc (k := 9) (v := gi M 327 9 + LV) (by omega) (iv_load hc (by rw [fu_ne (by omega), row_at]; exact cam2) (iv_feet (v := gi M 327 (13 + 4 * c + 1) - LV) hc (by rw [hsub]; omega) d2)))
            refine act_rel hR ⟨Mk, k1, fun a i ha => fr1 a i (by omega)⟩ (dr_row d2.1 (fun i hi => ?_) hD) ⟨Mn, m1, fun a i ha => by rw [gi_uIa _ _ _ _ _ _ (by omega), gi_uIa _ _ _ _ _ _ (by omega), gi_uIa _ _ _ _ _ _ (by omega), gi_uIa _ _ _ _ _ _ (by omega), gi_uIa _ _ _ _ _ _ (by omega)]⟩ (fun i _ => row_u (row_u (row_u (row_u (row_u (row_0 r0))))) i) (hI3.cong (fun i hi => ?_))
            · clear hD hI3 hM1 fr1 m2 r0 r0' kk k2 k1 m1; unfold fu; grind
            · clear hD hI3 hM1 fr1 m2 r0 r0' kk k2 k1 m1; unfold fu; grind
      · refine ⟨-1000002, M, M, ?_, ?_, hR⟩
        · simp only [j_Fc_load, hasCan_yes hc0 (by omega) hc, bd_some, z1, if_false, cam1, if_true, gd_t hin, hix, r3, hw]
        · simp only [j_Md_load, isCan_yes hm0 (by omega) hc, bd_some, z1, if_false, mneg, if_true, md_where (show c < 7 by omega), hw]
    · refine ⟨-1000002, M, M, ?_, ?_, hR⟩
      · have : ¬ nI c' = -1000000 := by rw [i32_eq, nI_toInt (by omega), tN]; omega
        simp only [j_Fc_load, hasCan_yes hc0 (by omega) hc, bd_some, z1, if_false, cam1, this]
      · have : ¬ nI c' < 0 := nI_pos (by omega)
        simp only [j_Md_load, isCan_yes hm0 (by omega) hc, bd_some, z1, if_false, cam2, this]
