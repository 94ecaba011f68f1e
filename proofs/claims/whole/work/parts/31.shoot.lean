theorem slate_bound (k : Int32) : 0 ≤ (slateV k).toInt ∧ (slateV k).toInt ≤ 1 := by
  unfold slateV
  by_cases h : k = 3
  · rw [if_pos h]; decide
  · rw [if_neg h]; decide
theorem md_serves {a c t : Nat} {M : Mem} (hc : c < 7) (ht : t < 8) (hk : 1 ≤ (gi M a (13 + 4 * c)).toInt ∧ (gi M a (13 + 4 * c)).toInt ≤ 5) (hk2 : 0 ≤ (gi M a (41 + 3 * t)).toInt ∧ (gi M a (41 + 3 * t)).toInt ≤ 5) : j_Md_serves a (nI c) (nI t) M = some (if isOfV (gi M a (13 + 4 * c)) (gi M a (41 + 3 * t)) = true then 1 else 0, M) := by
  simp only [j_Md_serves, md_kind hc, bd_some, i3, gd_t (inb_nI (show 41 + 3 * t < 89 by omega) (by omega)), ix_nI (show 41 + 3 * t < 2 ^ 31 by omega), md_isOf hk hk2, gd_t isB_01]
theorem day_serves {c t : Nat} {M : Mem} (hc : c < 6) (ht : t < 8) (hk : 1 ≤ (gi M 5 c).toInt ∧ (gi M 5 c).toInt ≤ 5) (hk2 : 0 ≤ (gi M 9 t).toInt ∧ (gi M 9 t).toInt ≤ 5) : j_Day_serves 3 (nI c) (nI t) M = some (if isOfV (gi M 5 c) (gi M 9 t) = true then 1 else 0, M) := by
  simp only [j_Day_serves, gd_t (inb_nI hc (show 6 < 2 ^ 31 by omega)), gd_t (inb_nI ht (show 8 < 2 ^ 31 by omega)), ix_nI (show c < 2 ^ 31 by omega), ix_nI (show t < 2 ^ 31 by omega), Nat.reduceAdd, kinds_isOf hk hk2, bd_some, gd_t isB_01]
theorem s_shoot (x : Int32) : Sim (j_Fc_shoot x) (j_Md_shoot x) := by
  intro M h
  have hR := h
  obtain ⟨nc, nt, nr, d1, d2⟩ := h.1
  have hc0 : gi M 3 0 = nI nc := d1.1.1
  have hc1 : gi M 3 1 = nI nt := d1.1.2.1
  have hm0 : gi M 327 4 = nI nc := d2.2.1.1
  have hm1 : gi M 327 5 = nI nt := d2.2.1.2.1
  have n6 : nc ≤ 6 := d2.1.1
  have n8 : nt ≤ 8 := d2.1.2.1
  rcases there_or (n := nt) x (by omega) with hx | ⟨t, ht, rfl⟩
  · refine ⟨-1000001, M, M, ?_, ?_, hR⟩
    · simp only [j_Fc_shoot, hasTake_no hc1 (by omega) hx, bd_some, z0, if_true]
    · simp only [j_Md_shoot, isTake_no hm1 (by omega) hx, bd_some, z0, if_true]
  · have htk := d1.2.2.2.2.2.1 t ht
    have hT := d2.2.2.2.2.2.1 t ht
    simp only [row_at, Nat.reduceAdd] at htk hT
    obtain ⟨u1, u2, u3⟩ := htk
    have hin8 := inb_nI (show t < 8 by omega) (show 8 < 2 ^ 31 by omega)
    have hix8 := ix_nI (show t < 2 ^ 31 by omega)
    have hcam := nn_in (d1.2.1) (d2.2.2.2.1) (by omega)
    simp only [row_at] at hcam
    rcases hcam with ⟨cam1, cam2⟩ | ⟨c, hc, cam1, cam2⟩
    · refine ⟨-1000002, M, M, ?_, ?_, hR⟩
      · have : j_Day_hasCan 3 (-1000000) M = some (0, M) := hasCan_no hc0 (by omega) (by rw [tN]; omega)
        simp only [j_Fc_shoot, hasTake_yes hc1 (by omega) ht, bd_some, z1, z0, if_false, if_true, lq_eq, cam1, this]
      · have : (-1 : Int32) < 0 := by decide
        simp only [j_Md_shoot, isTake_yes hm1 (by omega) ht, bd_some, z1, z0, if_false, if_true, lq_eq, cam2, this]
    · have hcan := d1.2.2.2.2.1 c hc
      have hI := d2.2.2.2.2.1 c hc
      have hin := inb_nI (show c < 6 by omega) (show 6 < 2 ^ 31 by omega)
      have hix := ix_nI (show c < 2 ^ 31 by omega)
      simp only [row_at, Nat.reduceAdd] at hcan hI
      obtain ⟨r1, r2, r3, r4⟩ := hcan
      have mpos : ¬ nI c < 0 := nI_pos (by omega)
      have ho : j_Day_isOpen 3 (nI t) M = some (if (gi M 327 (41 + 3 * t + 2)).toInt < 0 then 1 else 0, M) := day_isOpen (d := 3) (M := M) (show t < 8 by omega) u3
      by_cases hop : (gi M 327 (41 + 3 * t + 2)).toInt < 0
      · have hsv : j_Day_serves 3 (nI c) (nI t) M = some (if isOfV (gi M 327 (13 + 4 * c)) (gi M 327 (41 + 3 * t)) = true then 1 else 0, M) := by
          have := day_serves (c := c) (t := t) (M := M) (by omega) (by omega) (by rw [r1]; exact hI.1) (by rw [u1]; exact hT.1)
          rw [r1, u1] at this; exact this
        have hsm : ∀ A : Mem, (∀ i, gi A 327 i = gi M 327 i) → j_Md_serves 327 (nI c) (nI t) A = some (if isOfV (gi M 327 (13 + 4 * c)) (gi M 327 (41 + 3 * t)) = true then 1 else 0, A) := fun A hA => by
          have := md_serves (a := 327) (c := c) (t := t) (M := A) (by omega) (by omega) (by rw [hA]; exact hI.1) (by rw [hA]; exact hT.1)
          rw [hA, hA] at this; exact this
        by_cases hs : isOfV (gi M 327 (13 + 4 * c)) (gi M 327 (41 + 3 * t)) = true
        · obtain ⟨SV, hSV⟩ : ∃ v, v = slateV (gi M 327 (13 + 4 * c)) := ⟨_, rfl⟩
          have hsl : ∀ A : Mem, j_Kinds_slateOf (gi M 327 (13 + 4 * c)) A = some (SV, A) := fun A => by rw [kinds_slate hI.1, hSV]
          have hslm : ∀ A : Mem, gi A 327 (13 + 4 * c) = gi M 327 (13 + 4 * c) → j_Md_slate 327 (nI c) A = some (SV, A) := fun A hA => by rw [md_slate (by omega), hA, hSV]
          by_cases hlt : gi M 327 (13 + 4 * c + 1) < gi M 327 (41 + 3 * t + 1) + SV
          · refine ⟨-1000003, M, M, ?_, ?_, hR⟩
            · simp only [j_Fc_shoot, hasTake_yes hc1 (by omega) ht, bd_some, z1, z0, if_false, if_true, lq_eq, cam1, hasCan_yes hc0 (by omega) hc, ho, hop, hsv, hs, gd_t hin, gd_t hin8, hix, hix8, r1, hsl, r2, u2, hlt]
            · simp only [j_Md_shoot, isTake_yes hm1 (by omega) ht, bd_some, z1, z0, if_false, if_true, lq_eq, cam2, mpos, md_isOpen (show t < 8 by omega), hop, hsm M (fun _ => rfl), hs, i3, nI_1, gd_t (inb_nI (show 41 + 3 * t + 1 < 89 by omega) (by omega)), ix_nI (show 41 + 3 * t + 1 < 2 ^ 31 by omega), md_feet (show c < 7 by omega), hslm M rfl, hlt]
          · obtain ⟨Mk, k1, k2⟩ := keep_day hR
            have kk : ∀ b i, 3 ≤ b → b ≤ 14 → gi Mk b i = gi M b i := fun b i h1 h2 => k2 b i (by omega)
            obtain ⟨F, hF⟩ : ∃ v, v = gi M 327 (41 + 3 * t + 1) := ⟨_, rfl⟩
            rw [← hF] at hlt u2 hT
            obtain ⟨M1, hM1⟩ : ∃ M1, M1 = uI (uI (uI (uI (uI Mk 6 c (gi M 327 (13 + 4 * c + 1) - (F + SV))) 3 6 (gi M 327 8 + F)) 3 7 (gi M 327 9 + SV)) 3 4 (gi M 327 12 + F)) 11 t (nI c) := ⟨_, rfl⟩
            have fr1 : ∀ a i, (a < 3 ∨ 14 < a) → gi M1 a i = gi Mk a i := fun a i ha => by rw [hM1, gi_uIa _ _ _ _ _ _ (by omega), gi_uIa _ _ _ _ _ _ (by omega), gi_uIa _ _ _ _ _ _ (by omega), gi_uIa _ _ _ _ _ _ (by omega), gi_uIa _ _ _ _ _ _ (by omega)]
            obtain ⟨Mn, m1, m2⟩ := notes_row (M1 := M1) hR (by rw [fr1 326 3 (by omega)]; exact k2 326 3 (by omega))
            have r0' : ∀ i, gi M1 327 i = gi M 327 i := fun i => by rw [fr1 327 i (by omega), k2 327 i (by omega)]
            have r0 : ∀ i, gi Mn 327 i = gi M 327 i := fun i => by rw [m2 327 i (by omega) (by omega), r0']
            have g8 : gi Mk 3 6 = gi M 327 8 := by rw [kk 3 6 (by omega) (by omega)]; have := d1.2.2.1.2.2.1; rw [row_at] at this; exact this
            have g9 : gi Mk 3 7 = gi M 327 9 := by rw [kk 3 7 (by omega) (by omega)]; have := d1.2.2.1.2.2.2.1; rw [row_at] at this; exact this
            have g12 : gi Mk 3 4 = gi M 327 12 := by rw [kk 3 4 (by omega) (by omega)]; have := d1.2.2.1.1; rw [row_at] at this; exact this
            refine ⟨gi M 327 (13 + 4 * c + 1) - (F + SV), M1, uI (uI (uI (uI (uI Mn 327 (13 + 4 * c + 1) (gi M 327 (13 + 4 * c + 1) - (F + SV))) 327 8 (gi M 327 8 + F)) 327 9 (gi M 327 9 + SV)) 327 12 (gi M 327 12 + F)) 327 (41 + 3 * t + 2) (nI c), ?_, ?_, ?_⟩
            · have q0 : gi Mk 10 t = F := by rw [kk 10 t (by omega) (by omega)]; exact u2
              have q1 : gi Mk 5 c = gi M 327 (13 + 4 * c) := by rw [kk 5 c (by omega) (by omega)]; exact r1
              have q2 : gi Mk 6 c = gi M 327 (13 + 4 * c + 1) := by rw [kk 6 c (by omega) (by omega)]; exact r2
              have q3 : gi (uI Mk 6 c (gi M 327 (13 + 4 * c + 1) - (F + SV))) 3 6 = gi M 327 8 := by rw [gi_uIa _ _ _ _ _ _ (by omega)]; exact g8
              have q4 : gi (uI (uI Mk 6 c (gi M 327 (13 + 4 * c + 1) - (F + SV))) 3 6 (gi M 327 8 + F)) 3 7 = gi M 327 9 := by rw [gi_uIi _ _ _ _ _ _ (by omega), gi_uIa _ _ _ _ _ _ (by omega)]; exact g9
              have q5 : gi (uI (uI (uI Mk 6 c (gi M 327 (13 + 4 * c + 1) - (F + SV))) 3 6 (gi M 327 8 + F)) 3 7 (gi M 327 9 + SV)) 3 4 = gi M 327 12 := by rw [gi_uIi _ _ _ _ _ _ (by omega), gi_uIi _ _ _ _ _ _ (by omega), gi_uIa _ _ _ _ _ _ (by omega)]; exact g12
              have q6 : gi (uI (uI (uI (uI (uI Mk 6 c (gi M 327 (13 + 4 * c + 1) - (F + SV))) 3 6 (gi M 327 8 + F)) 3 7 (gi M 327 9 + SV)) 3 4 (gi M 327 12 + F)) 11 t (nI c)) 6 c = gi M 327 (13 + 4 * c + 1) - (F + SV) := by rw [gi_uIa _ _ _ _ _ _ (by omega), gi_uIa _ _ _ _ _ _ (by omega), gi_uIa _ _ _ _ _ _ (by omega), gi_uIa _ _ _ _ _ _ (by omega), gi_uIs]
              simp only [j_Fc_shoot, hasTake_yes hc1 (by omega) ht, bd_some, z1, z0, if_false, if_true, lq_eq, cam1, hasCan_yes hc0 (by omega) hc, ho, hop, hsv, hs, gd_t hin, gd_t hin8, hix, hix8, r1, hsl, r2, u2, hlt, k1, j_Day_expose, Nat.reduceAdd, q0, q1, q2, sq_eq, q3, q4, q5, q6, hM1]
            · have q1 : gi (uI Mn 327 (13 + 4 * c + 1) (gi M 327 (13 + 4 * c + 1) - (F + SV))) 327 8 = gi M 327 8 := by rw [gi_uIi _ _ _ _ _ _ (by omega)]; exact r0 8
              have q2 : gi (uI (uI Mn 327 (13 + 4 * c + 1) (gi M 327 (13 + 4 * c + 1) - (F + SV))) 327 8 (gi M 327 8 + F)) 327 9 = gi M 327 9 := by rw [gi_uIi _ _ _ _ _ _ (by omega), gi_uIi _ _ _ _ _ _ (by omega)]; exact r0 9
              have q3 : gi (uI (uI (uI Mn 327 (13 + 4 * c + 1) (gi M 327 (13 + 4 * c + 1) - (F + SV))) 327 8 (gi M 327 8 + F)) 327 9 (gi M 327 9 + SV)) 327 12 = gi M 327 12 := by rw [gi_uIi _ _ _ _ _ _ (by omega), gi_uIi _ _ _ _ _ _ (by omega), gi_uIi _ _ _ _ _ _ (by omega)]; exact r0 12
              have q4 : gi (uI (uI (uI (uI (uI Mn 327 (13 + 4 * c + 1) (gi M 327 (13 + 4 * c + 1) - (F + SV))) 327 8 (gi M 327 8 + F)) 327 9 (gi M 327 9 + SV)) 327 12 (gi M 327 12 + F)) 327 (41 + 3 * t + 2) (nI c)) 327 (13 + 4 * c + 1) = gi M 327 (13 + 4 * c + 1) - (F + SV) := by rw [gi_uIi _ _ _ _ _ _ (by omega), gi_uIi _ _ _ _ _ _ (by omega), gi_uIi _ _ _ _ _ _ (by omega), gi_uIi _ _ _ _ _ _ (by omega), gi_uIs]
              have s2 := hslm (uI (uI Mn 327 (13 + 4 * c + 1) (gi M 327 (13 + 4 * c + 1) - (F + SV))) 327 8 (gi M 327 8 + F)) (by rw [gi_uIi _ _ _ _ _ _ (by omega), gi_uIi _ _ _ _ _ _ (by omega)]; exact r0 _)
              simp only [j_Md_shoot, isTake_yes ((r0' 5).trans hm1) (by omega) ht, bd_some, z1, z0, if_false, if_true, lq_eq, r0', cam2, mpos, md_isOpen (show t < 8 by omega), hop, hsm M1 r0', hs, i3, i4, nI_1, nI_p2, gd_t (inb_nI (show 41 + 3 * t + 1 < 89 by omega) (by omega)), ix_nI (show 41 + 3 * t + 1 < 2 ^ 31 by omega), gd_t (inb_nI (show 41 + 3 * t + 2 < 89 by omega) (by omega)), ix_nI (show 41 + 3 * t + 2 < 2 ^ 31 by omega), gd_t (inb_nI (show 13 + 4 * c + 1 < 89 by omega) (by omega)), ix_nI (show 13 + 4 * c + 1 < 2 ^ 31 by omega), md_feet (show c < 7 by omega), hslm M1 (r0' _), hslm Mn (r0 _), ← hF, hlt, m1, r0, sq_eq, q1, q2, q3, q4, s2]
            · have hSb : 0 ≤ SV.toInt ∧ SV.toInt ≤ 1 := by rw [hSV]; exact slate_bound _
              have hadd : (F + SV).toInt = F.toInt + SV.toInt := add_toInt (by omega) (by omega)
              have hsub : (gi M 327 (13 + 4 * c + 1) - (F + SV)).toInt = (gi M 327 (13 + 4 * c + 1)).toInt - (F.toInt + SV.toInt) := by rw [sub_toInt (by omega) (by omega), hadd]
              have hge : ¬ (gi M 327 (13 + 4 * c + 1)).toInt < (F + SV).toInt := fun q => hlt (i32_lt.mpr q)
              have hD := dr_tcan (v := nI c) (v2 := nI c) ht (nn_nI (show c < 2 ^ 31 by omega)) d2.1 (dr_croll (v := gi M 327 12 + F) d2.1 (dr_waste (v := gi M 327 9 + SV) d2.1 (dr_exposed (v := gi M 327 8 + F) d2.1 (dr_feet (v := gi M 327 (13 + 4 * c + 1) - (F + SV)) hc d2.1 (dr_keep d2.1 kk d1)))))
              rw [← hM1] at hD
              exact act_rel hR ⟨Mk, k1, fun a i ha => fr1 a i (by omega)⟩ hD ⟨Mn, m1, fun a i ha => by rw [gi_uIa _ _ _ _ _ _ (by omega), gi_uIa _ _ _ _ _ _ (by omega), gi_uIa _ _ _ _ _ _ (by omega), gi_uIa _ _ _ _ _ _ (by omega), gi_uIa _ _ _ _ _ _ (by omega)]⟩ (fun i _ => row_u (row_u (row_u (row_u (row_u (row_0 r0))))) i) (iv_tcan (v := nI c) ht (by rw [nI_toInt (by omega)]; omega) (iv_misc (by omega) (iv_misc (by omega) (iv_misc (by omega) (iv_feet hc (by rw [hsub]; omega) d2)))))
        · refine ⟨-1000002, M, M, ?_, ?_, hR⟩
          · simp only [j_Fc_shoot, hasTake_yes hc1 (by omega) ht, bd_some, z1, z0, if_false, if_true, lq_eq, cam1, hasCan_yes hc0 (by omega) hc, ho, hop, hsv, hs, Bool.false_eq_true]
          · simp only [j_Md_shoot, isTake_yes hm1 (by omega) ht, bd_some, z1, z0, if_false, if_true, lq_eq, cam2, mpos, md_isOpen (show t < 8 by omega), hop, hsm M (fun _ => rfl), hs, Bool.false_eq_true]
      · refine ⟨-1000002, M, M, ?_, ?_, hR⟩
        · simp only [j_Fc_shoot, hasTake_yes hc1 (by omega) ht, bd_some, z1, z0, if_false, if_true, lq_eq, cam1, hasCan_yes hc0 (by omega) hc, ho, hop]
        · simp only [j_Md_shoot, isTake_yes hm1 (by omega) ht, bd_some, z1, z0, if_false, if_true, lq_eq, cam2, mpos, md_isOpen (show t < 8 by omega), hop]
