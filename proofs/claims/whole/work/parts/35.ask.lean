theorem i10 : ¬ (1 : Int32) = 0 := by decide
theorem s_roll (x y : Int32) : Sim (j_Fc_roll x y) (j_Md_roll x y) := by
  intro M h
  have hR := h
  obtain ⟨nc, nt, nr, d1, d2⟩ := h.1
  have hc : gi M 3 2 = nI nr := d1.1.2.2
  have hm : gi M 327 6 = nI nr := d2.2.1.2.2
  have n8 : nr ≤ 8 := d2.1.2.2
  have hin := md_in (M := M) x 0 (nI nr - 1) rfl l0 rfl
  rw [t0, nI_sub1 (show nr < 2 ^ 31 by omega)] at hin
  have hin2 : j_Md_in (Int32.toInt64 y) 0 2 M = some (if 0 ≤ y.toInt ∧ y.toInt ≤ 2 then 1 else 0, M) := md_in y 0 2 rfl rfl rfl
  rcases there_or (n := nr) x (by omega) with hx | ⟨r, hr, rfl⟩
  · refine ⟨-1000001, M, M, ?_, ?_, hR⟩
    · simp only [j_Fc_roll, hc, i32_lt, t0, nI_toInt (show nr < 2 ^ 31 by omega)]
      by_cases c : x.toInt < 0
      · rw [if_pos c]
      · rw [if_neg c, if_neg (by omega)]
    · have : ¬ (0 ≤ x.toInt ∧ x.toInt ≤ (nr : Int) - 1) := by omega
      simp only [j_Md_roll, hm, hin, this, if_false, bd_some, z0, if_true]
  · have hr1 := d1.2.2.2.2.2.2 r hr
    have c1 : ¬ nI r < 0 := nI_pos (by omega)
    have c2 : nI r < nI nr := nI_lt hr (by omega)
    have hi := inb_nI (show r < 8 by omega) (show 8 < 2 ^ 31 by omega)
    have hx := ix_nI (show r < 2 ^ 31 by omega)
    have c3 : 0 ≤ (nI r).toInt ∧ (nI r).toInt ≤ (nr : Int) - 1 := by rw [nI_toInt (by omega)]; omega
    simp only [row_at] at hr1
    by_cases hy : 0 ≤ y.toInt ∧ y.toInt ≤ 2
    · have h3 : y = nI 0 ∨ y = nI 1 ∨ y = nI 2 := by
        rcases i32_cases y with q | ⟨j, q1, rfl⟩
        · omega
        · rw [nI_toInt q1] at hy
          have : j = 0 ∨ j = 1 ∨ j = 2 := by omega
          rcases this with q | q | q <;> subst q <;> simp
      have key : ∀ j : Nat, j ≤ 2 → ((65 : Int32) + (3 : Int32) * nI r) + nI j = nI (65 + 3 * r + j) := fun j _ => by rw [i65]; exact nI_add _ j
      have e0 : (nI 0 = (0 : Int32)) = True := by simp; rfl
      have e1 : (nI 1 = (0 : Int32)) = False := by simp; decide
      have e2 : (nI 1 = (1 : Int32)) = True := by simp; rfl
      have e3 : (nI 2 = (0 : Int32)) = False := by simp; decide
      have e4 : (nI 2 = (1 : Int32)) = False := by simp; decide
      have e5 : (nI 2 = (2 : Int32)) = True := by simp; rfl
      rcases h3 with q | q | q <;> subst q
      · refine ⟨gi M 327 (65 + 3 * r), M, M, ?_, ?_, hR⟩
        · simp only [j_Fc_roll, hc, c1, c2, if_true, if_false, e0, gd_t hi, hx, hr1.1]
        · simp only [j_Md_roll, hm, hin, c3, and_self, if_true, bd_some, z1, if_false, hin2, hy, key 0 (by omega), gd_t (inb_nI (show 65 + 3 * r + 0 < 89 by omega) (by omega)), ix_nI (show 65 + 3 * r + 0 < 2 ^ 31 by omega)]
          rfl
      · refine ⟨gi M 327 (65 + 3 * r + 1), M, M, ?_, ?_, hR⟩
        · simp only [j_Fc_roll, hc, c1, c2, if_true, if_false, e1, e2, gd_t hi, hx, hr1.2.1]
        · simp only [j_Md_roll, hm, hin, c3, and_self, if_true, bd_some, z1, if_false, hin2, hy, key 1 (by omega), gd_t (inb_nI (show 65 + 3 * r + 1 < 89 by omega) (by omega)), ix_nI (show 65 + 3 * r + 1 < 2 ^ 31 by omega)]
      · refine ⟨gi M 327 (65 + 3 * r + 2), M, M, ?_, ?_, hR⟩
        · simp only [j_Fc_roll, hc, c1, c2, if_true, if_false, e3, e4, e5, gd_t hi, hx, hr1.2.2]
        · simp only [j_Md_roll, hm, hin, c3, and_self, if_true, bd_some, z1, if_false, hin2, hy, key 2 (by omega), gd_t (inb_nI (show 65 + 3 * r + 2 < 89 by omega) (by omega)), ix_nI (show 65 + 3 * r + 2 < 2 ^ 31 by omega)]
    · have a0 : ¬ y = 0 := by rw [i32_eq, t0]; omega
      have a1 : ¬ y = 1 := by rw [i32_eq, t1]; omega
      have a2 : ¬ y = 2 := by rw [i32_eq, t2]; omega
      refine ⟨-1000001, M, M, ?_, ?_, hR⟩
      · simp only [j_Fc_roll, hc, c1, c2, if_true, if_false, a0, a1, a2]
      · simp only [j_Md_roll, hm, hin, c3, and_self, if_true, bd_some, z1, z0, if_false, hin2, hy]
theorem s_as (x y : Int32) : Sim (j_Fc_as x y) (j_Md_as x y) := by
  intro M h
  have hR := h
  obtain ⟨nc, nt, nr, d1, d2⟩ := h.1
  have hc0 : gi M 3 0 = nI nc := d1.1.1
  have hm0 : gi M 327 4 = nI nc := d2.2.1.1
  have n6 : nc ≤ 6 := d2.1.1
  rcases there_or (n := nc) x (by omega) with hx | ⟨c, hc, rfl⟩
  · refine ⟨-1000001, M, M, ?_, ?_, hR⟩
    · simp only [j_Fc_as, hasCan_no hc0 (by omega) hx, bd_some, z0, if_true]
    · simp only [j_Md_as, isCan_no hm0 (by omega) hx, bd_some, z0, if_true]
  · have hcan := d1.2.2.2.2.1 c hc
    have hI := d2.2.2.2.2.1 c hc
    simp only [row_at] at hcan hI
    have hin := inb_nI (show c < 6 by omega) (show 6 < 2 ^ 31 by omega)
    have hix := ix_nI (show c < 2 ^ 31 by omega)
    have r1 : gi M 5 c = gi M 327 (13 + 4 * c) := hcan.1
    have m05 := md_in05 (x := y) (M := M)
    by_cases hy : 0 ≤ y.toInt ∧ y.toInt ≤ 5
    · by_cases ho : isOfV (gi M 327 (13 + 4 * c)) y = true
      · refine ⟨nI c, M, M, ?_, ?_, hR⟩
        · simp only [j_Fc_as, hasCan_yes hc0 (by omega) hc, bd_some, z1, if_false, isKind_eq, hy, and_self, if_true, gd_t hin, hix, r1, kinds_isOf hI.1 hy, ho, Bool.false_eq_true]
        · simp only [j_Md_as, isCan_yes hm0 (by omega) hc, bd_some, z1, if_false, m05, hy, and_self, if_true, md_kind (show c < 7 by omega), md_isOf hI.1 hy, ho, Bool.false_eq_true]
      · refine ⟨-1000000, M, M, ?_, ?_, hR⟩
        · simp only [j_Fc_as, hasCan_yes hc0 (by omega) hc, bd_some, z1, z0, if_false, isKind_eq, hy, and_self, if_true, gd_t hin, hix, r1, kinds_isOf hI.1 hy, ho, Bool.false_eq_true]
        · simp only [j_Md_as, isCan_yes hm0 (by omega) hc, bd_some, z1, z0, if_false, m05, hy, and_self, if_true, md_kind (show c < 7 by omega), md_isOf hI.1 hy, ho, Bool.false_eq_true]
    · refine ⟨-1000001, M, M, ?_, ?_, hR⟩
      · simp only [j_Fc_as, hasCan_yes hc0 (by omega) hc, bd_some, z1, z0, if_false, isKind_eq, hy, if_true]
      · simp only [j_Md_as, isCan_yes hm0 (by omega) hc, bd_some, z1, z0, if_false, m05, hy, if_true]
theorem nI_p0 (c : Nat) : nI c + 0 = nI c := nI_add c 0
theorem x07 {y : Int32} (hy : 0 ≤ y.toInt ∧ y.toInt < 8) : y = 0 ∨ y = 1 ∨ y = 2 ∨ y = 3 ∨ y = 4 ∨ y = 5 ∨ y = 6 ∨ y = 7 := by
  obtain ⟨j, hj, rfl⟩ : ∃ j, j < 8 ∧ y = nI j := by
    rcases i32_cases y with q | ⟨j, q1, rfl⟩
    · omega
    · rw [nI_toInt q1] at hy; exact ⟨j, by omega, rfl⟩
  have q8 : j = 0 ∨ j = 1 ∨ j = 2 ∨ j = 3 ∨ j = 4 ∨ j = 5 ∨ j = 6 ∨ j = 7 := by omega
  rcases q8 with q | q | q | q | q | q | q | q <;> subst q <;> decide
theorem s_can (x y : Int32) : Sim (j_Fc_can x y) (j_Md_can x y) := by
  intro M h
  have hR := h
  obtain ⟨nc, nt, nr, d1, d2⟩ := h.1
  have hc0 : gi M 3 0 = nI nc := d1.1.1
  have hm0 : gi M 327 4 = nI nc := d2.2.1.1
  have hc1 : gi M 3 1 = nI nt := d1.1.2.1
  have hm1 : gi M 327 5 = nI nt := d2.2.1.2.1
  have n6 : nc ≤ 6 := d2.1.1
  have n8 : nt ≤ 8 := d2.1.2.1
  rcases there_or (n := nc) x (by omega) with hx | ⟨c, hc, rfl⟩
  · refine ⟨-1000001, M, M, ?_, ?_, hR⟩
    · simp only [j_Fc_can, hasCan_no hc0 (by omega) hx, bd_some, z0, if_true]
    · simp only [j_Md_can, isCan_no hm0 (by omega) hx, bd_some, z0, if_true]
  · have hcan := d1.2.2.2.2.1 c hc
    have hI := d2.2.2.2.2.1 c hc
    have hl0 := d1.2.2.2.1 0 (by omega)
    have hl1 := d1.2.2.2.1 1 (by omega)
    simp only [row_at] at hcan hI hl0 hl1
    have hin := inb_nI (show c < 6 by omega) (show 6 < 2 ^ 31 by omega)
    have hix := ix_nI (show c < 2 ^ 31 by omega)
    have hy1 := hasCan_yes (M := M) hc0 (by omega) hc
    have hy2 := isCan_yes (M := M) hm0 (by omega) hc
    have hk5 : 1 ≤ (gi M 5 c).toInt ∧ (gi M 5 c).toInt ≤ 5 := by rw [show gi M 5 c = _ from hcan.1]; exact hI.1
    by_cases hy : 0 ≤ y.toInt ∧ y.toInt < 8
    · have q8 : y = 0 ∨ y = 1 ∨ y = 2 ∨ y = 3 ∨ y = 4 ∨ y = 5 ∨ y = 6 ∨ y = 7 := x07 hy
      rcases q8 with q | q | q | q | q | q | q | q <;> subst q
      · refine ⟨gi M 327 (13 + 4 * c), M, M, ?_, ?_, hR⟩
        · unfold j_Fc_can
          rw [hy1, bd_some, if_neg i10, if_pos rfl, gd_t hin, hix, hcan.1]
        · unfold j_Md_can
          rw [hy2, bd_some, if_neg i10, if_pos rfl, i4, nI_p0, gd_t (inb_nI (by omega) (by omega)), ix_nI (by omega)]
      · refine ⟨gi M 327 (13 + 4 * c + 1), M, M, ?_, ?_, hR⟩
        · unfold j_Fc_can
          rw [hy1, bd_some, if_neg i10, if_neg (by decide : ¬ (1 : Int32) = 0), if_pos rfl, gd_t hin, hix, hcan.2.1]
        · unfold j_Md_can
          rw [hy2, bd_some, if_neg i10, if_neg (by decide : ¬ (1 : Int32) = 0), if_pos rfl, i4, nI_1, gd_t (inb_nI (by omega) (by omega)), ix_nI (by omega)]
      · refine ⟨gi M 327 (13 + 4 * c + 2), M, M, ?_, ?_, hR⟩
        · unfold j_Fc_can
          rw [hy1, bd_some, if_neg i10, if_neg (by decide : ¬ (2 : Int32) = 0), if_neg (by decide : ¬ (2 : Int32) = 1), if_pos rfl, gd_t hin, hix, hcan.2.2.1]
        · unfold j_Md_can
          rw [hy2, bd_some, if_neg i10, if_neg (by decide : ¬ (2 : Int32) = 0), if_neg (by decide : ¬ (2 : Int32) = 1), if_pos rfl, i4, nI_p2, gd_t (inb_nI (by omega) (by omega)), ix_nI (by omega)]
      · refine ⟨gi M 327 (13 + 4 * c + 3), M, M, ?_, ?_, hR⟩
        · unfold j_Fc_can
          rw [hy1, bd_some, if_neg i10, if_neg (by decide : ¬ (3 : Int32) = 0), if_neg (by decide : ¬ (3 : Int32) = 1), if_neg (by decide : ¬ (3 : Int32) = 2), if_pos rfl, gd_t hin, hix, hcan.2.2.2]
        · unfold j_Md_can
          rw [hy2, bd_some, if_neg i10, if_neg (by decide : ¬ (3 : Int32) = 0), if_neg (by decide : ¬ (3 : Int32) = 1), if_neg (by decide : ¬ (3 : Int32) = 2), if_pos rfl, i4, nI_p3, gd_t (inb_nI (by omega) (by omega)), ix_nI (by omega)]
      · refine ⟨nI (setN (fun i => decide (gi M 327 (41 + 3 * i + 2) = nI c)) nt), M, M, ?_, ?_, hR⟩
        · unfold j_Fc_can
          rw [hy1, bd_some, if_neg i10, if_neg (by decide : ¬ (4 : Int32) = 0), if_neg (by decide : ¬ (4 : Int32) = 1), if_neg (by decide : ¬ (4 : Int32) = 2), if_neg (by decide : ¬ (4 : Int32) = 3), if_pos rfl, shotOn_c n8 hc1, bd_some]
          rw [setN_cong nt (fun i hi => ?_)]
          have ht := (d1.2.2.2.2.2.1 i hi).2.2
          rw [row_at] at ht
          apply decide_eq_decide.mpr
          have b0 : ¬ (-1000000 : Int32) = nI c := by rw [i32_eq, tN, nI_toInt (by omega)]; omega
          rcases ht with ⟨g1, g2⟩ | ⟨g1, g2⟩
          · rw [g1, g2]
            exact ⟨fun q => (b0 q).elim, fun q => (nI_m1 (by omega) q).elim⟩
          · rw [g1]
        · unfold j_Md_can
          rw [hy2, bd_some, if_neg i10, if_neg (by decide : ¬ (4 : Int32) = 0), if_neg (by decide : ¬ (4 : Int32) = 1), if_neg (by decide : ¬ (4 : Int32) = 2), if_neg (by decide : ¬ (4 : Int32) = 3), if_pos rfl, shotOn_m n8 hm1, bd_some]
      · refine ⟨leadV (gi M 327 (13 + 4 * c)) (gi M 327 0), M, M, ?_, ?_, hR⟩
        · unfold j_Fc_can j_Day_leadOf
          rw [hy1, bd_some, if_neg i10, if_neg (by decide : ¬ (5 : Int32) = 0), if_neg (by decide : ¬ (5 : Int32) = 1), if_neg (by decide : ¬ (5 : Int32) = 2), if_neg (by decide : ¬ (5 : Int32) = 3), if_neg (by decide : ¬ (5 : Int32) = 4), if_pos rfl, gd_t hin, hix, kinds_lead hk5, bd_some, bd_some, hcan.1, hl0]
        · unfold j_Md_can
          rw [hy2, bd_some, if_neg i10, if_neg (by decide : ¬ (5 : Int32) = 0), if_neg (by decide : ¬ (5 : Int32) = 1), if_neg (by decide : ¬ (5 : Int32) = 2), if_neg (by decide : ¬ (5 : Int32) = 3), if_neg (by decide : ¬ (5 : Int32) = 4), if_pos rfl, md_lead (by omega), bd_some]
      · refine ⟨slateV (gi M 327 (13 + 4 * c)), M, M, ?_, ?_, hR⟩
        · unfold j_Fc_can
          rw [hy1, bd_some, if_neg i10, if_neg (by decide : ¬ (6 : Int32) = 0), if_neg (by decide : ¬ (6 : Int32) = 1), if_neg (by decide : ¬ (6 : Int32) = 2), if_neg (by decide : ¬ (6 : Int32) = 3), if_neg (by decide : ¬ (6 : Int32) = 4), if_neg (by decide : ¬ (6 : Int32) = 5), if_pos rfl, gd_t hin, hix, kinds_slate hk5, bd_some, hcan.1]
        · unfold j_Md_can
          rw [hy2, bd_some, if_neg i10, if_neg (by decide : ¬ (6 : Int32) = 0), if_neg (by decide : ¬ (6 : Int32) = 1), if_neg (by decide : ¬ (6 : Int32) = 2), if_neg (by decide : ¬ (6 : Int32) = 3), if_neg (by decide : ¬ (6 : Int32) = 4), if_neg (by decide : ¬ (6 : Int32) = 5), if_pos rfl, md_slate (by omega), bd_some]
      · refine ⟨leastV (gi M 327 (13 + 4 * c)) (gi M 327 1), M, M, ?_, ?_, hR⟩
        · unfold j_Fc_can j_Day_leastKeptOf
          rw [hy1, bd_some, if_neg i10, if_neg (by decide : ¬ (7 : Int32) = 0), if_neg (by decide : ¬ (7 : Int32) = 1), if_neg (by decide : ¬ (7 : Int32) = 2), if_neg (by decide : ¬ (7 : Int32) = 3), if_neg (by decide : ¬ (7 : Int32) = 4), if_neg (by decide : ¬ (7 : Int32) = 5), if_neg (by decide : ¬ (7 : Int32) = 6), if_pos rfl, gd_t hin, hix, kinds_least hk5, bd_some, bd_some, hcan.1, hl1]
        · unfold j_Md_can
          rw [hy2, bd_some, if_neg i10, if_neg (by decide : ¬ (7 : Int32) = 0), if_neg (by decide : ¬ (7 : Int32) = 1), if_neg (by decide : ¬ (7 : Int32) = 2), if_neg (by decide : ¬ (7 : Int32) = 3), if_neg (by decide : ¬ (7 : Int32) = 4), if_neg (by decide : ¬ (7 : Int32) = 5), if_neg (by decide : ¬ (7 : Int32) = 6), if_pos rfl, md_leastEnd (by omega), bd_some]
    · have a : ∀ b : Nat, b < 8 → ¬ y = nI b := fun b hb q => by rw [q, nI_toInt (by omega)] at hy; omega
      refine ⟨-1000001, M, M, ?_, ?_, hR⟩
      · unfold j_Fc_can
        rw [hy1, bd_some, if_neg i10, if_neg (show ¬ y = (0 : Int32) from a 0 (by omega)), if_neg (show ¬ y = (1 : Int32) from a 1 (by omega)), if_neg (show ¬ y = (2 : Int32) from a 2 (by omega)), if_neg (show ¬ y = (3 : Int32) from a 3 (by omega)), if_neg (show ¬ y = (4 : Int32) from a 4 (by omega)), if_neg (show ¬ y = (5 : Int32) from a 5 (by omega)), if_neg (show ¬ y = (6 : Int32) from a 6 (by omega)), if_neg (show ¬ y = (7 : Int32) from a 7 (by omega))]
      · unfold j_Md_can
        rw [hy2, bd_some, if_neg i10, if_neg (show ¬ y = (0 : Int32) from a 0 (by omega)), if_neg (show ¬ y = (1 : Int32) from a 1 (by omega)), if_neg (show ¬ y = (2 : Int32) from a 2 (by omega)), if_neg (show ¬ y = (3 : Int32) from a 3 (by omega)), if_neg (show ¬ y = (4 : Int32) from a 4 (by omega)), if_neg (show ¬ y = (5 : Int32) from a 5 (by omega)), if_neg (show ¬ y = (6 : Int32) from a 6 (by omega)), if_neg (show ¬ y = (7 : Int32) from a 7 (by omega))]
