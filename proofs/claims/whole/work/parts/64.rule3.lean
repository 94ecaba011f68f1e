theorem z01_yes {x : Int32} (h : x = 0 ∨ x = 1) (M : Mem) : j_Fc_isZeroOrOne x M = some (1, M) ∧ j_Md_in (Int32.toInt64 x) 0 1 M = some (1, M) := by
  have hin := md_in (M := M) x 0 1 rfl l0 l1
  rw [t0, t1] at hin
  rcases h with h | h
  · subst h
    refine ⟨by simp only [j_Fc_isZeroOrOne, Fc_isZeroOrOne_b9, if_true], ?_⟩
    rw [hin, if_pos (by rw [t0]; omega)]
  · subst h
    refine ⟨by simp only [j_Fc_isZeroOrOne, Fc_isZeroOrOne_b9, if_true, z1, if_false], ?_⟩
    rw [hin, if_pos (by rw [t1]; omega)]
theorem z01_no {x : Int32} (h : ¬ (x = 0 ∨ x = 1)) (M : Mem) : j_Fc_isZeroOrOne x M = some (0, M) ∧ j_Md_in (Int32.toInt64 x) 0 1 M = some (0, M) := by
  have hin := md_in (M := M) x 0 1 rfl l0 l1
  rw [t0, t1] at hin
  have h0 : ¬ x = 0 := fun q => h (Or.inl q)
  have h1 : ¬ x = 1 := fun q => h (Or.inr q)
  refine ⟨by simp only [j_Fc_isZeroOrOne, h0, h1, if_false], ?_⟩
  rw [hin, if_neg]
  rintro ⟨q1, q2⟩
  have : x.toInt = 0 ∨ x.toInt = 1 := by omega
  rcases this with q | q
  · exact h0 (by apply Int32.toInt_inj.mp; rw [q, t0])
  · exact h1 (by apply Int32.toInt_inj.mp; rw [q, t1])
theorem ans_both {M1 M2 : Mem} {f : Nat → Int32} {nc nt O : Nat} {P : Nat → Nat} (y : Int32) (h : RM M1 f nc nt O) (hR : RowOk f nc nt) (hn6 : nc ≤ 6) (hO : O < 2 ^ nt) (hP : Plan f nc O P) (h4 : ∀ c, c < 6 → gi M1 314 c = nI (P c)) (h5 : ∀ c, c < nc → gi M2 335 c = nI (P c)) (ef : ∀ i, gi M2 327 i = f i) : ∃ v, j_Fc_wholeAnswer 1 y M1 = some (v, M1) ∧ (if y = 0 then j_Md_lossOfPlan M2 else j_Md_roomsOfPlan M2) = some (v, M2) := by
  have hO256 : O < 256 := Nat.lt_of_lt_of_le hO (two8 hR.1.2.1)
  have ef2 : (fun i => gi M2 327 i) = f := funext ef
  by_cases hy : y = 0
  · have a := losses_c h hR hO hP h4
    have b := lossP_m (M := M2) (by rw [ef2]; exact hR) hn6 hO (by rw [ef2]; exact hP) h5
    rw [ef2] at b
    refine ⟨sumN (lossP f P) 6, ?_, ?_⟩
    · simp only [j_Fc_wholeAnswer, z1, if_false, hy, if_true, a, bd_some]
    · rw [if_pos hy]; exact b
  · have a := used_c (fun c => plan_lt (nt := nt) hO256 hP c) h4
    have b := roomsP_m (M := M2) (nc := nc) (by rw [ef]; exact hR.1.2.2.1) hn6 (fun c => plan_lt (nt := nt) hO256 hP c) (fun c hc => plan_out hP c hc) h5
    refine ⟨nI (cnt (fun c => decide (P c ≠ 0)) 6), ?_, ?_⟩
    · simp only [j_Fc_wholeAnswer, z1, if_false, hy, a, bd_some]
    · rw [if_neg hy]; exact b
theorem s_rule (x y : Int32) : Sim (j_Fc_rule x y) (j_Md_rule x y) := by
  intro M h
  obtain ⟨nc, nt, nr, hD, hI⟩ := h.1
  have n6 := hI.1.1
  have d0 : gi M 3 0 = nI nc := hD.1.1
  have e4 : gi M 327 4 = nI nc := by rw [← row_at]; exact hI.2.1.1
  by_cases hp : nc = 0
  · refine ⟨-1000002, M, M, ?_, ?_, h⟩
    · have q : gi M 3 0 = 0 := by rw [d0, hp]; rfl
      simp only [j_Fc_rule, hasNoBook_eq, q, if_true, bd_some, z1, if_false]
    · simp only [j_Md_rule, isBook_eq e4 (show nc < 2 ^ 31 by omega), hp, if_true, bd_some]
  · have q : ¬ gi M 3 0 = 0 := by rw [d0, nI_eq0 (by omega)]; exact hp
    by_cases hx : x = 0 ∨ x = 1
    · by_cases hy : y = 0 ∨ y = 1
      · obtain ⟨rule, hr⟩ : ∃ rule : Bool, x = if rule = true then 1 else 0 := by
          rcases hx with hx | hx
          · exact ⟨false, by rw [hx]; rfl⟩
          · exact ⟨true, by rw [hx]; rfl⟩
        obtain ⟨nc', nt', O, M1, M2, k1, k2, k3, k4, k5, k6, k7, k8, ⟨k9, k10⟩, k11⟩ := rule_both h rule
        have hRel : Rel M2 := h.keep ((show Keep M M1 from ⟨fun a i q => k5 a i (by omega), fun a i q => k5 a i (by omega), fun i _ => k5 326 i (by omega)⟩).trans (keep_model (fun a i h1 h2 => k7 a i (by omega))))
        have e4' : gi M1 327 4 = nI nc := by rw [k5 327 4 (by omega)]; exact e4
        have ef : ∀ i, gi M2 327 i = gi M 327 i := fun i => (k7 327 i (by omega)).trans (k5 327 i (by omega))
        rw [← hr] at k4 k6
        cases hs : putS rule (fun i => gi M 327 i) nc' O 8 with
        | none =>
          rw [hs] at k4 k6
          simp only [Option.isSome_none, Bool.false_eq_true, if_false] at k4 k6
          refine ⟨-1000000, M1, M2, ?_, ?_, hRel⟩
          · simp only [j_Fc_rule, hasNoBook_eq, q, if_false, bd_some, if_true, (z01_yes hx M).1, (z01_yes hy M).1, z1, k4, j_Fc_wholeAnswer]
          · simp only [j_Md_rule, isBook_eq e4' (show nc < 2 ^ 31 by omega), hp, if_false, bd_some, (z01_yes hx M1).2, (z01_yes hy M1).2, z1, k6, if_true]
        | some P =>
          rw [hs] at k4 k6
          simp only [Option.isSome_some, if_true] at k4 k6
          have hP := (put_inv 8 P hs).2
          obtain ⟨v, v1, v2⟩ := ans_both y k8 k2 k1 k3 hP (fun c hc => (k11 P hs c hc).1) (fun c hc => (k11 P hs c (by omega)).2) ef
          refine ⟨v, M1, M2, ?_, ?_, hRel⟩
          · simp only [j_Fc_rule, hasNoBook_eq, q, if_false, bd_some, if_true, (z01_yes hx M).1, (z01_yes hy M).1, z1, k4, v1]
          · by_cases hy0 : y = 0
            · rw [if_pos hy0] at v2
              subst hy0
              simp only [j_Md_rule, isBook_eq e4' (show nc < 2 ^ 31 by omega), hp, if_false, bd_some, (z01_yes hx M1).2, (z01_yes (Or.inl rfl) M1).2, z1, k6, if_true, v2]
            · rw [if_neg hy0] at v2
              simp only [j_Md_rule, isBook_eq e4' (show nc < 2 ^ 31 by omega), hp, if_false, bd_some, (z01_yes hx M1).2, (z01_yes hy M1).2, z1, k6, hy0, v2]
      · refine ⟨-1000001, M, M, ?_, ?_, h⟩
        · simp only [j_Fc_rule, hasNoBook_eq, q, if_false, bd_some, if_true, (z01_yes hx M).1, (z01_no hy M).1, z1]
        · simp only [j_Md_rule, isBook_eq e4 (show nc < 2 ^ 31 by omega), hp, if_false, bd_some, (z01_yes hx M).2, (z01_no hy M).2, z1, if_true]
    · refine ⟨-1000001, M, M, ?_, ?_, h⟩
      · simp only [j_Fc_rule, hasNoBook_eq, q, if_false, bd_some, if_true, (z01_no hx M).1]
      · simp only [j_Md_rule, isBook_eq e4 (show nc < 2 ^ 31 by omega), hp, if_false, bd_some, (z01_no hx M).2, z1, if_true]
theorem s_ruleOf (x y : Int32) : Sim (j_Fc_ruleOf x y) (j_Md_ruleOf x y) := by
  intro M h
  obtain ⟨nc, nt, nr, hD, hI⟩ := h.1
  have n6 := hI.1.1
  have d0 : gi M 3 0 = nI nc := hD.1.1
  have e4 : gi M 327 4 = nI nc := by rw [← row_at]; exact hI.2.1.1
  by_cases hx : x = 0 ∨ x = 1
  · by_cases hy : 0 ≤ y.toInt ∧ y.toInt < nc
    · obtain ⟨c, hc, rfl⟩ : ∃ c, c < nc ∧ y = nI c := ⟨y.toInt.toNat, by omega, i32_nat hy.1⟩
      obtain ⟨rule, hr⟩ : ∃ rule : Bool, x = if rule = true then 1 else 0 := by
        rcases hx with hx | hx
        · exact ⟨false, by rw [hx]; rfl⟩
        · exact ⟨true, by rw [hx]; rfl⟩
      obtain ⟨nc', nt', O, M1, M2, k1, k2, k3, k4, k5, k6, k7, k8, ⟨k9, k10⟩, k11⟩ := rule_both h rule
      have hRel : Rel M2 := h.keep ((show Keep M M1 from ⟨fun a i q => k5 a i (by omega), fun a i q => k5 a i (by omega), fun i _ => k5 326 i (by omega)⟩).trans (keep_model (fun a i h1 h2 => k7 a i (by omega))))
      have e4' : gi M1 327 4 = nI nc := by rw [k5 327 4 (by omega)]; exact e4
      rw [← hr] at k4 k6
      have c1 := hasCan_yes d0 (show nc < 2 ^ 31 by omega) hc
      have m1 := isCan_yes e4' (show nc < 2 ^ 31 by omega) hc
      cases hs : putS rule (fun i => gi M 327 i) nc' O 8 with
      | none =>
        rw [hs] at k4 k6
        simp only [Option.isSome_none, Bool.false_eq_true, if_false] at k4 k6
        refine ⟨-1000000, M1, M2, ?_, ?_, hRel⟩
        · simp only [j_Fc_ruleOf, bd_some, (z01_yes hx M).1, c1, z1, if_false, k4, if_true]
        · simp only [j_Md_ruleOf, bd_some, (z01_yes hx M1).2, m1, z1, if_false, k6, if_true]
      | some P =>
        rw [hs] at k4 k6
        simp only [Option.isSome_some, if_true] at k4 k6
        obtain ⟨p1, p2⟩ := k11 P hs c (by omega)
        refine ⟨nI (P c), M1, M2, ?_, ?_, hRel⟩
        · simp only [j_Fc_ruleOf, bd_some, (z01_yes hx M).1, c1, z1, if_false, k4, gd_t (inb_nI (show c < 6 by omega) (show 6 < 2 ^ 31 by omega)), ix_nI (show c < 2 ^ 31 by omega), p1]
        · simp only [j_Md_ruleOf, bd_some, (z01_yes hx M1).2, m1, z1, if_false, k6, gd_t (inb_nI (show c < 7 by omega) (show 7 < 2 ^ 31 by omega)), ix_nI (show c < 2 ^ 31 by omega), p2]
    · refine ⟨-1000001, M, M, ?_, ?_, h⟩
      · simp only [j_Fc_ruleOf, bd_some, (z01_yes hx M).1, hasCan_no d0 (show nc < 2 ^ 31 by omega) hy, z1, if_false, if_true]
      · simp only [j_Md_ruleOf, bd_some, (z01_yes hx M).2, isCan_no e4 (show nc < 2 ^ 31 by omega) hy, z1, if_false, if_true]
  · refine ⟨-1000001, M, M, ?_, ?_, h⟩
    · simp only [j_Fc_ruleOf, bd_some, (z01_no hx M).1, if_true]
    · simp only [j_Md_ruleOf, bd_some, (z01_no hx M).2, if_true]
