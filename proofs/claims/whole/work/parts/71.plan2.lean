theorem best_both {M : Mem} (h : Rel M) : ∃ nc nt O M1 M2, nc ≤ 6 ∧ RowOk (fun i => gi M 327 i) nc nt ∧ O < 2 ^ nt ∧ (∀ a i, (a < 299 ∨ 322 < a) → gi M1 a i = gi M a i) ∧ (∀ a i, a ≠ 333 → a ≠ 334 → a ≠ 335 → gi M2 a i = gi M1 a i) ∧ RM M1 (fun i => gi M 327 i) nc nt O ∧ (gi M 3 0 = nI nc ∧ gi M 327 4 = nI nc) ∧ ((∃ P, Plan (fun i => gi M 327 i) nc O P ∧ j_Fc_placeBest M = some (1, M1) ∧ j_Md_best 327 M1 = some (1, M2) ∧ (∀ c, c < 6 → gi M1 314 c = nI (P c)) ∧ ∀ c, c < nc → gi M2 335 c = nI (P c)) ∨ (j_Fc_placeBest M = some (0, M1) ∧ j_Md_best 327 M1 = some (0, M2))) := by
  obtain ⟨nc, nt, nr, hD, hI⟩ := h.1
  have hR := iv_rowOk hI
  have hf : rowM M 327 0 = (fun i => gi M 327 i) := funext (row_at M)
  rw [hf] at hR
  have n6 := hI.1.1
  obtain ⟨O, hOe⟩ : ∃ O, O = openN M 327 nt := ⟨_, rfl⟩
  have hO : O < 2 ^ nt := by rw [hOe]; exact setN_lt _ nt
  obtain ⟨Ma, l1, l2, l3⟩ := rm_look hD hI
  rw [← hOe] at l3
  obtain ⟨M1, r1, r2, r3⟩ := best_c l3 hR hO
  have ef : (fun i => gi M1 327 i) = (fun i => gi M 327 i) := funext (fun i => (r1 327 i (by omega)).trans (l2 327 i (by omega)))
  have eo : O = openN M1 327 nt := by
    rw [hOe]
    unfold openN
    exact setN_cong nt (fun i _ => by rw [r1 327 _ (by omega), l2 327 _ (by omega)])
  obtain ⟨M2, p1, p2, p3⟩ := best_m (a := 327) (M := M1) (by omega) ef.symm hR n6 eo
  refine ⟨nc, nt, O, M1, M2, n6, hR, hO, fun a i ha => (r1 a i (by omega)).trans (l2 a i (by omega)), p1, l3.cong (fun a i h1 h2 => r1 a i (by omega)), ⟨hD.1.1, hR.1.2.2.1⟩, ?_⟩
  have hg0 : isB (0 : Int32) = true := by decide
  have hg1 : isB (1 : Int32) = true := by decide
  by_cases hF : Bv (Hf (fun i => gi M 327 i) nc O) (wf (fun i => gi M 327 i)) 6 0 O < 1000000
  · left
    refine ⟨bestP (Hf (fun i => gi M 327 i) nc O) (wf (fun i => gi M 327 i)) O, bestP_plan hF, ?_, (p2 hF).1, (r2 hF).2, (p2 hF).2⟩
    simp only [j_Fc_placeBest, l1, bd_some, (r2 hF).1, gd_t hg1]
  · right
    have hI : Bv (Hf (fun i => gi M 327 i) nc O) (wf (fun i => gi M 327 i)) 6 0 O = 1000000 := by have := bv_le (Hf (fun i => gi M 327 i) nc O) (wf (fun i => gi M 327 i)) 6 0 O; omega
    refine ⟨?_, p3 hI⟩
    simp only [j_Fc_placeBest, l1, bd_some, r3 hI, gd_t hg0]
theorem s_plan (y : Int32) : Sim (j_Fc_plan y) (j_Md_plan y) := by
  intro M h
  obtain ⟨nc, nt, nr, hD, hI⟩ := h.1
  have n6 := hI.1.1
  have d0 : gi M 3 0 = nI nc := hD.1.1
  have e4 : gi M 327 4 = nI nc := by rw [← row_at]; exact hI.2.1.1
  by_cases hp : nc = 0
  · refine ⟨-1000002, M, M, ?_, ?_, h⟩
    · have q : gi M 3 0 = 0 := by rw [d0, hp]; rfl
      simp only [j_Fc_plan, hasNoBook_eq, q, if_true, bd_some, z1, if_false]
    · simp only [j_Md_plan, isBook_eq e4 (show nc < 2 ^ 31 by omega), hp, if_true, bd_some]
  · have q : ¬ gi M 3 0 = 0 := by rw [d0, nI_eq0 (by omega)]; exact hp
    by_cases hy : y = 0 ∨ y = 1
    · obtain ⟨nc', nt', O, M1, M2, k1, k2, k3, k5, k7, k8, ⟨k9, k10⟩, k11⟩ := best_both h
      have hRel : Rel M2 := h.keep ((show Keep M M1 from ⟨fun a i q => k5 a i (by omega), fun a i q => k5 a i (by omega), fun i _ => k5 326 i (by omega)⟩).trans (keep_model (fun a i h1 h2 => k7 a i (by omega) (by omega) (by omega))))
      have e4' : gi M1 327 4 = nI nc := by rw [k5 327 4 (by omega)]; exact e4
      have ef : ∀ i, gi M2 327 i = gi M 327 i := fun i => (k7 327 i (by omega) (by omega) (by omega)).trans (k5 327 i (by omega))
      rcases k11 with ⟨P, hP, k4, k6, g1, g2⟩ | ⟨k4, k6⟩
      · obtain ⟨v, v1, v2⟩ := ans_both y k8 k2 k1 k3 hP g1 g2 ef
        refine ⟨v, M1, M2, ?_, ?_, hRel⟩
        · simp only [j_Fc_plan, hasNoBook_eq, q, if_false, bd_some, if_true, (z01_yes hy M).1, z1, k4, v1]
        · by_cases hy0 : y = 0
          · rw [if_pos hy0] at v2
            subst hy0
            simp only [j_Md_plan, isBook_eq e4' (show nc < 2 ^ 31 by omega), hp, if_false, bd_some, (z01_yes (Or.inl rfl) M1).2, z1, k6, if_true, v2]
          · rw [if_neg hy0] at v2
            simp only [j_Md_plan, isBook_eq e4' (show nc < 2 ^ 31 by omega), hp, if_false, bd_some, (z01_yes hy M1).2, z1, k6, hy0, v2]
      · refine ⟨-1000000, M1, M2, ?_, ?_, hRel⟩
        · simp only [j_Fc_plan, hasNoBook_eq, q, if_false, bd_some, if_true, (z01_yes hy M).1, z1, k4, j_Fc_wholeAnswer]
        · simp only [j_Md_plan, isBook_eq e4' (show nc < 2 ^ 31 by omega), hp, if_false, bd_some, (z01_yes hy M1).2, z1, k6, if_true]
    · refine ⟨-1000001, M, M, ?_, ?_, h⟩
      · simp only [j_Fc_plan, hasNoBook_eq, q, if_false, bd_some, if_true, (z01_no hy M).1]
      · simp only [j_Md_plan, isBook_eq e4 (show nc < 2 ^ 31 by omega), hp, if_false, bd_some, (z01_no hy M).2, z1, if_true]
theorem s_planOf (y : Int32) : Sim (j_Fc_planOf y) (j_Md_planOf y) := by
  intro M h
  obtain ⟨nc, nt, nr, hD, hI⟩ := h.1
  have n6 := hI.1.1
  have d0 : gi M 3 0 = nI nc := hD.1.1
  have e4 : gi M 327 4 = nI nc := by rw [← row_at]; exact hI.2.1.1
  by_cases hy : 0 ≤ y.toInt ∧ y.toInt < nc
  · obtain ⟨c, hc, rfl⟩ : ∃ c, c < nc ∧ y = nI c := ⟨y.toInt.toNat, by omega, i32_nat hy.1⟩
    obtain ⟨nc', nt', O, M1, M2, k1, k2, k3, k5, k7, k8, ⟨k9, k10⟩, k11⟩ := best_both h
    have hRel : Rel M2 := h.keep ((show Keep M M1 from ⟨fun a i q => k5 a i (by omega), fun a i q => k5 a i (by omega), fun i _ => k5 326 i (by omega)⟩).trans (keep_model (fun a i h1 h2 => k7 a i (by omega) (by omega) (by omega))))
    have e4' : gi M1 327 4 = nI nc := by rw [k5 327 4 (by omega)]; exact e4
    have c1 := hasCan_yes d0 (show nc < 2 ^ 31 by omega) hc
    have m1 := isCan_yes e4' (show nc < 2 ^ 31 by omega) hc
    have hnn : nc' = nc := by
      rw [d0] at k9
      exact ((nI_eq (by omega) (by omega)).mp k9).symm
    rcases k11 with ⟨P, hP, k4, k6, g1, g2⟩ | ⟨k4, k6⟩
    · have p1 := g1 c (by omega)
      have p2 := g2 c (by omega)
      refine ⟨nI (P c), M1, M2, ?_, ?_, hRel⟩
      · simp only [j_Fc_planOf, bd_some, c1, z1, if_false, k4, gd_t (inb_nI (show c < 6 by omega) (show 6 < 2 ^ 31 by omega)), ix_nI (show c < 2 ^ 31 by omega), p1]
      · simp only [j_Md_planOf, bd_some, m1, z1, if_false, k6, gd_t (inb_nI (show c < 7 by omega) (show 7 < 2 ^ 31 by omega)), ix_nI (show c < 2 ^ 31 by omega), p2]
    · refine ⟨-1000000, M1, M2, ?_, ?_, hRel⟩
      · simp only [j_Fc_planOf, bd_some, c1, z1, if_false, k4, if_true]
      · simp only [j_Md_planOf, bd_some, m1, z1, if_false, k6, if_true]
  · refine ⟨-1000001, M, M, ?_, ?_, h⟩
    · simp only [j_Fc_planOf, bd_some, hasCan_no d0 (show nc < 2 ^ 31 by omega) hy, if_true]
    · simp only [j_Md_planOf, bd_some, isCan_no e4 (show nc < 2 ^ 31 by omega) hy, if_true]
