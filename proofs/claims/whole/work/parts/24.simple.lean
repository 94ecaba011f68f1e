def Sim (A B : Mem → Option (Int32 × Mem)) : Prop := ∀ M, Rel M → ∃ r M1 M2, A M = some (r, M1) ∧ B M1 = some (r, M2) ∧ Rel M2
theorem l0 : (0 : Int64) = Int32.toInt64 0 := rfl
theorem l1 : (1 : Int64) = Int32.toInt64 1 := rfl
theorem l255 : (255 : Int64) = Int32.toInt64 255 := rfl
theorem t0 : (0 : Int32).toInt = 0 := by decide
theorem t1 : (1 : Int32).toInt = 1 := by decide
theorem t2 : (2 : Int32).toInt = 2 := by decide
theorem t255 : (255 : Int32).toInt = 255 := by decide
theorem s_fault : Sim j_Fc_fault j_Md_fault := fun M h => ⟨gi M 1 3, M, M, rfl, by simp only [j_Md_fault]; rw [h.2.1.2], h⟩
theorem s_feed (x : Int32) : Sim (j_Fc_feed x) (j_Md_feed x) := by
  intro M h
  obtain ⟨⟨n, h1, h2, h3, h4⟩, h5⟩ := h.2.1
  have hin : ∀ M', j_Md_in (Int32.toInt64 x) 0 255 M' = some (if (0 : Int32).toInt ≤ x.toInt ∧ x.toInt ≤ (255 : Int32).toInt then 1 else 0, M') := fun M' => md_in x 0 255 rfl l0 l255
  rw [t0, t255] at hin
  by_cases hb : 0 ≤ x.toInt ∧ x.toInt ≤ 255
  · have c1 : ¬ x < 0 := by rw [i32_lt, t0]; omega
    have c2 : ¬ (255 : Int32) < x := by rw [i32_lt, t255]; omega
    have e110 : (110 : Int32) = nI 110 := rfl
    by_cases hf : n < 110
    · refine ⟨nI (n + 1), uI (uI M 2 n x) 1 1 (nI (n + 1)), uI (uI (uI (uI M 2 n x) 1 1 (nI (n + 1))) 332 n x) 326 7 (nI (n + 1)), ?_, ?_, ?_⟩
      · have hlt : nI n < nI 110 := nI_lt hf (by omega)
        simp only [j_Fc_feed, j_Tape_append, c1, c2, if_false, h2, e110, hlt, if_true, gd_t (inb_nI hf (by omega)), ix_nI (show n < 2 ^ 31 by omega), sq_eq, gi_uIa _ _ _ _ _ _ (show (1 : Nat) ≠ 2 by omega), nI_1, bd_some, gi_uIs]
        rfl
      · have g1 : gi (uI (uI M 2 n x) 1 1 (nI (n + 1))) 326 7 = nI n := by rw [gi_uIa _ _ _ _ _ _ (by omega), gi_uIa _ _ _ _ _ _ (by omega)]; exact h3
        have g2 : gi (uI (uI (uI M 2 n x) 1 1 (nI (n + 1))) 332 n x) 326 7 = nI n := by rw [gi_uIa _ _ _ _ _ _ (by omega)]; exact g1
        have hne : ¬ nI n = nI 110 := by rw [nI_eq (by omega) (by omega)]; omega
        simp only [j_Md_feed, hin, hb, and_self, if_true, bd_some, g1, g2, e110, hne, if_false, gd_t (inb_nI hf (by omega)), ix_nI (show n < 2 ^ 31 by omega), sq_eq, nI_1, gi_uIs]
        rfl
      · refine ⟨?_, ⟨⟨n + 1, by omega, ?_, ?_, fun i hi => ?_⟩, ?_⟩, ?_, ?_⟩
        · exact h.1.cong (fun j hj i => by simp only [gi_uI]; rw [if_neg (by omega), if_neg (by omega), if_neg (by omega), if_neg (by omega)]) (fun i _ => by simp only [gi_uI]; rw [if_neg (by omega), if_neg (by omega), if_neg (by omega), if_neg (by omega)])
        · rw [gi_uIa _ _ _ _ _ _ (by omega), gi_uIa _ _ _ _ _ _ (by omega), gi_uIs]
        · rw [gi_uIs]
        · by_cases hi2 : i = n
          · subst hi2
            rw [gi_uIa _ _ _ _ _ _ (by omega), gi_uIa _ _ _ _ _ _ (by omega), gi_uIa _ _ _ _ _ _ (by omega), gi_uIs, gi_uIa _ _ _ _ _ _ (by omega), gi_uIs]
            exact ⟨rfl, hb⟩
          · simp only [gi_uI]
            rw [if_neg (by omega), if_neg (by omega), if_neg (by omega), if_neg (by omega), if_neg (by omega), if_neg (by omega), if_neg (by omega), if_neg (by omega)]
            exact h4 i (by omega)
        · simp only [gi_uI]
          rw [if_neg (by omega), if_neg (by omega), if_neg (by omega), if_neg (by omega), if_neg (by omega), if_neg (by omega), if_neg (by omega), if_neg (by omega)]
          exact h5
        · obtain ⟨a, q, p1, p2, p3, p4, p5, p6⟩ := h.2.2.1
          refine ⟨a, q, p1, p2, ?_, ?_, ?_, fun j hj => ?_⟩
          · simp only [gi_uI]; rw [if_neg (by omega), if_neg (by omega), if_neg (by omega), if_neg (by omega)]; exact p3
          · simp only [gi_uI]; rw [if_neg (by omega), if_neg (by omega), if_neg (by omega), if_neg (by omega)]; exact p4
          · simp only [gi_uI]; rw [if_neg (by omega), if_neg (by omega), if_neg (by omega), if_neg (by omega)]; exact p5
          · have := Nat.mod_lt (q + 20 - a + j) (show 0 < 20 by omega)
            exact (p6 j hj).cong (fun j hj i => by simp only [gi_uI]; rw [if_neg (by omega), if_neg (by omega), if_neg (by omega), if_neg (by omega)]) (fun i _ => by simp only [gi_uI]; rw [if_neg (by omega), if_neg (by omega), if_neg (by omega), if_neg (by omega)])
        · intro k hk
          rcases h.2.2.2 k hk with ⟨q1, q2⟩ | ⟨q1, q2⟩
          · left
            constructor
            · simp only [gi_uI]; rw [if_neg (by omega), if_neg (by omega), if_neg (by omega), if_neg (by omega)]; exact q1
            · simp only [gi_uI]; rw [if_neg (by omega), if_neg (by omega), if_neg (by omega), if_neg (by omega)]; exact q2
          · right
            constructor
            · simp only [gi_uI]; rw [if_neg (by omega), if_neg (by omega), if_neg (by omega), if_neg (by omega)]; exact q1
            · exact q2.cong (fun j hj i => by simp only [gi_uI]; rw [if_neg (by omega), if_neg (by omega), if_neg (by omega), if_neg (by omega)]) (fun i _ => by simp only [gi_uI]; rw [if_neg (by omega), if_neg (by omega), if_neg (by omega), if_neg (by omega)])
    · have hn : n = 110 := by omega
      subst hn
      refine ⟨-1000003, M, M, ?_, ?_, h⟩
      · have hlt : ¬ nI 110 < nI 110 := by decide
        simp only [j_Fc_feed, j_Tape_append, c1, c2, if_false, h2, e110, hlt, bd_some, if_true]
      · simp only [j_Md_feed, hin, hb, and_self, if_true, bd_some, h3, e110]
        rfl
  · refine ⟨-1000001, M, M, ?_, ?_, h⟩
    · simp only [j_Fc_feed, i32_lt, t0, t255]
      by_cases c1 : x.toInt < 0
      · rw [if_pos c1]
      · rw [if_neg c1, if_pos (by omega)]
    · simp only [j_Md_feed, hin, hb, if_false, bd_some, if_true]
