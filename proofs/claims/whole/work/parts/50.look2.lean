/-- takes' feet as the class sees them: 0 where shot -/
def tfC (M : Mem) (O : Nat) (t : Nat) : Int32 := if O.testBit t = true then gi M 10 t else 0
theorem feet_in {O : Nat} {M0 : Mem} (hO : O < 256) (h9 : gi M0 299 1 = nI O) : ∀ m t q M, t + m = 8 → m < q → (∀ a i, a ≠ 305 → gi M a i = gi M0 a i) → (∀ i, i < t → gi M 305 i = tfC M0 O i) → ∃ M', Rooms_lookAt_h38 q 3 (nI t) M = bd (j_Rooms_measure M') (fun _ M10 => some ((), M10)) ∧ (∀ a i, a ≠ 305 → gi M' a i = gi M0 a i) ∧ (∀ i, i < 8 → gi M' 305 i = tfC M0 O i) := by
  have e8 : (8 : Int32) = nI 8 := rfl
  intro m
  induction m with
  | zero =>
    intro t q M ht hq hM hW
    obtain ⟨q, rfl⟩ : ∃ z, q = z + 1 := ⟨q - 1, by omega⟩
    have hlt : ¬ nI t < nI 8 := nI_nlt (by omega) (by omega)
    refine ⟨M, ?_, hM, fun i hi => hW i (by omega)⟩
    rw [Rooms_lookAt_h38, e8, if_neg hlt]
  | succ m ih =>
    intro t q M ht hq hM hW
    obtain ⟨q, rfl⟩ : ∃ z, q = z + 1 := ⟨q - 1, by omega⟩
    have hlt : nI t < nI 8 := nI_lt (by omega) (by omega)
    have hin := inb_nI (show t < 8 by omega) (show 8 < 2 ^ 31 by omega)
    have hix := ix_nI (show t < 2 ^ 31 by omega)
    have ho := rooms_isOpen (M := M) hO (show t < 8 by omega) (by rw [hM 299 1 (by omega)]; exact h9)
    obtain ⟨M', r1, r2⟩ := ih (t + 1) q (uI M 305 t (tfC M0 O t)) (by omega) (by omega) (fun a i h => by rw [gi_uIa _ _ _ _ _ _ h]; exact hM a i h) (fun i hi => by
      by_cases hit : i = t
      · subst hit; rw [gi_uIs]
      · rw [gi_uIi _ _ _ _ _ _ hit]; exact hW i (by omega))
    refine ⟨M', ?_, r2⟩
    rw [← r1, Rooms_lookAt_h38, e8, if_pos hlt, ho, bd_some]
    by_cases hb : O.testBit t = true
    · have p : gi M (3 + 7) t = tfC M0 O t := by
        rw [hM _ _ (by omega)]; unfold tfC; rw [if_pos hb]
      rw [if_pos hb, if_neg i10, gd_t hin, Rooms_lookAt_b67, gd_t hin, hix, sq_e, lq_e, nI_1, p]
    · have p : (0 : Int32) = tfC M0 O t := by unfold tfC; rw [if_neg hb]
      rw [if_neg hb, if_pos rfl, Rooms_lookAt_b67, gd_t hin, hix, sq_e, lq_e, nI_1, ← p]
