def seen (M0 M : Mem) (nt R O j : Nat) : Prop := gi M 304 j = nI (if R.testBit j = true then servC M0 nt O j else 0) ∧ (R.testBit j = true → gi M 300 j = gi M0 6 j ∧ gi M 301 j = leadC M0 j ∧ gi M 302 j = slateV (gi M0 5 j) ∧ gi M 303 j = keptC M0 j)
theorem look_in {nt R O : Nat} {M0 : Mem} (hR : R < 256) (hn : nt ≤ 8) (h1 : gi M0 3 1 = nI nt) (ht : ∀ t, t < nt → 0 ≤ (gi M0 9 t).toInt ∧ (gi M0 9 t).toInt ≤ 5) (hk : ∀ c, R.testBit c = true → 1 ≤ (gi M0 5 c).toInt ∧ (gi M0 5 c).toInt ≤ 5) (h9 : gi M0 299 0 = nI R) (hO : gi M0 299 1 = nI O) : ∀ m c q M, c + m = 6 → m < q → (∀ a i, (a < 300 ∨ 304 < a) → gi M a i = gi M0 a i) → (∀ j, j < c → seen M0 M nt R O j) → ∃ M', Rooms_lookAt_h18 q 3 (nI c) M = Rooms_lookAt_h38 FU 3 0 M' ∧ (∀ a i, (a < 300 ∨ 304 < a) → gi M' a i = gi M0 a i) ∧ (∀ j, j < 6 → seen M0 M' nt R O j) := by
  have e6 : (6 : Int32) = nI 6 := rfl
  intro m
  induction m with
  | zero =>
    intro c q M hc hq hM hW
    obtain ⟨q, rfl⟩ : ∃ z, q = z + 1 := ⟨q - 1, by omega⟩
    have hlt : ¬ nI c < nI 6 := nI_nlt (by omega) (by omega)
    refine ⟨M, ?_, hM, fun j hj => hW j (by omega)⟩
    rw [Rooms_lookAt_h18, e6, if_neg hlt, lq_e]
  | succ m ih =>
    intro c q M hc hq hM hW
    obtain ⟨q, rfl⟩ : ∃ z, q = z + 1 := ⟨q - 1, by omega⟩
    have hlt : nI c < nI 6 := nI_lt (by omega) (by omega)
    obtain ⟨M1, a1, a2, a3, a4⟩ := lookCan_c (nt := nt) (R := R) (O := O) (c := c) (M := M) (by omega) hR hn (by rw [hM 3 1 (by omega)]; exact h1) (fun t htn => by rw [hM 9 t (by omega)]; exact ht t htn) (fun hb => by rw [hM 5 c (by omega)]; exact hk c hb) (by rw [hM 299 0 (by omega)]; exact h9) (by rw [hM 299 1 (by omega)]; exact hO)
    have eS : servC M nt O c = servC M0 nt O c := by
      unfold servC
      rw [setN_cong nt (fun t _ => by rw [hM 5 c (by omega), hM 9 t (by omega)])]
    have eL : leadC M c = leadC M0 c := by unfold leadC; rw [hM 3 3 (by omega), hM 5 c (by omega), hM 4 0 (by omega)]
    have eK : keptC M c = keptC M0 c := by unfold keptC; rw [hM 5 c (by omega), hM 4 1 (by omega)]
    rw [eS] at a3
    rw [eL, eK, hM 6 c (by omega), hM 5 c (by omega)] at a4
    obtain ⟨M', r1, r2⟩ := ih (c + 1) q M1 (by omega) (by omega) (fun a i h => by rw [a2 a i (by omega)]; exact hM a i h) (fun j hj => by
      by_cases hjc : j = c
      · subst hjc; exact ⟨a3, a4⟩
      · have hw := hW j (by omega)
        unfold seen at hw ⊢
        rw [a2 304 j (by omega), a2 300 j (by omega), a2 301 j (by omega), a2 302 j (by omega), a2 303 j (by omega)]
        exact hw)
    refine ⟨M', ?_, r2⟩
    rw [← r1, Rooms_lookAt_h18, e6, if_pos hlt, a1, bd_some, lq_e, nI_1]
