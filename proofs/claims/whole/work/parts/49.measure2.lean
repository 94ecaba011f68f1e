theorem sq_e {β : Type} {M : Mem} {f : Mem → Option β} : sq M f = f M := id rfl
theorem ends_out {f : Nat → Int32} {M0 : Mem} {S : Nat → Nat} (hS : ∀ c, c < 6 → S c < 256 ∧ gi M0 304 c = nI (S c)) (h6 : ∀ w, w < 256 → gi M0 306 w = sumS f w 8) : ∀ m c q M, c + m = 6 → m < q → (∀ b i, (b < 308 ∨ 313 < b) → gi M b i = gi M0 b i) → ∃ M', Rooms_measure_h61 q (nI c) M = some ((), M') ∧ (∀ b i, (b < 308 ∨ 313 < b) → gi M' b i = gi M0 b i) ∧ (∀ b i, b < 308 + c → gi M' b i = gi M b i) ∧ ∀ j, c ≤ j → j < 6 → ∀ v, v < 256 → (sb v (S j) → v ≠ 0 → gi M' (308 + j) v = endC (gi M0 300 j) (gi M0 301 j) (gi M0 302 j) f v) ∧ (¬ (sb v (S j) ∧ v ≠ 0) → gi M' (308 + j) v = -1000000) := by
  have e6 : (6 : Int32) = nI 6 := rfl
  intro m
  induction m with
  | zero =>
    intro c q M hc hq hM
    obtain ⟨q, rfl⟩ : ∃ z, q = z + 1 := ⟨q - 1, by omega⟩
    have hlt : ¬ nI c < nI 6 := nI_nlt (by omega) (by omega)
    refine ⟨M, ?_, hM, fun _ _ _ => rfl, fun j h1 h2 => absurd h1 (by omega)⟩
    simp only [Rooms_measure_h61, e6, hlt, if_false]
  | succ m ih =>
    intro c q M hc hq hM
    obtain ⟨q, rfl⟩ : ∃ z, q = z + 1 := ⟨q - 1, by omega⟩
    have hlt : nI c < nI 6 := nI_lt (by omega) (by omega)
    have hin := inb_nI (show c < 6 by omega) (show 6 < 2 ^ 31 by omega)
    have hix := ix_nI (show c < 2 ^ 31 by omega)
    obtain ⟨M1, f1, f2, f3⟩ := fill_c (x := -1000000) (M := M) (ln_ends c (by omega)) (by omega)
    have hM1 : ∀ b i, (b < 308 ∨ 313 < b) → gi M1 b i = gi M0 b i := fun b i hb => by rw [f2 b i (by omega)]; exact hM b i hb
    have hSc := hS c (by omega)
    obtain ⟨M2, g1, g2, g3, g4⟩ := ends_in (c := c) (S := S c) (f := f) (M0 := M1) (by omega) hSc.1 (fun w hw => by rw [hM1 306 w (by omega)]; exact h6 w hw) (S c) FU M1 (by have := hSc.1; unfold FU; omega) (sb_refl _) (fun _ _ _ => rfl)
    have hM2 : ∀ b i, (b < 308 ∨ 313 < b) → gi M2 b i = gi M0 b i := fun b i hb => by rw [g2 b i (by omega)]; exact hM1 b i hb
    obtain ⟨M', r1, r2, r3, r4⟩ := ih (c + 1) q M2 (by omega) (by omega) hM2
    have e304 : gi M1 304 c = nI (S c) := by rw [hM1 304 c (by omega)]; exact hSc.2
    refine ⟨M', ?_, r2, fun b i hb => by rw [r3 b i (by omega), g2 b i (by omega), f2 b i (by omega)], fun j h1 h2 => ?_⟩
    · rw [← r1]
      simp only [Rooms_measure_h61, j_Rooms_measureEnds, e6, hlt, if_true, gd_t hin, hix, f1, bd_some, e304, lq_e, g1, nI_1]
    · by_cases hjc : j = c
      · subst hjc
        intro v hv
        refine ⟨fun v1 v2 => ?_, fun v1 => ?_⟩
        · rw [r3 (308 + j) v (by omega), g3 v v1 v2 (sb_le v1), hM1 300 j (by omega), hM1 301 j (by omega), hM1 302 j (by omega)]
        · rw [r3 (308 + j) v (by omega), g4 v (fun q => v1 ⟨q.1, q.2.1⟩), f3 v hv]
      · exact r4 j (by omega) h2
theorem measure_c {f : Nat → Int32} {M : Mem} {S : Nat → Nat} (hS : ∀ c, c < 6 → S c < 256 ∧ gi M 304 c = nI (S c)) (hf : ∀ i, i < 8 → gi M 305 i = f i) : ∃ M', j_Rooms_measure M = some ((), M') ∧ (∀ b i, b ≠ 306 → (b < 308 ∨ 313 < b) → gi M' b i = gi M b i) ∧ (∀ w, w < 256 → gi M' 306 w = sumS f w 8) ∧ ∀ j, j < 6 → ∀ v, v < 256 → (sb v (S j) → v ≠ 0 → gi M' (308 + j) v = endC (gi M 300 j) (gi M 301 j) (gi M 302 j) f v) ∧ (¬ (sb v (S j) ∧ v ≠ 0) → gi M' (308 + j) v = -1000000) := by
  obtain ⟨M1, a1, a2, a3⟩ := meas_out (M0 := M) hf 8 0 FU (uI M 306 0 0) (by omega) (by unfold FU; omega) (fun a i h => gi_uIa _ _ _ _ _ _ h) (fun v hv => by
    have : v = 0 := by simpa using hv
    subst this
    rw [gi_uIs]
    simp [sumS])
  obtain ⟨M', b1, b2, _, b4⟩ := ends_out (M0 := M1) (f := f) (S := S) (fun c hc => by rw [a2 304 c (by omega)]; exact hS c hc) a3 6 0 FU M1 (by omega) (by unfold FU; omega) (fun _ _ _ => rfl)
  refine ⟨M', ?_, fun b i h1 h2 => by rw [b2 b i h2, a2 b i h1], fun w hw => by rw [b2 306 w (by omega)]; exact a3 w hw, fun j hj v hv => ?_⟩
  · have z : (0 : Int32) = nI 0 := rfl
    have st : j_Rooms_measure M = Rooms_measure_h9 FU (nI 0) (uI M 306 0 0) := by
      unfold j_Rooms_measure
      rw [sq_e, lq_e]
      exact congrArg (fun w => Rooms_measure_h9 FU w (uI M 306 0 0)) z
    exact st.trans (a1.trans ((congrArg (fun w => Rooms_measure_h61 FU w M1) z).trans b1))
  · have := b4 j (by omega) hj v hv
    rw [a2 300 j (by omega), a2 301 j (by omega), a2 302 j (by omega)] at this
    exact this
