theorem lq_e {α β : Type} {a : α} {f : α → Option β} : lq a f = f a := id rfl
theorem meas_in {K : Int32 → Mem → Option (Unit × Mem)} {r : Nat} {f : Nat → Int32} {M0 : Mem} (hr : r < 8) (hf : gi M0 305 r = f r) : ∀ m v q M, v + m = 2 ^ r → m < q → (∀ a i, a ≠ 306 → gi M a i = gi M0 a i) → (∀ w, w < 2 ^ r + v → gi M 306 w = sumS f w 8) → ∃ M', Rooms_measure_h21 K q (nI r) (nI (2 ^ r)) (nI v) M = K (nI (r + 1)) M' ∧ (∀ a i, a ≠ 306 → gi M' a i = gi M0 a i) ∧ ∀ w, w < 2 ^ (r + 1) → gi M' 306 w = sumS f w 8 := by
  have h256 : 2 ^ (r + 1) ≤ 256 := two8 (by omega)
  have hdb : 2 ^ (r + 1) = 2 ^ r + 2 ^ r := by rw [Nat.pow_succ]; omega
  intro m
  induction m with
  | zero =>
    intro v q M hv hq hM hW
    obtain ⟨q, rfl⟩ : ∃ z, q = z + 1 := ⟨q - 1, by omega⟩
    have hlt : ¬ nI v < nI (2 ^ r) := nI_nlt (by omega) (by omega)
    refine ⟨M, ?_, hM, fun w hw => hW w (by omega)⟩
    simp only [Rooms_measure_h21, hlt, if_false, lq_eq, nI_1]
  | succ m ih =>
    intro v q M hv hq hM hW
    obtain ⟨q, rfl⟩ : ∃ z, q = z + 1 := ⟨q - 1, by omega⟩
    have hlt : nI v < nI (2 ^ r) := nI_lt (by omega) (by omega)
    have hor : nI v ||| nI (2 ^ r) = nI (2 ^ r + v) := by
      have e := Nat.two_pow_add_eq_or_of_lt (show v < 2 ^ r by omega) 1
      rw [Nat.mul_one] at e
      rw [nI_or, Nat.or_comm, ← e]
    obtain ⟨M', r1, r2⟩ := ih (v + 1) q (uI M 306 (2 ^ r + v) (sumS f v 8 + f r)) (by omega) (by omega) (fun a i h => by rw [gi_uIa _ _ _ _ _ _ h]; exact hM a i h) (fun w hw => by
      by_cases hwv : w = 2 ^ r + v
      · subst hwv; rw [gi_uIs, sumS_top (by omega) hr]
      · rw [gi_uIi _ _ _ _ _ _ hwv]; exact hW w (by omega))
    refine ⟨M', ?_, r2⟩
    rw [← r1]
    have p1 := hW v (by omega)
    have p2 : gi M 305 r = f r := by rw [hM _ _ (by omega)]; exact hf
    simp only [Rooms_measure_h21, hlt, if_true, gd_t (inb_nI (show v < 256 by omega) (by omega)), gd_t (inb_nI (show r < 8 by omega) (by omega)), hor, gd_t (inb_nI (show 2 ^ r + v < 256 by omega) (by omega)), ix_nI (show v < 2 ^ 31 by omega), ix_nI (show r < 2 ^ 31 by omega), ix_nI (show 2 ^ r + v < 2 ^ 31 by omega), p1, p2, sq_eq, lq_eq, nI_1]
theorem meas_out {f : Nat → Int32} {M0 : Mem} (hf : ∀ i, i < 8 → gi M0 305 i = f i) : ∀ m r q M, r + m = 8 → m < q → (∀ a i, a ≠ 306 → gi M a i = gi M0 a i) → (∀ v, v < 2 ^ r → gi M 306 v = sumS f v 8) → ∃ M', Rooms_measure_h9 q (nI r) M = Rooms_measure_h61 FU 0 M' ∧ (∀ a i, a ≠ 306 → gi M' a i = gi M0 a i) ∧ ∀ w, w < 256 → gi M' 306 w = sumS f w 8 := by
  have e8 : (8 : Int32) = nI 8 := rfl
  intro m
  induction m with
  | zero =>
    intro r q M hr hq hM hW
    obtain ⟨q, rfl⟩ : ∃ z, q = z + 1 := ⟨q - 1, by omega⟩
    have hlt : ¬ nI r < nI 8 := nI_nlt (by omega) (by omega)
    have hr8 : r = 8 := by omega
    subst hr8
    refine ⟨M, ?_, hM, fun w hw => hW w hw⟩
    rw [Rooms_measure_h9, e8, if_neg hlt, lq_e]
  | succ m ih =>
    intro r q M hr hq hM hW
    obtain ⟨q, rfl⟩ : ∃ z, q = z + 1 := ⟨q - 1, by omega⟩
    have hlt : nI r < nI 8 := nI_lt (by omega) (by omega)
    have h256 := two8 (show r ≤ 8 by omega)
    obtain ⟨M1, k1, k2, k3⟩ := meas_in (K := fun x1 M => Rooms_measure_h9 q x1 M) (f := f) (M0 := M) (show r < 8 by omega) (by rw [hM _ _ (by omega)]; exact hf r (by omega)) (2 ^ r) 0 FU M (by omega) (by unfold FU; omega) (fun _ _ _ => rfl) (fun w hw => hW w (by omega))
    obtain ⟨M', r1, r2⟩ := ih (r + 1) q M1 (by omega) (by omega) (fun a i h => by rw [k2 a i h]; exact hM a i h) k3
    refine ⟨M', ?_, r2⟩
    rw [← r1, ← k1]
    rw [Rooms_measure_h9, e8, if_pos hlt, shl_bit r (by omega), lq_e, lq_e]
    rfl
theorem fill_in {a N : Nat} {x : Int32} (hN : ln a = N) (hN2 : N < 2 ^ 31) : ∀ m k q M, k + m = N → m < q → ∃ M', Arrays_fill_h5 q a x (nI k) (nI N) M = some ((), M') ∧ (∀ b i, b ≠ a → gi M' b i = gi M b i) ∧ (∀ i, k ≤ i → i < N → gi M' a i = x) ∧ (∀ i, i < k → gi M' a i = gi M a i) := by
  intro m
  induction m with
  | zero =>
    intro k q M hk hq
    obtain ⟨q, rfl⟩ : ∃ z, q = z + 1 := ⟨q - 1, by omega⟩
    have hlt : ¬ nI k < nI N := nI_nlt (by omega) (by omega)
    refine ⟨M, ?_, fun _ _ _ => rfl, fun i h1 h2 => absurd h1 (by omega), fun _ _ => rfl⟩
    simp only [Arrays_fill_h5, hlt, if_false]
  | succ m ih =>
    intro k q M hk hq
    obtain ⟨q, rfl⟩ : ∃ z, q = z + 1 := ⟨q - 1, by omega⟩
    have hlt : nI k < nI N := nI_lt (by omega) (by omega)
    obtain ⟨M', r1, r2, r3, r4⟩ := ih (k + 1) q (uI M a k x) (by omega) (by omega)
    refine ⟨M', ?_, fun b i hb => by rw [r2 b i hb, gi_uIa _ _ _ _ _ _ hb], fun i h1 h2 => ?_, fun i hi => by rw [r4 i (by omega), gi_uIi _ _ _ _ _ _ (by omega)]⟩
    · rw [← r1]
      simp only [Arrays_fill_h5, hlt, if_true, hN, gd_t (inb_nI (show k < N by omega) hN2), ix_nI (show k < 2 ^ 31 by omega), sq_eq, lq_eq, nI_1]
    · by_cases hik : i = k
      · subst hik; rw [r4 i (by omega), gi_uIs]
      · exact r3 i (by omega) h2
theorem fill_c {a N : Nat} {x : Int32} {M : Mem} (hN : ln a = N) (hN2 : N < 2 ^ 31) : ∃ M', j_Arrays_fill a x M = some ((), M') ∧ (∀ b i, b ≠ a → gi M' b i = gi M b i) ∧ (∀ i, i < N → gi M' a i = x) := by
  obtain ⟨M', h1, h2, h3, _⟩ := fill_in (x := x) hN hN2 N 0 FU M (by omega) (by unfold FU; omega)
  refine ⟨M', ?_, h2, fun i hi => h3 i (by omega) hi⟩
  simp only [j_Arrays_fill, lq_eq, hN]
  exact h1
theorem ln_ends : ∀ c, c < 6 → ln (308 + c) = 256 := by decide +kernel
/-- the ends of the sets that can c serves -/
def endC (F L Sl : Int32) (f : Nat → Int32) (v : Nat) : Int32 := ((F - L) - Sl * nI (cnt (fun i => v.testBit i) 8)) - sumS f v 8
theorem ends_in {c S : Nat} {f : Nat → Int32} {M0 : Mem} (hc : c < 6) (hS : S < 256) (h6 : ∀ w, w < 256 → gi M0 306 w = sumS f w 8) : ∀ u q M, u < q → sb u S → (∀ b i, b ≠ 308 + c → gi M b i = gi M0 b i) → ∃ M', Rooms_measureEnds_h9 q (nI c) (nI S) (nI u) M = some ((), M') ∧ (∀ b i, b ≠ 308 + c → gi M' b i = gi M0 b i) ∧ (∀ v, sb v S → v ≠ 0 → v ≤ u → gi M' (308 + c) v = endC (gi M0 300 c) (gi M0 301 c) (gi M0 302 c) f v) ∧ (∀ i, ¬ (sb i S ∧ i ≠ 0 ∧ i ≤ u) → gi M' (308 + c) i = gi M (308 + c) i) := by
  have hin := inb_nI hc (show 6 < 2 ^ 31 by omega)
  have hix := ix_nI (show c < 2 ^ 31 by omega)
  intro u
  induction u using Nat.strongRecOn with
  | ind u ih =>
    intro q M hq hu hM
    obtain ⟨q, rfl⟩ : ∃ z, q = z + 1 := ⟨q - 1, by omega⟩
    by_cases hu0 : u = 0
    · subst hu0
      have c0 : ¬ (0 : Int32) < nI 0 := by decide
      refine ⟨M, ?_, hM, fun v _ h1 h2 => absurd (Nat.le_zero.mp h2) h1, fun _ _ => rfl⟩
      simp only [Rooms_measureEnds_h9, c0, if_false]
    · have hle := sb_le hu
      have c0 : (0 : Int32) < nI u := nI_lt (a := 0) (by omega) (by omega)
      have hnx : (u - 1) &&& S < u := by have := Nat.and_le_left (n := u - 1) (m := S); omega
      have hpred : (nI u - 1) &&& nI S = nI ((u - 1) &&& S) := by rw [nI_pred1 (by omega), nI_and]
      obtain ⟨M', r1, r2, r3, r4⟩ := ih _ hnx q (uI M (308 + c) u (endC (gi M0 300 c) (gi M0 301 c) (gi M0 302 c) f u)) (by omega) (sb_and _ _) (fun b i hb => by rw [gi_uIa _ _ _ _ _ _ hb]; exact hM b i hb)
      refine ⟨M', ?_, r2, fun v v1 v2 v3 => ?_, fun i hi => ?_⟩
      · rw [← r1]
        have p0 : gi M 300 c = gi M0 300 c := hM _ _ (by omega)
        have p1 : gi M 301 c = gi M0 301 c := hM _ _ (by omega)
        have p2 : gi M 302 c = gi M0 302 c := hM _ _ (by omega)
        have p6 : gi M 306 u = sumS f u 8 := by rw [hM _ _ (by omega)]; exact h6 u (by omega)
        simp only [Rooms_measureEnds_h9, c0, if_true, gd_t hin, hix, bc_eq, bc_val u (by omega), bd_some, gd_t (inb_nI (show u < 256 by omega) (by omega)), ix_nI (show u < 2 ^ 31 by omega), p0, p1, p2, p6, sq_eq, lq_eq, hpred]
        rfl
      · by_cases hvu : v = u
        · subst hvu
          rw [r4 v (fun q => by omega), gi_uIs]
        · exact r3 v v1 v2 (sb_next u S v hu v1 (by omega))
      · have hiu : i ≠ u := fun q => hi (by rw [q]; exact ⟨hu, hu0, Nat.le_refl _⟩)
        rw [r4 i (fun q => hi ⟨q.1, q.2.1, by omega⟩), gi_uIi _ _ _ _ _ _ hiu]
