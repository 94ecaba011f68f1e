theorem shl_full : ∀ n, n ≤ 8 → (((1 : Int32) <<< (nI n &&& 31)) - 1) = nI (2 ^ n - 1) := by decide +kernel
theorem shl_bit : ∀ n, n < 8 → ((1 : Int32) <<< (nI n &&& 31)) = nI (2 ^ n) := by decide +kernel
theorem two8 {n : Nat} (h : n ≤ 8) : 2 ^ n ≤ 256 := Nat.le_trans (Nat.pow_le_pow_right (by omega) h) (by decide)
theorem bit_lt {s n i : Nat} (h : s < 2 ^ n) (hi : s.testBit i = true) : i < n := by
  apply Classical.byContradiction
  intro hn
  rw [Nat.testBit_lt_two_pow (Nat.lt_of_lt_of_le h (Nat.pow_le_pow_right (by omega) (by omega)))] at hi
  cases hi
theorem few_out {nr : Nat} {M0 : Mem} {B : Nat → Prop} (hBdef : B = Bt (gi M0 327 2) (fun i => gi M0 327 (65 + 3 * i + 1)) (fun i => gi M0 327 (65 + 3 * i + 2))) (hB1 : ∀ k, k < 8 → B (2 ^ k)) (hn : nr ≤ 8) (hg : ∀ i, i < nr → gi M0 327 (65 + 3 * i + 2) = 0 ∨ gi M0 327 (65 + 3 * i + 2) = 1) : ∀ m s q M, s + m = 2 ^ nr → 0 < s → m < q → (∀ a i, a ≠ 338 → gi M a i = gi M0 a i) → (∀ v, v < s → gi M 338 v = nI (Wf B v)) → ∃ M', Md_fewest_h21 q (nI (2 ^ nr - 1)) (nI s) M = some (nI (Wf B (2 ^ nr - 1)), M') ∧ ∀ a i, a ≠ 338 → gi M' a i = gi M0 a i := by
  have h256 := two8 hn
  intro m
  induction m with
  | zero =>
    intro s q M hs hp hq hM hW
    obtain ⟨q, rfl⟩ : ∃ z, q = z + 1 := ⟨q - 1, by omega⟩
    have hlt : nI (2 ^ nr - 1) < nI s := nI_lt (by omega) (by omega)
    refine ⟨M, ?_, hM⟩
    simp only [Md_fewest_h21, hlt, if_true, gd_t (inb_nI (show 2 ^ nr - 1 < 256 by omega) (by omega)), ix_nI (show 2 ^ nr - 1 < 2 ^ 31 by omega), hW (2 ^ nr - 1) (by omega)]
  | succ m ih =>
    intro s q M hs hp hq hM hW
    obtain ⟨q, rfl⟩ : ∃ z, q = z + 1 := ⟨q - 1, by omega⟩
    have hlt : ¬ nI (2 ^ nr - 1) < nI s := nI_nlt (by omega) (by omega)
    have e9 : (9 : Int32) = nI 9 := rfl
    have hBM : B = Bt (gi M 327 2) (fun i => gi M 327 (65 + 3 * i + 1)) (fun i => gi M 327 (65 + 3 * i + 2)) := by
      rw [hBdef]
      have : ∀ i, gi M 327 i = gi M0 327 i := fun i => hM 327 i (by omega)
      simp only [this]
    have hle8 : ∀ v, v < 256 → Wf B v ≤ 8 := fun v hv => least_le8 hB1 hv (wf_least hB1 hv)
    obtain ⟨M', b', k1, k2, k3, k4, k5, k6⟩ := few_in (K := fun x1 x2 M => Md_fewest_h21 q x1 x2 M) (x := nI (2 ^ nr - 1)) (M0 := M) hBM (show s < 256 by omega) (by omega) (fun i hi => by rw [hM 327 _ (by omega)]; exact hg i (bit_lt (show s < 2 ^ nr by omega) hi)) (fun v hv => ⟨hW v hv, hle8 v (by omega)⟩) s FU 9 (uI M 338 s (nI 9)) (by unfold FU; omega) (sb_refl s) (Nat.le_refl 9) (fun a i h => by rw [gi_uI, if_neg (by omega)]) (gi_uIs _ _ _ _)
    have hL : Least B s b' := by
      have up : ∀ n, Pt B n s → b' ≤ n := fun n hn => by
        cases n with
        | zero => have : s = 0 := hn; omega
        | succ n =>
          obtain ⟨u, u1, u2, u3, u4⟩ := hn
          have h1 := k5 u u3 u2 (sb_le u3) u1
          have h2 := (wf_least hB1 (show s ^^^ u < 256 by have := sb_le (sb_xor u3); omega)).2 n u4
          omega
      have lw : b' ≤ 8 := by
        obtain ⟨n, n1, n2⟩ := pt_some hB1 8 s (Nat.le_refl 8) (by omega)
        have := up n n2
        omega
      refine ⟨?_, up⟩
      rcases k6 with k6 | ⟨v, v1, v2, v3, v4⟩
      · omega
      · rw [v4]
        exact ⟨v, v3, v2, v1, (wf_least hB1 (show s ^^^ v < 256 by have := sb_le (sb_xor v1); omega)).1⟩
    have hWs := wf_eq hB1 (show s < 256 by omega) hL
    obtain ⟨M2, r1, r2⟩ := ih (s + 1) q M' (by omega) (by omega) (by omega) (fun a i h => by rw [k2 a i (Or.inl h)]; exact hM a i h) (fun v hv => by
      by_cases hvs : v = s
      · subst hvs; rw [k3, hWs]
      · rw [k2 338 v (Or.inr hvs)]; exact hW v (by omega))
    refine ⟨M2, ?_, r2⟩
    rw [← r1, ← k1]
    simp only [Md_fewest_h21, hlt, if_false, gd_t (inb_nI (show s < 256 by omega) (by omega)), ix_nI (show s < 2 ^ 31 by omega), sq_eq, e9]
theorem fewest_m {nr : Nat} {M : Mem} {B : Nat → Prop} (hBdef : B = Bt (gi M 327 2) (fun i => gi M 327 (65 + 3 * i + 1)) (fun i => gi M 327 (65 + 3 * i + 2))) (hn : nr ≤ 8) (h0 : gi M 327 6 = nI nr) (hg : ∀ i, i < nr → gi M 327 (65 + 3 * i + 2) = 0 ∨ gi M 327 (65 + 3 * i + 2) = 1) : ∃ M', j_Md_fewest M = some (nI (Wf B (2 ^ nr - 1)), M') ∧ ∀ a i, a ≠ 338 → gi M' a i = gi M a i := by
  have hB1 : ∀ k, k < 8 → B (2 ^ k) := fun k _ => by rw [hBdef]; exact bt_one _ _ _ k
  have hp := Nat.two_pow_pos nr
  have h256 := two8 hn
  simp only [j_Md_fewest, h0, shl_full nr hn, lq_eq, sq_eq]
  exact few_out hBdef hB1 hn hg (2 ^ nr - 1) 1 FU (uI M 338 0 0) (by omega) (by omega) (by unfold FU; omega) (fun a i h => gi_uIa _ _ _ _ _ _ h) (fun v hv => by
    have : v = 0 := by omega
    subst this
    rw [gi_uIs, wf_zero hB1]; rfl)
/-- the class: feet of every set of rolls -/
theorem sum_in {K : Nat → Int32 → Mem → Option (Unit × Mem)} {d r : Nat} {f : Nat → Int32} {M0 : Mem} (hd : d + 11 < 295) (hr : r < 8) (hf : gi M0 (d + 10) r = f r) (h0 : ∀ v, v < 2 ^ r → gi M0 297 v = sumS f v 8) : ∀ m v q M, v + m = 2 ^ r → m < q → (∀ a i, a ≠ 297 → gi M a i = gi M0 a i) → (∀ w, w < 2 ^ r + v → gi M 297 w = sumS f w 8) → ∃ M', Lab_sumUp_h24 K q d (nI r) (nI (2 ^ r)) (nI v) M = K d (nI (r + 1)) M' ∧ (∀ a i, a ≠ 297 → gi M' a i = gi M0 a i) ∧ ∀ w, w < 2 ^ (r + 1) → gi M' 297 w = sumS f w 8 := by
  have h256 : 2 ^ (r + 1) ≤ 256 := two8 (by omega)
  have hdb : 2 ^ (r + 1) = 2 ^ r + 2 ^ r := by rw [Nat.pow_succ]; omega
  intro m
  induction m with
  | zero =>
    intro v q M hv hq hM hW
    obtain ⟨q, rfl⟩ : ∃ z, q = z + 1 := ⟨q - 1, by omega⟩
    have hlt : ¬ nI v < nI (2 ^ r) := nI_nlt (by omega) (by omega)
    refine ⟨M, ?_, hM, fun w hw => hW w (by omega)⟩
    simp only [Lab_sumUp_h24, hlt, if_false, lq_eq, nI_1]
  | succ m ih =>
    intro v q M hv hq hM hW
    obtain ⟨q, rfl⟩ : ∃ z, q = z + 1 := ⟨q - 1, by omega⟩
    have hlt : nI v < nI (2 ^ r) := nI_lt (by omega) (by omega)
    have hor : nI v ||| nI (2 ^ r) = nI (2 ^ r + v) := by
      have e := Nat.two_pow_add_eq_or_of_lt (show v < 2 ^ r by omega) 1
      rw [Nat.mul_one] at e
      rw [nI_or, Nat.or_comm, ← e]
    obtain ⟨M', r1, r2⟩ := ih (v + 1) q (uI M 297 (2 ^ r + v) (sumS f v 8 + f r)) (by omega) (by omega) (fun a i h => by rw [gi_uIa _ _ _ _ _ _ h]; exact hM a i h) (fun w hw => by
      by_cases hwv : w = 2 ^ r + v
      · subst hwv; rw [gi_uIs, sumS_top (by omega) hr]
      · rw [gi_uIi _ _ _ _ _ _ hwv]; exact hW w (by omega))
    refine ⟨M', ?_, r2⟩
    rw [← r1]
    have p1 := hW v (by omega)
    have p2 : gi M (d + 10) r = f r := by rw [hM _ _ (by omega)]; exact hf
    simp only [Lab_sumUp_h24, hlt, if_true, gd_t (inb_nI (show v < 256 by omega) (by omega)), gd_t (inb_nI (show r < 8 by omega) (by omega)), hor, gd_t (inb_nI (show 2 ^ r + v < 256 by omega) (by omega)), ix_nI (show v < 2 ^ 31 by omega), ix_nI (show r < 2 ^ 31 by omega), ix_nI (show 2 ^ r + v < 2 ^ 31 by omega), p1, p2, sq_eq, lq_eq, nI_1]
theorem sum_out {d nr : Nat} {f : Nat → Int32} {M0 : Mem} (hd : d + 11 < 295) (hn : nr ≤ 8) (hc : gi M0 d 2 = nI nr) (hf : ∀ i, i < nr → gi M0 (d + 10) i = f i) : ∀ m r q M, r + m = nr → m < q → (∀ a i, a ≠ 297 → gi M a i = gi M0 a i) → (∀ v, v < 2 ^ r → gi M 297 v = sumS f v 8) → ∃ M', Lab_sumUp_h9 q d (nI r) M = some ((), M') ∧ (∀ a i, a ≠ 297 → gi M' a i = gi M0 a i) ∧ ∀ w, w < 2 ^ nr → gi M' 297 w = sumS f w 8 := by
  intro m
  induction m with
  | zero =>
    intro r q M hr hq hM hW
    obtain ⟨q, rfl⟩ : ∃ z, q = z + 1 := ⟨q - 1, by omega⟩
    have hlt : ¬ nI r < nI nr := nI_nlt (by omega) (by omega)
    have e2 : gi M d 2 = nI nr := by rw [hM d 2 (by omega)]; exact hc
    refine ⟨M, ?_, hM, fun w hw => hW w (by rw [show r = nr by omega]; exact hw)⟩
    simp only [Lab_sumUp_h9, e2, hlt, if_false]
  | succ m ih =>
    intro r q M hr hq hM hW
    obtain ⟨q, rfl⟩ : ∃ z, q = z + 1 := ⟨q - 1, by omega⟩
    have hlt : nI r < nI nr := nI_lt (by omega) (by omega)
    have e2 : gi M d 2 = nI nr := by rw [hM d 2 (by omega)]; exact hc
    have h256 := two8 (show r ≤ 8 by omega)
    obtain ⟨M1, k1, k2, k3⟩ := sum_in (K := fun d1 x2 M => Lab_sumUp_h9 q d1 x2 M) (f := f) (M0 := M) hd (show r < 8 by omega) (by rw [hM _ _ (by omega)]; exact hf r (by omega)) hW (2 ^ r) 0 FU M (by omega) (by unfold FU; omega) (fun _ _ _ => rfl) (fun w hw => hW w (by omega))
    obtain ⟨M', r1, r2⟩ := ih (r + 1) q M1 (by omega) (by omega) (fun a i h => by rw [k2 a i h]; exact hM a i h) k3
    refine ⟨M', ?_, r2⟩
    rw [← r1, ← k1]
    simp only [Lab_sumUp_h9, e2, hlt, if_true, shl_bit r (by omega), lq_eq]
    rfl
theorem sumUp_c {d nr : Nat} {f : Nat → Int32} {M : Mem} (hd : d + 11 < 295) (hn : nr ≤ 8) (hc : gi M d 2 = nI nr) (hf : ∀ i, i < nr → gi M (d + 10) i = f i) : ∃ M', j_Lab_sumUp d M = some ((), M') ∧ (∀ a i, a ≠ 297 → gi M' a i = gi M a i) ∧ ∀ w, w < 2 ^ nr → gi M' 297 w = sumS f w 8 := by
  simp only [j_Lab_sumUp, sq_eq, lq_eq]
  obtain ⟨M', h1, h2, h3⟩ := sum_out (M0 := M) hd hn hc hf nr 0 FU (uI M 297 0 0) (by omega) (by unfold FU; omega) (fun a i h => gi_uIa _ _ _ _ _ _ h) (fun v hv => by
    have : v = 0 := by simpa using hv
    subst this
    rw [gi_uIs]
    simp [sumS])
  exact ⟨M', h1, h2, h3⟩
theorem rev_c {d nr : Nat} {M : Mem} (hn : nr ≤ 8) (h0 : gi M d 2 = nI nr) : ∀ m k n, k + m = nr → m < n → Lab_reversalRolls_h4 n d (nI (setN (fun i => decide (gi M (d + 11) i = 1)) k)) (nI k) M = some (nI (setN (fun i => decide (gi M (d + 11) i = 1)) nr), M) := by
  intro m
  induction m with
  | zero =>
    intro k n hk hm
    obtain ⟨n, rfl⟩ : ∃ q, n = q + 1 := ⟨n - 1, by omega⟩
    have hge : ¬ nI k < nI nr := nI_nlt (by omega) (by omega)
    simp only [Lab_reversalRolls_h4, h0, hge, if_false]
    rw [show k = nr by omega]
  | succ m ih =>
    intro k n hk hm
    obtain ⟨n, rfl⟩ : ∃ q, n = q + 1 := ⟨n - 1, by omega⟩
    have hlt : nI k < nI nr := nI_lt (by omega) (by omega)
    by_cases hp : gi M (d + 11) k = 1
    · simp only [Lab_reversalRolls_h4, Lab_reversalRolls_b28, h0, hlt, if_true, gd_t (inb_nI (show k < 8 by omega) (by omega)), ix_nI (show k < 2 ^ 31 by omega), hp, lq_eq, nI_1]
      rw [set_yes (p := fun i => decide (gi M (d + 11) i = 1)) (by omega) (by simp [hp])]
      exact ih (k + 1) n (by omega) (by omega)
    · simp only [Lab_reversalRolls_h4, Lab_reversalRolls_b28, h0, hlt, if_true, gd_t (inb_nI (show k < 8 by omega) (by omega)), ix_nI (show k < 2 ^ 31 by omega), hp, if_false, lq_eq, nI_1]
      rw [set_no (p := fun i => decide (gi M (d + 11) i = 1)) (k := k) (by simp [hp])]
      exact ih (k + 1) n (by omega) (by omega)
