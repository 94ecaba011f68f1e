theorem day_far : ∀ d ∈ dayL, ∀ e ∈ dayL, d ≠ e → d + 12 ≤ e ∨ e + 12 ≤ d := by decide +kernel
theorem cpI_at {M : Mem} {a0 a n j : Nat} (h : j < n) : gi (cpI M a0 0 a 0 n) a j = gi M a0 j := by
  rw [gi_cpI, if_pos rfl, pk_cpy_in (Nat.zero_le _) (by omega)]
  simp [gi]
theorem cpI_ne {M : Mem} {a0 a n b j : Nat} (h : b ≠ a) : gi (cpI M a0 0 a 0 n) b j = gi M b j := by
  rw [gi_cpI, if_neg h]
set_option maxHeartbeats 4000000 in
theorem copyFrom_ok {d e : Nat} (hd : isDay d) (he : isDay e) (hne : d ≠ e) (M : Mem) : ∃ M', j_Day_copyFrom d e M = some ((), M') ∧ (∀ a i, (a < d ∨ d + 11 < a) → gi M' a i = gi M a i) ∧ (∀ i, i < 9 → gi M' d i = gi M e i) ∧ (∀ j, 1 ≤ j → j ≤ 11 → ∀ i, i < ln (3 + j) → gi M' (d + j) i = gi M (e + j) i) := by
  have hfar := day_far d hd e he hne
  refine ⟨_, rfl, ?_, ?_, ?_⟩
  · intro a i ha
    rw [cpI_ne (by omega), cpI_ne (by omega), cpI_ne (by omega), cpI_ne (by omega), cpI_ne (by omega), cpI_ne (by omega), cpI_ne (by omega), cpI_ne (by omega), cpI_ne (by omega), cpI_ne (by omega), cpI_ne (by omega)]
    rw [gi_uIa _ _ _ _ _ _ (by omega), gi_uIa _ _ _ _ _ _ (by omega), gi_uIa _ _ _ _ _ _ (by omega), gi_uIa _ _ _ _ _ _ (by omega), gi_uIa _ _ _ _ _ _ (by omega), gi_uIa _ _ _ _ _ _ (by omega), gi_uIa _ _ _ _ _ _ (by omega), gi_uIa _ _ _ _ _ _ (by omega), gi_uIa _ _ _ _ _ _ (by omega)]
  · intro i hi
    rw [cpI_ne (by omega), cpI_ne (by omega), cpI_ne (by omega), cpI_ne (by omega), cpI_ne (by omega), cpI_ne (by omega), cpI_ne (by omega), cpI_ne (by omega), cpI_ne (by omega), cpI_ne (by omega), cpI_ne (by omega)]
    have hed : e ≠ d := Ne.symm hne
    match i, hi with
    | 0, _ => simp only [gi_uI, hed, true_and, false_and, if_false, if_true, Nat.reduceEqDiff, reduceIte]
    | 1, _ => simp only [gi_uI, hed, true_and, false_and, if_false, if_true, Nat.reduceEqDiff, reduceIte]
    | 2, _ => simp only [gi_uI, hed, true_and, false_and, if_false, if_true, Nat.reduceEqDiff, reduceIte]
    | 3, _ => simp only [gi_uI, hed, true_and, false_and, if_false, if_true, Nat.reduceEqDiff, reduceIte]
    | 4, _ => simp only [gi_uI, hed, true_and, false_and, if_false, if_true, Nat.reduceEqDiff, reduceIte]
    | 5, _ => simp only [gi_uI, hed, true_and, false_and, if_false, if_true, Nat.reduceEqDiff, reduceIte]
    | 6, _ => simp only [gi_uI, hed, true_and, false_and, if_false, if_true, Nat.reduceEqDiff, reduceIte]
    | 7, _ => simp only [gi_uI, hed, true_and, false_and, if_false, if_true, Nat.reduceEqDiff, reduceIte]
    | 8, _ => simp only [gi_uI, hed, true_and, false_and, if_false, if_true, Nat.reduceEqDiff, reduceIte]
    | k + 9, h => exact absurd h (by omega)
  · have hu : ∀ (v0 v1 v2 v3 v4 v5 v6 v7 v8 : Int32) (b i : Nat), b ≠ d → gi (uI (uI (uI (uI (uI (uI (uI (uI (uI M d 0 v0) d 1 v1) d 2 v2) d 3 v3) d 4 v4) d 5 v5) d 6 v6) d 7 v7) d 8 v8) b i = gi M b i := by
      intro v0 v1 v2 v3 v4 v5 v6 v7 v8 b i hb
      rw [gi_uIa _ _ _ _ _ _ hb, gi_uIa _ _ _ _ _ _ hb, gi_uIa _ _ _ _ _ _ hb, gi_uIa _ _ _ _ _ _ hb, gi_uIa _ _ _ _ _ _ hb, gi_uIa _ _ _ _ _ _ hb, gi_uIa _ _ _ _ _ _ hb, gi_uIa _ _ _ _ _ _ hb, gi_uIa _ _ _ _ _ _ hb]
    intro j h1 h2 i hi
    match j, h1, h2, hi with
    | 1, _, _, hi => rw [cpI_ne (by omega), cpI_ne (by omega), cpI_ne (by omega), cpI_ne (by omega), cpI_ne (by omega), cpI_ne (by omega), cpI_ne (by omega), cpI_ne (by omega), cpI_ne (by omega), cpI_ne (by omega), cpI_at (n := 4) hi, hu _ _ _ _ _ _ _ _ _ _ _ (by omega)]
    | 2, _, _, hi => rw [cpI_ne (by omega), cpI_ne (by omega), cpI_ne (by omega), cpI_ne (by omega), cpI_ne (by omega), cpI_ne (by omega), cpI_ne (by omega), cpI_ne (by omega), cpI_ne (by omega), cpI_at (n := 6) hi, cpI_ne (by omega), hu _ _ _ _ _ _ _ _ _ _ _ (by omega)]
    | 3, _, _, hi => rw [cpI_ne (by omega), cpI_ne (by omega), cpI_ne (by omega), cpI_ne (by omega), cpI_ne (by omega), cpI_ne (by omega), cpI_ne (by omega), cpI_ne (by omega), cpI_at (n := 6) hi, cpI_ne (by omega), cpI_ne (by omega), hu _ _ _ _ _ _ _ _ _ _ _ (by omega)]
    | 4, _, _, hi => rw [cpI_ne (by omega), cpI_ne (by omega), cpI_ne (by omega), cpI_ne (by omega), cpI_ne (by omega), cpI_ne (by omega), cpI_ne (by omega), cpI_at (n := 6) hi, cpI_ne (by omega), cpI_ne (by omega), cpI_ne (by omega), hu _ _ _ _ _ _ _ _ _ _ _ (by omega)]
    | 5, _, _, hi => rw [cpI_ne (by omega), cpI_ne (by omega), cpI_ne (by omega), cpI_ne (by omega), cpI_ne (by omega), cpI_ne (by omega), cpI_at (n := 6) hi, cpI_ne (by omega), cpI_ne (by omega), cpI_ne (by omega), cpI_ne (by omega), hu _ _ _ _ _ _ _ _ _ _ _ (by omega)]
    | 6, _, _, hi => rw [cpI_ne (by omega), cpI_ne (by omega), cpI_ne (by omega), cpI_ne (by omega), cpI_ne (by omega), cpI_at (n := 8) hi, cpI_ne (by omega), cpI_ne (by omega), cpI_ne (by omega), cpI_ne (by omega), cpI_ne (by omega), hu _ _ _ _ _ _ _ _ _ _ _ (by omega)]
    | 7, _, _, hi => rw [cpI_ne (by omega), cpI_ne (by omega), cpI_ne (by omega), cpI_ne (by omega), cpI_at (n := 8) hi, cpI_ne (by omega), cpI_ne (by omega), cpI_ne (by omega), cpI_ne (by omega), cpI_ne (by omega), cpI_ne (by omega), hu _ _ _ _ _ _ _ _ _ _ _ (by omega)]
    | 8, _, _, hi => rw [cpI_ne (by omega), cpI_ne (by omega), cpI_ne (by omega), cpI_at (n := 8) hi, cpI_ne (by omega), cpI_ne (by omega), cpI_ne (by omega), cpI_ne (by omega), cpI_ne (by omega), cpI_ne (by omega), cpI_ne (by omega), hu _ _ _ _ _ _ _ _ _ _ _ (by omega)]
    | 9, _, _, hi => rw [cpI_ne (by omega), cpI_ne (by omega), cpI_at (n := 8) hi, cpI_ne (by omega), cpI_ne (by omega), cpI_ne (by omega), cpI_ne (by omega), cpI_ne (by omega), cpI_ne (by omega), cpI_ne (by omega), cpI_ne (by omega), hu _ _ _ _ _ _ _ _ _ _ _ (by omega)]
    | 10, _, _, hi => rw [cpI_ne (by omega), cpI_at (n := 8) hi, cpI_ne (by omega), cpI_ne (by omega), cpI_ne (by omega), cpI_ne (by omega), cpI_ne (by omega), cpI_ne (by omega), cpI_ne (by omega), cpI_ne (by omega), cpI_ne (by omega), hu _ _ _ _ _ _ _ _ _ _ _ (by omega)]
    | 11, _, _, hi => rw [cpI_at (n := 8) hi, cpI_ne (by omega), cpI_ne (by omega), cpI_ne (by omega), cpI_ne (by omega), cpI_ne (by omega), cpI_ne (by omega), cpI_ne (by omega), cpI_ne (by omega), cpI_ne (by omega), cpI_ne (by omega), hu _ _ _ _ _ _ _ _ _ _ _ (by omega)]
    | k + 12, _, h, _ => exact absurd h (by omega)
theorem nI_min20 {a : Nat} (h : a ≤ 20) : mn (nI a + 1) 20 = nI (min (a + 1) 20) := by
  rw [nI_1]
  have e : (20 : Int32) = nI 20 := rfl
  simp only [mn, e, nI_ltI (show 20 < 2 ^ 31 by omega) (show a + 1 < 2 ^ 31 by omega)]
  by_cases h2 : 20 < a + 1
  · rw [if_pos h2]; congr 1; omega
  · rw [if_neg h2]; congr 1; omega
theorem keep_ok {M : Mem} {a q : Nat} (ha : a ≤ 20) (hq : q < 20) (h1 : gi M 27 1 = nI q) (h2 : gi M 27 2 = nI a) : ∃ Mk, j_Hist_keep 3 M = some ((), Mk) ∧ (∀ b i, b ≠ 27 → (b < 29 + 12 * q ∨ 29 + 12 * q + 11 < b) → gi Mk b i = gi M b i) ∧ gi Mk 27 1 = nI ((q + 1) % 20) ∧ gi Mk 27 2 = nI (min (a + 1) 20) ∧ (∀ i, i < 9 → gi Mk (29 + 12 * q) i = gi M 3 i) ∧ (∀ j, 1 ≤ j → j ≤ 11 → ∀ i, i < ln (3 + j) → gi Mk (29 + 12 * q + j) i = gi M (3 + j) i) := by
  obtain ⟨M', e1, e2, e3, e4⟩ := copyFrom_ok (ring_D q hq) day_3 (by omega) M
  have hin : inb (gi M 27 1) 20 = true := by rw [h1]; exact inb_nI hq (by omega)
  have hx : ix (gi M 27 1) = q := by rw [h1]; exact ix_nI (by omega)
  have g1 : gi M' 27 1 = nI q := by rw [e2 27 1 (by omega)]; exact h1
  have g2 : gi M' 27 2 = nI a := by rw [e2 27 2 (by omega)]; exact h2
  have e20 : (20 : Int32) = nI 20 := rfl
  have step : ∀ v : Int32, Hist_keep_b35 v M' = some ((), uI (uI M' 27 1 v) 27 2 (nI (min (a + 1) 20))) := by
    intro v
    simp only [Hist_keep_b35, sq_eq, gi_uIi _ _ _ _ _ _ (show (2 : Nat) ≠ 1 by omega), g2, nI_min20 ha]
  have hfin : ∃ v : Int32, v = nI ((q + 1) % 20) ∧ j_Hist_keep 3 M = some ((), uI (uI M' 27 1 v) 27 2 (nI (min (a + 1) 20))) := by
    simp only [j_Hist_keep, gd_t hin, hx, e1, bd_some, g1, nI_1, e20, nI_ltI (show q + 1 < 2 ^ 31 by omega) (show 20 < 2 ^ 31 by omega)]
    by_cases hc : q + 1 < 20
    · rw [if_pos hc, step]
      exact ⟨_, by rw [Nat.mod_eq_of_lt hc], rfl⟩
    · rw [if_neg hc, step]
      exact ⟨_, by rw [show q + 1 = 20 by omega]; rfl, rfl⟩
  obtain ⟨v, hv, he⟩ := hfin
  refine ⟨_, he, ?_, ?_, ?_, ?_, ?_⟩
  · intro b i hb hr
    rw [gi_uIa _ _ _ _ _ _ hb, gi_uIa _ _ _ _ _ _ hb, e2 b i hr]
  · rw [gi_uIi _ _ _ _ _ _ (by omega), gi_uIs, hv]
  · rw [gi_uIs]
  · intro i hi
    rw [gi_uIa _ _ _ _ _ _ (by omega), gi_uIa _ _ _ _ _ _ (by omega), e3 i hi]
  · intro j hj1 hj2 i hi
    rw [gi_uIa _ _ _ _ _ _ (by omega), gi_uIa _ _ _ _ _ _ (by omega), e4 j hj1 hj2 i hi]
/-! rows copied, by the reference -/
def cpyM (M : Mem) (a0 p a2 q n : Nat) : Mem := (fun b j => if b = a2 ∧ q ≤ j ∧ j < q + n then M.1 a0 (p + (j - q)) else M.1 b j, M.2)
theorem gi_cpyM (M : Mem) (a0 p a2 q n b j : Nat) : gi (cpyM M a0 p a2 q n) b j = if b = a2 ∧ q ≤ j ∧ j < q + n then gi M a0 (p + (j - q)) else gi M b j := rfl
theorem cpyM_succ {M : Mem} {a0 p a2 q n : Nat} (hne : a0 ≠ a2) : uI (cpyM M a0 p a2 q n) a2 (q + n) (gi (cpyM M a0 p a2 q n) a0 (p + n)) = cpyM M a0 p a2 q (n + 1) := by
  have h1 : gi (cpyM M a0 p a2 q n) a0 (p + n) = M.1 a0 (p + n) := by rw [gi_cpyM, if_neg (fun h => hne h.1)]; rfl
  rw [h1]
  apply Prod.ext
  · funext b j
    show (if b = a2 ∧ j = q + n then M.1 a0 (p + n) else if b = a2 ∧ q ≤ j ∧ j < q + n then M.1 a0 (p + (j - q)) else M.1 b j) = if b = a2 ∧ q ≤ j ∧ j < q + (n + 1) then M.1 a0 (p + (j - q)) else M.1 b j
    by_cases hb : b = a2
    · by_cases hj : j = q + n
      · rw [if_pos ⟨hb, hj⟩, if_pos ⟨hb, by omega, by omega⟩, hj, show q + n - q = n by omega]
      · rw [if_neg (fun h => hj h.2)]
        by_cases h2 : q ≤ j ∧ j < q + n
        · rw [if_pos ⟨hb, h2⟩, if_pos ⟨hb, by omega, by omega⟩]
        · rw [if_neg (fun h => h2 h.2), if_neg (fun h => h2 ⟨h.2.1, by omega⟩)]
    · rw [if_neg (fun h => hb h.1), if_neg (fun h => hb h.1), if_neg (fun h => hb h.1)]
  · rfl
theorem cpyM_zero {M : Mem} {a0 p a2 q : Nat} : cpyM M a0 p a2 q 0 = M := by
  apply Prod.ext
  · funext b j
    show (if b = a2 ∧ q ≤ j ∧ j < q + 0 then M.1 a0 (p + (j - q)) else M.1 b j) = M.1 b j
    rw [if_neg (fun h => by omega)]
  · rfl
theorem copies_loop {a0 p a2 q : Nat} (M : Mem) (hne : a0 ≠ a2) (h1 : p + 89 ≤ ln a0) (h2 : q + 89 ≤ ln a2) (h3 : ln a0 < 2 ^ 30) (h4 : ln a2 < 2 ^ 30) : ∀ (m k n : Nat), k + m = 89 → m < n → Md_copies_h3 n a0 (nI p) a2 (nI q) (nI k) (cpyM M a0 p a2 q k) = some ((), cpyM M a0 p a2 q 89) := by
  have e89 : (89 : Int32) = nI 89 := rfl
  intro m
  induction m with
  | zero =>
    intro k n hk hn
    obtain ⟨n, rfl⟩ : ∃ n', n = n' + 1 := ⟨n - 1, by omega⟩
    have : k = 89 := by omega
    subst this
    rw [Md_copies_h3, e89, if_neg (by rw [nI_ltI (by omega) (by omega)]; omega)]
  | succ m ih =>
    intro k n hk hn
    obtain ⟨n, rfl⟩ : ∃ n', n = n' + 1 := ⟨n - 1, by omega⟩
    rw [Md_copies_h3, e89, if_pos (by rw [nI_ltI (by omega) (by omega)]; omega), nI_add, nI_add, gd_t (inb_nI (by omega) (by omega)), gd_t (inb_nI (by omega) (by omega)), ix_nI (by omega), ix_nI (by omega), sq_eq, lq_eq, nI_1, cpyM_succ hne]
    exact ih (k + 1) n (by omega) (by omega)
theorem copies_ok {a0 p a2 q : Nat} (M : Mem) (hne : a0 ≠ a2) (h1 : p + 89 ≤ ln a0) (h2 : q + 89 ≤ ln a2) (h3 : ln a0 < 2 ^ 30) (h4 : ln a2 < 2 ^ 30) : j_Md_copies a0 (nI p) a2 (nI q) M = some ((), cpyM M a0 p a2 q 89) := by
  have h := copies_loop M hne h1 h2 h3 h4 89 0 FU rfl (by decide)
  rw [cpyM_zero] at h
  exact h
