/-- a set of small numbers as a word -/
def setN (p : Nat → Bool) : Nat → Nat
  | 0 => 0
  | n + 1 => setN p n + (if p n = true then 2 ^ n else 0)
theorem setN_lt (p : Nat → Bool) : ∀ n, setN p n < 2 ^ n
  | 0 => by simp [setN]
  | n + 1 => by
    have h := setN_lt p n
    have e : 2 ^ (n + 1) = 2 ^ n + 2 ^ n := by rw [Nat.pow_succ]; omega
    simp only [setN]
    split <;> omega
theorem setN_cong {p q : Nat → Bool} : ∀ n, (∀ i, i < n → p i = q i) → setN p n = setN q n
  | 0, _ => rfl
  | n + 1, h => by simp only [setN]; rw [setN_cong n (fun i hi => h i (by omega)), h n (by omega)]
theorem setN_bit (p : Nat → Bool) : ∀ n i, (setN p n).testBit i = (decide (i < n) && p i)
  | 0, i => by simp [setN]
  | n + 1, i => by
    have h := setN_bit p n i
    have hl := setN_lt p n
    simp only [setN]
    by_cases hp : p n = true
    · rw [if_pos hp, Nat.add_comm]
      by_cases hi : i = n
      · subst hi
        rw [Nat.testBit_two_pow_add_eq, Nat.testBit_lt_two_pow hl]; simp [hp]
      · by_cases hin : i < n
        · rw [Nat.testBit_two_pow_add_gt hin, h]; simp [hin]; intro _; omega
        · have : 2 ^ n + setN p n < 2 ^ i := Nat.lt_of_lt_of_le (show 2 ^ n + setN p n < 2 ^ (n + 1) by rw [Nat.pow_succ]; omega) (Nat.pow_le_pow_right (by omega) (by omega))
          rw [Nat.testBit_lt_two_pow this]; simp; intro _; omega
    · rw [if_neg hp, Nat.add_zero, h]
      by_cases hi : i = n
      · subst hi; simp [hp]
      · have : (i < n + 1) ↔ (i < n) := by omega
        simp [this]
set_option maxRecDepth 20000 in
theorem or_bit8 : ∀ k, k < 8 → ∀ a, a < 2 ^ k → (nI a ||| ((1 : Int32) <<< (nI k &&& 31))) = nI (a + 2 ^ k) := by decide +kernel
theorem or_0 (x : Int32) : (x ||| 0) = x := by simp
theorem set_yes {p : Nat → Bool} {k : Nat} (hk : k < 8) (h : p k = true) : (nI (setN p k) ||| ((1 : Int32) <<< (nI k &&& 31))) = nI (setN p (k + 1)) := by
  rw [or_bit8 k hk _ (setN_lt p k)]; simp only [setN, h, if_true]
theorem set_no {p : Nat → Bool} {k : Nat} (h : p k = false) : setN p k = setN p (k + 1) := by
  simp only [setN, h, Bool.false_eq_true, if_false, Nat.add_zero]
/-- takes shot on x -/
theorem shot_c {d nt : Nat} {x : Int32} {M : Mem} (hn : nt ≤ 8) (h1 : gi M d 1 = nI nt) : ∀ m k n, k + m = nt → m < n → Day_takesShotOn_h4 n d x (nI (setN (fun i => decide (gi M (d + 8) i = x)) k)) (nI k) M = some (nI (setN (fun i => decide (gi M (d + 8) i = x)) nt), M) := by
  intro m
  induction m with
  | zero =>
    intro k n hk hm
    obtain ⟨n, rfl⟩ : ∃ q, n = q + 1 := ⟨n - 1, by omega⟩
    have hge : ¬ nI k < nI nt := nI_nlt (by omega) (by omega)
    simp only [Day_takesShotOn_h4, h1, hge, if_false]
    rw [show k = nt by omega]
  | succ m ih =>
    intro k n hk hm
    obtain ⟨n, rfl⟩ : ∃ q, n = q + 1 := ⟨n - 1, by omega⟩
    have hlt : nI k < nI nt := nI_lt (by omega) (by omega)
    by_cases hp : gi M (d + 8) k = x
    · simp only [Day_takesShotOn_h4, Day_takesShotOn_b28, h1, hlt, if_true, gd_t (inb_nI (show k < 8 by omega) (by omega)), ix_nI (show k < 2 ^ 31 by omega), hp, lq_eq, nI_1]
      rw [set_yes (p := fun i => decide (gi M (d + 8) i = x)) (by omega) (by simp [hp])]
      exact ih (k + 1) n (by omega) (by omega)
    · simp only [Day_takesShotOn_h4, Day_takesShotOn_b28, h1, hlt, if_true, gd_t (inb_nI (show k < 8 by omega) (by omega)), ix_nI (show k < 2 ^ 31 by omega), hp, if_false, lq_eq, nI_1]
      rw [set_no (p := fun i => decide (gi M (d + 8) i = x)) (k := k) (by simp [hp])]
      exact ih (k + 1) n (by omega) (by omega)
theorem shotOn_c {d nt : Nat} {x : Int32} {M : Mem} (hn : nt ≤ 8) (h1 : gi M d 1 = nI nt) : j_Day_takesShotOn d x M = some (nI (setN (fun i => decide (gi M (d + 8) i = x)) nt), M) := by
  simp only [j_Day_takesShotOn, lq_eq]
  exact shot_c hn h1 nt 0 FU (by omega) (by unfold FU; omega)
theorem shot_m {nt : Nat} {x : Int32} {M : Mem} (hn : nt ≤ 8) (h1 : gi M 327 5 = nI nt) : ∀ m k n, k + m = nt → m < n → Md_shotOn_h4 n x (nI (setN (fun i => decide (gi M 327 (41 + 3 * i + 2) = x)) k)) (nI k) M = some (nI (setN (fun i => decide (gi M 327 (41 + 3 * i + 2) = x)) nt), M) := by
  intro m
  induction m with
  | zero =>
    intro k n hk hm
    obtain ⟨n, rfl⟩ : ∃ q, n = q + 1 := ⟨n - 1, by omega⟩
    have hge : ¬ nI k < nI nt := nI_nlt (by omega) (by omega)
    simp only [Md_shotOn_h4, h1, hge, if_false]
    rw [show k = nt by omega]
  | succ m ih =>
    intro k n hk hm
    obtain ⟨n, rfl⟩ : ∃ q, n = q + 1 := ⟨n - 1, by omega⟩
    have hlt : nI k < nI nt := nI_lt (by omega) (by omega)
    by_cases hp : gi M 327 (41 + 3 * k + 2) = x
    · simp only [Md_shotOn_h4, Md_shotOn_b39, h1, hlt, if_true, i3, nI_p2, gd_t (inb_nI (show 41 + 3 * k + 2 < 89 by omega) (by omega)), ix_nI (show 41 + 3 * k + 2 < 2 ^ 31 by omega), hp, lq_eq, nI_1]
      rw [set_yes (p := fun i => decide (gi M 327 (41 + 3 * i + 2) = x)) (by omega) (by simp [hp])]
      exact ih (k + 1) n (by omega) (by omega)
    · simp only [Md_shotOn_h4, Md_shotOn_b39, h1, hlt, if_true, i3, nI_p2, gd_t (inb_nI (show 41 + 3 * k + 2 < 89 by omega) (by omega)), ix_nI (show 41 + 3 * k + 2 < 2 ^ 31 by omega), hp, if_false, lq_eq, nI_1, or_0]
      rw [set_no (p := fun i => decide (gi M 327 (41 + 3 * i + 2) = x)) (k := k) (by simp [hp])]
      exact ih (k + 1) n (by omega) (by omega)
theorem shotOn_m {nt : Nat} {x : Int32} {M : Mem} (hn : nt ≤ 8) (h1 : gi M 327 5 = nI nt) : j_Md_shotOn x M = some (nI (setN (fun i => decide (gi M 327 (41 + 3 * i + 2) = x)) nt), M) := by
  simp only [j_Md_shotOn, lq_eq]
  exact shot_m hn h1 nt 0 FU (by omega) (by unfold FU; omega)
/-- the takes not shot -/
theorem open_m {a nt : Nat} {M : Mem} (hn : nt ≤ 8) (h1 : gi M a 5 = nI nt) : ∀ m k n, k + m = nt → m < n → Md_openOnes_h4 n a (nI (setN (fun i => decide ((gi M a (41 + 3 * i + 2)).toInt < 0)) k)) (nI k) M = some (nI (setN (fun i => decide ((gi M a (41 + 3 * i + 2)).toInt < 0)) nt), M) := by
  intro m
  induction m with
  | zero =>
    intro k n hk hm
    obtain ⟨n, rfl⟩ : ∃ q, n = q + 1 := ⟨n - 1, by omega⟩
    have hge : ¬ nI k < nI nt := nI_nlt (by omega) (by omega)
    simp only [Md_openOnes_h4, h1, hge, if_false]
    rw [show k = nt by omega]
  | succ m ih =>
    intro k n hk hm
    obtain ⟨n, rfl⟩ : ∃ q, n = q + 1 := ⟨n - 1, by omega⟩
    have hlt : nI k < nI nt := nI_lt (by omega) (by omega)
    by_cases hp : (gi M a (41 + 3 * k + 2)).toInt < 0
    · simp only [Md_openOnes_h4, Md_openOnes_b27, h1, hlt, if_true, md_isOpen (show k < 8 by omega), bd_some, hp, z1, if_false, lq_eq, nI_1]
      rw [set_yes (p := fun i => decide ((gi M a (41 + 3 * i + 2)).toInt < 0)) (by omega) (by simp [hp])]
      exact ih (k + 1) n (by omega) (by omega)
    · simp only [Md_openOnes_h4, Md_openOnes_b27, h1, hlt, if_true, md_isOpen (show k < 8 by omega), bd_some, hp, z0, if_false, lq_eq, nI_1, or_0]
      rw [set_no (p := fun i => decide ((gi M a (41 + 3 * i + 2)).toInt < 0)) (k := k) (by simp [hp])]
      exact ih (k + 1) n (by omega) (by omega)
def openN (M : Mem) (a nt : Nat) : Nat := setN (fun i => decide ((gi M a (41 + 3 * i + 2)).toInt < 0)) nt
theorem openOnes_m {a nt : Nat} {M : Mem} (hn : nt ≤ 8) (h1 : gi M a 5 = nI nt) : j_Md_openOnes a M = some (nI (openN M a nt), M) := by
  simp only [j_Md_openOnes, lq_eq]
  exact open_m hn h1 nt 0 FU (by omega) (by unfold FU; omega)
theorem openTakes_c {d a o nc nt nr : Nat} {M : Mem} (hn : nt ≤ 8) (hD : DR M d (rowM M a o) nc nt nr) : j_Day_openTakes d M = some (nI (setN (fun i => decide ((gi M a (o + (41 + 3 * i + 2))).toInt < 0)) nt), M) := by
  simp only [j_Day_openTakes, shotOn_c hn hD.1.2.1, bd_some]
  rw [setN_cong nt (fun i hi => ?_)]
  have := nn_open (hD.2.2.2.2.2.1 i hi).2.2
  exact decide_eq_decide.mpr this
/-- cans that serve a take -/
theorem serve_c {nc t : Nat} {M : Mem} (hn : nc ≤ 6) (ht : t < 8) (h0 : gi M 3 0 = nI nc) (hk : ∀ c, c < nc → 1 ≤ (gi M 5 c).toInt ∧ (gi M 5 c).toInt ≤ 5) (hk2 : 0 ≤ (gi M 9 t).toInt ∧ (gi M 9 t).toInt ≤ 5) : ∀ m k n, k + m = nc → m < n → Day_cansThatServe_h4 n 3 (nI t) (nI (setN (fun c => isOfV (gi M 5 c) (gi M 9 t)) k)) (nI k) M = some (nI (setN (fun c => isOfV (gi M 5 c) (gi M 9 t)) nc), M) := by
  intro m
  induction m with
  | zero =>
    intro k n hk hm
    obtain ⟨n, rfl⟩ : ∃ q, n = q + 1 := ⟨n - 1, by omega⟩
    have hge : ¬ nI k < nI nc := nI_nlt (by omega) (by omega)
    simp only [Day_cansThatServe_h4, h0, hge, if_false]
    rw [show k = nc by omega]
  | succ m ih =>
    intro k n hkm hm
    obtain ⟨n, rfl⟩ : ∃ q, n = q + 1 := ⟨n - 1, by omega⟩
    have hlt : nI k < nI nc := nI_lt (by omega) (by omega)
    by_cases hp : isOfV (gi M 5 k) (gi M 9 t) = true
    · simp only [Day_cansThatServe_h4, Day_cansThatServe_b27, h0, hlt, if_true, day_serves (show k < 6 by omega) ht (hk k (by omega)) hk2, bd_some, hp, z1, if_false, lq_eq, nI_1]
      rw [set_yes (p := fun c => isOfV (gi M 5 c) (gi M 9 t)) (by omega) hp]
      exact ih (k + 1) n (by omega) (by omega)
    · simp only [Day_cansThatServe_h4, Day_cansThatServe_b27, h0, hlt, if_true, day_serves (show k < 6 by omega) ht (hk k (by omega)) hk2, bd_some, hp, z0, if_false, lq_eq, nI_1]
      rw [set_no (p := fun c => isOfV (gi M 5 c) (gi M 9 t)) (k := k) (by simpa using hp)]
      exact ih (k + 1) n (by omega) (by omega)
theorem serve_m {nc t : Nat} {M : Mem} (hn : nc ≤ 6) (ht : t < 8) (h0 : gi M 327 4 = nI nc) (hk : ∀ c, c < nc → 1 ≤ (gi M 327 (13 + 4 * c)).toInt ∧ (gi M 327 (13 + 4 * c)).toInt ≤ 5) (hk2 : 0 ≤ (gi M 327 (41 + 3 * t)).toInt ∧ (gi M 327 (41 + 3 * t)).toInt ≤ 5) : ∀ m k n, k + m = nc → m < n → Md_serving_h4 n (nI t) (nI (setN (fun c => isOfV (gi M 327 (13 + 4 * c)) (gi M 327 (41 + 3 * t))) k)) (nI k) M = some (nI (setN (fun c => isOfV (gi M 327 (13 + 4 * c)) (gi M 327 (41 + 3 * t))) nc), M) := by
  intro m
  induction m with
  | zero =>
    intro k n hk hm
    obtain ⟨n, rfl⟩ : ∃ q, n = q + 1 := ⟨n - 1, by omega⟩
    have hge : ¬ nI k < nI nc := nI_nlt (by omega) (by omega)
    simp only [Md_serving_h4, h0, hge, if_false]
    rw [show k = nc by omega]
  | succ m ih =>
    intro k n hkm hm
    obtain ⟨n, rfl⟩ : ∃ q, n = q + 1 := ⟨n - 1, by omega⟩
    have hlt : nI k < nI nc := nI_lt (by omega) (by omega)
    by_cases hp : isOfV (gi M 327 (13 + 4 * k)) (gi M 327 (41 + 3 * t)) = true
    · simp only [Md_serving_h4, Md_serving_b34, h0, hlt, if_true, md_serves (show k < 7 by omega) ht (hk k (by omega)) hk2, bd_some, hp, z1, if_false, lq_eq, nI_1]
      rw [set_yes (p := fun c => isOfV (gi M 327 (13 + 4 * c)) (gi M 327 (41 + 3 * t))) (by omega) hp]
      exact ih (k + 1) n (by omega) (by omega)
    · simp only [Md_serving_h4, Md_serving_b34, h0, hlt, if_true, md_serves (show k < 7 by omega) ht (hk k (by omega)) hk2, bd_some, hp, z0, if_false, lq_eq, nI_1, or_0]
      rw [set_no (p := fun c => isOfV (gi M 327 (13 + 4 * c)) (gi M 327 (41 + 3 * t))) (k := k) (by simpa using hp)]
      exact ih (k + 1) n (by omega) (by omega)
/-- the cans that are rooms -/
theorem rooms_c {d nc : Nat} {M : Mem} (hn : nc ≤ 6) (h0 : gi M d 0 = nI nc) : ∀ m k n, k + m = nc → m < n → Day_rooms_h4 n d (nI (setN (fun c => !decide (gi M (d + 4) c = 2)) k)) (nI k) M = some (nI (setN (fun c => !decide (gi M (d + 4) c = 2)) nc), M) := by
  intro m
  induction m with
  | zero =>
    intro k n hk hm
    obtain ⟨n, rfl⟩ : ∃ q, n = q + 1 := ⟨n - 1, by omega⟩
    have hge : ¬ nI k < nI nc := nI_nlt (by omega) (by omega)
    simp only [Day_rooms_h4, h0, hge, if_false]
    rw [show k = nc by omega]
  | succ m ih =>
    intro k n hkm hm
    obtain ⟨n, rfl⟩ : ∃ q, n = q + 1 := ⟨n - 1, by omega⟩
    have hlt : nI k < nI nc := nI_lt (by omega) (by omega)
    by_cases hp : gi M (d + 4) k = 2
    · simp only [Day_rooms_h4, Day_rooms_b26, j_Day_isRoom, gd_t (inb_nI (show k < 6 by omega) (by omega)), ix_nI (show k < 2 ^ 31 by omega), h0, hlt, if_true, bd_some, hp, lq_eq, nI_1]
      rw [set_no (p := fun c => !decide (gi M (d + 4) c = 2)) (k := k) (by simp [hp])]
      exact ih (k + 1) n (by omega) (by omega)
    · simp only [Day_rooms_h4, Day_rooms_b26, j_Day_isRoom, gd_t (inb_nI (show k < 6 by omega) (by omega)), ix_nI (show k < 2 ^ 31 by omega), h0, hlt, if_true, bd_some, hp, z1, if_false, lq_eq, nI_1]
      rw [set_yes (p := fun c => !decide (gi M (d + 4) c = 2)) (by omega) (by simp [hp])]
      exact ih (k + 1) n (by omega) (by omega)
theorem dayRooms {d nc : Nat} {M : Mem} (hn : nc ≤ 6) (h0 : gi M d 0 = nI nc) : j_Day_rooms d M = some (nI (setN (fun c => !decide (gi M (d + 4) c = 2)) nc), M) := by
  simp only [j_Day_rooms, lq_eq]
  exact rooms_c hn h0 nc 0 FU (by omega) (by unfold FU; omega)
