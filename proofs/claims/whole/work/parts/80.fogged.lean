theorem pow_in {a b : Nat} {M : Mem} (ha : a < 2 ^ 31) (hb : b < 2 ^ 30) : ∀ m k q, k + m = b → m < q → Fc_power_h5 q (nI a) (nI b) (nL (a ^ k)) (nI k) M = some (nL (a ^ b), M) := by
  intro m
  induction m with
  | zero =>
    intro k q hk hq
    obtain ⟨q, rfl⟩ : ∃ z, q = z + 1 := ⟨q - 1, by omega⟩
    have hge : ¬ nI k < nI b := nI_nlt (by omega) (by omega)
    have hkb : k = b := by omega
    subst hkb
    simp only [Fc_power_h5, hge, if_false]
  | succ m ih =>
    intro k q hk hq
    obtain ⟨q, rfl⟩ : ∃ z, q = z + 1 := ⟨q - 1, by omega⟩
    have hlt : nI k < nI b := nI_lt (by omega) (by omega)
    have ihk := ih (k + 1) q (by omega) (by omega)
    rw [Nat.pow_succ, ← nL_mul] at ihk
    simp only [Fc_power_h5, hlt, if_true, nL_of ha, lq_eq, nI_1]
    exact ihk
theorem pow_c {a b : Nat} (M : Mem) (ha : a < 2 ^ 31) (hb : b < 1000) : j_Fc_power (nI a) (nI b) M = some (nL (a ^ b), M) := pow_in (M := M) ha (by omega) b 0 FU (by omega) (by unfold FU; omega)
theorem ten_minus : ∀ p, p ≤ 10 → (10 : Int32) - nI p = nI (10 - p) := by decide
theorem nI_minus : ∀ a, a ≤ 8 → ∀ b, b ≤ a → nI a - nI b = nI (a - b) := by decide +kernel
/-- the cases in which the cans of x (and no other) are clear, if all can be placed then -/
noncomputable def clr (f : Nat → Int32) (nc O p x : Nat) : Nat := if dB (sb x (Rf f nc) ∧ Pf (Hr f nc O x) 6 0 O) = true then (10 - p) ^ cnt (fun i => x.testBit i) 8 * p ^ (cnt (fun i => (Rf f nc).testBit i) 8 - cnt (fun i => x.testBit i) 8) else 0
theorem cases_in {f : Nat → Int32} {nc nt O p : Nat} {M : Mem} (h : RM M f nc nt O) (hT : RT M f nc O (O + 1)) (n6 : nc ≤ 6) (hO : O < 256) (hp : p ≤ 10) : ∀ m x q, x + m = 64 → m < q → Reach_casesAmongTens_h5 q (nI p) (nL (sm (clr f nc O p) x)) (nI x) M = some (nL (sm (clr f nc O p) 64), M) := by
  have e64 : (64 : Int32) = nI 64 := rfl
  have hR : Rf f nc < 256 := Nat.lt_of_lt_of_le (setN_lt _ nc) (two8 (by omega))
  intro m
  induction m with
  | zero =>
    intro x q hx hq
    obtain ⟨q, rfl⟩ : ∃ z, q = z + 1 := ⟨q - 1, by omega⟩
    have hge : ¬ nI x < nI 64 := nI_nlt (by omega) (by omega)
    have hx6 : x = 64 := by omega
    subst hx6
    simp only [Reach_casesAmongTens_h5, e64, hge, if_false]
  | succ m ih =>
    intro x q hx hq
    obtain ⟨q, rfl⟩ : ∃ z, q = z + 1 := ⟨q - 1, by omega⟩
    have hlt : nI x < nI 64 := nI_lt (by omega) (by omega)
    have ihk := ih (x + 1) q (by omega) (by omega)
    have es : sm (clr f nc O p) (x + 1) = sm (clr f nc O p) x + clr f nc O p x := rfl
    rw [es] at ihk
    by_cases hsb : sb x (Rf f nc)
    · have ha : (nI x &&& (nI (Rf f nc) ^^^ (-1))) = 0 := (and_not0 (show x < 2 ^ 32 by omega)).mpr hsb
      have hpl := placed_c hT (sb_refl O) (show O < O + 1 by omega) hO (show x < 64 by omega)
      by_cases hP : Pf (Hr f nc O x) 6 0 O
      · have hc := (pr_set (p := p) hsb 8).2
        have hc8 := cnt_le (fun i => (Rf f nc).testBit i) 8
        have ec : clr f nc O p x = (10 - p) ^ cnt (fun i => x.testBit i) 8 * p ^ (cnt (fun i => (Rf f nc).testBit i) 8 - cnt (fun i => x.testBit i) 8) := if_pos (dB_iff.mpr ⟨hsb, hP⟩)
        rw [ec, ← nL_add, ← nL_mul] at ihk
        simp only [Reach_casesAmongTens_h5, Reach_casesAmongTens_b71, e64, hlt, if_true, h.1.1, ha, h.1.2, hpl.1 hP, bd_some, z1, if_false, bc_eq, bc_val x (show x < 256 by omega), bc_val _ hR, ten_minus p hp, pow_c M (show 10 - p < 2 ^ 31 by omega) (show cnt (fun i => x.testBit i) 8 < 1000 by omega), nI_minus _ hc8 _ hc, pow_c M (show p < 2 ^ 31 by omega) (show cnt (fun i => (Rf f nc).testBit i) 8 - cnt (fun i => x.testBit i) 8 < 1000 by omega), lq_eq, nI_1]
        exact ihk
      · have ec : clr f nc O p x = 0 := if_neg (fun z => hP (dB_iff.mp z).2)
        rw [ec, Nat.add_zero] at ihk
        simp only [Reach_casesAmongTens_h5, Reach_casesAmongTens_b71, e64, hlt, if_true, h.1.1, ha, h.1.2, hpl.2 hP, bd_some, lq_eq, nI_1]
        exact ihk
    · have ha : ¬ (nI x &&& (nI (Rf f nc) ^^^ (-1))) = 0 := fun z => hsb ((and_not0 (show x < 2 ^ 32 by omega)).mp z)
      have ec : clr f nc O p x = 0 := if_neg (fun z => hsb (dB_iff.mp z).1)
      rw [ec, Nat.add_zero] at ihk
      simp only [Reach_casesAmongTens_h5, Reach_casesAmongTens_b71, e64, hlt, if_true, h.1.1, ha, if_false, lq_eq, nI_1]
      exact ihk
theorem euc {a b : Nat} (hb : 0 < b) (hr : 0 < a % b) : 2 * (b % (a % b)) < b := by
  have h1 := Nat.mod_lt a hb
  have h2 := Nat.mod_lt b hr
  rcases Nat.lt_or_ge b (2 * (a % b)) with g | g
  · have e : b / (a % b) = 1 := by
      apply Nat.div_eq_of_lt_le
      · omega
      · omega
    have := Nat.div_add_mod b (a % b)
    rw [e] at this
    omega
  · omega
theorem gcd_c {M : Mem} : ∀ j a b x q, b < 2 ^ j → j ≤ 40 → a < 2 ^ 60 → x + 2 * j + 1 ≤ 100 → 2 * j + 1 < q → Fc_greatestDivisor_h3 q (nL a) (nL b) (nI x) M = some (nL (Nat.gcd a b), M) := by
  have e100 : (100 : Int32) = nI 100 := rfl
  intro j
  induction j with
  | zero =>
    intro a b x q hb hj ha hx hq
    obtain ⟨q, rfl⟩ : ∃ z, q = z + 1 := ⟨q - 1, by omega⟩
    have hlt : nI x < nI 100 := nI_lt (by omega) (by omega)
    have hb0 : b = 0 := by omega
    subst hb0
    simp only [Fc_greatestDivisor_h3, e100, hlt, if_true, (nL_eq0 (show 0 < 2 ^ 62 by omega)).mpr rfl, Nat.gcd_zero_right]
  | succ j ih =>
    intro a b x q hb hj ha hx hq
    have h40 : 2 ^ (j + 1) ≤ 2 ^ 40 := Nat.pow_le_pow_right (by omega) (by omega)
    obtain ⟨q, rfl⟩ : ∃ z, q = z + 1 := ⟨q - 1, by omega⟩
    have hlt : nI x < nI 100 := nI_lt (by omega) (by omega)
    by_cases hb0 : b = 0
    · subst hb0
      simp only [Fc_greatestDivisor_h3, e100, hlt, if_true, (nL_eq0 (show 0 < 2 ^ 62 by omega)).mpr rfl, Nat.gcd_zero_right]
    · have hbn : ¬ nL b = 0 := fun z => hb0 ((nL_eq0 (by omega)).mp z)
      have hlt1 := Nat.mod_lt a (show 0 < b by omega)
      have e1 : Fc_greatestDivisor_h3 (q + 1) (nL a) (nL b) (nI x) M = Fc_greatestDivisor_h3 q (nL b) (nL (a % b)) (nI (x + 1)) M := by
        simp only [Fc_greatestDivisor_h3, e100, hlt, if_true, hbn, if_false, nL_mod (show a < 2 ^ 62 by omega) (show b < 2 ^ 62 by omega), lq_eq, nI_1]
      rw [e1]
      obtain ⟨q, rfl⟩ : ∃ z, q = z + 1 := ⟨q - 1, by omega⟩
      have hlt2 : nI (x + 1) < nI 100 := nI_lt (by omega) (by omega)
      by_cases hr : a % b = 0
      · rw [hr]
        have hg : Nat.gcd a b = b := by rw [Nat.gcd_comm, Nat.gcd_rec, hr, Nat.gcd_zero_left]
        simp only [Fc_greatestDivisor_h3, e100, hlt2, if_true, (nL_eq0 (show 0 < 2 ^ 62 by omega)).mpr rfl, hg]
      · have hrn : ¬ nL (a % b) = 0 := fun z => hr ((nL_eq0 (by omega)).mp z)
        have he := euc (a := a) (b := b) (by omega) (by omega)
        have hlt3 := Nat.mod_lt b (show 0 < a % b by omega)
        have hg : Nat.gcd (a % b) (b % (a % b)) = Nat.gcd a b := by
          rw [Nat.gcd_comm (a % b) (b % (a % b)), ← Nat.gcd_rec (a % b) b, ← Nat.gcd_rec b a, Nat.gcd_comm]
        have hpow : b % (a % b) < 2 ^ j := by rw [Nat.pow_succ] at hb; omega
        have ihk := ih (a % b) (b % (a % b)) (x + 1 + 1) q hpow (by omega) (by omega) (by omega) (by omega)
        rw [hg] at ihk
        simp only [Fc_greatestDivisor_h3, e100, hlt2, if_true, hrn, if_false, nL_mod (show b < 2 ^ 62 by omega) (show a % b < 2 ^ 62 by omega), lq_eq, nI_1]
        exact ihk
theorem gcd_m {M : Mem} : ∀ j a b q, b < 2 ^ j → j ≤ 40 → a < 2 ^ 60 → 2 * j + 1 < q → Md_gcd_h6 q (nL a) (nL b) M = some (nL (Nat.gcd a b), M) := by
  intro j
  induction j with
  | zero =>
    intro a b q hb hj ha hq
    obtain ⟨q, rfl⟩ : ∃ z, q = z + 1 := ⟨q - 1, by omega⟩
    have hb0 : b = 0 := by omega
    subst hb0
    simp only [Md_gcd_h6, (nL_eq0 (show 0 < 2 ^ 62 by omega)).mpr rfl, if_true, Nat.gcd_zero_right]
  | succ j ih =>
    intro a b q hb hj ha hq
    have h40 : 2 ^ (j + 1) ≤ 2 ^ 40 := Nat.pow_le_pow_right (by omega) (by omega)
    obtain ⟨q, rfl⟩ : ∃ z, q = z + 1 := ⟨q - 1, by omega⟩
    by_cases hb0 : b = 0
    · subst hb0
      simp only [Md_gcd_h6, (nL_eq0 (show 0 < 2 ^ 62 by omega)).mpr rfl, if_true, Nat.gcd_zero_right]
    · have hbn : ¬ nL b = 0 := fun z => hb0 ((nL_eq0 (by omega)).mp z)
      have hlt1 := Nat.mod_lt a (show 0 < b by omega)
      have e1 : Md_gcd_h6 (q + 1) (nL a) (nL b) M = Md_gcd_h6 q (nL b) (nL (a % b)) M := by
        simp only [Md_gcd_h6, hbn, if_false, nL_mod (show a < 2 ^ 62 by omega) (show b < 2 ^ 62 by omega), lq_eq]
      rw [e1]
      obtain ⟨q, rfl⟩ : ∃ z, q = z + 1 := ⟨q - 1, by omega⟩
      by_cases hr : a % b = 0
      · rw [hr]
        have hg : Nat.gcd a b = b := by rw [Nat.gcd_comm, Nat.gcd_rec, hr, Nat.gcd_zero_left]
        simp only [Md_gcd_h6, (nL_eq0 (show 0 < 2 ^ 62 by omega)).mpr rfl, if_true, hg]
      · have hrn : ¬ nL (a % b) = 0 := fun z => hr ((nL_eq0 (by omega)).mp z)
        have he := euc (a := a) (b := b) (by omega) (by omega)
        have hlt3 := Nat.mod_lt b (show 0 < a % b by omega)
        have hg : Nat.gcd (a % b) (b % (a % b)) = Nat.gcd a b := by
          rw [Nat.gcd_comm (a % b) (b % (a % b)), ← Nat.gcd_rec (a % b) b, ← Nat.gcd_rec b a, Nat.gcd_comm]
        have hpow : b % (a % b) < 2 ^ j := by rw [Nat.pow_succ] at hb; omega
        have ihk := ih (a % b) (b % (a % b)) q hpow (by omega) (by omega) (by omega)
        rw [hg] at ihk
        simp only [Md_gcd_h6, hrn, if_false, nL_mod (show b < 2 ^ 62 by omega) (show a % b < 2 ^ 62 by omega), lq_eq]
        exact ihk
