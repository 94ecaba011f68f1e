def sm (F : Nat → Nat) : Nat → Nat
  | 0 => 0
  | n + 1 => sm F n + F n
theorem sm_cong {F G : Nat → Nat} : ∀ n, (∀ i, i < n → F i = G i) → sm F n = sm G n
  | 0, _ => rfl
  | n + 1, h => by
    show sm F n + F n = sm G n + G n
    rw [sm_cong n (fun i hi => h i (by omega)), h n (by omega)]
theorem sm_add (F : Nat → Nat) (n : Nat) : ∀ m, sm F (n + m) = sm F n + sm (fun i => F (n + i)) m
  | 0 => rfl
  | m + 1 => by
    show sm F (n + m) + F (n + m) = _
    rw [sm_add F n m]
    show _ = sm F n + (sm (fun i => F (n + i)) m + F (n + m))
    omega
theorem sm_zero {F : Nat → Nat} {n : Nat} (h : ∀ i, n ≤ i → F i = 0) : ∀ m, sm F (n + m) = sm F n
  | 0 => rfl
  | m + 1 => by
    show sm F (n + m) + F (n + m) = _
    rw [sm_zero h m, h (n + m) (by omega), Nat.add_zero]
theorem sm_mul (F : Nat → Nat) (a : Nat) : ∀ n, sm (fun i => F i * a) n = sm F n * a
  | 0 => (Nat.zero_mul a).symm
  | n + 1 => by
    show sm (fun i => F i * a) n + F n * a = (sm F n + F n) * a
    rw [sm_mul F a n, Nat.add_mul]
theorem top_bit {k a : Nat} (h : a < 2 ^ k) (i : Nat) : (2 ^ k + a).testBit i = if i = k then true else a.testBit i := by
  by_cases hi : i = k
  · rw [if_pos hi, hi, Nat.testBit_two_pow_add_eq, Nat.testBit_lt_two_pow h]; rfl
  · rw [if_neg hi]
    rcases Nat.lt_or_ge i k with g | g
    · exact Nat.testBit_two_pow_add_gt g a
    · rw [Nat.testBit_lt_two_pow (Nat.lt_of_lt_of_le h (Nat.pow_le_pow_right (by omega) g)), Nat.testBit_lt_two_pow]
      have : 2 ^ (k + 1) ≤ 2 ^ i := Nat.pow_le_pow_right (by omega) (by omega)
      rw [Nat.pow_succ] at this
      omega
theorem xor_low {k a b : Nat} (ha : a < 2 ^ k) (hb : b < 2 ^ k) : a ^^^ b < 2 ^ k := Nat.xor_lt_two_pow ha hb
theorem xor_t1 {k a b : Nat} (ha : a < 2 ^ k) (hb : b < 2 ^ k) : (2 ^ k + a) ^^^ b = 2 ^ k + (a ^^^ b) := by
  apply Nat.eq_of_testBit_eq
  intro i
  rw [Nat.testBit_xor, top_bit ha, top_bit (xor_low ha hb), Nat.testBit_xor]
  by_cases hi : i = k
  · rw [if_pos hi, if_pos hi, hi, Nat.testBit_lt_two_pow hb]; rfl
  · rw [if_neg hi, if_neg hi]
theorem xor_t2 {k a b : Nat} (ha : a < 2 ^ k) (hb : b < 2 ^ k) : a ^^^ (2 ^ k + b) = 2 ^ k + (a ^^^ b) := by
  rw [Nat.xor_comm, xor_t1 hb ha, Nat.xor_comm]
theorem xor_t3 {k a b : Nat} (ha : a < 2 ^ k) (hb : b < 2 ^ k) : (2 ^ k + a) ^^^ (2 ^ k + b) = a ^^^ b := by
  apply Nat.eq_of_testBit_eq
  intro i
  rw [Nat.testBit_xor, top_bit ha, top_bit hb, Nat.testBit_xor]
  by_cases hi : i = k
  · rw [if_pos hi, if_pos hi, hi, Nat.testBit_lt_two_pow hb, Nat.testBit_lt_two_pow ha]; rfl
  · rw [if_neg hi, if_neg hi]
theorem sm_xor : ∀ k R (F : Nat → Nat), R < 2 ^ k → sm (fun x => F (R ^^^ x)) (2 ^ k) = sm F (2 ^ k)
  | 0, R, F, h => by
    have : R = 0 := by omega
    rw [this]
    exact sm_cong _ (fun i _ => by show F (0 ^^^ i) = F i; rw [Nat.zero_xor])
  | k + 1, R, F, h => by
    have e : 2 ^ (k + 1) = 2 ^ k + 2 ^ k := by rw [Nat.pow_succ]; omega
    rw [e, sm_add, sm_add F]
    by_cases hR : R < 2 ^ k
    · rw [sm_xor k R F hR, sm_cong (F := fun i => F (R ^^^ (2 ^ k + i))) (G := fun i => F (2 ^ k + (R ^^^ i))) (2 ^ k) (fun i hi => by rw [xor_t2 hR hi]), sm_xor k R (fun i => F (2 ^ k + i)) hR]
    · obtain ⟨Q, rfl⟩ : ∃ Q, R = 2 ^ k + Q := ⟨R - 2 ^ k, by omega⟩
      have hQ : Q < 2 ^ k := by omega
      rw [sm_cong (F := fun i => F ((2 ^ k + Q) ^^^ i)) (G := fun i => F (2 ^ k + (Q ^^^ i))) (2 ^ k) (fun i hi => by rw [xor_t1 hQ hi]), sm_xor k Q (fun i => F (2 ^ k + i)) hQ, sm_cong (F := fun i => F ((2 ^ k + Q) ^^^ (2 ^ k + i))) (G := fun i => F (Q ^^^ i)) (2 ^ k) (fun i hi => by rw [xor_t3 hQ hi]), sm_xor k Q F hQ]
      omega
/-- how many of the cases in which just the cans of x are fogged -/
def fac (R p x c : Nat) : Nat := if R.testBit c = true then (if x.testBit c = true then p else 10 - p) else (if x.testBit c = true then 0 else 1)
def pr (R p x : Nat) : Nat → Nat
  | 0 => 1
  | c + 1 => pr R p x c * fac R p x c
theorem pr_cong {R p x y : Nat} : ∀ k, (∀ i, i < k → x.testBit i = y.testBit i) → pr R p x k = pr R p y k
  | 0, _ => rfl
  | k + 1, h => by
    show pr R p x k * fac R p x k = pr R p y k * fac R p y k
    rw [pr_cong k (fun i hi => h i (by omega))]
    unfold fac
    rw [h k (by omega)]
theorem pr_sum {R p : Nat} (hp : p ≤ 10) : ∀ k, sm (fun x => pr R p x k) (2 ^ k) = 10 ^ cnt (fun i => R.testBit i) k
  | 0 => rfl
  | k + 1 => by
    have e : 2 ^ (k + 1) = 2 ^ k + 2 ^ k := by rw [Nat.pow_succ]; omega
    have e1 : sm (fun x => pr R p x (k + 1)) (2 ^ k) = sm (fun x => pr R p x k * (if R.testBit k = true then 10 - p else 1)) (2 ^ k) := sm_cong _ (fun i hi => by
      show pr R p i k * fac R p i k = _
      unfold fac
      rw [Nat.testBit_lt_two_pow hi]
      simp)
    have e2 : sm (fun x => pr R p (2 ^ k + x) (k + 1)) (2 ^ k) = sm (fun x => pr R p x k * (if R.testBit k = true then p else 0)) (2 ^ k) := sm_cong _ (fun i hi => by
      show pr R p (2 ^ k + i) k * fac R p (2 ^ k + i) k = _
      rw [pr_cong (y := i) k (fun j hj => by rw [top_bit hi, if_neg (by omega)])]
      unfold fac
      rw [top_bit hi, if_pos rfl]
      simp)
    rw [e, sm_add, e1, e2, sm_mul, sm_mul, pr_sum hp k]
    by_cases hb : R.testBit k = true
    · simp only [hb, if_true, cnt]
      rw [← Nat.mul_add, Nat.sub_add_cancel hp, Nat.pow_succ]
    · simp only [hb, cnt]
      simp
theorem pr_none {R p x c : Nat} (h1 : x.testBit c = true) (h2 : ¬ R.testBit c = true) : ∀ k, c < k → pr R p x k = 0
  | 0, h => absurd h (by omega)
  | k + 1, h => by
    show pr R p x k * fac R p x k = 0
    by_cases hc : c = k
    · subst hc
      unfold fac
      rw [if_neg h2, if_pos h1, Nat.mul_zero]
    · rw [pr_none h1 h2 k (by omega), Nat.zero_mul]
theorem pr_set {R p x : Nat} (h : sb x R) : ∀ k, pr R p (R ^^^ x) k = (10 - p) ^ cnt (fun i => x.testBit i) k * p ^ (cnt (fun i => R.testBit i) k - cnt (fun i => x.testBit i) k) ∧ cnt (fun i => x.testBit i) k ≤ cnt (fun i => R.testBit i) k
  | 0 => ⟨rfl, Nat.le_refl _⟩
  | k + 1 => by
    obtain ⟨ih, ihl⟩ := pr_set h k
    have e : pr R p (R ^^^ x) (k + 1) = pr R p (R ^^^ x) k * fac R p (R ^^^ x) k := rfl
    rw [e, ih]
    unfold fac
    rw [xor_bit h]
    by_cases hR : R.testBit k = true
    · by_cases hx : x.testBit k = true
      · simp only [cnt, hR, hx, if_true, Bool.not_true, Bool.and_false, Bool.false_eq_true, if_false]
        refine ⟨?_, by omega⟩
        rw [show cnt (fun i => R.testBit i) k + 1 - (cnt (fun i => x.testBit i) k + 1) = cnt (fun i => R.testBit i) k - cnt (fun i => x.testBit i) k by omega, Nat.pow_succ]
        rw [Nat.mul_right_comm]
      · have hx' : x.testBit k = false := by simpa using hx
        simp only [cnt, hR, hx', if_true, Bool.not_false, Bool.and_true, Bool.false_eq_true, if_false, Nat.add_zero]
        refine ⟨?_, by omega⟩
        rw [show cnt (fun i => R.testBit i) k + 1 - cnt (fun i => x.testBit i) k = (cnt (fun i => R.testBit i) k - cnt (fun i => x.testBit i) k) + 1 by omega, Nat.pow_succ, Nat.mul_assoc]
    · have hx : ¬ x.testBit k = true := fun z => hR (sb_bit.mp h k z)
      have hR' : R.testBit k = false := by simpa using hR
      have hx' : x.testBit k = false := by simpa using hx
      simp only [cnt, hR', hx', Bool.false_and, Bool.false_eq_true, if_false, Nat.add_zero, Nat.mul_one]
      exact ⟨trivial, ihl⟩
def nL (n : Nat) : Int64 := Int64.ofNat n
theorem nL_add (a b : Nat) : nL a + nL b = nL (a + b) := by
  unfold nL; rw [Int64.ofNat_add]
theorem nL_mul (a b : Nat) : nL a * nL b = nL (a * b) := by
  unfold nL; rw [Int64.ofNat_mul]
theorem nL_toInt {a : Nat} (h : a < 2 ^ 62) : (nL a).toInt = a := by
  unfold nL
  exact Int64.toInt_ofNat_of_lt (by omega)
theorem nL_of {a : Nat} (h : a < 2 ^ 31) : Int32.toInt64 (nI a) = nL a := by
  apply Int64.toInt_inj.mp
  rw [Int32.toInt_toInt64, nI_toInt h, nL_toInt (by omega)]
theorem nL_eq0 {a : Nat} (h : a < 2 ^ 62) : nL a = 0 ↔ a = 0 := by
  constructor
  · intro q
    have := congrArg Int64.toInt q
    rw [nL_toInt h] at this
    have e : (0 : Int64).toInt = 0 := by decide
    omega
  · intro q; rw [q]; rfl
theorem nL_div {a b : Nat} (ha : a < 2 ^ 62) (hb : b < 2 ^ 62) : nL a / nL b = nL (a / b) := by
  apply Int64.toInt_inj.mp
  have hd : a / b ≤ a := Nat.div_le_self a b
  rw [Int64.toInt_div, nL_toInt ha, nL_toInt hb, nL_toInt (by omega), ← Int.ofNat_tdiv]
  generalize a / b = d at hd ⊢
  simp only [Int.bmod]
  omega
theorem nL_mod {a b : Nat} (ha : a < 2 ^ 62) (hb : b < 2 ^ 62) : nL a - nL a / nL b * nL b = nL (a % b) := by
  rw [nL_div ha hb, nL_mul]
  apply Int64.toInt_inj.mp
  have h1 := Nat.div_add_mod a b
  have h2 : a / b * b ≤ a := Nat.div_mul_le_self a b
  have h3 : a % b = a - a / b * b := by rw [Nat.mul_comm] at h1; omega
  rw [Int64.toInt_sub, nL_toInt ha, nL_toInt (by omega), nL_toInt (by omega), h3]
  simp only [Int.bmod]
  omega
