theorem bd_some {ρ σ : Type} {r : ρ} {M : Mem} {f : ρ → Mem → Option (σ × Mem)} : bd (some (r, M)) f = f r M := rfl
theorem bd_none {ρ σ : Type} {f : ρ → Mem → Option (σ × Mem)} : bd none f = none := rfl
theorem lq_eq {α β : Type} {a : α} {f : α → Option β} : lq a f = f a := rfl
theorem sq_eq {β : Type} {M : Mem} {f : Mem → Option β} : sq M f = f M := rfl
theorem gd_t {α : Type} {b : Bool} {o : Option α} (h : b = true) : gd b o = o := if_pos h
theorem gi_uI (M : Mem) (a i : Nat) (v : Int32) (b j : Nat) : gi (uI M a i v) b j = if b = a ∧ j = i then v else gi M b j := rfl
theorem gi_uIs (M : Mem) (a i : Nat) (v : Int32) : gi (uI M a i v) a i = v := if_pos ⟨rfl, rfl⟩
theorem gi_uIa (M : Mem) (a i : Nat) (v : Int32) (b j : Nat) (h : b ≠ a) : gi (uI M a i v) b j = gi M b j := if_neg (fun q => h q.1)
theorem gi_uIi (M : Mem) (a i : Nat) (v : Int32) (b j : Nat) (h : j ≠ i) : gi (uI M a i v) b j = gi M b j := if_neg (fun q => h q.2)
theorem gi_uL (M : Mem) (a i : Nat) (v : Int64) (b j : Nat) : gi (uL M a i v) b j = gi M b j := rfl
theorem gl_uI (M : Mem) (a i : Nat) (v : Int32) (b j : Nat) : gl (uI M a i v) b j = gl M b j := rfl
theorem gl_uL (M : Mem) (a i : Nat) (v : Int64) (b j : Nat) : gl (uL M a i v) b j = if b = a ∧ j = i then v else gl M b j := rfl
theorem gl_uLs (M : Mem) (a i : Nat) (v : Int64) : gl (uL M a i v) a i = v := if_pos ⟨rfl, rfl⟩
theorem gi_cpI (M : Mem) (a0 sp a dp n b j : Nat) : gi (cpI M a0 sp a dp n) b j = if b = a then va_cpy (M.1 a0) (M.1 a) sp dp n j else gi M b j := rfl
theorem inb_nI {i n : Nat} (h : i < n) (hn : n < 2 ^ 31) : inb (nI i) n = true := by
  simp only [inb, nI_toInt (show i < 2 ^ 31 by omega), Bool.and_eq_true, decide_eq_true_eq]
  omega
theorem ix_nI {i : Nat} (h : i < 2 ^ 31) : ix (nI i) = i := nI_clamp h
theorem i32_lt {a b : Int32} : a < b ↔ a.toInt < b.toInt := Int32.lt_iff_toInt_lt
theorem i32_le {a b : Int32} : a ≤ b ↔ a.toInt ≤ b.toInt := Int32.le_iff_toInt_le
theorem i32_eq {a b : Int32} : a = b ↔ a.toInt = b.toInt := Int32.toInt_inj.symm
theorem i64_lt {a b : Int64} : a < b ↔ a.toInt < b.toInt := Int64.lt_iff_toInt_lt
theorem l_lt {a b : Int32} : Int32.toInt64 a < Int32.toInt64 b ↔ a < b := by
  rw [Int64.lt_iff_toInt_lt, Int32.lt_iff_toInt_lt, Int32.toInt_toInt64, Int32.toInt_toInt64]
/-- a number is below 0, or a natural one -/
theorem i32_cases (x : Int32) : x.toInt < 0 ∨ ∃ j : Nat, j < 2 ^ 31 ∧ x = nI j := by
  by_cases h : x.toInt < 0
  · exact Or.inl h
  · right
    have h2 := Int32.toInt_lt x
    refine ⟨x.toInt.toNat, by omega, ?_⟩
    apply Int32.toInt_inj.mp
    rw [nI_toInt (by omega)]
    omega
theorem md_in {y0 y2 y4 : Int64} {M : Mem} (x a b : Int32) (h0 : y0 = Int32.toInt64 x) (h2 : y2 = Int32.toInt64 a) (h4 : y4 = Int32.toInt64 b) : j_Md_in y0 y2 y4 M = some (if a.toInt ≤ x.toInt ∧ x.toInt ≤ b.toInt then 1 else 0, M) := by
  subst h0; subst h2; subst h4
  simp only [j_Md_in, l_lt, i32_lt]
  by_cases h1 : x.toInt < a.toInt
  · rw [if_pos h1, if_neg (by omega)]
  · by_cases h3 : b.toInt < x.toInt
    · rw [if_neg h1, if_pos h3, if_neg (by omega)]
    · rw [if_neg h1, if_neg h3, if_pos (by omega)]
theorem isB_01 {c : Prop} [Decidable c] : isB (if c then (1 : Int32) else 0) = true := by
  by_cases h : c <;> simp [h, isB]
theorem ite01 {c : Prop} [Decidable c] : ((if c then (1 : Int32) else 0) = 0) ↔ ¬ c := by
  by_cases h : c <;> simp [h]
theorem nI_sub1 {n : Nat} (hn : n < 2 ^ 31) : (nI n - 1).toInt = (n : Int) - 1 := by
  rw [Int32.toInt_sub, nI_toInt hn]
  have : (1 : Int32).toInt = 1 := by decide
  rw [this]
  simp only [Int.bmod]
  omega
