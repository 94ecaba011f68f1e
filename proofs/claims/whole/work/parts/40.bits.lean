theorem nI_and (a b : Nat) : nI a &&& nI b = nI (a &&& b) := by
  apply Int32.toBitVec_inj.mp
  apply BitVec.eq_of_toNat_eq
  simp [nI]
theorem nI_or (a b : Nat) : nI a ||| nI b = nI (a ||| b) := by
  apply Int32.toBitVec_inj.mp
  apply BitVec.eq_of_toNat_eq
  simp [nI]
theorem nI_xor (a b : Nat) : nI a ^^^ nI b = nI (a ^^^ b) := by
  apply Int32.toBitVec_inj.mp
  apply BitVec.eq_of_toNat_eq
  simp [nI]
/-- sets as words: v lies in s -/
def sb (v s : Nat) : Prop := v &&& s = v
theorem sb_bit {v s : Nat} : sb v s ↔ ∀ i, v.testBit i = true → s.testBit i = true := by
  constructor
  · intro h i hi
    unfold sb at h
    rw [← h, Nat.testBit_and] at hi
    exact (Bool.and_eq_true_iff.mp hi).2
  · intro h
    apply Nat.eq_of_testBit_eq
    intro i
    rw [Nat.testBit_and]
    cases hv : v.testBit i
    · simp
    · simp [h i hv]
theorem sb_refl (s : Nat) : sb s s := Nat.and_self s
theorem sb_zero (s : Nat) : sb 0 s := Nat.zero_and s
theorem sb_le {v s : Nat} (h : sb v s) : v ≤ s := by unfold sb at h; rw [← h]; exact Nat.and_le_right
theorem sb_and (a s : Nat) : sb (a &&& s) s := by unfold sb; rw [Nat.and_assoc, Nat.and_self]
theorem sb_trans {a b c : Nat} (h : sb a b) (g : sb b c) : sb a c := sb_bit.mpr (fun i hi => sb_bit.mp g i (sb_bit.mp h i hi))
theorem sb_div {v s : Nat} (h : sb v s) : sb (v / 2) (s / 2) := sb_bit.mpr (fun i hi => by
  rw [Nat.testBit_div_two] at hi ⊢
  exact sb_bit.mp h (i + 1) hi)
theorem and_div (a b : Nat) : (a &&& b) / 2 = (a / 2) &&& (b / 2) := by
  apply Nat.eq_of_testBit_eq
  intro i
  simp [Nat.testBit_div_two, Nat.testBit_and]
theorem and_mod (a b : Nat) : (a &&& b) % 2 = (a % 2) * (b % 2) := by
  have ha : a % 2 = 0 ∨ a % 2 = 1 := by omega
  have hb : b % 2 = 0 ∨ b % 2 = 1 := by omega
  have := Nat.and_mod_two_eq_one (a := a) (b := b)
  have hc : (a &&& b) % 2 = 0 ∨ (a &&& b) % 2 = 1 := by omega
  rcases ha with ha | ha <;> rcases hb with hb | hb <;> rcases hc with hc | hc <;> simp_all
theorem sb_mod {v s : Nat} (h : sb v s) : v % 2 ≤ s % 2 := by
  have := and_mod v s
  rw [show v &&& s = v from h] at this
  have hb : s % 2 = 0 ∨ s % 2 = 1 := by omega
  rcases hb with hb | hb
  · rw [hb, Nat.mul_zero] at this; omega
  · omega
/-- the next lower set in s -/
theorem sb_next : ∀ u s v : Nat, sb u s → sb v s → v < u → v ≤ (u - 1) &&& s := by
  intro u
  induction u using Nat.strongRecOn with
  | ind u ih =>
    intro s v hu hv hlt
    have d1 := and_div (u - 1) s
    have m1 := and_mod (u - 1) s
    have hvm := sb_mod hv
    have hum := sb_mod hu
    have hs : s % 2 = 0 ∨ s % 2 = 1 := by omega
    have key : ((u - 1) &&& s) = 2 * (((u - 1) &&& s) / 2) + ((u - 1) &&& s) % 2 := by omega
    by_cases hodd : u % 2 = 1
    · have e1 : (u - 1) / 2 = u / 2 := by omega
      have e2 : (u - 1) % 2 = 0 := by omega
      rw [e1, show u / 2 &&& s / 2 = u / 2 from sb_div hu] at d1
      omega
    · have e1 : (u - 1) / 2 = u / 2 - 1 := by omega
      have e2 : (u - 1) % 2 = 1 := by omega
      have := ih (u / 2) (by omega) (s / 2) (v / 2) (sb_div hu) (sb_div hv) (by omega)
      rw [e1] at d1
      rw [e2, Nat.one_mul] at m1
      omega
theorem sb_xor {v s : Nat} (h : sb v s) : sb (s ^^^ v) s := sb_bit.mpr (fun i hi => by
  rw [Nat.testBit_xor] at hi
  cases hv : v.testBit i
  · rw [hv] at hi; simpa using hi
  · exact sb_bit.mp h i hv)
theorem xor_bit {v s i : Nat} (h : sb v s) : (s ^^^ v).testBit i = (s.testBit i && !v.testBit i) := by
  rw [Nat.testBit_xor]
  cases hv : v.testBit i
  · simp
  · simp [sb_bit.mp h i hv]
theorem xor_lt {v s : Nat} (h : sb v s) (hv : v ≠ 0) : s ^^^ v < s := by
  have h1 := sb_le (sb_xor h)
  have h2 : s ^^^ v ≠ s := fun q => by
    apply hv
    have : s ^^^ (s ^^^ v) = s ^^^ s := by rw [q]
    rw [← Nat.xor_assoc, Nat.xor_self, Nat.zero_xor] at this
    exact this
  omega
/-- s falls into n parts, each with B -/
def Pt (B : Nat → Prop) : Nat → Nat → Prop
  | 0, s => s = 0
  | n + 1, s => ∃ u, B u ∧ u ≠ 0 ∧ sb u s ∧ Pt B n (s ^^^ u)
theorem pt_pull {B : Nat → Prop} {e : Nat} : ∀ n s, Pt B n s → s.testBit e = true → ∃ m v, n = m + 1 ∧ B v ∧ v.testBit e = true ∧ sb v s ∧ Pt B m (s ^^^ v)
  | 0, s, h, he => by
    have : s = 0 := h
    rw [this] at he; simp at he
  | n + 1, s, h, he => by
    obtain ⟨u, h1, h2, h3, h4⟩ := h
    by_cases hu : u.testBit e = true
    · exact ⟨n, u, rfl, h1, hu, h3, h4⟩
    · have he2 : (s ^^^ u).testBit e = true := by rw [xor_bit h3, he]; simpa using hu
      obtain ⟨m, v, g1, g2, g3, g4, g5⟩ := pt_pull n (s ^^^ u) h4 he2
      refine ⟨n, v, rfl, g2, g3, sb_trans g4 (sb_xor h3), ?_⟩
      rw [g1]
      have hvs := sb_trans g4 (sb_xor h3)
      refine ⟨u, h1, h2, sb_bit.mpr (fun i hi => ?_), ?_⟩
      · rw [xor_bit hvs, sb_bit.mp h3 i hi]
        cases hv : v.testBit i
        · rfl
        · have := sb_bit.mp g4 i hv
          rw [xor_bit h3, hi] at this
          simp at this
      · have : s ^^^ v ^^^ u = s ^^^ u ^^^ v := by rw [Nat.xor_assoc, Nat.xor_comm v u, ← Nat.xor_assoc]
        rw [this]; exact g5
theorem pt_some {B : Nat → Prop} (hB : ∀ k, k < 8 → B (2 ^ k)) : ∀ k s, k ≤ 8 → s < 2 ^ k → ∃ n, n ≤ k ∧ Pt B n s
  | 0, s, _, h => ⟨0, Nat.le_refl 0, by show s = 0; omega⟩
  | k + 1, s, hk, h => by
    by_cases hb : s.testBit k = true
    · have hsub : sb (2 ^ k) s := sb_bit.mpr (fun i hi => by
        rw [Nat.testBit_two_pow] at hi
        have : k = i := by simpa using hi
        rw [← this]; exact hb)
      have hlt : s ^^^ 2 ^ k < 2 ^ k := by
        apply Nat.lt_pow_two_of_testBit
        intro i hi
        rw [xor_bit hsub]
        by_cases hik : i = k
        · rw [hik, Nat.testBit_two_pow]; simp
        · have : s.testBit i = false := Nat.testBit_lt_two_pow (Nat.lt_of_lt_of_le h (Nat.pow_le_pow_right (by omega) (by omega)))
          rw [this]; rfl
      obtain ⟨n, h1, h2⟩ := pt_some hB k _ (by omega) hlt
      exact ⟨n + 1, by omega, 2 ^ k, hB k (by omega), Nat.ne_of_gt (Nat.two_pow_pos k), hsub, h2⟩
    · have hlt : s < 2 ^ k := by
        apply Nat.lt_pow_two_of_testBit
        intro i hi
        by_cases hik : i = k
        · rw [hik]; simpa using hb
        · exact Nat.testBit_lt_two_pow (Nat.lt_of_lt_of_le h (Nat.pow_le_pow_right (by omega) (by omega)))
      obtain ⟨n, h1, h2⟩ := pt_some hB k s (by omega) hlt
      exact ⟨n, by omega, h2⟩
/-- the least number of parts -/
def Least (B : Nat → Prop) (s n : Nat) : Prop := Pt B n s ∧ ∀ m, Pt B m s → n ≤ m
theorem least_uniq {B : Nat → Prop} {s n m : Nat} (h : Least B s n) (g : Least B s m) : n = m := Nat.le_antisymm (h.2 m g.1) (g.2 n h.1)
theorem least_le8 {B : Nat → Prop} (hB : ∀ k, k < 8 → B (2 ^ k)) {s n : Nat} (hs : s < 256) (h : Least B s n) : n ≤ 8 := by
  obtain ⟨m, h1, h2⟩ := pt_some hB 8 s (Nat.le_refl 8) hs
  have := h.2 m h2
  omega
