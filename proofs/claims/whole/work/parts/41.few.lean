/-- feet of a set of rolls; whether a family is among them -/
def sumS (f : Nat → Int32) (s : Nat) : Nat → Int32
  | 0 => 0
  | k + 1 => sumS f s k + (if s.testBit k = true then f k else 0)
theorem sumS_cong {f g : Nat → Int32} {s t : Nat} : ∀ k, (∀ i, i < k → s.testBit i = t.testBit i ∧ (s.testBit i = true → f i = g i)) → sumS f s k = sumS g t k
  | 0, _ => rfl
  | k + 1, h => by
    simp only [sumS]
    rw [sumS_cong k (fun i hi => h i (by omega)), ← (h k (by omega)).1]
    cases hb : s.testBit k
    · simp
    · simp [(h k (by omega)).2 hb]
theorem sumS_up {f : Nat → Int32} {s r : Nat} (h : s < 2 ^ r) : ∀ m, sumS f s (r + m) = sumS f s r
  | 0 => rfl
  | m + 1 => by
    have hb : s.testBit (r + m) = false := Nat.testBit_lt_two_pow (Nat.lt_of_lt_of_le h (Nat.pow_le_pow_right (by omega) (by omega)))
    show sumS f s (r + m) + (if s.testBit (r + m) = true then f (r + m) else 0) = _
    rw [sumS_up h m, hb]; simp
theorem sumS_top {f : Nat → Int32} {s r : Nat} (h : s < 2 ^ r) (hr : r < 8) : sumS f (2 ^ r + s) 8 = sumS f s 8 + f r := by
  have h1 : sumS f (2 ^ r + s) 8 = sumS f (2 ^ r + s) (r + 1) := by
    have := sumS_up (f := f) (s := 2 ^ r + s) (r := r + 1) (by rw [Nat.pow_succ]; omega) (8 - (r + 1))
    rwa [show r + 1 + (8 - (r + 1)) = 8 by omega] at this
  have h2 : sumS f s 8 = sumS f s r := by
    have := sumS_up (f := f) h (8 - r)
    rwa [show r + (8 - r) = 8 by omega] at this
  rw [h1, h2]
  show sumS f (2 ^ r + s) r + (if (2 ^ r + s).testBit r = true then f r else 0) = _
  have hb : (2 ^ r + s).testBit r = true := by rw [Nat.testBit_two_pow_add_eq, Nat.testBit_lt_two_pow h]; rfl
  rw [hb, if_pos rfl, sumS_cong (g := f) (t := s) r (fun i hi => ⟨Nat.testBit_two_pow_add_gt hi s, fun _ => rfl⟩)]
def famS (g : Nat → Int32) (v : Int32) (s : Nat) : Prop := ∃ i, i < 8 ∧ s.testBit i = true ∧ g i = v
/-- what may be one batch -/
def Bt (law : Int32) (f g : Nat → Int32) (u : Nat) : Prop := (∃ k, u = 2 ^ k) ∨ (¬ (famS g 0 u ∧ famS g 1 u) ∧ ¬ law < sumS f u 8)
theorem bt_one (law : Int32) (f g : Nat → Int32) (k : Nat) : Bt law f g (2 ^ k) := Or.inl ⟨k, rfl⟩
theorem bt_cong {law : Int32} {f g f' g' : Nat → Int32} {u nr : Nat} (hu : u < 2 ^ nr) (h : ∀ i, i < nr → f i = f' i ∧ g i = g' i) : Bt law f g u ↔ Bt law f' g' u := by
  have hb : ∀ i, u.testBit i = true → i < nr := fun i hi => by
    apply Classical.byContradiction
    intro hn
    rw [Nat.testBit_lt_two_pow (Nat.lt_of_lt_of_le hu (Nat.pow_le_pow_right (by omega) (by omega)))] at hi
    cases hi
  have e : sumS f u 8 = sumS f' u 8 := sumS_cong 8 (fun i _ => ⟨rfl, fun hi => (h i (hb i hi)).1⟩)
  have ef : ∀ v, famS g v u ↔ famS g' v u := fun v => ⟨fun ⟨i, a, b, c⟩ => ⟨i, a, b, by rw [← (h i (hb i b)).2]; exact c⟩, fun ⟨i, a, b, c⟩ => ⟨i, a, b, by rw [(h i (hb i b)).2]; exact c⟩⟩
  unfold Bt
  rw [e, ef 0, ef 1]
theorem pt_cong {B C : Nat → Prop} {N : Nat} (h : ∀ u, u < N → (B u ↔ C u)) : ∀ n s, s < N → (Pt B n s ↔ Pt C n s)
  | 0, s, _ => Iff.rfl
  | n + 1, s, hs => by
    constructor
    · rintro ⟨u, a, b, c, d⟩
      have hu := sb_le c
      exact ⟨u, (h u (by omega)).mp a, b, c, (pt_cong h n _ (Nat.lt_of_le_of_lt (sb_le (sb_xor c)) hs)).mp d⟩
    · rintro ⟨u, a, b, c, d⟩
      have hu := sb_le c
      exact ⟨u, (h u (by omega)).mpr a, b, c, (pt_cong h n _ (Nat.lt_of_le_of_lt (sb_le (sb_xor c)) hs)).mpr d⟩
theorem least_cong {B C : Nat → Prop} {N s n : Nat} (h : ∀ u, u < N → (B u ↔ C u)) (hs : s < N) : Least B s n ↔ Least C s n :=
  ⟨fun ⟨a, b⟩ => ⟨(pt_cong h n s hs).mp a, fun m hm => b m ((pt_cong h m s hs).mpr hm)⟩, fun ⟨a, b⟩ => ⟨(pt_cong h n s hs).mpr a, fun m hm => b m ((pt_cong h m s hs).mp hm)⟩⟩
set_option maxRecDepth 20000 in
theorem single_val : ∀ s, s < 256 → ((nI s &&& (nI s - 1)) = 0 ↔ (s = 0 ∨ s = 2 ^ (fst1 (fun i => s.testBit i) 8 0))) := by decide +kernel
theorem one_low : ∀ k, k < 8 → fst1 (fun i => (2 ^ k).testBit i) 8 0 = k := by decide +kernel
def famW (g : Nat → Int32) (s : Nat) : Nat → Nat
  | 0 => 0
  | k + 1 => famW g s k ||| (if s.testBit k = true then (if g k = 0 then 1 else 2) else 0)
theorem famW_le (g : Nat → Int32) (s : Nat) : ∀ k, famW g s k < 4
  | 0 => by simp [famW]
  | k + 1 => by
    have := famW_le g s k
    simp only [famW]
    have h4 : (4 : Nat) = 2 ^ 2 := rfl
    rw [h4] at this ⊢
    apply Nat.or_lt_two_pow this
    split
    · split <;> decide
    · decide
theorem famW_bit (g : Nat → Int32) (s : Nat) : ∀ k, ((famW g s k).testBit 0 = true ↔ ∃ i, i < k ∧ s.testBit i = true ∧ g i = 0) ∧ ((famW g s k).testBit 1 = true ↔ ∃ i, i < k ∧ s.testBit i = true ∧ ¬ g i = 0)
  | 0 => by simp [famW]
  | k + 1 => by
    have ⟨a, b⟩ := famW_bit g s k
    simp only [famW, Nat.testBit_or, Bool.or_eq_true]
    rw [a, b]
    have b10 : (1 : Nat).testBit 0 = true := by decide
    have b11 : (1 : Nat).testBit 1 = false := by decide
    have b20 : (2 : Nat).testBit 0 = false := by decide
    have b21 : (2 : Nat).testBit 1 = true := by decide
    have split1 : ∀ Q : Nat → Prop, (∃ i, i < k + 1 ∧ s.testBit i = true ∧ Q i) ↔ ((∃ i, i < k ∧ s.testBit i = true ∧ Q i) ∨ (s.testBit k = true ∧ Q k)) := fun Q => by
      constructor
      · rintro ⟨i, h1, h2, h3⟩
        by_cases hi : i = k
        · subst hi; exact Or.inr ⟨h2, h3⟩
        · exact Or.inl ⟨i, by omega, h2, h3⟩
      · rintro (⟨i, h1, h2, h3⟩ | ⟨h2, h3⟩)
        · exact ⟨i, by omega, h2, h3⟩
        · exact ⟨k, by omega, h2, h3⟩
    rw [split1 (fun i => g i = 0), split1 (fun i => ¬ g i = 0)]
    by_cases hb : s.testBit k = true
    · by_cases hg : g k = 0
      · simp [hb, hg, b10, b11]
      · simp [hb, hg, b20, b21]
    · simp [hb]
theorem famW_3 {g : Nat → Int32} {s : Nat} (hg : ∀ i, s.testBit i = true → g i = 0 ∨ g i = 1) : famW g s 8 = 3 ↔ (famS g 0 s ∧ famS g 1 s) := by
  have ⟨a, b⟩ := famW_bit g s 8
  have hl := famW_le g s 8
  have hb2 : famS g 1 s ↔ ∃ i, i < 8 ∧ s.testBit i = true ∧ ¬ g i = 0 := by
    constructor
    · rintro ⟨i, h1, h2, h3⟩; exact ⟨i, h1, h2, by rw [h3]; decide⟩
    · rintro ⟨i, h1, h2, h3⟩; exact ⟨i, h1, h2, by rcases hg i h2 with q | q; exact absurd q h3; exact q⟩
  rw [show famS g 0 s ↔ _ from a.symm, hb2, ← b]
  generalize famW g s 8 = w at hl
  have : w = 0 ∨ w = 1 ∨ w = 2 ∨ w = 3 := by omega
  rcases this with q | q | q | q <;> subst q <;> decide
