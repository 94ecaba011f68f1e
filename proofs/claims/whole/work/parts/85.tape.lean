/-! the text: B its bytes, n their number -/
def dgB (B : Nat → Int32) (n i : Nat) : Bool := decide (i < n) && decide (48 ≤ (B i).toInt) && decide ((B i).toInt ≤ 57)
theorem dgB_iff {B : Nat → Int32} {n i : Nat} : dgB B n i = true ↔ (i < n ∧ 48 ≤ (B i).toInt ∧ (B i).toInt ≤ 57) := by
  unfold dgB
  simp only [Bool.and_eq_true, decide_eq_true_eq]
  exact ⟨fun h => ⟨h.1.1, h.1.2, h.2⟩, fun h => ⟨⟨h.1, h.2.1⟩, h.2.2⟩⟩
def fe (B : Nat → Int32) (n p : Nat) : Nat := fst1 (fun i => !dgB B n i) (n - p) p
theorem fst1_before (p : Nat → Bool) : ∀ m k i, k ≤ i → i < fst1 p m k → p i = false
  | 0, k, i, h1, h2 => by simp only [fst1] at h2; omega
  | m + 1, k, i, h1, h2 => by
    simp only [fst1] at h2
    by_cases hp : p k = true
    · rw [if_pos hp] at h2; omega
    · rw [if_neg hp] at h2
      by_cases hik : i = k
      · rw [hik]; simpa using hp
      · exact fst1_before p m (k + 1) i (by omega) h2
theorem fe_le {B : Nat → Int32} {n p : Nat} (h : p ≤ n) : p ≤ fe B n p ∧ fe B n p ≤ n := by
  have := fst1_le (fun i => !dgB B n i) (n - p) p
  unfold fe
  omega
theorem fe_dg {B : Nat → Int32} {n p i : Nat} (h1 : p ≤ i) (h2 : i < fe B n p) : dgB B n i = true := by
  have := fst1_before (fun i => !dgB B n i) (n - p) p i h1 h2
  simpa using this
theorem fe_pos {B : Nat → Int32} {n p : Nat} (h : p ≤ n) : p < fe B n p ↔ dgB B n p = true := by
  constructor
  · intro q; exact fe_dg (Nat.le_refl p) q
  · intro q
    have hpn := (dgB_iff.mp q).1
    unfold fe
    rw [show n - p = (n - p - 1) + 1 by omega]
    simp only [fst1, q, Bool.not_true, Bool.false_eq_true, if_false]
    have := fst1_le (fun i => !dgB B n i) (n - p - 1) (p + 1)
    omega
/-- the number told by the figures from p up to e -/
def vm (B : Nat → Int32) (p e : Nat) : Int32 := if e ≤ p + 1 then B p - 48 else (((10 : Int32) * (B p - 48)) + B (p + 1)) - 48
def TC (M : Mem) (B : Nat → Int32) (n : Nat) : Prop := n ≤ 110 ∧ gi M 1 1 = nI n ∧ ∀ i, i < n → gi M 2 i = B i ∧ 0 ≤ (B i).toInt ∧ (B i).toInt ≤ 255
theorem TC.cong {M M' : Mem} {B : Nat → Int32} {n : Nat} (h : TC M B n) (e1 : gi M' 1 1 = gi M 1 1) (e2 : ∀ i, gi M' 2 i = gi M 2 i) : TC M' B n := ⟨h.1, by rw [e1]; exact h.2.1, fun i hi => by rw [e2]; exact h.2.2 i hi⟩
theorem byteAt_c {M : Mem} {B : Nat → Int32} {n i : Nat} (h : TC M B n) (hi : i < 2 ^ 31) : j_Tape_byteAt (nI i) M = some (if i < n then B i else -1000000, M) := by
  have hnn : ¬ nI i < 0 := by rw [i32_lt, t0, nI_toInt hi]; omega
  have n110 := h.1
  by_cases hin : i < n
  · have hlt : nI i < nI n := nI_lt hin (by omega)
    simp only [j_Tape_byteAt, hnn, if_false, h.2.1, hlt, if_true, gd_t (inb_nI (show i < 110 by omega) (show 110 < 2 ^ 31 by omega)), ix_nI hi, (h.2.2 i hin).1, hin]
  · have hlt : ¬ nI i < nI n := nI_nlt (by omega) (by omega)
    simp only [j_Tape_byteAt, hnn, if_false, h.2.1, hlt, hin]
theorem next_c {M : Mem} {B : Nat → Int32} {n p : Nat} (h : TC M B n) (hp : gi M 1 2 = nI p) (hpn : p ≤ n) : j_Tape_next M = some (if p < n then B p else -1000000, M) := by
  have n110 := h.1
  simp only [j_Tape_next, hp, byteAt_c h (show p < 2 ^ 31 by omega), bd_some]
theorem pass_c {M : Mem} {B : Nat → Int32} {n p : Nat} {x : Int32} (hx : 0 ≤ x.toInt) (h : TC M B n) (hp : gi M 1 2 = nI p) (hpn : p ≤ n) : ((p < n ∧ B p = x) → j_Tape_pass x M = some (1, uI M 1 2 (nI (p + 1)))) ∧ (¬ (p < n ∧ B p = x) → j_Tape_pass x M = some (0, uI M 1 3 1)) := by
  have hnx := next_c h hp hpn
  have hg0 : isB (0 : Int32) = true := by decide
  constructor
  · rintro ⟨h1, h2⟩
    rw [if_pos h1, h2] at hnx
    simp only [j_Tape_pass, hnx, bd_some, if_true, hp, nI_1, sq_eq]
  · intro hn
    have hne : ¬ (if p < n then B p else -1000000) = x := by
      by_cases h1 : p < n
      · rw [if_pos h1]; exact fun z => hn ⟨h1, z⟩
      · rw [if_neg h1]
        intro z
        have := congrArg Int32.toInt z
        rw [tN] at this
        omega
    simp only [j_Tape_pass, hnx, bd_some, hne, if_false, j_Tape_refuse, sq_eq, gd_t hg0]
theorem figs_in {M : Mem} {B : Nat → Int32} {n p : Nat} (h : TC M B n) : ∀ m i q, i + m = n → m < q → p ≤ i → Tape_figuresFrom_h2 q (nI p) (nI i) M = some (nI (fst1 (fun i => !dgB B n i) m i - p), M) := by
  have n110 := h.1
  have t48 : (48 : Int32).toInt = 48 := by decide
  have t57 : (57 : Int32).toInt = 57 := by decide
  have hsub : ∀ i, p ≤ i → i ≤ n → nI i - nI p = nI (i - p) := fun i h1 h2 => by
    apply Int32.toInt_inj.mp
    rw [i32_sub (by rw [nI_toInt (by omega)]; omega) (by rw [nI_toInt (by omega)]; omega), nI_toInt (by omega), nI_toInt (by omega), nI_toInt (by omega)]
    omega
  intro m
  induction m with
  | zero =>
    intro i q hi hq hpi
    obtain ⟨q, rfl⟩ : ∃ z, q = z + 1 := ⟨q - 1, by omega⟩
    have hge : ¬ nI i < nI n := nI_nlt (by omega) (by omega)
    simp only [Tape_figuresFrom_h2, h.2.1, hge, if_false, fst1, hsub i hpi (by omega)]
  | succ m ih =>
    intro i q hi hq hpi
    obtain ⟨q, rfl⟩ : ∃ z, q = z + 1 := ⟨q - 1, by omega⟩
    have hlt : nI i < nI n := nI_lt (by omega) (by omega)
    have hb := byteAt_c h (show i < 2 ^ 31 by omega)
    rw [if_pos (by omega)] at hb
    by_cases hd : dgB B n i = true
    · obtain ⟨_, d1, d2⟩ := dgB_iff.mp hd
      have c1 : ¬ B i < 48 := by rw [i32_lt, t48]; omega
      have c2 : ¬ (57 : Int32) < B i := by rw [i32_lt, t57]; omega
      simp only [Tape_figuresFrom_h2, h.2.1, hlt, if_true, hb, bd_some, c1, c2, if_false, lq_eq, nI_1, fst1, hd, Bool.not_true, Bool.false_eq_true]
      exact ih (i + 1) q (by omega) (by omega) (by omega)
    · have hd' : dgB B n i = false := by simpa using hd
      by_cases c1 : B i < 48
      · simp only [Tape_figuresFrom_h2, h.2.1, hlt, if_true, hb, bd_some, c1, fst1, hd', Bool.not_false, hsub i hpi (by omega)]
      · have c2 : (57 : Int32) < B i := by
          rw [i32_lt, t57]
          rw [i32_lt, t48] at c1
          apply Classical.byContradiction
          intro z
          exact hd (dgB_iff.mpr ⟨by omega, by omega, by omega⟩)
        simp only [Tape_figuresFrom_h2, h.2.1, hlt, if_true, hb, bd_some, c1, if_false, c2, fst1, hd', Bool.not_false, hsub i hpi (by omega)]
theorem figs_c {M : Mem} {B : Nat → Int32} {n p : Nat} (h : TC M B n) (hpn : p ≤ n) : j_Tape_figuresFrom (nI p) M = some (nI (fe B n p - p), M) := figs_in h (n - p) p FU (by omega) (by have := h.1; unfold FU; omega) (Nat.le_refl p)
/-- a number between lo and hi is told at p -/
def numOK (B : Nat → Int32) (n : Nat) (lo hi : Int32) (p : Nat) : Prop := (dgB B n p = true ∧ fe B n p - p ≤ 2) ∧ lo.toInt ≤ (vm B p (fe B n p)).toInt ∧ (vm B p (fe B n p)).toInt ≤ hi.toInt
theorem vm_eq1 (x : Int32) : (0 : Int32) * 10 + x - 48 = x - 48 := by grind
theorem vm_eq2 (x y : Int32) : (x - 48) * 10 + y - 48 = (10 : Int32) * (x - 48) + y - 48 := by grind
theorem num_c {M : Mem} {B : Nat → Int32} {n p : Nat} {lo hi : Int32} (h : TC M B n) (hp : gi M 1 2 = nI p) (hpn : p ≤ n) : (numOK B n lo hi p → j_Tape_readNumber lo hi M = some (vm B p (fe B n p), uI M 1 2 (nI (fe B n p)))) ∧ (¬ (dgB B n p = true ∧ fe B n p - p ≤ 2) → j_Tape_readNumber lo hi M = some (-1000000, uI M 1 3 1)) ∧ ((dgB B n p = true ∧ fe B n p - p ≤ 2) → ¬ numOK B n lo hi p → j_Tape_readNumber lo hi M = some (-1000000, uI M 1 3 2)) := by
  have n110 := h.1
  have hf := figs_c h hpn
  obtain ⟨f1, f2⟩ := fe_le (B := B) hpn
  have e1 : (1 : Int32) = nI 1 := rfl
  have e2 : (2 : Int32) = nI 2 := rfl
  -- the value
  have hval : (dgB B n p = true ∧ fe B n p - p ≤ 2) → j_Tape_readNumber lo hi M = (if vm B p (fe B n p) < lo then Tape_readNumber_b80 M else (if hi < vm B p (fe B n p) then Tape_readNumber_b80 M else sq (uI M 1 2 (nI (fe B n p))) (fun M9 => some (vm B p (fe B n p), M9)))) := by
    rintro ⟨hd, hle⟩
    have hpos := (fe_pos hpn).mpr hd
    have c1 : ¬ nI (fe B n p - p) < nI 1 := nI_nlt (by omega) (by omega)
    have c2 : ¬ nI 2 < nI (fe B n p - p) := nI_nlt (by omega) (by omega)
    have hstart : j_Tape_readNumber lo hi M = Tape_readNumber_h34 FU lo hi (nI (fe B n p - p)) 0 0 M := by
      unfold j_Tape_readNumber
      rw [hp, hf, bd_some, e1, if_neg c1, e2, if_neg c2, lq_e, lq_e]
    rw [hstart]
    have hb0 := byteAt_c h (show p < 2 ^ 31 by omega)
    rw [if_pos (by omega)] at hb0
    have ep0 : nI p + 0 = nI p := nI_p0 p
    have hsum : nI p + nI (fe B n p - p) = nI (fe B n p) := by rw [nI_add]; congr 1; omega
    have hlt0 : (0 : Int32) < nI (fe B n p - p) := by rw [i32_lt, t0, nI_toInt (by omega)]; omega
    obtain ⟨k, hk⟩ : ∃ k, FU = k + 1 + 1 + 1 := ⟨FU - 3, by unfold FU; omega⟩
    by_cases hr : fe B n p - p = 1
    · have hge : ¬ nI 1 < nI 1 := by decide
      have hv : vm B p (fe B n p) = B p - 48 := if_pos (by omega)
      have hz : (0 : Int32) + 1 = nI 1 := by decide
      rw [hk, Tape_readNumber_h34, if_pos hlt0, hp, ep0, hb0, bd_some, lq_e, lq_e, vm_eq1, hz, Tape_readNumber_h34, hr, if_neg hge, hv, hp, ← hr, hsum]
    · have hr2 : fe B n p - p = 2 := by omega
      have hb1 := byteAt_c h (show p + 1 < 2 ^ 31 by omega)
      rw [if_pos (by omega)] at hb1
      have hlt1 : nI 1 < nI 2 := by decide
      have hge : ¬ nI 2 < nI 2 := by decide
      have hv : vm B p (fe B n p) = (((10 : Int32) * (B p - 48)) + B (p + 1)) - 48 := if_neg (by omega)
      have hz : (0 : Int32) + 1 = nI 1 := by decide
      have hz2 : nI 1 + 1 = nI 2 := by decide
      have ep1 : nI p + nI 1 = nI (p + 1) := nI_add p 1
      rw [hk, Tape_readNumber_h34, if_pos hlt0, hp, ep0, hb0, bd_some, lq_e, lq_e, vm_eq1, hz, Tape_readNumber_h34, hr2, if_pos hlt1, hp, ep1, hb1, bd_some, lq_e, lq_e, vm_eq2, hz2, Tape_readNumber_h34, if_neg hge, hv, hp, ← hr2, hsum]
  refine ⟨fun hok => ?_, fun hn => ?_, fun hd hn => ?_⟩
  · obtain ⟨hd, v1, v2⟩ := hok
    rw [hval hd, if_neg (by rw [i32_lt]; omega), if_neg (by rw [i32_lt]; omega), sq_e]
  · by_cases hd : dgB B n p = true
    · have hpos := (fe_pos hpn).mpr hd
      have hgt : nI 2 < nI (fe B n p - p) := nI_lt (by
        apply Classical.byContradiction
        intro z
        exact hn ⟨hd, by omega⟩) (by omega)
      have c1 : ¬ nI (fe B n p - p) < nI 1 := nI_nlt (by omega) (by omega)
      unfold j_Tape_readNumber
      rw [hp, hf, bd_some, e1, if_neg c1, e2, if_pos hgt]
      rfl
    · have hz : fe B n p - p = 0 := by
        apply Classical.byContradiction
        intro z
        exact hd ((fe_pos hpn).mp (by omega))
      have c1 : nI (fe B n p - p) < nI 1 := by rw [hz]; decide
      unfold j_Tape_readNumber
      rw [hp, hf, bd_some, e1, if_pos c1]
      rfl
  · rw [hval hd]
    by_cases h1 : vm B p (fe B n p) < lo
    · rw [if_pos h1]; rfl
    · have h2 : hi < vm B p (fe B n p) := by
        rw [i32_lt] at h1 ⊢
        apply Classical.byContradiction
        intro z
        exact hn ⟨hd, by omega, by omega⟩
      rw [if_neg h1, if_pos h2]; rfl
