/-- what is left in can c after the takes of s (first k looked at), and whether the can serves them all; f is a row -/
def leftS (f : Nat → Int32) (c s : Nat) : Nat → Int32
  | 0 => f (13 + 4 * c + 1) - (if f (13 + 4 * c + 2) = 0 then leadV (f (13 + 4 * c)) (f 0) else 0)
  | k + 1 => if s.testBit k = true then leftS f c s k - (f (41 + 3 * k + 1) + slateV (f (13 + 4 * c))) else leftS f c s k
def okS (f : Nat → Int32) (c s : Nat) : Nat → Bool
  | 0 => true
  | k + 1 => okS f c s k && (!s.testBit k || isOfV (f (13 + 4 * c)) (f (41 + 3 * k)))
def leftV (f : Nat → Int32) (c s : Nat) : Int32 := if okS f c s 8 = true then leftS f c s 8 else -1
theorem okS_iff (f : Nat → Int32) (c s : Nat) : ∀ k, okS f c s k = true ↔ ∀ t, t < k → s.testBit t = true → isOfV (f (13 + 4 * c)) (f (41 + 3 * t)) = true
  | 0 => by simp [okS]
  | k + 1 => by
    simp only [okS, Bool.and_eq_true, Bool.or_eq_true, okS_iff f c s k]
    constructor
    · rintro ⟨h1, h2⟩ t ht hb
      by_cases htk : t = k
      · subst htk
        rcases h2 with h2 | h2
        · rw [hb] at h2; cases h2
        · exact h2
      · exact h1 t (by omega) hb
    · intro h
      refine ⟨fun t ht hb => h t (by omega) hb, ?_⟩
      cases hb : s.testBit k
      · left; rfl
      · right; exact h k (by omega) hb
theorem left_in {a c s : Nat} {M : Mem} (hc : c < 7) (hs : s < 256) (hk : 1 ≤ (gi M a (13 + 4 * c)).toInt ∧ (gi M a (13 + 4 * c)).toInt ≤ 5) (ht : ∀ t, s.testBit t = true → 0 ≤ (gi M a (41 + 3 * t)).toInt ∧ (gi M a (41 + 3 * t)).toInt ≤ 5) : ∀ m k q, k + m = 8 → m < q → Md_left_h34 q a (nI c) (nI s) (leftS (fun i => gi M a i) c s k) (if okS (fun i => gi M a i) c s k = true then 1 else 0) (nI k) M = some (leftV (fun i => gi M a i) c s, M) := by
  have e8 : (8 : Int32) = nI 8 := rfl
  intro m
  induction m with
  | zero =>
    intro k q hk hm
    obtain ⟨q, rfl⟩ : ∃ z, q = z + 1 := ⟨q - 1, by omega⟩
    have hge : ¬ nI k < nI 8 := nI_nlt (by omega) (by omega)
    have hk8 : k = 8 := by omega
    subst hk8
    unfold leftV
    by_cases ho : okS (fun i => gi M a i) c s 8 = true
    · simp only [Md_left_h34, e8, hge, if_false, ho, if_true, z1]
    · simp only [Md_left_h34, e8, hge, if_false, ho, if_true, z0, Bool.false_eq_true]
  | succ m ih =>
    intro k q hkm hm
    obtain ⟨q, rfl⟩ : ∃ z, q = z + 1 := ⟨q - 1, by omega⟩
    have hlt : nI k < nI 8 := nI_lt (by omega) (by omega)
    have ihk := ih (k + 1) q (by omega) (by omega)
    by_cases hb : s.testBit k = true
    · have hsv := md_serves (a := a) (c := c) (t := k) (M := M) hc (by omega) hk (ht k hb)
      simp only [leftS, okS, hb, if_true, Bool.not_true, Bool.false_or] at ihk
      by_cases ho : okS (fun i => gi M a i) c s k = true
      · by_cases hv : isOfV (gi M a (13 + 4 * c)) (gi M a (41 + 3 * k)) = true
        · simp only [ho, hv, Bool.and_self, if_true] at ihk
          simp only [Md_left_h34, Md_left_b70, Md_left_b92, e8, hlt, if_true, md_has hs (show k < 8 by omega), bd_some, hb, z1, if_false, ho, hsv, hv, i3, nI_1, gd_t (inb_nI (show 41 + 3 * k + 1 < 89 by omega) (by omega)), ix_nI (show 41 + 3 * k + 1 < 2 ^ 31 by omega), md_slate hc, lq_eq]
          exact ihk
        · have hv' : isOfV (gi M a (13 + 4 * c)) (gi M a (41 + 3 * k)) = false := by simpa using hv
          simp only [ho, hv', Bool.and_false, Bool.false_eq_true, if_false] at ihk
          simp only [Md_left_h34, Md_left_b69, Md_left_b70, Md_left_b92, e8, hlt, if_true, md_has hs (show k < 8 by omega), bd_some, hb, z1, z0, if_false, ho, hsv, hv', Bool.false_eq_true, i3, nI_1, gd_t (inb_nI (show 41 + 3 * k + 1 < 89 by omega) (by omega)), ix_nI (show 41 + 3 * k + 1 < 2 ^ 31 by omega), md_slate hc, lq_eq]
          exact ihk
      · have ho' : okS (fun i => gi M a i) c s k = false := by simpa using ho
        simp only [ho', Bool.false_and, Bool.false_eq_true, if_false] at ihk
        simp only [Md_left_h34, Md_left_b69, Md_left_b70, Md_left_b92, e8, hlt, if_true, md_has hs (show k < 8 by omega), bd_some, hb, z1, z0, if_false, ho', Bool.false_eq_true, i3, nI_1, gd_t (inb_nI (show 41 + 3 * k + 1 < 89 by omega) (by omega)), ix_nI (show 41 + 3 * k + 1 < 2 ^ 31 by omega), md_slate hc, lq_eq]
        exact ihk
    · have hb' : s.testBit k = false := by simpa using hb
      simp only [leftS, okS, hb', Bool.false_eq_true, if_false, Bool.not_false, Bool.true_or, Bool.and_true] at ihk
      simp only [Md_left_h34, Md_left_b92, e8, hlt, if_true, md_has hs (show k < 8 by omega), bd_some, hb', Bool.false_eq_true, z0, if_false, nI_1, lq_eq]
      exact ihk
theorem left_m {a c s : Nat} {M : Mem} (hc : c < 7) (hs : s < 256) (h0 : s ≠ 0) (hk : 1 ≤ (gi M a (13 + 4 * c)).toInt ∧ (gi M a (13 + 4 * c)).toInt ≤ 5) (ht : ∀ t, s.testBit t = true → 0 ≤ (gi M a (41 + 3 * t)).toInt ∧ (gi M a (41 + 3 * t)).toInt ≤ 5) : j_Md_left a (nI c) (nI s) M = some (leftV (fun i => gi M a i) c s, M) := by
  have key := left_in hc hs hk ht 8 0 FU (by omega) (by unfold FU; omega)
  have hn0 : ¬ nI s = 0 := by rw [nI_eq0 (by omega)]; exact h0
  by_cases hw : gi M a (13 + 4 * c + 2) = 0
  · simp only [leftS, okS, hw, if_true] at key
    simp only [j_Md_left, Md_left_b26, md_feet hc, md_where hc, md_lead hc, bd_some, hn0, if_false, hw, if_true, lq_eq]
    exact key
  · simp only [leftS, okS, hw, if_true, if_false] at key
    simp only [j_Md_left, Md_left_b25, Md_left_b26, md_feet hc, md_where hc, bd_some, hn0, if_false, hw, lq_eq]
    exact key
theorem left_in0 {a c s : Nat} {M : Mem} {x : Int32} (h0 : s = 0) : ∀ m k q, k + m = 8 → m < q → Md_left_h34 q a (nI c) (nI s) x 1 (nI k) M = some (x, M) := by
  have e8 : (8 : Int32) = nI 8 := rfl
  have hb : ∀ k, s.testBit k = false := fun k => by rw [h0]; exact Nat.zero_testBit k
  intro m
  induction m with
  | zero =>
    intro k q hk hm
    obtain ⟨q, rfl⟩ : ∃ z, q = z + 1 := ⟨q - 1, by omega⟩
    have hge : ¬ nI k < nI 8 := nI_nlt (by omega) (by omega)
    simp only [Md_left_h34, e8, hge, if_false, z1]
  | succ m ih =>
    intro k q hkm hm
    obtain ⟨q, rfl⟩ : ∃ z, q = z + 1 := ⟨q - 1, by omega⟩
    have hlt : nI k < nI 8 := nI_lt (by omega) (by omega)
    simp only [Md_left_h34, Md_left_b92, e8, hlt, if_true, md_has (show s < 256 by omega) (show k < 8 by omega), bd_some, hb, Bool.false_eq_true, z0, if_false, nI_1, lq_eq]
    exact ih (k + 1) q (by omega) (by omega)
theorem left_m0 {a c s : Nat} {M : Mem} (hc : c < 7) (h0 : s = 0) : j_Md_left a (nI c) (nI s) M = some (gi M a (13 + 4 * c + 1), M) := by
  have h := left_in0 (a := a) (c := c) (M := M) (x := gi M a (13 + 4 * c + 1) - 0) h0 8 0 FU (by omega) (by unfold FU; omega)
  have hn : nI s = 0 := by rw [h0]; rfl
  have h2 : j_Md_left a (nI c) (nI s) M = Md_left_h34 FU a (nI c) (nI s) (gi M a (13 + 4 * c + 1) - 0) 1 (nI 0) M := by
    unfold j_Md_left
    rw [md_feet hc, bd_some, if_pos hn]
    unfold Md_left_b25 Md_left_b26
    rw [lq_eq, lq_eq, lq_eq]
    rfl
  rw [h2, h, Int32.sub_zero]
