def bitsN (O : Nat) : Nat → Nat := cnt (fun i => O.testBit i)
theorem bitsN_s (O k : Nat) : bitsN O (k + 1) = bitsN O k + (if O.testBit k = true then 1 else 0) := by
  unfold bitsN
  by_cases h : O.testBit k = true
  · simp only [cnt, h, if_true]
  · simp only [cnt, h]
theorem bitsN_mono (O : Nat) {i j : Nat} (h : i ≤ j) : bitsN O i ≤ bitsN O j := by
  induction j with
  | zero => rw [Nat.le_zero.mp h]; exact Nat.le_refl _
  | succ j ih =>
    by_cases hij : i = j + 1
    · rw [hij]; exact Nat.le_refl _
    · have := ih (by omega)
      rw [bitsN_s]
      omega
theorem kth_uniq {O i j : Nat} (hi : O.testBit i = true) (hj : O.testBit j = true) (h : bitsN O i = bitsN O j) : i = j := by
  rcases Nat.lt_trichotomy i j with g | g | g
  · have h1 := bitsN_mono O (show i + 1 ≤ j by omega)
    rw [bitsN_s, if_pos hi] at h1
    omega
  · exact g
  · have h1 := bitsN_mono O (show j + 1 ≤ i by omega)
    rw [bitsN_s, if_pos hj] at h1
    omega
def IsK (O k T : Nat) : Prop := T < 8 ∧ O.testBit T = true ∧ bitsN O T = k
noncomputable def kth (O k : Nat) : Nat := Classical.epsilon (fun T => IsK O k T)
theorem kth_eq {O k T : Nat} (h : IsK O k T) : kth O k = T := by
  have h2 : IsK O k (kth O k) := Classical.epsilon_spec (p := fun T => IsK O k T) ⟨T, h⟩
  exact kth_uniq h2.2.1 h.2.1 (h2.2.2.trans h.2.2.symm)
theorem nL_pred {a : Nat} (h : 0 < a) : nL a - 1 = nL (a - 1) := by
  obtain ⟨b, rfl⟩ : ∃ b, a = b + 1 := ⟨a - 1, by omega⟩
  rw [Nat.add_sub_cancel, ← nL_add]
  show nL b + nL 1 - nL 1 = nL b
  rw [Int64.add_sub_cancel]
theorem nth_in {O k : Nat} {M : Mem} (hO : O < 256) (hk : k < bitsN O 8) : ∀ m t q, t + m = 8 → m < q → bitsN O t ≤ k → ∃ T, IsK O k T ∧ Md_nth_h5 q (nI O) (nL (k - bitsN O t)) (nI t) M = some (nI T, M) := by
  have e8 : (8 : Int32) = nI 8 := rfl
  have hk8 : bitsN O 8 ≤ 8 := cnt_le _ 8
  intro m
  induction m with
  | zero =>
    intro t q ht hq hb
    have : t = 8 := by omega
    subst this
    omega
  | succ m ih =>
    intro t q ht hq hb
    obtain ⟨q, rfl⟩ : ∃ z, q = z + 1 := ⟨q - 1, by omega⟩
    have hlt : nI t < nI 8 := nI_lt (by omega) (by omega)
    have hs := bitsN_s O t
    by_cases hbt : O.testBit t = true
    · rw [if_pos hbt] at hs
      by_cases hz : bitsN O t = k
      · refine ⟨t, ⟨by omega, hbt, hz⟩, ?_⟩
        have hn : ¬ (0 : Int64) < nL (k - bitsN O t) := by
          rw [i64_lt, nL_toInt (by omega)]
          have e : (0 : Int64).toInt = 0 := by decide
          omega
        simp only [Md_nth_h5, e8, hlt, if_true, md_has hO (show t < 8 by omega), hbt, bd_some, z1, if_false, hn]
      · obtain ⟨T, r1, r2⟩ := ih (t + 1) q (by omega) (by omega) (by omega)
        refine ⟨T, r1, ?_⟩
        have hn : (0 : Int64) < nL (k - bitsN O t) := by
          rw [i64_lt, nL_toInt (by omega)]
          have e : (0 : Int64).toInt = 0 := by decide
          omega
        rw [← r2, show k - bitsN O (t + 1) = k - bitsN O t - 1 by omega, ← nL_pred (by omega)]
        simp only [Md_nth_h5, Md_nth_b27, Md_nth_b42, e8, hlt, if_true, md_has hO (show t < 8 by omega), hbt, bd_some, z1, if_false, hn, lq_eq, nI_1]
    · rw [if_neg hbt] at hs
      obtain ⟨T, r1, r2⟩ := ih (t + 1) q (by omega) (by omega) (by omega)
      refine ⟨T, r1, ?_⟩
      rw [← r2, show k - bitsN O (t + 1) = k - bitsN O t by omega]
      simp only [Md_nth_h5, Md_nth_b27, Md_nth_b42, e8, hlt, if_true, md_has hO (show t < 8 by omega), hbt, bd_some, Bool.false_eq_true, if_false, lq_eq, nI_1, Int64.sub_zero]
theorem nth_m {O k : Nat} (M : Mem) (hO : O < 256) (hk : k < bitsN O 8) : IsK O k (kth O k) ∧ j_Md_nth (nI O) (nL k) M = some (nI (kth O k), M) := by
  obtain ⟨T, r1, r2⟩ := nth_in (M := M) hO hk 8 0 FU (by omega) (by unfold FU; omega) (Nat.zero_le k)
  rw [kth_eq r1]
  refine ⟨r1, ?_⟩
  have e : k - bitsN O 0 = k := by show k - 0 = k; omega
  rw [e] at r2
  exact r2
theorem bits0 {O : Nat} (hO : O < 256) : bitsN O 8 = 0 ↔ O = 0 := by
  constructor
  · intro h
    apply Classical.byContradiction
    intro z
    obtain ⟨_, b2, b3⟩ := low_val O hO z
    have := bitsN_mono O (show fst1 (fun i => O.testBit i) 8 0 + 1 ≤ 8 by omega)
    rw [bitsN_s, if_pos b2] at this
    omega
  · intro h
    rw [h]; decide
/-- one draw: a take not yet shot gets a new length -/
noncomputable def drawR (g : Nat → Int32) (O a : Nat) : Nat → Int32 := if O = 0 then g else fu g (41 + 3 * kth O (a % bitsN O 8) + 1) (nI (1 + a / 16 % 60))
def seed (a : Nat) : Nat := a * 16807 % 2147483647
noncomputable def drawS (nc O : Nat) : Nat → (Nat → Int32) → Nat → Int32 → Int32 → Int32 × Int32
  | 0, _, _, S, F => (S, F)
  | m + 1, g, a, S, F => if dB (Bv (Hf (drawR g O (seed a)) nc O) (wf (drawR g O (seed a))) 6 0 O < 1000000) = true then drawS nc O m (drawR g O (seed a)) (seed a) (S + nI (Bv (Hf (drawR g O (seed a)) nc O) (wf (drawR g O (seed a))) 6 0 O / 16)) F else drawS nc O m (drawR g O (seed a)) (seed a) S (F + 1)
theorem best_part {f : Nat → Int32} {nc nt O : Nat} (hR : RowOk f nc nt) (hO : O < 2 ^ nt) (hF : Bv (Hf f nc O) (wf f) 6 0 O < 1000000) : ∀ k, k ≤ 6 → ∃ A r, sumN (lossP f (bestP (Hf f nc O) (wf f) O)) k = nI A ∧ r ≤ k ∧ Bv (Hf f nc O) (wf f) 6 0 O = 16 * A + r + Bv (Hf f nc O) (wf f) (6 - k) k (rst (Hf f nc O) (wf f) O k)
  | 0, _ => ⟨0, 0, rfl, Nat.le_refl 0, by simp [rst]⟩
  | k + 1, hk => by
    obtain ⟨A, r, h1, h2, h3⟩ := best_part hR hO hF k (by omega)
    obtain ⟨k1, k2⟩ := rst_ok hF k (by omega)
    rw [show 6 - k = (5 - k) + 1 by omega] at k1 h3
    obtain ⟨⟨c1, c2⟩, c3⟩ := (cho_ch k1).1
    have hbp : bestP (Hf f nc O) (wf f) O k = cho (Hf f nc O) (wf f) (5 - k) k (rst (Hf f nc O) (wf f) O k) := if_pos (by omega)
    have hr : rst (Hf f nc O) (wf f) O (k + 1) = rst (Hf f nc O) (wf f) O k ^^^ cho (Hf f nc O) (wf f) (5 - k) k (rst (Hf f nc O) (wf f) O k) := rfl
    have hs : sumN (lossP f (bestP (Hf f nc O) (wf f) O)) (k + 1) = sumN (lossP f (bestP (Hf f nc O) (wf f) O)) k + lossP f (bestP (Hf f nc O) (wf f) O) k := rfl
    rw [hs, h1, hr, show 6 - (k + 1) = 5 - k by omega]
    unfold lossP
    rw [hbp]
    by_cases h0 : cho (Hf f nc O) (wf f) (5 - k) k (rst (Hf f nc O) (wf f) O k) = 0
    · unfold cst at c3
      rw [if_pos h0, Nat.zero_add] at c3
      rw [if_pos h0, Int32.add_zero]
      exact ⟨A, r, rfl, by omega, by omega⟩
    · unfold cst at c3
      rw [if_neg h0] at c3
      rw [if_neg h0]
      have hH := c2.resolve_left h0
      obtain ⟨w1, w2, w3, w4⟩ := hf_w hR hO k _ hH
      have hwe : wf f k (cho (Hf f nc O) (wf f) (5 - k) k (rst (Hf f nc O) (wf f) O k)) = 16 * lf f k (cho (Hf f nc O) (wf f) (5 - k) k (rst (Hf f nc O) (wf f) O k)) + 1 := rfl
      refine ⟨A + lf f k (cho (Hf f nc O) (wf f) (5 - k) k (rst (Hf f nc O) (wf f) O k)), r + 1, ?_, by omega, by omega⟩
      rw [w3, nI_add]
theorem best_loss {f : Nat → Int32} {nc nt O : Nat} (hR : RowOk f nc nt) (hO : O < 2 ^ nt) (hF : Bv (Hf f nc O) (wf f) 6 0 O < 1000000) : sumN (lossP f (bestP (Hf f nc O) (wf f) O)) 6 = nI (Bv (Hf f nc O) (wf f) 6 0 O / 16) := by
  obtain ⟨A, r, h1, h2, h3⟩ := best_part hR hO hF 6 (Nat.le_refl 6)
  have h4 := (rst_ok hF 6 (Nat.le_refl 6)).1
  rw [Nat.sub_self, bv_last] at h3 h4
  by_cases h0 : rst (Hf f nc O) (wf f) O 6 = 0
  · rw [if_pos h0] at h3
    rw [h1]
    congr 1
    omega
  · rw [if_neg h0] at h4
    omega
theorem RM.cong89 {M : Mem} {f g : Nat → Int32} {nc nt O : Nat} (n6 : nc ≤ 6) (n8 : nt ≤ 8) (hO : O < 2 ^ nt) (h : RM M f nc nt O) (e : ∀ i, i < 89 → g i = f i) : RM M g nc nt O := by
  have eR : Rf g nc = Rf f nc := setN_cong nc (fun c hc => by rw [e _ (by omega)])
  have eS : ∀ c, Sf g nc nt O c = Sf f nc nt O c := fun c => by
    unfold Sf
    rw [eR]
    by_cases hb : (Rf f nc).testBit c = true
    · have hc := (rf_bit.mp hb).1
      rw [if_pos hb, if_pos hb, setN_cong nt (fun t ht => by rw [e (13 + 4 * c) (by omega), e (41 + 3 * t) (by omega)])]
    · rw [if_neg hb, if_neg hb]
  obtain ⟨⟨h0, h1⟩, h2, h3, h4, h5⟩ := h
  refine ⟨⟨by rw [eR]; exact h0, h1⟩, fun c hc => ?_, fun t ht => ?_, fun w hw hs => ?_, fun c hc v hv => ?_⟩
  · rw [eS, eR]
    refine ⟨(h2 c hc).1, fun hb => ?_⟩
    obtain ⟨g0, g1, g2, g3⟩ := (h2 c hc).2 hb
    have hcn := (rf_bit.mp hb).1
    refine ⟨?_, ?_, ?_, ?_⟩
    · rw [e _ (by omega)]; exact g0
    · unfold lead0 at *; rw [e _ (by omega), e _ (by omega), e 0 (by omega)]; exact g1
    · rw [e _ (by omega)]; exact g2
    · unfold keptN at *; rw [e _ (by omega), e 1 (by omega)]; exact g3
  · rw [e _ (by omega)]; exact h3 t ht
  · rw [h4 w hw hs]
    exact sumS_cong 8 (fun i hi => ⟨rfl, fun _ => (e _ (by omega)).symm⟩)
  · rw [eS]
    refine ⟨fun q1 q2 => ?_, (h5 c hc v hv).2⟩
    rw [(h5 c hc v hv).1 q1 q2]
    have hcn := ((sf_iff n8 hO q2).mp q1).1
    exact ((leftS_cong (f := f) (g := g) (c := c) (T := v) (fun i hi => e i (by omega)) 8 (Nat.le_refl 8)).1).symm
