def Rf (f : Nat → Int32) (nc : Nat) : Nat := setN (fun c => !decide (f (13 + 4 * c + 2) = 2)) nc
theorem rf_bit {f : Nat → Int32} {nc c : Nat} : (Rf f nc).testBit c = true ↔ (c < nc ∧ ¬ f (13 + 4 * c + 2) = 2) := by
  unfold Rf
  rw [setN_bit]
  simp
def Sf (f : Nat → Int32) (nc nt O c : Nat) : Nat := if (Rf f nc).testBit c = true then O &&& setN (fun t => isOfV (f (13 + 4 * c)) (f (41 + 3 * t))) nt else 0
def keptN (f : Nat → Int32) (c : Nat) : Int32 := if leastV (f (13 + 4 * c)) (f 1) = -1000000 then 100 else leastV (f (13 + 4 * c)) (f 1)
/-- the class's rooms against a row -/
def RM (M : Mem) (f : Nat → Int32) (nc nt O : Nat) : Prop :=
  (gi M 299 0 = nI (Rf f nc) ∧ gi M 299 1 = nI O) ∧
  (∀ c, c < 6 → gi M 304 c = nI (Sf f nc nt O c) ∧ ((Rf f nc).testBit c = true → gi M 300 c = f (13 + 4 * c + 1) ∧ gi M 301 c = lead0 f c ∧ gi M 302 c = slateV (f (13 + 4 * c)) ∧ gi M 303 c = keptN f c)) ∧
  (∀ t, t < 8 → gi M 305 t = if O.testBit t = true then f (41 + 3 * t + 1) else 0) ∧
  (∀ w, w < 256 → sb w O → gi M 306 w = sumS (fun t => f (41 + 3 * t + 1)) w 8) ∧
  ∀ c, c < 6 → ∀ v, v < 256 → (sb v (Sf f nc nt O c) → v ≠ 0 → gi M (308 + c) v = leftS f c v 8) ∧ (¬ (sb v (Sf f nc nt O c) ∧ v ≠ 0) → gi M (308 + c) v = -1000000)
theorem RM.cong {M M' : Mem} {f : Nat → Int32} {nc nt O : Nat} (h : RM M f nc nt O) (e : ∀ a i, 299 ≤ a → a ≤ 313 → gi M' a i = gi M a i) : RM M' f nc nt O := by
  obtain ⟨⟨h0, h1⟩, h2, h3, h4, h5⟩ := h
  refine ⟨⟨?_, ?_⟩, fun c hc => ?_, fun t ht => ?_, fun w hw => ?_, fun c hc v hv => ?_⟩
  · rw [e _ _ (by omega) (by omega)]; exact h0
  · rw [e _ _ (by omega) (by omega)]; exact h1
  · rw [e _ _ (by omega) (by omega), e _ _ (by omega) (by omega), e _ _ (by omega) (by omega), e _ _ (by omega) (by omega), e _ _ (by omega) (by omega)]; exact h2 c hc
  · rw [e _ _ (by omega) (by omega)]; exact h3 t ht
  · rw [e _ _ (by omega) (by omega)]; exact h4 w hw
  · rw [e _ _ (by omega) (by omega)]; exact h5 c hc v hv
theorem sf_lt {f : Nat → Int32} {nc nt O c : Nat} (hO : O < 256) : Sf f nc nt O c < 256 := by
  unfold Sf
  by_cases h : (Rf f nc).testBit c = true
  · rw [if_pos h]; exact Nat.lt_of_le_of_lt Nat.and_le_left hO
  · rw [if_neg h]; omega
theorem sf_sb {f : Nat → Int32} {nc nt O c : Nat} : sb (Sf f nc nt O c) O := by
  unfold Sf
  by_cases h : (Rf f nc).testBit c = true
  · rw [if_pos h, Nat.and_comm]; exact sb_and _ _
  · rw [if_neg h]; exact sb_zero _
theorem sf_iff {f : Nat → Int32} {nc nt O c v : Nat} (n8 : nt ≤ 8) (hO : O < 2 ^ nt) (hv : v ≠ 0) : sb v (Sf f nc nt O c) ↔ (c < nc ∧ sb v O ∧ ¬ f (13 + 4 * c + 2) = 2 ∧ okS f c v 8 = true) := by
  unfold Sf
  by_cases h : (Rf f nc).testBit c = true
  · rw [if_pos h]
    obtain ⟨h1, h2⟩ := rf_bit.mp h
    rw [okS_iff]
    constructor
    · intro q
      have qb := sb_bit.mp q
      have hsb : sb v O := sb_bit.mpr (fun i hi => by
        have := qb i hi
        rw [Nat.testBit_and, Bool.and_eq_true] at this
        exact this.1)
      refine ⟨h1, hsb, h2, fun t ht hb => ?_⟩
      have := qb t hb
      rw [Nat.testBit_and, setN_bit, Bool.and_eq_true, Bool.and_eq_true] at this
      exact this.2.2
    · rintro ⟨_, q2, _, q4⟩
      apply sb_bit.mpr
      intro i hi
      have hn := bitO hO q2 hi
      rw [Nat.testBit_and, setN_bit, Bool.and_eq_true, Bool.and_eq_true]
      exact ⟨sb_bit.mp q2 i hi, by simpa using hn, q4 i (by omega) hi⟩
  · rw [if_neg h]
    constructor
    · intro q
      exact absurd (Nat.le_zero.mp (sb_le q)) hv
    · rintro ⟨q1, _, q3, _⟩
      exact absurd (rf_bit.mpr ⟨q1, q3⟩) h
theorem hf_sf {f : Nat → Int32} {nc nt O c v : Nat} (n8 : nt ≤ 8) (hO : O < 2 ^ nt) (h : Hf f nc O c v) : sb v (Sf f nc nt O c) := (sf_iff n8 hO h.2.1).mpr ⟨h.1, h.2.2.1, h.2.2.2.1, h.2.2.2.2.1⟩
theorem rm_end {M : Mem} {f : Nat → Int32} {nc nt O c v : Nat} (h : RM M f nc nt O) (n8 : nt ≤ 8) (hO : O < 2 ^ nt) (hc : c < 6) (hv : v < 256) (hH : Hf f nc O c v) : gi M (308 + c) v = leftS f c v 8 := (h.2.2.2.2 c hc v hv).1 (hf_sf n8 hO hH) hH.2.1
theorem rm_end_no {M : Mem} {f : Nat → Int32} {nc nt O c v : Nat} (h : RM M f nc nt O) (n8 : nt ≤ 8) (hO : O < 2 ^ nt) (hc : c < 6) (hv : v < 256) (hH : ¬ Hf f nc O c v) : gi M (308 + c) v < 0 := by
  by_cases q : sb v (Sf f nc nt O c) ∧ v ≠ 0
  · rw [(h.2.2.2.2 c hc v hv).1 q.1 q.2, i32_lt, t0]
    obtain ⟨q1, q2, q3, q4⟩ := (sf_iff n8 hO q.2).mp q.1
    apply Classical.byContradiction
    intro z
    exact hH ⟨q1, q.2, q2, q3, q4, by omega⟩
  · rw [(h.2.2.2.2 c hc v hv).2 q]; decide
theorem holds_yes {M : Mem} {f : Nat → Int32} {nc nt O c v : Nat} (h : RM M f nc nt O) (n8 : nt ≤ 8) (hO : O < 2 ^ nt) (hc : c < 6) (hv : v < 256) (hH : Hf f nc O c v) : j_Rooms_holds (nI c) (nI v) M = some (1, M) := by
  have e := rm_end h n8 hO hc hv hH
  have hlt : ¬ gi M (308 + c) v < 0 := by rw [e, i32_lt, t0]; have := hH.2.2.2.2.2; omega
  simp only [j_Rooms_holds, gd_t (inb_nI hc (by omega)), gd_t (inb_nI hv (by omega)), ix_nI (show c < 2 ^ 31 by omega), ix_nI (show v < 2 ^ 31 by omega), hlt, if_false]
theorem holds_no {M : Mem} {f : Nat → Int32} {nc nt O c v : Nat} (h : RM M f nc nt O) (n8 : nt ≤ 8) (hO : O < 2 ^ nt) (hc : c < 6) (hv : v < 256) (hH : ¬ Hf f nc O c v) : j_Rooms_holds (nI c) (nI v) M = some (0, M) := by
  have hlt := rm_end_no h n8 hO hc hv hH
  simp only [j_Rooms_holds, gd_t (inb_nI hc (by omega)), gd_t (inb_nI hv (by omega)), ix_nI (show c < 2 ^ 31 by omega), ix_nI (show v < 2 ^ 31 by omega), hlt, if_true]
theorem loss_a (F L Sl n S : Int32) : F - S - 0 = (L + n * Sl) + (F - L - Sl * n - S) := by grind
theorem loss_b (F L Sl n S : Int32) : F - S - (F - L - Sl * n - S) = (L + n * Sl) + 0 := by grind
theorem rm_loss {M : Mem} {f : Nat → Int32} {nc nt O c v : Nat} (h : RM M f nc nt O) (hR : RowOk f nc nt) (hO : O < 2 ^ nt) (hc : c < 6) (hv : v < 256) (hH : Hf f nc O c v) : j_Rooms_lossOf (nI c) (nI v) M = some (lossV f c v, M) := by
  have n8 := hR.1.2.1
  have e := rm_end h n8 hO hc hv hH
  obtain ⟨h1, h2, h3, h4, h5, h6⟩ := hH
  have hb : (Rf f nc).testBit c = true := rf_bit.mpr ⟨h1, h4⟩
  obtain ⟨g0, g1, g2, g3⟩ := (h.2.1 c hc).2 hb
  have g6 := h.2.2.2.1 v hv h3
  have hl : leftS f c v 8 = f (13 + 4 * c + 1) - lead0 f c - slateV (f (13 + 4 * c)) * nI (cnt (fun i => v.testBit i) 8) - sumS (fun t => f (41 + 3 * t + 1)) v 8 := ends_left (c := c) (fun t _ _ => rfl) 8 (Nat.le_refl 8)
  have h99 := (loss_val hR.2.1 (hR.2.2.1 c h1).2 (fun t ht => (hR.2.2.2 t (bitO hO h3 ht)).2) h6).2
  have hin := inb_nI hc (show 6 < 2 ^ 31 by omega)
  have hin2 := inb_nI hv (show 256 < 2 ^ 31 by omega)
  by_cases hk : keptV (f (13 + 4 * c)) (f 1) (leftS f c v 8) = true
  · have hk2 := hk
    unfold keptV at hk2
    simp only [Bool.and_eq_true, Bool.not_eq_true', decide_eq_false_iff_not] at hk2
    have hlt : ¬ leftS f c v 8 < keptN f c := by unfold keptN; rw [if_neg hk2.1]; exact hk2.2
    simp only [j_Rooms_lossOf, gd_t hin, gd_t hin2, ix_nI (show c < 2 ^ 31 by omega), ix_nI (show v < 2 ^ 31 by omega), lq_eq, e, g3, hlt, if_false, g0, g6]
    unfold lossV
    rw [if_pos hk, hl, loss_b]
  · have hlt : leftS f c v 8 < keptN f c := by
      unfold keptN
      by_cases hm : leastV (f (13 + 4 * c)) (f 1) = -1000000
      · rw [if_pos hm, i32_lt]
        have : (100 : Int32).toInt = 100 := by decide
        omega
      · rw [if_neg hm]
        unfold keptV at hk
        simp only [Bool.and_eq_true, Bool.not_eq_true', decide_eq_false_iff_not] at hk
        apply Classical.byContradiction
        intro q
        exact hk ⟨hm, q⟩
    simp only [j_Rooms_lossOf, gd_t hin, gd_t hin2, ix_nI (show c < 2 ^ 31 by omega), ix_nI (show v < 2 ^ 31 by omega), lq_eq, e, g3, hlt, if_true, g0, g6]
    unfold lossV
    rw [if_neg hk, hl, loss_a (f (13 + 4 * c + 1)) (lead0 f c) (slateV (f (13 + 4 * c)))]
theorem price_val : ∀ l, l < 100 → nI l * 16 + 1 = nI (16 * l + 1) := by decide +kernel
theorem price_c {M : Mem} {f : Nat → Int32} {nc nt O c v : Nat} (h : RM M f nc nt O) (hR : RowOk f nc nt) (hO : O < 2 ^ nt) (hc : c < 6) (hv : v < 256) (hH : Hf f nc O c v) : j_Best_priceOf (nI c) (nI v) M = some (nI (wf f c v), M) := by
  have hw := hf_w hR hO c v hH
  simp only [j_Best_priceOf, rm_loss h hR hO hc hv hH, bd_some, hw.2.2.1, price_val _ (show lf f c v < 100 by omega)]
  rfl
