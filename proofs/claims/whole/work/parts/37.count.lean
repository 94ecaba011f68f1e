theorem s_sums (x : Int32) : Sim (j_Fc_sums x) (j_Md_sums x) := by
  intro M h
  have hR := h
  obtain ⟨nc, nt, nr, d1, d2⟩ := h.1
  have hc0 : gi M 3 0 = nI nc := d1.1.1
  have hm0 : gi M 327 4 = nI nc := d2.2.1.1
  have hc2 : gi M 3 2 = nI nr := d1.1.2.2
  have hm2 : gi M 327 6 = nI nr := d2.2.1.2.2
  have n6 : nc ≤ 6 := d2.1.1
  have n8 : nr ≤ 8 := d2.1.2.2
  have hs := d1.2.2.1
  simp only [row_at] at hs
  have hcam := d1.2.1
  have hI11 := d2.2.2.2.1
  rw [row_at] at hcam hI11
  by_cases hx : 0 ≤ x.toInt ∧ x.toInt < 8
  · rcases x07 hx with q | q | q | q | q | q | q | q <;> subst q
    · refine ⟨gi M 327 7, M, M, ?_, ?_, hR⟩
      · unfold j_Fc_sums; rw [if_pos rfl, hs.2.1]
      · unfold j_Md_sums; rw [if_pos rfl]
    · refine ⟨sumN (fun c => if gi M 327 (13 + 4 * c + 2) = 0 then gi M 327 (13 + 4 * c + 1) else 0) nc, M, M, ?_, ?_, hR⟩
      · unfold j_Fc_sums j_Day_feetOnShelf
        rw [if_neg (by decide : ¬ (1 : Int32) = 0), if_pos rfl, lq_eq, lq_eq]
        have hl := shelf_c (M := M) n6 hc0 nc 0 FU (by omega) (by unfold FU; omega)
        rw [sumN_cong nc (g := fun c => if gi M 327 (13 + 4 * c + 2) = 0 then gi M 327 (13 + 4 * c + 1) else 0) (fun c hc => ?_)] at hl
        · exact congrArg (fun o => bd o (fun r6 M7 => some (r6, M7))) hl
        · have := d1.2.2.2.2.1 c hc
          simp only [row_at] at this
          rw [show gi M 7 c = _ from this.2.2.1, show gi M 6 c = _ from this.2.1]
      · unfold j_Md_sums j_Md_onShelf
        rw [if_neg (by decide : ¬ (1 : Int32) = 0), if_pos rfl, lq_eq, lq_eq]
        have hl := shelf_m (M := M) n6 hm0 nc 0 FU (by omega) (by unfold FU; omega)
        exact congrArg (fun o => bd o (fun r6 M7 => some (r6, M7))) hl
    · rcases hcam with ⟨g1, g2⟩ | ⟨g1, g2⟩
      · refine ⟨0, M, M, ?_, ?_, hR⟩
        · unfold j_Fc_sums
          rw [if_neg (by decide : ¬ (2 : Int32) = 0), if_neg (by decide : ¬ (2 : Int32) = 1), if_pos rfl, g1, hasCan_no hc0 (by omega) (by rw [tN]; omega), bd_some, if_pos rfl]
        · unfold j_Md_sums
          rw [if_neg (by decide : ¬ (2 : Int32) = 0), if_neg (by decide : ¬ (2 : Int32) = 1), if_pos rfl, g2, if_pos (by decide)]
      · obtain ⟨c, hc, he⟩ : ∃ c, c < nc ∧ gi M 327 11 = nI c := by
          rcases hI11 with q | q
          · rw [q, tm1] at g2; omega
          · exact q
        have hf := (d1.2.2.2.2.1 c hc).2.1
        rw [row_at] at hf
        refine ⟨gi M 327 (13 + 4 * c + 1), M, M, ?_, ?_, hR⟩
        · unfold j_Fc_sums
          rw [if_neg (by decide : ¬ (2 : Int32) = 0), if_neg (by decide : ¬ (2 : Int32) = 1), if_pos rfl, g1, he, hasCan_yes hc0 (by omega) hc, bd_some, if_neg i10, g1, he, gd_t (inb_nI (by omega) (by omega)), ix_nI (by omega), hf]
        · unfold j_Md_sums
          rw [if_neg (by decide : ¬ (2 : Int32) = 0), if_neg (by decide : ¬ (2 : Int32) = 1), if_pos rfl, he, if_neg (nI_pos (by omega)), md_feet (by omega), bd_some]
    · refine ⟨gi M 327 8, M, M, ?_, ?_, hR⟩
      · unfold j_Fc_sums; rw [if_neg (by decide : ¬ (3 : Int32) = 0), if_neg (by decide : ¬ (3 : Int32) = 1), if_neg (by decide : ¬ (3 : Int32) = 2), if_pos rfl, hs.2.2.1]
      · unfold j_Md_sums; rw [if_neg (by decide : ¬ (3 : Int32) = 0), if_neg (by decide : ¬ (3 : Int32) = 1), if_neg (by decide : ¬ (3 : Int32) = 2), if_pos rfl]
    · refine ⟨gi M 327 9, M, M, ?_, ?_, hR⟩
      · unfold j_Fc_sums; rw [if_neg (by decide : ¬ (4 : Int32) = 0), if_neg (by decide : ¬ (4 : Int32) = 1), if_neg (by decide : ¬ (4 : Int32) = 2), if_neg (by decide : ¬ (4 : Int32) = 3), if_pos rfl, hs.2.2.2.1]
      · unfold j_Md_sums; rw [if_neg (by decide : ¬ (4 : Int32) = 0), if_neg (by decide : ¬ (4 : Int32) = 1), if_neg (by decide : ¬ (4 : Int32) = 2), if_neg (by decide : ¬ (4 : Int32) = 3), if_pos rfl]
    · refine ⟨sumN (fun i => gi M 327 (65 + 3 * i + 1)) nr, M, M, ?_, ?_, hR⟩
      · unfold j_Fc_sums; rw [if_neg (by decide : ¬ (5 : Int32) = 0), if_neg (by decide : ¬ (5 : Int32) = 1), if_neg (by decide : ¬ (5 : Int32) = 2), if_neg (by decide : ¬ (5 : Int32) = 3), if_neg (by decide : ¬ (5 : Int32) = 4), if_pos rfl, waits_c n8 hc2, bd_some]
        rw [sumN_cong nr (fun i hi => ?_)]
        have := (d1.2.2.2.2.2.2 i hi).2.1
        rw [row_at] at this
        exact this
      · unfold j_Md_sums; rw [if_neg (by decide : ¬ (5 : Int32) = 0), if_neg (by decide : ¬ (5 : Int32) = 1), if_neg (by decide : ¬ (5 : Int32) = 2), if_neg (by decide : ¬ (5 : Int32) = 3), if_neg (by decide : ¬ (5 : Int32) = 4), if_pos rfl, waits_m n8 hm2, bd_some]
    · refine ⟨gi M 327 10, M, M, ?_, ?_, hR⟩
      · unfold j_Fc_sums; rw [if_neg (by decide : ¬ (6 : Int32) = 0), if_neg (by decide : ¬ (6 : Int32) = 1), if_neg (by decide : ¬ (6 : Int32) = 2), if_neg (by decide : ¬ (6 : Int32) = 3), if_neg (by decide : ¬ (6 : Int32) = 4), if_neg (by decide : ¬ (6 : Int32) = 5), if_pos rfl, hs.2.2.2.2]
      · unfold j_Md_sums; rw [if_neg (by decide : ¬ (6 : Int32) = 0), if_neg (by decide : ¬ (6 : Int32) = 1), if_neg (by decide : ¬ (6 : Int32) = 2), if_neg (by decide : ¬ (6 : Int32) = 3), if_neg (by decide : ¬ (6 : Int32) = 4), if_neg (by decide : ¬ (6 : Int32) = 5), if_pos rfl]
    · refine ⟨gi M 327 12, M, M, ?_, ?_, hR⟩
      · unfold j_Fc_sums; rw [if_neg (by decide : ¬ (7 : Int32) = 0), if_neg (by decide : ¬ (7 : Int32) = 1), if_neg (by decide : ¬ (7 : Int32) = 2), if_neg (by decide : ¬ (7 : Int32) = 3), if_neg (by decide : ¬ (7 : Int32) = 4), if_neg (by decide : ¬ (7 : Int32) = 5), if_neg (by decide : ¬ (7 : Int32) = 6), if_pos rfl, hs.1]
      · unfold j_Md_sums; rw [if_neg (by decide : ¬ (7 : Int32) = 0), if_neg (by decide : ¬ (7 : Int32) = 1), if_neg (by decide : ¬ (7 : Int32) = 2), if_neg (by decide : ¬ (7 : Int32) = 3), if_neg (by decide : ¬ (7 : Int32) = 4), if_neg (by decide : ¬ (7 : Int32) = 5), if_neg (by decide : ¬ (7 : Int32) = 6), if_pos rfl]
  · have a : ∀ b : Nat, b < 8 → ¬ x = nI b := fun b hb q => by rw [q, nI_toInt (by omega)] at hx; omega
    refine ⟨-1000001, M, M, ?_, ?_, hR⟩
    · unfold j_Fc_sums
      rw [if_neg (show ¬ x = (0 : Int32) from a 0 (by omega)), if_neg (show ¬ x = (1 : Int32) from a 1 (by omega)), if_neg (show ¬ x = (2 : Int32) from a 2 (by omega)), if_neg (show ¬ x = (3 : Int32) from a 3 (by omega)), if_neg (show ¬ x = (4 : Int32) from a 4 (by omega)), if_neg (show ¬ x = (5 : Int32) from a 5 (by omega)), if_neg (show ¬ x = (6 : Int32) from a 6 (by omega)), if_neg (show ¬ x = (7 : Int32) from a 7 (by omega))]
    · unfold j_Md_sums
      rw [if_neg (show ¬ x = (0 : Int32) from a 0 (by omega)), if_neg (show ¬ x = (1 : Int32) from a 1 (by omega)), if_neg (show ¬ x = (2 : Int32) from a 2 (by omega)), if_neg (show ¬ x = (3 : Int32) from a 3 (by omega)), if_neg (show ¬ x = (4 : Int32) from a 4 (by omega)), if_neg (show ¬ x = (5 : Int32) from a 5 (by omega)), if_neg (show ¬ x = (6 : Int32) from a 6 (by omega)), if_neg (show ¬ x = (7 : Int32) from a 7 (by omega))]
/-- how many -/
def cnt (p : Nat → Bool) : Nat → Nat
  | 0 => 0
  | n + 1 => cnt p n + (if p n = true then 1 else 0)
theorem cnt_le (p : Nat → Bool) : ∀ n, cnt p n ≤ n
  | 0 => Nat.le_refl 0
  | n + 1 => by have := cnt_le p n; simp only [cnt]; split <;> omega
theorem cnt_cong {p q : Nat → Bool} : ∀ n, (∀ i, i < n → p i = q i) → cnt p n = cnt q n
  | 0, _ => rfl
  | n + 1, h => by simp only [cnt]; rw [cnt_cong n (fun i hi => h i (by omega)), h n (by omega)]
theorem cnt_set (p : Nat → Bool) (n m : Nat) : cnt (fun i => (setN p n).testBit i) (n + m) = cnt p n := by
  induction m with
  | zero => exact cnt_cong n (fun i hi => by rw [setN_bit]; simp [hi])
  | succ m ih =>
    have hb : (setN p n).testBit (n + m) = false := by rw [setN_bit, decide_eq_false (by omega), Bool.false_and]
    show cnt (fun i => (setN p n).testBit i) (n + m) + (if (setN p n).testBit (n + m) = true then 1 else 0) = _
    rw [ih, hb]; simp
def MZ : Mem := (fun _ _ => 0, fun _ _ => 0)
def bcV (x : Int32) : Int32 := match j_Integer_bitCount x MZ with | some (r, _) => r | none => 0
theorem bc_eq (x : Int32) (M : Mem) : j_Integer_bitCount x M = some (bcV x, M) := rfl
set_option maxRecDepth 20000 in
theorem bc_val : ∀ s, s < 256 → bcV (nI s) = nI (cnt (fun i => s.testBit i) 8) := by decide +kernel
set_option maxRecDepth 20000 in
theorem has_val : ∀ s, s < 256 → ∀ t, t < 8 → (((nI s >>> (nI t &&& 31)) &&& 1) = 1 ↔ s.testBit t = true) := by decide +kernel
theorem md_has {s t : Nat} {M : Mem} (hs : s < 256) (ht : t < 8) : j_Md_has (nI s) (nI t) M = some (if s.testBit t = true then 1 else 0, M) := by
  simp only [j_Md_has]
  by_cases h : s.testBit t = true
  · rw [if_pos h, if_pos ((has_val s hs t ht).mpr h)]
  · rw [if_neg h, if_neg (fun q => h ((has_val s hs t ht).mp q))]
theorem ones_m {s : Nat} {M : Mem} (hs : s < 256) : ∀ m k n, k + m = 8 → m < n → Md_ones_h4 n (nI s) (nI (cnt (fun i => s.testBit i) k)) (nI k) M = some (nI (cnt (fun i => s.testBit i) 8), M) := by
  have e8 : (8 : Int32) = nI 8 := rfl
  intro m
  induction m with
  | zero =>
    intro k n hk hm
    obtain ⟨n, rfl⟩ : ∃ q, n = q + 1 := ⟨n - 1, by omega⟩
    have hge : ¬ nI k < nI 8 := nI_nlt (by omega) (by omega)
    simp only [Md_ones_h4, e8, hge, if_false]
    rw [show k = 8 by omega]
  | succ m ih =>
    intro k n hkm hm
    obtain ⟨n, rfl⟩ : ∃ q, n = q + 1 := ⟨n - 1, by omega⟩
    have hlt : nI k < nI 8 := nI_lt (by omega) (by omega)
    have ihk := ih (k + 1) n (by omega) (by omega)
    by_cases hp : s.testBit k = true
    · simp only [Md_ones_h4, Md_ones_b24, e8, hlt, if_true, md_has hs (show k < 8 by omega), bd_some, hp, z1, if_false, lq_eq, nI_1]
      have e : cnt (fun i => s.testBit i) k + 1 = cnt (fun i => s.testBit i) (k + 1) := by simp only [cnt, hp, if_true]
      rw [e]; exact ihk
    · simp only [Md_ones_h4, Md_ones_b24, e8, hlt, if_true, md_has hs (show k < 8 by omega), bd_some, hp, z0, if_false, lq_eq, nI_1, nI_p0, Bool.false_eq_true]
      have e : cnt (fun i => s.testBit i) k = cnt (fun i => s.testBit i) (k + 1) := by simp only [cnt, hp, if_false, Nat.add_zero, Bool.false_eq_true]
      rw [e]; exact ihk
theorem ones_eq {s : Nat} {M : Mem} (hs : s < 256) : j_Md_ones (nI s) M = some (nI (cnt (fun i => s.testBit i) 8), M) := by
  simp only [j_Md_ones, lq_eq]
  exact ones_m hs 8 0 FU (by omega) (by unfold FU; omega)
theorem md_isRoom {a c : Nat} {M : Mem} (hc : c < 7) : j_Md_isRoom a (nI c) M = some (if (!decide (gi M a (13 + 4 * c + 2) = 2)) = true then 1 else 0, M) := by
  simp only [j_Md_isRoom, md_where hc, bd_some]
  by_cases h : gi M a (13 + 4 * c + 2) = 2
  · simp [h]
  · simp [h]
theorem count_m {nc : Nat} {x : Int32} {M : Mem} {R : Option (Int32 × Mem)} (hn : nc ≤ 6) (h0 : gi M 327 4 = nI nc) (hfin : ∀ n, Md_count_h4 (n + 1) x (nI (cnt (fun c => !decide (gi M 327 (13 + 4 * c + 2) = 2)) nc)) (nI nc) M = R) : ∀ m k n, k + m = nc → m < n → Md_count_h4 n x (nI (cnt (fun c => !decide (gi M 327 (13 + 4 * c + 2) = 2)) k)) (nI k) M = R := by
  intro m
  induction m with
  | zero =>
    intro k n hk hm
    obtain ⟨n, rfl⟩ : ∃ q, n = q + 1 := ⟨n - 1, by omega⟩
    rw [show k = nc by omega]
    exact hfin n
  | succ m ih =>
    intro k n hkm hm
    obtain ⟨n, rfl⟩ : ∃ q, n = q + 1 := ⟨n - 1, by omega⟩
    have hlt : nI k < nI nc := nI_lt (by omega) (by omega)
    have ihk := ih (k + 1) n (by omega) (by omega)
    by_cases hp : (!decide (gi M 327 (13 + 4 * k + 2) = 2)) = true
    · simp only [Md_count_h4, Md_count_b31, h0, hlt, if_true, md_isRoom (show k < 7 by omega), bd_some, hp, z1, if_false, lq_eq, nI_1]
      have e : cnt (fun c => !decide (gi M 327 (13 + 4 * c + 2) = 2)) k + 1 = cnt (fun c => !decide (gi M 327 (13 + 4 * c + 2) = 2)) (k + 1) := by simp only [cnt, hp, if_true]
      rw [e]; exact ihk
    · simp only [Md_count_h4, Md_count_b31, h0, hlt, if_true, md_isRoom (show k < 7 by omega), bd_some, hp, z0, if_false, lq_eq, nI_1, nI_p0, Bool.false_eq_true]
      have e : cnt (fun c => !decide (gi M 327 (13 + 4 * c + 2) = 2)) k = cnt (fun c => !decide (gi M 327 (13 + 4 * c + 2) = 2)) (k + 1) := by simp only [cnt, hp, if_false, Nat.add_zero, Bool.false_eq_true]
      rw [e]; exact ihk
theorem s_count (x : Int32) : Sim (j_Fc_count x) (j_Md_count x) := by
  intro M h
  have hR := h
  obtain ⟨nc, nt, nr, d1, d2⟩ := h.1
  obtain ⟨⟨tn, tl⟩, tf⟩ := h.2.1
  obtain ⟨a, q, hh⟩ := h.2.2.1
  have hc0 : gi M 3 0 = nI nc := d1.1.1
  have hm0 : gi M 327 4 = nI nc := d2.2.1.1
  have hc1 : gi M 3 1 = nI nt := d1.1.2.1
  have hm1 : gi M 327 5 = nI nt := d2.2.1.2.1
  have hc2 : gi M 3 2 = nI nr := d1.1.2.2
  have hm2 : gi M 327 6 = nI nr := d2.2.1.2.2
  have n6 : nc ≤ 6 := d2.1.1
  have n8 : nt ≤ 8 := d2.1.2.1
  have nlt : ¬ nI nc < nI nc := nI_nlt (Nat.le_refl _) (by omega)
  have key : ∀ R, (∀ n, Md_count_h4 (n + 1) x (nI (cnt (fun c => !decide (gi M 327 (13 + 4 * c + 2) = 2)) nc)) (nI nc) M = R) → j_Md_count x M = R := fun R hf => by
    simp only [j_Md_count, lq_eq]
    exact count_m n6 hm0 hf nc 0 FU (by omega) (by unfold FU; omega)
  have s256 : openN M 327 nt < 256 := Nat.lt_of_lt_of_le (setN_lt _ nt) (Nat.le_trans (Nat.pow_le_pow_right (by omega) n8) (by decide))
  by_cases hx : 0 ≤ x.toInt ∧ x.toInt < 7
  · have q7 := x07 (y := x) (by omega)
    have t7 : (7 : Int32).toInt = 7 := by decide
    rcases q7 with q | q | q | q | q | q | q | q
    · subst q
      refine ⟨nI nc, M, M, ?_, ?_, hR⟩
      · unfold j_Fc_count; rw [if_pos rfl, hc0]
      · refine key _ (fun n => ?_)
        simp only [Md_count_h4, hm0, nlt, if_false, if_true]
    · subst q
      refine ⟨nI nt, M, M, ?_, ?_, hR⟩
      · unfold j_Fc_count; rw [if_neg (by decide : ¬ (1 : Int32) = 0), if_pos rfl, hc1]
      · refine key _ (fun n => ?_)
        simp only [Md_count_h4, hm0, nlt, if_false, if_true, hm1, z1]
    · subst q
      refine ⟨nI (cnt (fun i => (openN M 327 nt).testBit i) 8), M, M, ?_, ?_, hR⟩
      · have ho := openTakes_c n8 d1
        have e : (setN (fun i => decide ((gi M 327 (0 + (41 + 3 * i + 2))).toInt < 0)) nt) = openN M 327 nt := by
          unfold openN
          exact setN_cong nt (fun i _ => by rw [Nat.zero_add])
        rw [e] at ho
        unfold j_Fc_count; rw [if_neg (by decide : ¬ (2 : Int32) = 0), if_neg (by decide : ¬ (2 : Int32) = 1), if_pos rfl, ho, bd_some, bc_eq, bd_some, bc_val _ s256]
      · refine key _ (fun n => ?_)
        unfold Md_count_h4
        rw [hm0, if_neg nlt, if_neg (by decide : ¬ (2 : Int32) = 0), if_neg (by decide : ¬ (2 : Int32) = 1), if_pos rfl, openOnes_m n8 hm1, bd_some, ones_eq s256, bd_some]
    · subst q
      refine ⟨nI (cnt (fun c => !decide (gi M 327 (13 + 4 * c + 2) = 2)) nc), M, M, ?_, ?_, hR⟩
      · have e : setN (fun c => !decide (gi M (3 + 4) c = 2)) nc = setN (fun c => !decide (gi M 327 (13 + 4 * c + 2) = 2)) nc := setN_cong nc (fun c hc => by
          have := (d1.2.2.2.2.1 c hc).2.2.1
          rw [row_at] at this
          rw [this])
        have hr := dayRooms (M := M) n6 hc0
        rw [e] at hr
        have l256 : setN (fun c => !decide (gi M 327 (13 + 4 * c + 2) = 2)) nc < 256 := Nat.lt_of_lt_of_le (setN_lt _ nc) (Nat.le_trans (Nat.pow_le_pow_right (by omega) (show nc ≤ 8 by omega)) (by decide))
        unfold j_Fc_count; rw [if_neg (by decide : ¬ (3 : Int32) = 0), if_neg (by decide : ¬ (3 : Int32) = 1), if_neg (by decide : ¬ (3 : Int32) = 2), if_pos rfl, hr, bd_some, bc_eq, bd_some, bc_val _ l256]
        have := cnt_set (fun c => !decide (gi M 327 (13 + 4 * c + 2) = 2)) nc (8 - nc)
        rw [show nc + (8 - nc) = 8 by omega] at this
        rw [this]
      · refine key _ (fun n => ?_)
        unfold Md_count_h4
        rw [hm0, if_neg nlt, if_neg (by decide : ¬ (3 : Int32) = 0), if_neg (by decide : ¬ (3 : Int32) = 1), if_neg (by decide : ¬ (3 : Int32) = 2), if_pos rfl]
    · subst q
      refine ⟨nI nr, M, M, ?_, ?_, hR⟩
      · unfold j_Fc_count; rw [if_neg (by decide : ¬ (4 : Int32) = 0), if_neg (by decide : ¬ (4 : Int32) = 1), if_neg (by decide : ¬ (4 : Int32) = 2), if_neg (by decide : ¬ (4 : Int32) = 3), if_pos rfl, hc2]
      · refine key _ (fun n => ?_)
        unfold Md_count_h4
        rw [hm0, if_neg nlt, if_neg (by decide : ¬ (4 : Int32) = 0), if_neg (by decide : ¬ (4 : Int32) = 1), if_neg (by decide : ¬ (4 : Int32) = 2), if_neg (by decide : ¬ (4 : Int32) = 3), if_pos rfl, hm2]
    · subst q
      refine ⟨nI a, M, M, ?_, ?_, hR⟩
      · unfold j_Fc_count; rw [if_neg (by decide : ¬ (5 : Int32) = 0), if_neg (by decide : ¬ (5 : Int32) = 1), if_neg (by decide : ¬ (5 : Int32) = 2), if_neg (by decide : ¬ (5 : Int32) = 3), if_neg (by decide : ¬ (5 : Int32) = 4), if_pos rfl, hh.2.2.1]
      · refine key _ (fun n => ?_)
        unfold Md_count_h4
        rw [hm0, if_neg nlt, if_neg (by decide : ¬ (5 : Int32) = 0), if_neg (by decide : ¬ (5 : Int32) = 1), if_neg (by decide : ¬ (5 : Int32) = 2), if_neg (by decide : ¬ (5 : Int32) = 3), if_neg (by decide : ¬ (5 : Int32) = 4), if_pos rfl, hh.2.2.2.1]
    · subst q
      refine ⟨nI tn, M, M, ?_, ?_, hR⟩
      · unfold j_Fc_count; rw [if_neg (by decide : ¬ (6 : Int32) = 0), if_neg (by decide : ¬ (6 : Int32) = 1), if_neg (by decide : ¬ (6 : Int32) = 2), if_neg (by decide : ¬ (6 : Int32) = 3), if_neg (by decide : ¬ (6 : Int32) = 4), if_neg (by decide : ¬ (6 : Int32) = 5), if_pos rfl, tl.2.1]
      · refine key _ (fun n => ?_)
        unfold Md_count_h4
        rw [hm0, if_neg nlt, if_neg (by decide : ¬ (6 : Int32) = 0), if_neg (by decide : ¬ (6 : Int32) = 1), if_neg (by decide : ¬ (6 : Int32) = 2), if_neg (by decide : ¬ (6 : Int32) = 3), if_neg (by decide : ¬ (6 : Int32) = 4), if_neg (by decide : ¬ (6 : Int32) = 5), if_pos rfl, tl.2.2.1]
    · rw [q, t7] at hx; omega
  · have a : ∀ b : Nat, b < 7 → ¬ x = nI b := fun b hb q => by rw [q, nI_toInt (by omega)] at hx; omega
    refine ⟨-1000001, M, M, ?_, ?_, hR⟩
    · unfold j_Fc_count
      rw [if_neg (show ¬ x = (0 : Int32) from a 0 (by omega)), if_neg (show ¬ x = (1 : Int32) from a 1 (by omega)), if_neg (show ¬ x = (2 : Int32) from a 2 (by omega)), if_neg (show ¬ x = (3 : Int32) from a 3 (by omega)), if_neg (show ¬ x = (4 : Int32) from a 4 (by omega)), if_neg (show ¬ x = (5 : Int32) from a 5 (by omega)), if_neg (show ¬ x = (6 : Int32) from a 6 (by omega))]
    · refine key _ (fun n => ?_)
      unfold Md_count_h4
      rw [hm0, if_neg nlt, if_neg (show ¬ x = (0 : Int32) from a 0 (by omega)), if_neg (show ¬ x = (1 : Int32) from a 1 (by omega)), if_neg (show ¬ x = (2 : Int32) from a 2 (by omega)), if_neg (show ¬ x = (3 : Int32) from a 3 (by omega)), if_neg (show ¬ x = (4 : Int32) from a 4 (by omega)), if_neg (show ¬ x = (5 : Int32) from a 5 (by omega)), if_neg (show ¬ x = (6 : Int32) from a 6 (by omega))]
