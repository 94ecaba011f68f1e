/-- the row's own words for what both sides count -/
theorem s_take (x y : Int32) : Sim (j_Fc_take x y) (j_Md_take x y) := by
  intro M h
  have hR := h
  obtain ⟨nc, nt, nr, d1, d2⟩ := h.1
  have hc0 : gi M 3 0 = nI nc := d1.1.1
  have hm0 : gi M 327 4 = nI nc := d2.2.1.1
  have hc1 : gi M 3 1 = nI nt := d1.1.2.1
  have hm1 : gi M 327 5 = nI nt := d2.2.1.2.1
  have n6 : nc ≤ 6 := d2.1.1
  have n8 : nt ≤ 8 := d2.1.2.1
  rcases there_or (n := nt) x (by omega) with hx | ⟨t, ht, rfl⟩
  · refine ⟨-1000001, M, M, ?_, ?_, hR⟩
    · simp only [j_Fc_take, hasTake_no hc1 (by omega) hx, bd_some, z0, if_true]
    · simp only [j_Md_take, isTake_no hm1 (by omega) hx, bd_some, z0, if_true]
  · have hT := d1.2.2.2.2.2.1 t ht
    have hI := d2.2.2.2.2.2.1 t ht
    simp only [row_at] at hT hI
    have hin := inb_nI (show t < 8 by omega) (show 8 < 2 ^ 31 by omega)
    have hix := ix_nI (show t < 2 ^ 31 by omega)
    have hy1 := hasTake_yes (M := M) hc1 (by omega) ht
    have hy2 := isTake_yes (M := M) hm1 (by omega) ht
    by_cases hy : 0 ≤ y.toInt ∧ y.toInt < 4
    · have q4 : y = 0 ∨ y = 1 ∨ y = 2 ∨ y = 3 := by
        have t4 : (4 : Int32).toInt = 4 := by decide
        have t5 : (5 : Int32).toInt = 5 := by decide
        have t6 : (6 : Int32).toInt = 6 := by decide
        have t7 : (7 : Int32).toInt = 7 := by decide
        rcases x07 (y := y) (by omega) with q | q | q | q | q | q | q | q
        · exact Or.inl q
        · exact Or.inr (Or.inl q)
        · exact Or.inr (Or.inr (Or.inl q))
        · exact Or.inr (Or.inr (Or.inr q))
        · rw [q, t4] at hy; omega
        · rw [q, t5] at hy; omega
        · rw [q, t6] at hy; omega
        · rw [q, t7] at hy; omega
      rcases q4 with q | q | q | q <;> subst q
      · refine ⟨gi M 327 (41 + 3 * t), M, M, ?_, ?_, hR⟩
        · unfold j_Fc_take
          rw [hy1, bd_some, if_neg i10, if_pos rfl, gd_t hin, hix, hT.1]
        · unfold j_Md_take
          rw [hy2, bd_some, if_neg i10, if_pos rfl, i3, nI_p0, gd_t (inb_nI (by omega) (by omega)), ix_nI (by omega)]
      · refine ⟨gi M 327 (41 + 3 * t + 1), M, M, ?_, ?_, hR⟩
        · unfold j_Fc_take
          rw [hy1, bd_some, if_neg i10, if_neg (by decide : ¬ (1 : Int32) = 0), if_pos rfl, gd_t hin, hix, hT.2.1]
        · unfold j_Md_take
          rw [hy2, bd_some, if_neg i10, if_neg (by decide : ¬ (1 : Int32) = 0), if_pos rfl, i3, nI_1, gd_t (inb_nI (by omega) (by omega)), ix_nI (by omega)]
      · refine ⟨gi M 11 t, M, M, ?_, ?_, hR⟩
        · unfold j_Fc_take
          rw [hy1, bd_some, if_neg i10, if_neg (by decide : ¬ (2 : Int32) = 0), if_neg (by decide : ¬ (2 : Int32) = 1), if_pos rfl, gd_t hin, hix]
        · unfold j_Md_take
          rw [hy2, bd_some, if_neg i10, if_neg (by decide : ¬ (2 : Int32) = 0), if_neg (by decide : ¬ (2 : Int32) = 1), if_pos rfl, md_isOpen (by omega), bd_some]
          rcases hT.2.2 with ⟨g1, g2⟩ | ⟨g1, g2⟩
          · have : (gi M 327 (41 + 3 * t + 2)).toInt < 0 := by rw [g2]; decide
            rw [if_pos this, if_neg i10]
            rw [show gi M 11 t = _ from g1]
          · have : ¬ (gi M 327 (41 + 3 * t + 2)).toInt < 0 := by omega
            rw [if_neg this, if_pos rfl, i3, nI_p2, gd_t (inb_nI (by omega) (by omega)), ix_nI (by omega)]
            rw [show gi M 11 t = _ from g1]
      · have hK : ∀ c, c < nc → gi M 5 c = gi M 327 (13 + 4 * c) := fun c hc => by
          have := (d1.2.2.2.2.1 c hc).1
          rw [row_at] at this
          exact this
        have hKI : ∀ c, c < nc → 1 ≤ (gi M 327 (13 + 4 * c)).toInt ∧ (gi M 327 (13 + 4 * c)).toInt ≤ 5 := fun c hc => by
          have := (d2.2.2.2.2.1 c hc).1
          rw [row_at] at this
          exact this
        have hT0 : gi M 9 t = gi M 327 (41 + 3 * t) := hT.1
        refine ⟨nI (setN (fun c => isOfV (gi M 327 (13 + 4 * c)) (gi M 327 (41 + 3 * t))) nc), M, M, ?_, ?_, hR⟩
        · unfold j_Fc_take j_Day_cansThatServe
          rw [hy1, bd_some, if_neg i10, if_neg (by decide : ¬ (3 : Int32) = 0), if_neg (by decide : ¬ (3 : Int32) = 1), if_neg (by decide : ¬ (3 : Int32) = 2), if_pos rfl, lq_eq, lq_eq]
          have hs := serve_c (M := M) n6 (show t < 8 by omega) hc0 (fun c hc => by rw [hK c hc]; exact hKI c hc) (by rw [hT0]; exact hI.1) nc 0 FU (by omega) (by unfold FU; omega)
          rw [setN_cong nc (q := fun c => isOfV (gi M 327 (13 + 4 * c)) (gi M 327 (41 + 3 * t))) (fun c hc => by rw [hK c hc, hT0])] at hs
          exact congrArg (fun o => bd o (fun r6 M7 => some (r6, M7))) hs
        · unfold j_Md_take j_Md_serving
          rw [hy2, bd_some, if_neg i10, if_neg (by decide : ¬ (3 : Int32) = 0), if_neg (by decide : ¬ (3 : Int32) = 1), if_neg (by decide : ¬ (3 : Int32) = 2), if_pos rfl, lq_eq, lq_eq]
          have hs := serve_m (M := M) n6 (show t < 8 by omega) hm0 hKI hI.1 nc 0 FU (by omega) (by unfold FU; omega)
          exact congrArg (fun o => bd o (fun r6 M7 => some (r6, M7))) hs
    · have a : ∀ b : Nat, b < 4 → ¬ y = nI b := fun b hb q => by rw [q, nI_toInt (by omega)] at hy; omega
      refine ⟨-1000001, M, M, ?_, ?_, hR⟩
      · unfold j_Fc_take
        rw [hy1, bd_some, if_neg i10, if_neg (show ¬ y = (0 : Int32) from a 0 (by omega)), if_neg (show ¬ y = (1 : Int32) from a 1 (by omega)), if_neg (show ¬ y = (2 : Int32) from a 2 (by omega)), if_neg (show ¬ y = (3 : Int32) from a 3 (by omega))]
      · unfold j_Md_take
        rw [hy2, bd_some, if_neg i10, if_neg (show ¬ y = (0 : Int32) from a 0 (by omega)), if_neg (show ¬ y = (1 : Int32) from a 1 (by omega)), if_neg (show ¬ y = (2 : Int32) from a 2 (by omega)), if_neg (show ¬ y = (3 : Int32) from a 3 (by omega))]
/-- sums of ints -/
def sumN (f : Nat → Int32) : Nat → Int32
  | 0 => 0
  | n + 1 => sumN f n + f n
theorem sumN_cong {f g : Nat → Int32} : ∀ n, (∀ i, i < n → f i = g i) → sumN f n = sumN g n
  | 0, _ => rfl
  | n + 1, h => by simp only [sumN]; rw [sumN_cong n (fun i hi => h i (by omega)), h n (by omega)]
theorem wait_c {d nr : Nat} {M : Mem} (hn : nr ≤ 8) (h0 : gi M d 2 = nI nr) : ∀ m k n, k + m = nr → m < n → Day_feetThatWait_h4 n d (sumN (fun i => gi M (d + 10) i) k) (nI k) M = some (sumN (fun i => gi M (d + 10) i) nr, M) := by
  intro m
  induction m with
  | zero =>
    intro k n hk hm
    obtain ⟨n, rfl⟩ : ∃ q, n = q + 1 := ⟨n - 1, by omega⟩
    have hge : ¬ nI k < nI nr := nI_nlt (by omega) (by omega)
    simp only [Day_feetThatWait_h4, h0, hge, if_false]
    rw [show k = nr by omega]
  | succ m ih =>
    intro k n hkm hm
    obtain ⟨n, rfl⟩ : ∃ q, n = q + 1 := ⟨n - 1, by omega⟩
    have hlt : nI k < nI nr := nI_lt (by omega) (by omega)
    simp only [Day_feetThatWait_h4, h0, hlt, if_true, gd_t (inb_nI (show k < 8 by omega) (by omega)), ix_nI (show k < 2 ^ 31 by omega), lq_eq, nI_1]
    exact ih (k + 1) n (by omega) (by omega)
theorem waits_c {d nr : Nat} {M : Mem} (hn : nr ≤ 8) (h0 : gi M d 2 = nI nr) : j_Day_feetThatWait d M = some (sumN (fun i => gi M (d + 10) i) nr, M) := by
  simp only [j_Day_feetThatWait, lq_eq]
  exact wait_c hn h0 nr 0 FU (by omega) (by unfold FU; omega)
theorem wait_m {nr : Nat} {M : Mem} (hn : nr ≤ 8) (h0 : gi M 327 6 = nI nr) : ∀ m k n, k + m = nr → m < n → Md_waiting_h4 n (sumN (fun i => gi M 327 (65 + 3 * i + 1)) k) (nI k) M = some (sumN (fun i => gi M 327 (65 + 3 * i + 1)) nr, M) := by
  intro m
  induction m with
  | zero =>
    intro k n hk hm
    obtain ⟨n, rfl⟩ : ∃ q, n = q + 1 := ⟨n - 1, by omega⟩
    have hge : ¬ nI k < nI nr := nI_nlt (by omega) (by omega)
    simp only [Md_waiting_h4, h0, hge, if_false]
    rw [show k = nr by omega]
  | succ m ih =>
    intro k n hkm hm
    obtain ⟨n, rfl⟩ : ∃ q, n = q + 1 := ⟨n - 1, by omega⟩
    have hlt : nI k < nI nr := nI_lt (by omega) (by omega)
    simp only [Md_waiting_h4, h0, hlt, if_true, i65, nI_1, gd_t (inb_nI (show 65 + 3 * k + 1 < 89 by omega) (by omega)), ix_nI (show 65 + 3 * k + 1 < 2 ^ 31 by omega), lq_eq]
    exact ih (k + 1) n (by omega) (by omega)
theorem waits_m {nr : Nat} {M : Mem} (hn : nr ≤ 8) (h0 : gi M 327 6 = nI nr) : j_Md_waiting M = some (sumN (fun i => gi M 327 (65 + 3 * i + 1)) nr, M) := by
  simp only [j_Md_waiting, lq_eq]
  exact wait_m hn h0 nr 0 FU (by omega) (by unfold FU; omega)
theorem shelf_c {nc : Nat} {M : Mem} (hn : nc ≤ 6) (h0 : gi M 3 0 = nI nc) : ∀ m k n, k + m = nc → m < n → Day_feetOnShelf_h4 n 3 (sumN (fun c => if gi M 7 c = 0 then gi M 6 c else 0) k) (nI k) M = some (sumN (fun c => if gi M 7 c = 0 then gi M 6 c else 0) nc, M) := by
  intro m
  induction m with
  | zero =>
    intro k n hk hm
    obtain ⟨n, rfl⟩ : ∃ q, n = q + 1 := ⟨n - 1, by omega⟩
    have hge : ¬ nI k < nI nc := nI_nlt (by omega) (by omega)
    simp only [Day_feetOnShelf_h4, h0, hge, if_false]
    rw [show k = nc by omega]
  | succ m ih =>
    intro k n hkm hm
    obtain ⟨n, rfl⟩ : ∃ q, n = q + 1 := ⟨n - 1, by omega⟩
    have hlt : nI k < nI nc := nI_lt (by omega) (by omega)
    have ihk := ih (k + 1) n (by omega) (by omega)
    by_cases hp : gi M 7 k = 0
    · simp only [Day_feetOnShelf_h4, Day_feetOnShelf_b30, h0, hlt, if_true, gd_t (inb_nI (show k < 6 by omega) (by omega)), ix_nI (show k < 2 ^ 31 by omega), hp, lq_eq, nI_1]
      have e : sumN (fun c => if gi M 7 c = 0 then gi M 6 c else 0) k + gi M 6 k = sumN (fun c => if gi M 7 c = 0 then gi M 6 c else 0) (k + 1) := by simp only [sumN, hp, if_true]
      show Day_feetOnShelf_h4 n 3 (_ + gi M 6 k) _ M = _
      rw [e]; exact ihk
    · simp only [Day_feetOnShelf_h4, Day_feetOnShelf_b30, h0, hlt, if_true, gd_t (inb_nI (show k < 6 by omega) (by omega)), ix_nI (show k < 2 ^ 31 by omega), hp, if_false, lq_eq, nI_1]
      have e : sumN (fun c => if gi M 7 c = 0 then gi M 6 c else 0) k = sumN (fun c => if gi M 7 c = 0 then gi M 6 c else 0) (k + 1) := by simp only [sumN, hp, if_false, Int32.add_zero]
      rw [e]; exact ihk
theorem shelf_m {nc : Nat} {M : Mem} (hn : nc ≤ 6) (h0 : gi M 327 4 = nI nc) : ∀ m k n, k + m = nc → m < n → Md_onShelf_h4 n (sumN (fun c => if gi M 327 (13 + 4 * c + 2) = 0 then gi M 327 (13 + 4 * c + 1) else 0) k) (nI k) M = some (sumN (fun c => if gi M 327 (13 + 4 * c + 2) = 0 then gi M 327 (13 + 4 * c + 1) else 0) nc, M) := by
  intro m
  induction m with
  | zero =>
    intro k n hk hm
    obtain ⟨n, rfl⟩ : ∃ q, n = q + 1 := ⟨n - 1, by omega⟩
    have hge : ¬ nI k < nI nc := nI_nlt (by omega) (by omega)
    simp only [Md_onShelf_h4, h0, hge, if_false]
    rw [show k = nc by omega]
  | succ m ih =>
    intro k n hkm hm
    obtain ⟨n, rfl⟩ : ∃ q, n = q + 1 := ⟨n - 1, by omega⟩
    have hlt : nI k < nI nc := nI_lt (by omega) (by omega)
    have ihk := ih (k + 1) n (by omega) (by omega)
    by_cases hp : gi M 327 (13 + 4 * k + 2) = 0
    · simp only [Md_onShelf_h4, Md_onShelf_b38, h0, hlt, if_true, md_where (show k < 7 by omega), md_feet (show k < 7 by omega), bd_some, hp, lq_eq, nI_1]
      have e : sumN (fun c => if gi M 327 (13 + 4 * c + 2) = 0 then gi M 327 (13 + 4 * c + 1) else 0) k + gi M 327 (13 + 4 * k + 1) = sumN (fun c => if gi M 327 (13 + 4 * c + 2) = 0 then gi M 327 (13 + 4 * c + 1) else 0) (k + 1) := by simp only [sumN, hp, if_true]
      rw [e]; exact ihk
    · simp only [Md_onShelf_h4, Md_onShelf_b38, h0, hlt, if_true, md_where (show k < 7 by omega), bd_some, hp, if_false, lq_eq, nI_1]
      have e : sumN (fun c => if gi M 327 (13 + 4 * c + 2) = 0 then gi M 327 (13 + 4 * c + 1) else 0) k + 0 = sumN (fun c => if gi M 327 (13 + 4 * c + 2) = 0 then gi M 327 (13 + 4 * c + 1) else 0) (k + 1) := by simp only [sumN, hp, if_false]
      rw [e]; exact ihk
