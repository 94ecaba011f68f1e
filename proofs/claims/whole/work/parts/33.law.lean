theorem x03 (x : Int32) : (x.toInt < 0 ∨ 3 < x.toInt) ∨ ∃ k, k < 4 ∧ x = nI k := by
  rcases i32_cases x with h | ⟨j, h1, rfl⟩
  · exact Or.inl (Or.inl h)
  · by_cases h2 : j < 4
    · exact Or.inr ⟨j, h2, rfl⟩
    · left; right; rw [nI_toInt h1]; omega
def lawOk (k : Nat) (v : Int32) : Prop := (cLL k).toInt ≤ v.toInt ∧ v.toInt ≤ (cLM k).toInt
theorem law_c (y : Int32) (k : Nat) (hk : k < 4) {M : Mem} {nc : Nat} (h0 : gi M 3 0 = nI nc) (hn : nc < 2 ^ 31) (hp : nc ≠ 0) : (lawOk k y → j_Fc_law (nI k) y M = bd (j_Hist_keep 3 M) (fun _ M6 => some (gi M6 4 k, uI M6 4 k y))) ∧ (¬ lawOk k y → j_Fc_law (nI k) y M = some (-1000001, M)) := by
  have hn0 : ¬ nI nc = 0 := by rw [nI_eq0 hn]; exact hp
  have e4 : (4 : Int32) = nI 4 := rfl
  have c1 : ¬ nI k < 0 := nI_pos (by omega)
  have c2 : nI k < nI 4 := nI_lt hk (by omega)
  have hi := inb_nI hk (show 4 < 2 ^ 31 by omega)
  have hx := ix_nI (show k < 2 ^ 31 by omega)
  constructor
  · intro h
    have q1 : ¬ y < cLL k := by rw [i32_lt]; have := h.1; omega
    have q2 : ¬ cLM k < y := by rw [i32_lt]; have := h.2; omega
    simp only [j_Fc_law, hasNoBook_eq, h0, hn0, if_false, bd_some, z0, if_true, c1, e4, c2, gd_t hi, hx, q1, q2, lq_eq, sq_eq]
  · intro h
    by_cases q1 : y < cLL k
    · simp only [j_Fc_law, hasNoBook_eq, h0, hn0, if_false, bd_some, z0, if_true, c1, e4, c2, gd_t hi, hx, q1]
    · have q2 : cLM k < y := by
        rw [i32_lt] at q1 ⊢
        unfold lawOk at h
        omega
      simp only [j_Fc_law, hasNoBook_eq, h0, hn0, if_false, bd_some, z0, if_true, c1, e4, c2, gd_t hi, hx, q1, q2]
theorem law_m84 {x y v : Int32} {k : Nat} (hk : k < 4) (hx : x = nI k) {M : Mem} : (v = 0 → Md_law_b84 x y v M = some (-1000001, M)) ∧ (v = 1 → Md_law_b84 x y v M = bd (j_Md_notes M) (fun _ M4 => some (gi M4 327 k, uI M4 327 k y))) := by
  have hi := inb_nI (show k < 89 by omega) (show 89 < 2 ^ 31 by omega)
  have hix := ix_nI (show k < 2 ^ 31 by omega)
  subst hx
  constructor
  · intro h; subst h; simp only [Md_law_b84, z0, if_true]
  · intro h; subst h; simp only [Md_law_b84, z1, if_false, gd_t hi, hix, lq_eq, sq_eq]
theorem law_m (y : Int32) (k : Nat) (hk : k < 4) {M : Mem} {nc : Nat} (h0 : gi M 327 4 = nI nc) (hn : nc < 2 ^ 31) (hp : nc ≠ 0) : (lawOk k y → j_Md_law (nI k) y M = bd (j_Md_notes M) (fun _ M4 => some (gi M4 327 k, uI M4 327 k y))) ∧ (¬ lawOk k y → j_Md_law (nI k) y M = some (-1000001, M)) := by
  have hyes : Md_law_b79 (nI k) y M = bd (j_Md_notes M) (fun _ M4 => some (gi M4 327 k, uI M4 327 k y)) := (law_m84 hk rfl).2 rfl
  have hno : Md_law_b83 (nI k) y M = some (-1000001, M) := (law_m84 hk rfl).1 rfl
  have i0 : j_Md_in (Int32.toInt64 y) 0 9 M = some (if 0 ≤ y.toInt ∧ y.toInt ≤ 9 then 1 else 0, M) := md_in y 0 9 rfl rfl rfl
  have i1 : j_Md_in (Int32.toInt64 y) 1 40 M = some (if 1 ≤ y.toInt ∧ y.toInt ≤ 40 then 1 else 0, M) := md_in y 1 40 rfl rfl rfl
  have i2 : j_Md_in (Int32.toInt64 y) 10 99 M = some (if 10 ≤ y.toInt ∧ y.toInt ≤ 99 then 1 else 0, M) := md_in y 10 99 rfl rfl rfl
  have i3' : j_Md_in (Int32.toInt64 y) 0 20 M = some (if 0 ≤ y.toInt ∧ y.toInt ≤ 20 then 1 else 0, M) := md_in y 0 20 rfl rfl rfl
  have e : ∀ a b : Nat, a < 4 → b < 4 → a ≠ b → ¬ nI a = nI b := fun a b ha hb hab => by rw [nI_eq (by omega) (by omega)]; exact hab
  have n0 : (0 : Int32) = nI 0 := rfl
  have n1 : (1 : Int32) = nI 1 := rfl
  have n2 : (2 : Int32) = nI 2 := rfl
  have n3 : (3 : Int32) = nI 3 := rfl
  have tail0 : k ≠ 3 → Md_law_b62 (nI k) y M = some (-1000001, M) := fun h => by
    simp only [Md_law_b62, n3, e k 3 hk (by omega) h, if_false]; exact hno
  have tail1 : k ≠ 2 → Md_law_b43 (nI k) y M = Md_law_b62 (nI k) y M := fun h => by
    simp only [Md_law_b43, n2, e k 2 hk (by omega) h, if_false]
  have tail2 : k ≠ 1 → Md_law_b26 (nI k) y M = Md_law_b43 (nI k) y M := fun h => by
    simp only [Md_law_b26, n1, e k 1 hk (by omega) h, if_false]
  have start : k ≠ 0 → j_Md_law (nI k) y M = Md_law_b26 (nI k) y M := fun h => by
    have : ¬ nI k = 0 := e k 0 hk (by omega) h
    simp only [j_Md_law, isBook_eq h0 hn, hp, if_false, bd_some, z1, this]
  have hk4 : k = 0 ∨ k = 1 ∨ k = 2 ∨ k = 3 := by omega
  rcases hk4 with q | q | q | q <;> subst q
  · have hl : lawOk 0 y ↔ (0 ≤ y.toInt ∧ y.toInt ≤ 9) := Iff.rfl
    rw [hl]
    have s0 : j_Md_law (nI 0) y M = if (0 ≤ y.toInt ∧ y.toInt ≤ 9) then Md_law_b79 (nI 0) y M else Md_law_b26 (nI 0) y M := by
      simp only [j_Md_law, isBook_eq h0 hn, hp, if_false, bd_some, z1, show (nI 0 = (0 : Int32)) = True from by simp [n0], if_true, i0]
      by_cases hc : 0 ≤ y.toInt ∧ y.toInt ≤ 9
      · simp only [hc, and_self, if_true, z1, if_false]
      · simp only [hc, if_false, z0, if_true]
    constructor
    · intro h; rw [s0, if_pos h, hyes]
    · intro h; rw [s0, if_neg h, tail2 (by omega), tail1 (by omega), tail0 (by omega)]
  · have hl : lawOk 1 y ↔ (1 ≤ y.toInt ∧ y.toInt ≤ 40) := Iff.rfl
    rw [hl, start (by omega)]
    constructor
    · intro h; simp only [Md_law_b26, n1, if_true, i1, h, and_self, bd_some]; exact hyes
    · intro h
      have : Md_law_b26 (nI 1) y M = Md_law_b43 (nI 1) y M := by simp only [Md_law_b26, n1, if_true, i1, h, if_false, bd_some, z0]
      rw [this, tail1 (by omega), tail0 (by omega)]
  · have hl : lawOk 2 y ↔ (10 ≤ y.toInt ∧ y.toInt ≤ 99) := Iff.rfl
    rw [hl, start (by omega), tail2 (by omega)]
    constructor
    · intro h; simp only [Md_law_b43, n2, if_true, i2, h, and_self, bd_some, z1, if_false]; exact hyes
    · intro h
      have : Md_law_b43 (nI 2) y M = Md_law_b62 (nI 2) y M := by simp only [Md_law_b43, n2, if_true, i2, h, if_false, bd_some, z0]
      rw [this, tail0 (by omega)]
  · have hl : lawOk 3 y ↔ (0 ≤ y.toInt ∧ y.toInt ≤ 20) := Iff.rfl
    rw [hl, start (by omega), tail2 (by omega), tail1 (by omega)]
    constructor
    · intro h; simp only [Md_law_b62, n3, if_true, i3', h, and_self, bd_some, z1, if_false]; exact hyes
    · intro h; simp only [Md_law_b62, n3, if_true, i3', h, if_false, bd_some, z0]; exact hno
theorem s_law (x y : Int32) : Sim (j_Fc_law x y) (j_Md_law x y) := by
  intro M h
  have hR := h
  obtain ⟨nc, nt, nr, d1, d2⟩ := h.1
  have hc0 : gi M 3 0 = nI nc := d1.1.1
  have hm0 : gi M 327 4 = nI nc := d2.2.1.1
  have n6 : nc ≤ 6 := d2.1.1
  by_cases h0 : nc = 0
  · subst h0
    have e0 : nI 0 = (0 : Int32) := rfl
    refine ⟨-1000002, M, M, ?_, ?_, hR⟩
    · simp only [j_Fc_law, hasNoBook_eq, hc0, e0, if_true, bd_some, z1, if_false]
    · simp only [j_Md_law, isBook_eq hm0 (by omega), if_true, bd_some, z0]
  · have hn0 : ¬ nI nc = 0 := by rw [nI_eq0 (by omega)]; exact h0
    rcases x03 x with hx | ⟨k, hk, rfl⟩
    · have t4 : (4 : Int32).toInt = 4 := by decide
      have t3 : (3 : Int32).toInt = 3 := by decide
      refine ⟨-1000001, M, M, ?_, ?_, hR⟩
      · simp only [j_Fc_law, hasNoBook_eq, hc0, hn0, if_false, bd_some, z0, if_true, i32_lt, t0, t4]
        by_cases c : x.toInt < 0
        · rw [if_pos c]
        · rw [if_neg c, if_neg (by omega)]
      · have a0 : ¬ x = 0 := by rw [i32_eq, t0]; omega
        have a1 : ¬ x = 1 := by rw [i32_eq, t1]; omega
        have a2 : ¬ x = 2 := by rw [i32_eq, t2]; omega
        have a3 : ¬ x = 3 := by rw [i32_eq, t3]; omega
        simp only [j_Md_law, isBook_eq hm0 (by omega), h0, if_false, bd_some, z1, a0, Md_law_b26, a1, Md_law_b43, a2, Md_law_b62, a3, Md_law_b83, Md_law_b84, z0, if_true]
    · by_cases hok : lawOk k y
      · obtain ⟨Mk, k1, k2⟩ := keep_day hR
        obtain ⟨Mn, m1, m2⟩ := notes_row (M1 := uI Mk 4 k y) hR (by rw [gi_uIa _ _ _ _ _ _ (by omega)]; exact k2 326 3 (by omega))
        have r0' : ∀ i, gi (uI Mk 4 k y) 327 i = gi M 327 i := fun i => by rw [gi_uIa _ _ _ _ _ _ (by omega), k2 327 i (by omega)]
        have r0 : ∀ i, gi Mn 327 i = gi M 327 i := fun i => by rw [m2 327 i (by omega) (by omega), r0']
        refine ⟨gi M 327 k, uI Mk 4 k y, uI Mn 327 k y, ?_, ?_, ?_⟩
        · rw [(law_c y k hk hc0 (by omega) h0).1 hok, k1, bd_some, k2 4 k (by omega)]
          have := d1.2.2.2.1 k hk
          rw [row_at] at this
          rw [this]
        · rw [(law_m y k hk ((r0' 4).trans hm0) (by omega) h0).1 hok, m1, bd_some, r0]
        · refine act_rel hR ⟨Mk, k1, fun a i ha => by rw [gi_uIa _ _ _ _ _ _ (by omega)]⟩ (dr_law hk d2.1 (dr_keep d2.1 (fun b i h1 h2 => k2 b i (by omega)) d1)) ⟨Mn, m1, fun a i ha => by rw [gi_uIa _ _ _ _ _ _ (by omega)]⟩ (fun i _ => row_u (row_0 r0) i) (iv_law hk (fun q => ?_) (fun q => ?_) d2)
          · subst q; exact hok
          · subst q
            have e1 : (cLL 1).toInt = 1 := by decide
            have e2 : (cLM 1).toInt = 40 := by decide
            unfold lawOk at hok; omega
      · exact ⟨-1000001, M, M, (law_c y k hk hc0 (by omega) h0).2 hok, (law_m y k hk hm0 (by omega) h0).2 hok, hR⟩
