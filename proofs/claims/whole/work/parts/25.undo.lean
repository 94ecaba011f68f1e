theorem TR.same {M M' : Mem} (h1 : ∀ i, gi M' 1 i = gi M 1 i) (h2 : ∀ i, gi M' 2 i = gi M 2 i) (h3 : gi M' 326 7 = gi M 326 7) (h4 : gi M' 326 14 = gi M 326 14) (h5 : ∀ i, gi M' 332 i = gi M 332 i) (h : TR M) : TR M' := by
  obtain ⟨⟨n, a1, a2, a3, a4⟩, a5⟩ := h
  exact ⟨⟨n, a1, by rw [h1]; exact a2, by rw [h3]; exact a3, fun i hi => by rw [h2, h5]; exact a4 i hi⟩, by rw [h1, h4]; exact a5⟩
theorem GR.same {M M' : Mem} (h1 : ∀ a i, 270 ≤ a → a < 294 → gi M' a i = gi M a i) (h2 : ∀ i, gi M' 330 i = gi M 330 i) (h3 : ∀ i, gi M' 331 i = gi M 331 i) (h : GR M) : GR M' := by
  intro k hk
  rcases h k hk with ⟨q1, q2⟩ | ⟨q1, q2⟩
  · exact Or.inl ⟨by rw [h3]; exact q1, by rw [h1 _ _ (by omega) (by omega)]; exact q2⟩
  · exact Or.inr ⟨by rw [h3]; exact q1, q2.cong (fun j hj i => h1 _ i (by omega) (by omega)) (fun i _ => h2 _)⟩
theorem HR.same {M M' : Mem} (h1 : ∀ a i, 27 ≤ a → a < 269 → gi M' a i = gi M a i) (h2 : ∀ i, gi M' 329 i = gi M 329 i) (h3 : gi M' 326 3 = gi M 326 3) (h : HR M) : HR M' := by
  obtain ⟨a, q, p1, p2, p3, p4, p5, p6⟩ := h
  refine ⟨a, q, p1, p2, by rw [h1 27 2 (by omega) (by omega)]; exact p3, by rw [h3]; exact p4, by rw [h1 27 1 (by omega) (by omega)]; exact p5, fun j hj => ?_⟩
  have := Nat.mod_lt (q + 20 - a + j) (show 0 < 20 by omega)
  exact (p6 j hj).cong (fun j hj i => h1 _ i (by omega) (by omega)) (fun i _ => h2 _)
theorem ln327 : ln 327 = 89 := by decide +kernel
theorem ln328 : ln 328 = 89 := by decide +kernel
theorem ln329 : ln 329 = 1780 := by decide +kernel
theorem ln330 : ln 330 = 178 := by decide +kernel
theorem nI_pred1 {a : Nat} (h : 0 < a) : (nI a - 1 : Int32) = nI (a - 1) := by
  obtain ⟨b, rfl⟩ : ∃ b, a = b + 1 := ⟨a - 1, by omega⟩
  rw [nI_pred]; rfl
theorem nI_eq0 {a : Nat} (h : a < 2 ^ 31) : nI a = 0 ↔ a = 0 := by
  have e : (0 : Int32) = nI 0 := rfl
  rw [e, nI_eq h (by omega)]
theorem s_undo : Sim j_Fc_undo j_Md_undo := by
  intro M h
  obtain ⟨hB, hT, ⟨a, q, p1, p2, p3, p4, p5, p6⟩, hG⟩ := h
  by_cases h0 : a = 0
  · subst h0
    have e0 : nI 0 = (0 : Int32) := rfl
    refine ⟨-1000002, M, M, ?_, ?_, ⟨hB, hT, ⟨0, q, p1, p2, p3, p4, p5, p6⟩, hG⟩⟩
    · simp only [j_Fc_undo, j_Hist_stepBack, p3, e0, if_true, bd_some]
    · simp only [j_Md_undo, p4, e0, if_true]
  · have hp : 0 < a := by omega
    have hne : ¬ nI a = 0 := by rw [nI_eq0 (by omega)]; exact h0
    obtain ⟨v, q', hv, hq', hstep⟩ : ∃ (v : Int32) (q' : Nat), v = nI q' ∧ (q' < 20 ∧ q' = (q + 19) % 20) ∧ j_Hist_stepBack 3 M = Hist_stepBack_b28 3 v M := by
      by_cases hq : 0 < q
      · refine ⟨nI q - 1, q - 1, nI_pred1 hq, ⟨by omega, by omega⟩, ?_⟩
        simp only [j_Hist_stepBack, p3, hne, if_false, p5]
        rw [if_pos (by have e : (0 : Int32) = nI 0 := rfl; rw [e, nI_ltI (by omega) (by omega)]; exact hq)]
      · refine ⟨19, 19, rfl, ⟨by omega, by omega⟩, ?_⟩
        simp only [j_Hist_stepBack, p3, hne, if_false, p5]
        rw [if_neg (by have e : (0 : Int32) = nI 0 := rfl; rw [e, nI_ltI (by omega) (by omega)]; exact hq)]
    obtain ⟨Mc, c1, c2, c3, c4⟩ := copyFrom_ok day_3 (ring_D q' hq'.1) (by omega) (uI (uI M 27 1 (nI q')) 27 2 (nI (a - 1)))
    have hcls : j_Fc_undo M = some (nI (a - 1), Mc) := by
      have g1 : gi (uI M 27 1 (nI q')) 27 2 = nI a := by rw [gi_uIi _ _ _ _ _ _ (by omega)]; exact p3
      have g2 : gi (uI (uI M 27 1 (nI q')) 27 2 (nI (a - 1))) 27 1 = nI q' := by rw [gi_uIi _ _ _ _ _ _ (by omega), gi_uIs]
      have g3 : gi Mc 27 2 = nI (a - 1) := by rw [c2 27 2 (by omega), gi_uIs]
      simp only [j_Fc_undo, hstep, Hist_stepBack_b28, hv, sq_eq, g1, nI_pred1 hp, g2, gd_t (inb_nI hq'.1 (by omega)), ix_nI (show q' < 2 ^ 31 by omega), c1, bd_some, g3]
      rfl
    have gm : ∀ b i, 326 ≤ b → gi Mc b i = gi M b i := fun b i hb => by rw [c2 b i (by omega), gi_uIa _ _ _ _ _ _ (by omega), gi_uIa _ _ _ _ _ _ (by omega)]
    have gc : ∀ b i, (b < 3 ∨ 14 < b) → b ≠ 27 → gi Mc b i = gi M b i := fun b i hb hb2 => by rw [c2 b i (by omega), gi_uIa _ _ _ _ _ _ hb2, gi_uIa _ _ _ _ _ _ hb2]
    refine ⟨nI (a - 1), Mc, cpyM (uI Mc 326 3 (nI (a - 1))) 329 (89 * (a - 1)) 327 0 89, hcls, ?_, ?_⟩
    · have g4 : gi Mc 326 3 = nI a := by rw [gm 326 3 (by omega)]; exact p4
      have hc := copies_ok (a0 := 329) (p := 89 * (a - 1)) (a2 := 327) (q := 0) (uI Mc 326 3 (nI (a - 1))) (by decide) (by rw [ln329]; omega) (by rw [ln327]; omega) (by rw [ln329]; omega) (by rw [ln327]; omega)
      have e0 : nI 0 = (0 : Int32) := rfl
      rw [e0] at hc
      simp only [j_Md_undo, g4, hne, if_false, sq_eq, nI_pred1 hp, gi_uIs, nI_mul89, hc, bd_some]
      rw [gi_cpyM, if_neg (by omega), gi_uIs]
    · have g5 : ∀ b i, b ≠ 327 → (b ≠ 326 ∨ i ≠ 3) → gi (cpyM (uI Mc 326 3 (nI (a - 1))) 329 (89 * (a - 1)) 327 0 89) b i = gi Mc b i := fun b i h1 h2 => by
        rw [gi_cpyM, if_neg (by omega), gi_uI, if_neg (by omega)]
      have g6 : ∀ i, i < 89 → gi (cpyM (uI Mc 326 3 (nI (a - 1))) 329 (89 * (a - 1)) 327 0 89) 327 i = gi M 329 (89 * (a - 1) + i) := fun i hi => by
        rw [gi_cpyM, if_pos (by omega), gi_uIa _ _ _ _ _ _ (by omega), gm 329 _ (by omega)]; rfl
      have hslot : (q + 20 - a + (a - 1)) % 20 = q' := by omega
      refine ⟨?_, hT.same (fun i => ?_) (fun i => ?_) ?_ ?_ (fun i => ?_), ?_, hG.same (fun b i h1 h2 => ?_) (fun i => ?_) (fun i => ?_)⟩
      · obtain ⟨nc, nt, nr, d1, d2⟩ := p6 (a - 1) (by omega)
        rw [hslot] at d1
        refine ⟨nc, nt, nr, d1.cong d2.1 (fun i hi => ?_) (fun j hj1 hj2 i hi => ?_) (fun i hi => ?_), d2.cong (fun i hi => ?_)⟩
        · rw [g5 3 i (by omega) (by omega), c3 i hi, gi_uIa _ _ _ _ _ _ (by omega), gi_uIa _ _ _ _ _ _ (by omega)]
        · rw [g5 _ i (by omega) (by omega), c4 j hj1 hj2 i hi, gi_uIa _ _ _ _ _ _ (by omega), gi_uIa _ _ _ _ _ _ (by omega)]
        · show gi _ 327 (0 + i) = gi M 329 _
          rw [Nat.zero_add]; exact g6 i hi
        · show gi _ 327 (0 + i) = gi M 329 _
          rw [Nat.zero_add]; exact g6 i hi
      · rw [g5 _ i (by omega) (by omega), gc _ i (by omega) (by omega)]
      · rw [g5 _ i (by omega) (by omega), gc _ i (by omega) (by omega)]
      · rw [g5 _ _ (by omega) (by omega), gc _ _ (by omega) (by omega)]
      · rw [g5 _ _ (by omega) (by omega), gc _ _ (by omega) (by omega)]
      · rw [g5 _ i (by omega) (by omega), gc _ i (by omega) (by omega)]
      · refine ⟨a - 1, q', by omega, hq'.1, ?_, ?_, ?_, fun j hj => ?_⟩
        · rw [g5 _ _ (by omega) (by omega), c2 27 2 (by omega), gi_uIs]
        · rw [gi_cpyM, if_neg (by omega), gi_uIs]
        · rw [g5 _ _ (by omega) (by omega), c2 27 1 (by omega), gi_uIi _ _ _ _ _ _ (by omega), gi_uIs]
        · have hs2 : (q' + 20 - (a - 1) + j) % 20 = (q + 20 - a + j) % 20 := by omega
          have := Nat.mod_lt (q + 20 - a + j) (show 0 < 20 by omega)
          rw [hs2]
          exact (p6 j (by omega)).cong (fun j hj i => by rw [g5 _ i (by omega) (by omega), gc _ i (by omega) (by omega)]) (fun i _ => by rw [g5 _ _ (by omega) (by omega), gc _ _ (by omega) (by omega)])
      · rw [g5 _ i (by omega) (by omega), gc _ i (by omega) (by omega)]
      · rw [g5 _ i (by omega) (by omega), gc _ i (by omega) (by omega)]
      · rw [g5 _ i (by omega) (by omega), gc _ i (by omega) (by omega)]
theorem img_D : ∀ k, k < 2 → (270 + 12 * k) ∈ dayL := by decide +kernel
/-- 0 or 1, or neither: both sides say so -/
theorem x01 (x : Int32) : (x.toInt < 0 ∨ 1 < x.toInt) ∨ ∃ k, k < 2 ∧ x = nI k := by
  rcases i32_cases x with h | ⟨j, h1, rfl⟩
  · exact Or.inl (Or.inl h)
  · by_cases h2 : j < 2
    · exact Or.inr ⟨j, h2, rfl⟩
    · left; right; rw [nI_toInt h1]; omega
theorem md_in01 (x : Int32) (M : Mem) : j_Md_in (Int32.toInt64 x) 0 1 M = some (if 0 ≤ x.toInt ∧ x.toInt ≤ 1 then 1 else 0, M) := by
  have := md_in (M := M) x 0 1 rfl l0 l1
  rw [t0, t1] at this
  exact this
theorem hasNoBook_eq (M : Mem) : j_Fc_hasNoBook M = some (if gi M 3 0 = 0 then 1 else 0, M) := by
  simp only [j_Fc_hasNoBook, j_Day_isEmpty]
  by_cases h : gi M 3 0 = 0
  · rw [if_pos h, if_pos h, bd_some]; rfl
  · rw [if_neg h, if_neg h, bd_some]; rfl
theorem isBook_eq {M : Mem} {nc : Nat} (h : gi M 327 4 = nI nc) (hn : nc < 2 ^ 31) : j_Md_isBook M = some (if nc = 0 then 0 else 1, M) := by
  have e : (0 : Int32) = nI 0 := rfl
  simp only [j_Md_isBook, h]
  by_cases h0 : nc = 0
  · subst h0; rfl
  · rw [if_pos (by rw [e, nI_ltI (by omega) hn]; omega), if_neg h0]
theorem s_image (x : Int32) : Sim (j_Fc_image x) (j_Md_image x) := by
  intro M h
  have hR := h
  obtain ⟨hB, hT, hH, hG⟩ := h
  have e2 : (2 : Int32) = nI 2 := rfl
  rcases x01 x with hb | ⟨k, hk, rfl⟩
  · refine ⟨-1000001, M, M, ?_, ?_, hR⟩
    · simp only [j_Fc_image, i32_lt, t0, t2]
      by_cases c : x.toInt < 0
      · rw [if_pos c]
      · rw [if_neg c, if_neg (by omega)]
    · simp only [j_Md_image, md_in01, bd_some]
      rw [if_neg (show ¬ (0 ≤ x.toInt ∧ x.toInt ≤ 1) by omega)]
      rfl
  · obtain ⟨nc, nt, nr, d1, d2⟩ := hB
    have hc0 : gi M 3 0 = nI nc := d1.1.1
    have hm0 : gi M 327 4 = nI nc := d2.2.1.1
    have c1 : ¬ nI k < 0 := nI_pos (by omega)
    have c2 : nI k < nI 2 := nI_lt hk (by omega)
    have cm : (0 ≤ (nI k).toInt ∧ (nI k).toInt ≤ 1) := by rw [nI_toInt (by omega)]; omega
    have hnc : nc < 2 ^ 31 := by have := d2.1.1; omega
    by_cases h0 : nc = 0
    · subst h0
      have e0 : nI 0 = (0 : Int32) := rfl
      refine ⟨-1000002, M, M, ?_, ?_, hR⟩
      · simp only [j_Fc_image, c1, e2, c2, if_false, if_true, hasNoBook_eq, hc0, e0, bd_some]
        rfl
      · simp only [j_Md_image, md_in01, bd_some, cm, and_self, if_true, isBook_eq hm0 hnc]
        rfl
    · have hn0 : ¬ nI nc = 0 := by rw [nI_eq0 hnc]; exact h0
      obtain ⟨Mc, k1, k2, k3, k4⟩ := copyFrom_ok (img_D k hk) day_3 (by omega) M
      refine ⟨1, Mc, uI (cpyM Mc 327 0 330 (89 * k) 89) 331 k 1, ?_, ?_, ?_⟩
      · simp only [j_Fc_image, c1, e2, c2, if_false, if_true, hasNoBook_eq, hc0, hn0, bd_some, gd_t (inb_nI hk (show 2 < 2 ^ 31 by omega)), ix_nI (show k < 2 ^ 31 by omega), k1]
      · have hm1 : gi Mc 327 4 = nI nc := by rw [k2 327 4 (by omega)]; exact hm0
        have hcp := copies_ok (a0 := 327) (p := 0) (a2 := 330) (q := 89 * k) Mc (by decide) (by rw [ln327]; omega) (by rw [ln330]; omega) (by rw [ln327]; omega) (by rw [ln330]; omega)
        have e0 : nI 0 = (0 : Int32) := rfl
        rw [e0] at hcp
        simp only [j_Md_image, md_in01, bd_some, cm, and_self, if_true, isBook_eq hm1 hnc, h0, if_false, nI_mul89, hcp, gd_t (inb_nI hk (show 2 < 2 ^ 31 by omega)), ix_nI (show k < 2 ^ 31 by omega), sq_eq]
        rfl
      · have g5 : ∀ b i, b ≠ 330 → (b ≠ 331 ∨ i ≠ k) → gi (uI (cpyM Mc 327 0 330 (89 * k) 89) 331 k 1) b i = gi Mc b i := fun b i h1 h2 => by
          rw [gi_uI, if_neg (by omega), gi_cpyM, if_neg (by omega)]
        have g6 : ∀ b i, b ≠ 330 → (b ≠ 331 ∨ i ≠ k) → (b < 270 + 12 * k ∨ 270 + 12 * k + 11 < b) → gi (uI (cpyM Mc 327 0 330 (89 * k) 89) 331 k 1) b i = gi M b i := fun b i h1 h2 h3 => by
          rw [g5 b i h1 h2, k2 b i h3]
        have g7 : ∀ i, i < 89 → gi (uI (cpyM Mc 327 0 330 (89 * k) 89) 331 k 1) 330 (89 * k + i) = gi M 327 i := fun i hi => by
          rw [gi_uIa _ _ _ _ _ _ (by omega), gi_cpyM, if_pos (by omega), k2 327 _ (by omega)]
          exact congrArg (gi M 327) (by omega)
        refine ⟨?_, hT.same (fun i => ?_) (fun i => ?_) ?_ ?_ (fun i => ?_), hH.same (fun b i h1 h2 => ?_) (fun i => ?_) ?_, fun k2' hk2 => ?_⟩
        · exact BR.cong (fun j hj i => g6 _ i (by omega) (by omega) (by omega)) (fun i _ => g6 _ _ (by omega) (by omega) (by omega)) ⟨nc, nt, nr, d1, d2⟩
        · exact g6 _ i (by omega) (by omega) (by omega)
        · exact g6 _ i (by omega) (by omega) (by omega)
        · exact g6 _ _ (by omega) (by omega) (by omega)
        · exact g6 _ _ (by omega) (by omega) (by omega)
        · exact g6 _ i (by omega) (by omega) (by omega)
        · exact g6 _ i (by omega) (by omega) (by omega)
        · exact g6 _ i (by omega) (by omega) (by omega)
        · exact g6 _ _ (by omega) (by omega) (by omega)
        · by_cases hkk : k2' = k
          · subst hkk
            right
            refine ⟨by rw [gi_uIs], nc, nt, nr, by omega, d1.cong d2.1 (fun i hi => ?_) (fun j hj1 hj2 i hi => ?_) (fun i hi => ?_), d2.cong (fun i hi => ?_)⟩
            · rw [g5 _ i (by omega) (by omega), k3 i hi]
            · rw [g5 _ i (by omega) (by omega), k4 j hj1 hj2 i hi]
            · show gi _ 330 _ = gi M 327 (0 + i)
              rw [Nat.zero_add]; exact g7 i hi
            · show gi _ 330 _ = gi M 327 (0 + i)
              rw [Nat.zero_add]; exact g7 i hi
          · rcases hG k2' hk2 with ⟨q1, q2⟩ | ⟨q1, q2⟩
            · exact Or.inl ⟨by rw [g6 _ _ (by omega) (by omega) (by omega)]; exact q1, by rw [g6 _ _ (by omega) (by omega) (by omega)]; exact q2⟩
            · refine Or.inr ⟨by rw [g6 _ _ (by omega) (by omega) (by omega)]; exact q1, q2.cong (fun j hj i => g6 _ i (by omega) (by omega) (by omega)) (fun i hi => ?_)⟩
              rw [gi_uIa _ _ _ _ _ _ (by omega), gi_cpyM, if_neg (by omega), k2 330 _ (by omega)]
theorem s_restore (x : Int32) : Sim (j_Fc_restore x) (j_Md_restore x) := by
  intro M h
  have hR := h
  obtain ⟨hB, hT, hH, hG⟩ := h
  have e2 : (2 : Int32) = nI 2 := rfl
  rcases x01 x with hb | ⟨k, hk, rfl⟩
  · refine ⟨-1000001, M, M, ?_, ?_, hR⟩
    · simp only [j_Fc_restore, i32_lt, t0, t2]
      by_cases c : x.toInt < 0
      · rw [if_pos c]
      · rw [if_neg c, if_neg (by omega)]
    · simp only [j_Md_restore, md_in01, bd_some]
      rw [if_neg (show ¬ (0 ≤ x.toInt ∧ x.toInt ≤ 1) by omega)]
      rfl
  · have c1 : ¬ nI k < 0 := nI_pos (by omega)
    have c2 : nI k < nI 2 := nI_lt hk (by omega)
    have cm : (0 ≤ (nI k).toInt ∧ (nI k).toInt ≤ 1) := by rw [nI_toInt (by omega)]; omega
    have hx : ix (nI k) = k := ix_nI (by omega)
    have hi := inb_nI hk (show 2 < 2 ^ 31 by omega)
    rcases hG k hk with ⟨q1, q2⟩ | ⟨q1, nc, nt, nr, hp, d1, d2⟩
    · refine ⟨-1000002, M, M, ?_, ?_, hR⟩
      · simp only [j_Fc_restore, c1, e2, c2, if_false, if_true, gd_t hi, hx, j_Day_isEmpty, q2, bd_some]
        rfl
      · simp only [j_Md_restore, md_in01, bd_some, cm, and_self, if_true, gd_t hi, hx, q1]
        rfl
    · have hnc : nc < 2 ^ 31 := by have := d2.1.1; omega
      have hn0 : ¬ nI nc = 0 := by rw [nI_eq0 hnc]; omega
      obtain ⟨Mc, k1, k2, k3, k4⟩ := copyFrom_ok day_3 (img_D k hk) (by omega) M
      refine ⟨1, uI Mc 27 2 0, uI (cpyM (uI Mc 27 2 0) 330 (89 * k) 327 0 89) 326 3 0, ?_, ?_, ?_⟩
      · simp only [j_Fc_restore, c1, e2, c2, if_false, if_true, gd_t hi, hx, j_Day_isEmpty, d1.1.1, hn0, bd_some, k1, j_Hist_forget, sq_eq]
      · have q3 : gi (uI Mc 27 2 0) 331 k = 1 := by rw [gi_uIa _ _ _ _ _ _ (by omega), k2 331 k (by omega)]; exact q1
        have hcp := copies_ok (a0 := 330) (p := 89 * k) (a2 := 327) (q := 0) (uI Mc 27 2 0) (by decide) (by rw [ln330]; omega) (by rw [ln327]; omega) (by rw [ln330]; omega) (by rw [ln327]; omega)
        have e0 : nI 0 = (0 : Int32) := rfl
        rw [e0] at hcp
        simp only [j_Md_restore, md_in01, bd_some, cm, and_self, if_true, gd_t hi, hx, q3, nI_mul89, hcp, sq_eq]
        rfl
      · have g5 : ∀ b i, b ≠ 327 → (b ≠ 326 ∨ i ≠ 3) → gi (uI (cpyM (uI Mc 27 2 0) 330 (89 * k) 327 0 89) 326 3 0) b i = gi (uI Mc 27 2 0) b i := fun b i h1 h2 => by
          rw [gi_uI, if_neg (by omega), gi_cpyM, if_neg (by omega)]
        have g6 : ∀ b i, b ≠ 327 → (b ≠ 326 ∨ i ≠ 3) → (b < 3 ∨ 14 < b) → (b ≠ 27 ∨ i ≠ 2) → gi (uI (cpyM (uI Mc 27 2 0) 330 (89 * k) 327 0 89) 326 3 0) b i = gi M b i := fun b i h1 h2 h3 h4 => by
          rw [g5 b i h1 h2, gi_uI, if_neg (by omega), k2 b i (by omega)]
        have g7 : ∀ i, i < 89 → gi (uI (cpyM (uI Mc 27 2 0) 330 (89 * k) 327 0 89) 326 3 0) 327 i = gi M 330 (89 * k + i) := fun i hi => by
          rw [gi_uIa _ _ _ _ _ _ (by omega), gi_cpyM, if_pos (by omega), gi_uIa _ _ _ _ _ _ (by omega), k2 330 _ (by omega)]
          rfl
        obtain ⟨a, q, p1, p2, p3, p4, p5, p6⟩ := hH
        refine ⟨⟨nc, nt, nr, d1.cong d2.1 (fun i hi => ?_) (fun j hj1 hj2 i hi => ?_) (fun i hi => ?_), d2.cong (fun i hi => ?_)⟩, hT.same (fun i => ?_) (fun i => ?_) ?_ ?_ (fun i => ?_), ⟨0, q, by omega, p2, ?_, ?_, ?_, fun j hj => absurd hj (by omega)⟩, hG.same (fun b i h1 h2 => ?_) (fun i => ?_) (fun i => ?_)⟩
        · rw [g5 _ i (by omega) (by omega), gi_uIa _ _ _ _ _ _ (by omega), k3 i hi]
        · rw [g5 _ i (by omega) (by omega), gi_uIa _ _ _ _ _ _ (by omega), k4 j hj1 hj2 i hi]
        · show gi _ 327 (0 + i) = gi M 330 _
          rw [Nat.zero_add]; exact g7 i hi
        · show gi _ 327 (0 + i) = gi M 330 _
          rw [Nat.zero_add]; exact g7 i hi
        · exact g6 _ i (by omega) (by omega) (by omega) (by omega)
        · exact g6 _ i (by omega) (by omega) (by omega) (by omega)
        · exact g6 _ _ (by omega) (by omega) (by omega) (by omega)
        · exact g6 _ _ (by omega) (by omega) (by omega) (by omega)
        · exact g6 _ i (by omega) (by omega) (by omega) (by omega)
        · rw [g5 _ _ (by omega) (by omega), gi_uIs]; rfl
        · rw [gi_uIs]; rfl
        · rw [g6 _ _ (by omega) (by omega) (by omega) (by omega)]; exact p5
        · exact g6 _ i (by omega) (by omega) (by omega) (by omega)
        · exact g6 _ i (by omega) (by omega) (by omega) (by omega)
        · exact g6 _ i (by omega) (by omega) (by omega) (by omega)
