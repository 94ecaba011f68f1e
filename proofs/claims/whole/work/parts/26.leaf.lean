def fu (f : Nat → Int32) (i : Nat) (v : Int32) : Nat → Int32 := fun j => if j = i then v else f j
theorem keep_day {M : Mem} (h : Rel M) : ∃ Mk, j_Hist_keep 3 M = some ((), Mk) ∧ ∀ b i, (3 ≤ b ∧ b ≤ 14) ∨ 294 ≤ b → gi Mk b i = gi M b i := by
  obtain ⟨hB, hT, ⟨a, q, p1, p2, p3, p4, p5, p6⟩, hG⟩ := h
  obtain ⟨Mk, k1, k2, -⟩ := keep_ok p1 p2 p5 p3
  exact ⟨Mk, k1, fun b i hb => k2 b i (by omega) (by omega)⟩
theorem notes_row {M M1 : Mem} (h : Rel M) (he : gi M1 326 3 = gi M 326 3) : ∃ Mn, j_Md_notes M1 = some ((), Mn) ∧ ∀ b i, b ≠ 326 → b ≠ 329 → gi Mn b i = gi M1 b i := by
  obtain ⟨hB, hT, ⟨a, q, p1, p2, p3, p4, p5, p6⟩, hG⟩ := h
  obtain ⟨Mn, n1, n2, -⟩ := notes_ok p1 (he.trans p4)
  exact ⟨Mn, n1, fun b i h1 h2 => n2 b i h2 (Or.inl h1)⟩
theorem isKind_eq (x : Int32) (M : Mem) : j_Kinds_isKind x M = some (if 0 ≤ x.toInt ∧ x.toInt ≤ 5 then 1 else 0, M) := by
  have t6 : (6 : Int32).toInt = 6 := by decide
  simp only [j_Kinds_isKind, i32_lt, t0, t6]
  by_cases h : x.toInt < 0
  · rw [if_pos h, if_neg (by omega)]
  · by_cases h2 : x.toInt < 6
    · rw [if_neg h, if_pos h2, if_pos (by omega)]
    · rw [if_neg h, if_neg h2, if_neg (by omega)]
theorem isCanKind_eq (x : Int32) (M : Mem) : j_Fc_isCanKind x M = some (if 1 ≤ x.toInt ∧ x.toInt ≤ 5 then 1 else 0, M) := by
  simp only [j_Fc_isCanKind, isKind_eq, bd_some, i32_eq, t0]
  by_cases h : x.toInt = 0
  · rw [if_pos h, if_neg (by omega)]
  · rw [if_neg h]
    by_cases h2 : 0 ≤ x.toInt ∧ x.toInt ≤ 5
    · rw [if_pos h2, if_neg (by decide), if_pos (by omega)]
    · rw [if_neg h2, if_pos (by decide), if_neg (by omega)]
theorem isCanFeet_eq (x : Int32) (M : Mem) : j_Fc_isCanFeet x M = some (if 1 ≤ x.toInt ∧ x.toInt ≤ 99 then 1 else 0, M) := by
  have t99 : (99 : Int32).toInt = 99 := by decide
  simp only [j_Fc_isCanFeet, i32_lt, t1, t99]
  by_cases h : x.toInt < 1
  · rw [if_pos h, if_neg (by omega)]
  · by_cases h2 : 99 < x.toInt
    · rw [if_neg h, if_pos h2, if_neg (by omega)]
    · rw [if_neg h, if_neg h2, if_pos (by omega)]
theorem isTakeFeet_eq (x : Int32) (M : Mem) : j_Fc_isTakeFeet x M = some (if 1 ≤ x.toInt ∧ x.toInt ≤ 60 then 1 else 0, M) := by
  have t60 : (60 : Int32).toInt = 60 := by decide
  simp only [j_Fc_isTakeFeet, i32_lt, t1, t60]
  by_cases h : x.toInt < 1
  · rw [if_pos h, if_neg (by omega)]
  · by_cases h2 : 60 < x.toInt
    · rw [if_neg h, if_pos h2, if_neg (by omega)]
    · rw [if_neg h, if_neg h2, if_pos (by omega)]
theorem md_in15 (x : Int32) (M : Mem) : j_Md_in (Int32.toInt64 x) 1 5 M = some (if 1 ≤ x.toInt ∧ x.toInt ≤ 5 then 1 else 0, M) := md_in x 1 5 rfl rfl rfl
theorem md_in05 (x : Int32) (M : Mem) : j_Md_in (Int32.toInt64 x) 0 5 M = some (if 0 ≤ x.toInt ∧ x.toInt ≤ 5 then 1 else 0, M) := md_in x 0 5 rfl rfl rfl
theorem md_in99 (x : Int32) (M : Mem) : j_Md_in (Int32.toInt64 x) 1 99 M = some (if 1 ≤ x.toInt ∧ x.toInt ≤ 99 then 1 else 0, M) := md_in x 1 99 rfl rfl rfl
theorem md_in60 (x : Int32) (M : Mem) : j_Md_in (Int32.toInt64 x) 1 60 M = some (if 1 ≤ x.toInt ∧ x.toInt ≤ 60 then 1 else 0, M) := md_in x 1 60 rfl rfl rfl
theorem z1 : ((1 : Int32) = 0) = False := by simp
theorem z0 : ((0 : Int32) = 0) = True := by simp
/-- buy: a can more -/
theorem DR_buy {M Mk : Mem} {f : Nat → Int32} {nc nt nr : Nat} {k ft : Int32} (hn : nc < 6) (hD : DR M 3 f nc nt nr) (hI : Iv f nc nt nr) (hk : ∀ b i, 3 ≤ b → b ≤ 14 → gi Mk b i = gi M b i) : DR (uI (uI (uI (uI (uI (uI Mk 5 nc k) 6 nc ft) 7 nc 0) 8 nc 0) 3 5 (gi Mk 3 5 + ft)) 3 0 (nI (nc + 1))) 3 (fu (fu (fu (fu (fu (fu f (13 + 4 * nc) k) (13 + 4 * nc + 1) ft) (13 + 4 * nc + 2) 0) (13 + 4 * nc + 3) 0) 4 (nI (nc + 1))) 7 (f 7 + ft)) (nc + 1) nt nr := by
  obtain ⟨⟨a1, a2, a3⟩, a4, ⟨a5, a6, a7, a8, a9⟩, b1, b2, b3, b4⟩ := hD
  obtain ⟨⟨n1, n2, n3⟩, -⟩ := hI
  refine ⟨⟨?_, ?_, ?_⟩, ?_, ⟨?_, ?_, ?_, ?_, ?_⟩, fun i hi => ?_, fun c hc => ?_, fun t ht => ?_, fun r hr => ?_⟩
  · grind [gi_uI, fu]
  · grind [gi_uI, fu]
  · grind [gi_uI, fu]
  · grind [gi_uI, fu]
  · grind [gi_uI, fu]
  · grind [gi_uI, fu]
  · grind [gi_uI, fu]
  · grind [gi_uI, fu]
  · grind [gi_uI, fu]
  · have := b1 i hi; grind [gi_uI, fu]
  · by_cases h : c = nc
    · subst h; grind [gi_uI, fu]
    · have := b2 c (by omega)
      refine ⟨?_, ?_, ?_, ?_⟩ <;> grind [gi_uI, fu]
  · have := b3 t ht; grind [gi_uI, fu]
  · have := b4 r hr; grind [gi_uI, fu]
theorem nI_m1 {n : Nat} (h : n < 2 ^ 31) : ¬ (-1 : Int32) = nI n := by
  have e : (-1 : Int32).toInt = -1 := by decide
  rw [i32_eq, nI_toInt h, e]
  omega
theorem Iv_buy {f : Nat → Int32} {nc nt nr : Nat} {k ft : Int32} (hn : nc < 6) (hp : 0 < nc) (hk : 1 ≤ k.toInt ∧ k.toInt ≤ 5) (hf : 1 ≤ ft.toInt ∧ ft.toInt ≤ 99) (hI : Iv f nc nt nr) : Iv (fu (fu (fu (fu (fu (fu f (13 + 4 * nc) k) (13 + 4 * nc + 1) ft) (13 + 4 * nc + 2) 0) (13 + 4 * nc + 3) 0) 4 (nI (nc + 1))) 7 (f 7 + ft)) (nc + 1) nt nr := by
  obtain ⟨⟨n1, n2, n3⟩, ⟨a1, a2, a3⟩, a4, a5, b1, b2, b3, b4⟩ := hI
  have hne : ∀ c, c < nc → ¬ nI nc = nI c := fun c hc => by rw [nI_eq (by omega) (by omega)]; omega
  have hne1 : ¬ (-1 : Int32) = nI nc := nI_m1 (by omega)
  refine ⟨⟨by omega, n2, n3⟩, ⟨?_, ?_, ?_⟩, ?_, ?_, fun c hc => ?_, fun t ht => ?_, fun r hr => ?_, by omega⟩
  · grind [fu]
  · grind [fu]
  · grind [fu]
  · grind [fu]
  · rcases a5 with h | ⟨c, h1, h2⟩
    · left; grind [fu]
    · right; exact ⟨c, by omega, by grind [fu]⟩
  · by_cases h : c = nc
    · subst h
      have e1 : (fu (fu (fu (fu (fu (fu f (13 + 4 * c) k) (13 + 4 * c + 1) ft) (13 + 4 * c + 2) 0) (13 + 4 * c + 3) 0) 4 (nI (c + 1))) 7 (f 7 + ft)) (13 + 4 * c) = k := by grind [fu]
      have e2 : (fu (fu (fu (fu (fu (fu f (13 + 4 * c) k) (13 + 4 * c + 1) ft) (13 + 4 * c + 2) 0) (13 + 4 * c + 3) 0) 4 (nI (c + 1))) 7 (f 7 + ft)) (13 + 4 * c + 1) = ft := by grind [fu]
      have e3 : (fu (fu (fu (fu (fu (fu f (13 + 4 * c) k) (13 + 4 * c + 1) ft) (13 + 4 * c + 2) 0) (13 + 4 * c + 3) 0) 4 (nI (c + 1))) 7 (f 7 + ft)) (13 + 4 * c + 2) = 0 := by grind [fu]
      have e4 : (fu (fu (fu (fu (fu (fu f (13 + 4 * c) k) (13 + 4 * c + 1) ft) (13 + 4 * c + 2) 0) (13 + 4 * c + 3) 0) 4 (nI (c + 1))) 7 (f 7 + ft)) 11 = f 11 := by grind [fu]
      rw [e1, e2, e3, e4, t0]
      refine ⟨hk, ⟨by omega, by omega⟩, by omega, ⟨fun h => absurd h (by decide), fun h => ?_⟩⟩
      rcases a5 with h5 | ⟨c', h1, h2⟩
      · rw [h5] at h; exact absurd h hne1
      · rw [h2] at h; exact absurd h.symm (hne c' h1)
    · have e1 : ∀ j, j < 4 → (fu (fu (fu (fu (fu (fu f (13 + 4 * nc) k) (13 + 4 * nc + 1) ft) (13 + 4 * nc + 2) 0) (13 + 4 * nc + 3) 0) 4 (nI (nc + 1))) 7 (f 7 + ft)) (13 + 4 * c + j) = f (13 + 4 * c + j) := fun j hj => by grind [fu]
      have e4 : (fu (fu (fu (fu (fu (fu f (13 + 4 * nc) k) (13 + 4 * nc + 1) ft) (13 + 4 * nc + 2) 0) (13 + 4 * nc + 3) 0) 4 (nI (nc + 1))) 7 (f 7 + ft)) 11 = f 11 := by grind [fu]
      have e0 := e1 0 (by omega)
      simp only [Nat.add_zero] at e0
      rw [e0, e1 1 (by omega), e1 2 (by omega), e4]
      exact b1 c (by omega)
  · have e1 : ∀ j, j < 3 → (fu (fu (fu (fu (fu (fu f (13 + 4 * nc) k) (13 + 4 * nc + 1) ft) (13 + 4 * nc + 2) 0) (13 + 4 * nc + 3) 0) 4 (nI (nc + 1))) 7 (f 7 + ft)) (41 + 3 * t + j) = f (41 + 3 * t + j) := fun j hj => by grind [fu]
    have e0 := e1 0 (by omega)
    simp only [Nat.add_zero] at e0
    rw [e0, e1 1 (by omega), e1 2 (by omega)]
    have := b2 t ht
    refine ⟨this.1, this.2.1, this.2.2.1, by omega⟩
  · have e1 : (fu (fu (fu (fu (fu (fu f (13 + 4 * nc) k) (13 + 4 * nc + 1) ft) (13 + 4 * nc + 2) 0) (13 + 4 * nc + 3) 0) 4 (nI (nc + 1))) 7 (f 7 + ft)) (65 + 3 * r + 2) = f (65 + 3 * r + 2) := by grind [fu]
    rw [e1]; exact b3 r hr
theorem i4 (c : Nat) : (13 : Int32) + (4 : Int32) * nI c = nI (13 + 4 * c) := by
  have e1 : (13 : Int32) = nI 13 := rfl
  have e2 : (4 : Int32) = nI 4 := rfl
  rw [e1, e2, pk_mul, nI_add]
theorem i3 (c : Nat) : (41 : Int32) + (3 : Int32) * nI c = nI (41 + 3 * c) := by
  have e1 : (41 : Int32) = nI 41 := rfl
  have e2 : (3 : Int32) = nI 3 := rfl
  rw [e1, e2, pk_mul, nI_add]
theorem ia (c k : Nat) : nI c + nI k = nI (c + k) := nI_add c k
theorem nI_p2 (c : Nat) : nI c + 2 = nI (c + 2) := nI_add c 2
theorem nI_p3 (c : Nat) : nI c + 3 = nI (c + 3) := nI_add c 3
theorem s_buy (x y : Int32) : Sim (j_Fc_buy x y) (j_Md_buy x y) := by
  intro M h
  have hR := h
  obtain ⟨nc, nt, nr, d1, d2⟩ := h.1
  have hc0 : gi M 3 0 = nI nc := d1.1.1
  have hm0 : gi M 327 4 = nI nc := d2.2.1.1
  have n6 : nc ≤ 6 := d2.1.1
  have e6 : (6 : Int32) = nI 6 := rfl
  by_cases h0 : nc = 0
  · subst h0
    have e0 : nI 0 = (0 : Int32) := rfl
    refine ⟨-1000002, M, M, ?_, ?_, hR⟩
    · simp only [j_Fc_buy, hasNoBook_eq, hc0, e0, if_true, bd_some, z1, if_false]
    · simp only [j_Md_buy, isBook_eq hm0 (by omega), if_true, bd_some, z0]
  · have hn0 : ¬ nI nc = 0 := by rw [nI_eq0 (by omega)]; exact h0
    by_cases hk : 1 ≤ x.toInt ∧ x.toInt ≤ 5
    · by_cases hf : 1 ≤ y.toInt ∧ y.toInt ≤ 99
      · by_cases h6 : nc = 6
        · subst h6
          refine ⟨-1000003, M, M, ?_, ?_, hR⟩
          · have : ¬ nI 6 < nI 6 := by decide
            simp only [j_Fc_buy, hasNoBook_eq, hc0, hn0, if_false, bd_some, z1, z0, if_true, isCanKind_eq, hk, and_self, isCanFeet_eq, hf, e6, this]
          · simp only [j_Md_buy, isBook_eq hm0 (by omega), h0, if_false, bd_some, z1, z0, if_true, md_in15, md_in99, hk, hf, and_self, hm0, e6]
        · obtain ⟨Mk, k1, k2⟩ := keep_day hR
          have g0 : gi Mk 3 0 = nI nc := by rw [k2 3 0 (by omega)]; exact hc0
          have hlt : nI nc < nI 6 := nI_lt (by omega) (by omega)
          have hcls : j_Fc_buy x y M = some (nI nc, uI (uI (uI (uI (uI (uI Mk 5 nc x) 6 nc y) 7 nc 0) 8 nc 0) 3 5 (gi Mk 3 5 + y)) 3 0 (nI (nc + 1))) := by
            have q1 : gi (uI (uI (uI (uI Mk 5 nc x) 6 nc y) 7 nc 0) 8 nc 0) 3 5 = gi Mk 3 5 := by grind [gi_uI]
            have q2 : gi (uI (uI (uI (uI (uI Mk 5 nc x) 6 nc y) 7 nc 0) 8 nc 0) 3 5 (gi Mk 3 5 + y)) 3 0 = nI nc := by grind [gi_uI]
            simp only [j_Fc_buy, hasNoBook_eq, hc0, hn0, if_false, bd_some, z1, z0, if_true, isCanKind_eq, hk, and_self, isCanFeet_eq, hf, e6, hlt, k1, j_Day_addCan, g0, lq_eq, gd_t (inb_nI (show nc < 6 by omega) (by omega)), ix_nI (show nc < 2 ^ 31 by omega), sq_eq, Nat.reduceAdd, q1, q2, nI_1]
          obtain ⟨Mn, m1, m2⟩ := notes_row (M1 := uI (uI (uI (uI (uI (uI Mk 5 nc x) 6 nc y) 7 nc 0) 8 nc 0) 3 5 (gi Mk 3 5 + y)) 3 0 (nI (nc + 1))) hR (by have := k2 326 3 (by omega); grind [gi_uI])
          have r0 : ∀ i, gi Mn 327 i = gi M 327 i := fun i => by rw [m2 327 i (by omega) (by omega)]; have := k2 327 i (by omega); grind [gi_uI]
          have r4 : gi Mn 327 4 = nI nc := by rw [r0]; exact hm0
          refine ⟨nI nc, _, uI (uI (uI (uI (uI (uI Mn 327 (13 + 4 * nc) x) 327 (13 + 4 * nc + 1) y) 327 (13 + 4 * nc + 2) 0) 327 (13 + 4 * nc + 3) 0) 327 4 (nI (nc + 1))) 327 7 (gi Mn 327 7 + y), hcls, ?_, ?_⟩
          · have gm : gi (uI (uI (uI (uI (uI (uI Mk 5 nc x) 6 nc y) 7 nc 0) 8 nc 0) 3 5 (gi Mk 3 5 + y)) 3 0 (nI (nc + 1))) 327 4 = nI nc := by have := k2 327 4 (by omega); grind [gi_uI]
            have q1 : gi (uI (uI (uI (uI Mn 327 (13 + 4 * nc) x) 327 (13 + 4 * nc + 1) y) 327 (13 + 4 * nc + 2) 0) 327 (13 + 4 * nc + 3) 0) 327 4 = nI nc := by grind [gi_uI]
            have q2 : gi (uI (uI (uI (uI (uI Mn 327 (13 + 4 * nc) x) 327 (13 + 4 * nc + 1) y) 327 (13 + 4 * nc + 2) 0) 327 (13 + 4 * nc + 3) 0) 327 4 (nI (nc + 1))) 327 7 = gi Mn 327 7 := by grind [gi_uI]
            have q3 : gi (uI (uI (uI (uI (uI (uI Mn 327 (13 + 4 * nc) x) 327 (13 + 4 * nc + 1) y) 327 (13 + 4 * nc + 2) 0) 327 (13 + 4 * nc + 3) 0) 327 4 (nI (nc + 1))) 327 7 (gi Mn 327 7 + y)) 327 4 = nI (nc + 1) := by grind [gi_uI]
            have hne6 : ¬ nI nc = nI 6 := by rw [nI_eq (by omega) (by omega)]; exact h6
            simp only [j_Md_buy, isBook_eq gm (by omega), h0, if_false, bd_some, z1, z0, if_true, md_in15, md_in99, hk, hf, and_self, gm, e6, hne6, m1, j_Md_adds, r4, i4, lq_eq, nI_1, nI_p2, nI_p3, gd_t (inb_nI (show 13 + 4 * nc < 89 by omega) (by omega)), gd_t (inb_nI (show 13 + 4 * nc + 1 < 89 by omega) (by omega)), gd_t (inb_nI (show 13 + 4 * nc + 2 < 89 by omega) (by omega)), gd_t (inb_nI (show 13 + 4 * nc + 3 < 89 by omega) (by omega)), ix_nI (show 13 + 4 * nc < 2 ^ 31 by omega), ix_nI (show 13 + 4 * nc + 1 < 2 ^ 31 by omega), ix_nI (show 13 + 4 * nc + 2 < 2 ^ 31 by omega), ix_nI (show 13 + 4 * nc + 3 < 2 ^ 31 by omega), sq_eq, q1, q2, q3, nI_pred]
          · refine act_rel hR ⟨Mk, k1, fun a i ha => by grind [gi_uI]⟩ (DR_buy (by omega) d1 d2 (fun b i h1 h2 => k2 b i (by omega))) ⟨Mn, m1, fun a i ha => by repeat rw [gi_uIa _ _ _ _ _ _ (by omega)]⟩ (fun i hi => ?_) (Iv_buy (by omega) (by omega) hk hf d2)
            have e7 : rowM M 327 0 7 = gi Mn 327 7 := by rw [r0]; rfl
            have ei : rowM M 327 0 i = gi Mn 327 i := by rw [r0]; show gi M 327 (0 + i) = _; rw [Nat.zero_add]
            rw [e7]
            grind [gi_uI, fu]
      · refine ⟨-1000001, M, M, ?_, ?_, hR⟩
        · simp only [j_Fc_buy, hasNoBook_eq, hc0, hn0, if_false, bd_some, z1, z0, if_true, isCanKind_eq, hk, and_self, isCanFeet_eq, hf]
        · simp only [j_Md_buy, isBook_eq hm0 (by omega), h0, if_false, bd_some, z1, z0, if_true, md_in15, md_in99, hk, hf, and_self]
    · refine ⟨-1000001, M, M, ?_, ?_, hR⟩
      · simp only [j_Fc_buy, hasNoBook_eq, hc0, hn0, if_false, bd_some, z1, z0, if_true, isCanKind_eq, hk]
      · simp only [j_Md_buy, isBook_eq hm0 (by omega), h0, if_false, bd_some, z1, z0, if_true, md_in15, hk]
