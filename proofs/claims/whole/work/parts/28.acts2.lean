/-- a number of a can (of a take) that is there, or not: both sides say so -/
theorem there_or {n : Nat} (x : Int32) (hn : n < 2 ^ 31) : (¬ (0 ≤ x.toInt ∧ x.toInt < n)) ∨ ∃ c, c < n ∧ x = nI c := by
  rcases i32_cases x with h | ⟨j, h1, rfl⟩
  · left; omega
  · by_cases h2 : j < n
    · exact Or.inr ⟨j, h2, rfl⟩
    · left; rw [nI_toInt h1]; omega
theorem hasCan_no {d : Nat} {M : Mem} {n : Nat} {x : Int32} (h : gi M d 0 = nI n) (hn : n < 2 ^ 31) (hx : ¬ (0 ≤ x.toInt ∧ x.toInt < n)) : j_Day_hasCan d x M = some (0, M) := by
  simp only [j_Day_hasCan, h, i32_lt, t0, nI_toInt hn]
  by_cases h1 : x.toInt < 0
  · rw [if_pos h1]
  · rw [if_neg h1, if_neg (by omega)]
theorem hasCan_yes {d : Nat} {M : Mem} {n c : Nat} (h : gi M d 0 = nI n) (hn : n < 2 ^ 31) (hc : c < n) : j_Day_hasCan d (nI c) M = some (1, M) := by
  simp only [j_Day_hasCan, h, i32_lt, t0, nI_toInt hn, nI_toInt (show c < 2 ^ 31 by omega)]
  rw [if_neg (by omega), if_pos (by omega)]
theorem hasTake_no {d : Nat} {M : Mem} {n : Nat} {x : Int32} (h : gi M d 1 = nI n) (hn : n < 2 ^ 31) (hx : ¬ (0 ≤ x.toInt ∧ x.toInt < n)) : j_Day_hasTake d x M = some (0, M) := by
  simp only [j_Day_hasTake, h, i32_lt, t0, nI_toInt hn]
  by_cases h1 : x.toInt < 0
  · rw [if_pos h1]
  · rw [if_neg h1, if_neg (by omega)]
theorem hasTake_yes {d : Nat} {M : Mem} {n c : Nat} (h : gi M d 1 = nI n) (hn : n < 2 ^ 31) (hc : c < n) : j_Day_hasTake d (nI c) M = some (1, M) := by
  simp only [j_Day_hasTake, h, i32_lt, t0, nI_toInt hn, nI_toInt (show c < 2 ^ 31 by omega)]
  rw [if_neg (by omega), if_pos (by omega)]
theorem isCan_no {M : Mem} {n : Nat} {x : Int32} (h : gi M 327 4 = nI n) (hn : n < 2 ^ 31) (hx : ¬ (0 ≤ x.toInt ∧ x.toInt < n)) : j_Md_isCan x M = some (0, M) := by
  simp only [j_Md_isCan, h, md_in x 0 (nI n - 1) rfl l0 rfl, t0, nI_sub1 hn, bd_some]
  rw [if_neg (by omega)]; rfl
theorem isCan_yes {M : Mem} {n c : Nat} (h : gi M 327 4 = nI n) (hn : n < 2 ^ 31) (hc : c < n) : j_Md_isCan (nI c) M = some (1, M) := by
  simp only [j_Md_isCan, h, md_in (nI c) 0 (nI n - 1) rfl l0 rfl, t0, nI_sub1 hn, nI_toInt (show c < 2 ^ 31 by omega), bd_some]
  rw [if_pos (by omega)]; rfl
theorem isTake_no {M : Mem} {n : Nat} {x : Int32} (h : gi M 327 5 = nI n) (hn : n < 2 ^ 31) (hx : ¬ (0 ≤ x.toInt ∧ x.toInt < n)) : j_Md_isTake x M = some (0, M) := by
  simp only [j_Md_isTake, h, md_in x 0 (nI n - 1) rfl l0 rfl, t0, nI_sub1 hn, bd_some]
  rw [if_neg (by omega)]; rfl
theorem isTake_yes {M : Mem} {n c : Nat} (h : gi M 327 5 = nI n) (hn : n < 2 ^ 31) (hc : c < n) : j_Md_isTake (nI c) M = some (1, M) := by
  simp only [j_Md_isTake, h, md_in (nI c) 0 (nI n - 1) rfl l0 rfl, t0, nI_sub1 hn, nI_toInt (show c < 2 ^ 31 by omega), bd_some]
  rw [if_pos (by omega)]; rfl
theorem md_kind {a c : Nat} {M : Mem} (hc : c < 7) : j_Md_kind a (nI c) M = some (gi M a (13 + 4 * c), M) := by
  simp only [j_Md_kind, i4, gd_t (inb_nI (show 13 + 4 * c < 89 by omega) (by omega)), ix_nI (show 13 + 4 * c < 2 ^ 31 by omega)]
theorem md_feet {a c : Nat} {M : Mem} (hc : c < 7) : j_Md_feet a (nI c) M = some (gi M a (13 + 4 * c + 1), M) := by
  simp only [j_Md_feet, i4, nI_1, gd_t (inb_nI (show 13 + 4 * c + 1 < 89 by omega) (by omega)), ix_nI (show 13 + 4 * c + 1 < 2 ^ 31 by omega)]
theorem md_where {a c : Nat} {M : Mem} (hc : c < 7) : j_Md_where a (nI c) M = some (gi M a (13 + 4 * c + 2), M) := by
  simp only [j_Md_where, i4, nI_p2, gd_t (inb_nI (show 13 + 4 * c + 2 < 89 by omega) (by omega)), ix_nI (show 13 + 4 * c + 2 < 2 ^ 31 by omega)]
theorem md_isOpen {a t : Nat} {M : Mem} (ht : t < 8) : j_Md_isOpen a (nI t) M = some (if (gi M a (41 + 3 * t + 2)).toInt < 0 then 1 else 0, M) := by
  simp only [j_Md_isOpen, i3, nI_p2, gd_t (inb_nI (show 41 + 3 * t + 2 < 89 by omega) (by omega)), ix_nI (show 41 + 3 * t + 2 < 2 ^ 31 by omega), i32_lt, t0]
  by_cases h : (gi M a (41 + 3 * t + 2)).toInt < 0
  · rw [if_pos h, if_pos h]
  · rw [if_neg h, if_neg h]
theorem tm1 : (-1 : Int32).toInt = -1 := by decide
theorem tN : (-1000000 : Int32).toInt = -1000000 := by decide
theorem nn_open {v f : Int32} (h : nn v f) : (v = -1000000) ↔ f.toInt < 0 := by
  rcases h with ⟨h1, h2⟩ | ⟨h1, h2⟩
  · subst h1; subst h2; simp [tm1]
  · constructor
    · intro h3; subst h1; rw [h3, tN] at h2; omega
    · intro h3; omega
theorem day_isOpen {d t : Nat} {M : Mem} {f : Int32} (ht : t < 8) (h : nn (gi M (d + 8) t) f) : j_Day_isOpen d (nI t) M = some (if f.toInt < 0 then 1 else 0, M) := by
  simp only [j_Day_isOpen, gd_t (inb_nI ht (by omega)), ix_nI (show t < 2 ^ 31 by omega)]
  by_cases h1 : f.toInt < 0
  · rw [if_pos ((nn_open h).mpr h1), if_pos h1]
  · rw [if_neg (fun q => h1 ((nn_open h).mp q)), if_neg h1]
theorem dr_keep {M Mk : Mem} {f : Nat → Int32} {nc nt nr : Nat} (hn : nc ≤ 6 ∧ nt ≤ 8 ∧ nr ≤ 8) (hk : ∀ b i, 3 ≤ b → b ≤ 14 → gi Mk b i = gi M b i) (hD : DR M 3 f nc nt nr) : DR Mk 3 f nc nt nr := hD.cong hn (fun i _ => hk 3 i (by omega) (by omega)) (fun j h1 h2 i _ => hk (3 + j) i (by omega) (by omega)) (fun _ _ => rfl)
theorem dr_row {M : Mem} {f g : Nat → Int32} {nc nt nr : Nat} (hn : nc ≤ 6 ∧ nt ≤ 8 ∧ nr ≤ 8) (hf : ∀ i, i < 89 → g i = f i) (hD : DR M 3 f nc nt nr) : DR M 3 g nc nt nr := hD.cong hn (fun _ _ => rfl) (fun _ _ _ _ _ => rfl) hf
theorem row_u {M : Mem} {h : Nat → Int32} {p : Nat} {v : Int32} (hh : ∀ i, gi M 327 i = h i) : ∀ i, gi (uI M 327 p v) 327 i = fu h p v i := fun i => by
  unfold fu
  by_cases hi : i = p
  · subst hi; rw [gi_uIs, if_pos rfl]
  · rw [gi_uIi _ _ _ _ _ _ hi, if_neg hi, hh]
theorem row_0 {M Mn : Mem} (h : ∀ i, gi Mn 327 i = gi M 327 i) : ∀ i, gi Mn 327 i = rowM M 327 0 i := fun i => by rw [h]; show _ = gi M 327 (0 + i); rw [Nat.zero_add]
theorem row_at (M : Mem) (i : Nat) : rowM M 327 0 i = gi M 327 i := by show gi M 327 (0 + i) = _; rw [Nat.zero_add]
/-- DR and Iv where one place of the row is another -/
theorem s_become (x y : Int32) : Sim (j_Fc_become x y) (j_Md_become x y) := by
  intro M h
  have hR := h
  obtain ⟨nc, nt, nr, d1, d2⟩ := h.1
  have hc0 : gi M 3 0 = nI nc := d1.1.1
  have hm0 : gi M 327 4 = nI nc := d2.2.1.1
  have n6 : nc ≤ 6 := d2.1.1
  rcases there_or (n := nc) x (by omega) with hx | ⟨c, hc, rfl⟩
  · refine ⟨-1000001, M, M, ?_, ?_, hR⟩
    · simp only [j_Fc_become, hasCan_no hc0 (by omega) hx, bd_some, z0, if_true]
    · simp only [j_Md_become, isCan_no hm0 (by omega) hx, bd_some, z0, if_true]
  · have hcan := d1.2.2.2.2.1 c hc
    have hI := d2.2.2.2.2.1 c hc
    have hin := inb_nI (show c < 6 by omega) (show 6 < 2 ^ 31 by omega)
    have hix := ix_nI (show c < 2 ^ 31 by omega)
    have r1 : gi M 5 c = gi M 327 (13 + 4 * c) := by rw [hcan.1]; show gi M 327 (0 + _) = _; rw [Nat.zero_add]
    have r3 : gi M 7 c = gi M 327 (13 + 4 * c + 2) := by rw [hcan.2.2.1]; show gi M 327 (0 + _) = _; rw [Nat.zero_add]
    by_cases hk : 1 ≤ y.toInt ∧ y.toInt ≤ 5
    · by_cases he : gi M 327 (13 + 4 * c) = y
      · refine ⟨-1000002, M, M, ?_, ?_, hR⟩
        · simp only [j_Fc_become, hasCan_yes hc0 (by omega) hc, bd_some, z1, z0, if_false, isCanKind_eq, hk, and_self, if_true, gd_t hin, hix, lq_eq, r1, he]
        · simp only [j_Md_become, isCan_yes hm0 (by omega) hc, bd_some, z1, z0, if_false, md_in15, hk, and_self, if_true, md_kind (show c < 7 by omega), he]
      · by_cases hw : gi M 327 (13 + 4 * c + 2) = 0
        · obtain ⟨Mk, k1, k2⟩ := keep_day hR
          obtain ⟨Mn, m1, m2⟩ := notes_row (M1 := uI Mk 5 c y) hR (by have := k2 326 3 (by omega); grind [gi_uI])
          have r0 : ∀ i, gi Mn 327 i = gi M 327 i := fun i => by rw [m2 327 i (by omega) (by omega), gi_uIa _ _ _ _ _ _ (by omega), k2 327 i (by omega)]
          have r0' : ∀ i, gi (uI Mk 5 c y) 327 i = gi M 327 i := fun i => by rw [gi_uIa _ _ _ _ _ _ (by omega), k2 327 i (by omega)]
          refine ⟨gi M 327 (13 + 4 * c), uI Mk 5 c y, uI Mn 327 (13 + 4 * c) y, ?_, ?_, ?_⟩
          · simp only [j_Fc_become, hasCan_yes hc0 (by omega) hc, bd_some, z1, z0, if_false, isCanKind_eq, hk, and_self, if_true, gd_t hin, hix, lq_eq, r1, he, r3, hw, k1, sq_eq]
          · simp only [j_Md_become, isCan_yes ((r0' 4).trans hm0) (by omega) hc, bd_some, z1, z0, if_false, md_in15, hk, and_self, if_true, md_kind (show c < 7 by omega), md_where (show c < 7 by omega), r0', he, hw, m1, i4, gd_t (inb_nI (show 13 + 4 * c < 89 by omega) (by omega)), ix_nI (show 13 + 4 * c < 2 ^ 31 by omega), sq_eq]
          · exact act_rel hR ⟨Mk, k1, fun a i ha => by rw [gi_uIa _ _ _ _ _ _ (by omega)]⟩ (dr_kind hc d2.1 (dr_keep d2.1 (fun b i h1 h2 => k2 b i (by omega)) d1)) ⟨Mn, m1, fun a i ha => by rw [gi_uIa _ _ _ _ _ _ (by omega)]⟩ (fun i _ => row_u (row_0 r0) i) (iv_kind hc hk d2)
        · refine ⟨-1000002, M, M, ?_, ?_, hR⟩
          · simp only [j_Fc_become, hasCan_yes hc0 (by omega) hc, bd_some, z1, z0, if_false, isCanKind_eq, hk, and_self, if_true, gd_t hin, hix, lq_eq, r1, he, r3, hw]
          · simp only [j_Md_become, isCan_yes hm0 (by omega) hc, bd_some, z1, z0, if_false, md_in15, hk, and_self, if_true, md_kind (show c < 7 by omega), md_where (show c < 7 by omega), he, hw]
    · refine ⟨-1000001, M, M, ?_, ?_, hR⟩
      · simp only [j_Fc_become, hasCan_yes hc0 (by omega) hc, bd_some, z1, z0, if_false, isCanKind_eq, hk, if_true]
      · simp only [j_Md_become, isCan_yes hm0 (by omega) hc, bd_some, z1, z0, if_false, md_in15, hk, if_true]
theorem s_demand (x y z : Int32) : Sim (j_Fc_demand x y z) (j_Md_demand x y z) := by
  intro M h
  have hR := h
  obtain ⟨nc, nt, nr, d1, d2⟩ := h.1
  have hc0 : gi M 3 1 = nI nt := d1.1.2.1
  have hm0 : gi M 327 5 = nI nt := d2.2.1.2.1
  have n8 : nt ≤ 8 := d2.1.2.1
  rcases there_or (n := nt) x (by omega) with hx | ⟨t, ht, rfl⟩
  · refine ⟨-1000001, M, M, ?_, ?_, hR⟩
    · simp only [j_Fc_demand, hasTake_no hc0 (by omega) hx, bd_some, z0, if_true]
    · simp only [j_Md_demand, isTake_no hm0 (by omega) hx, bd_some, z0, if_true]
  · have htk := d1.2.2.2.2.2.1 t ht
    have hin := inb_nI (show t < 8 by omega) (show 8 < 2 ^ 31 by omega)
    have hix := ix_nI (show t < 2 ^ 31 by omega)
    have r2 : gi M 10 t = gi M 327 (41 + 3 * t + 1) := by rw [htk.2.1, row_at]
    have ho : j_Day_isOpen 3 (nI t) M = some (if (gi M 327 (41 + 3 * t + 2)).toInt < 0 then 1 else 0, M) := by
      have := day_isOpen (d := 3) (M := M) (show t < 8 by omega) htk.2.2
      rw [row_at] at this
      exact this
    by_cases hk : 0 ≤ y.toInt ∧ y.toInt ≤ 5
    · by_cases hf : 1 ≤ z.toInt ∧ z.toInt ≤ 60
      · by_cases hop : (gi M 327 (41 + 3 * t + 2)).toInt < 0
        · obtain ⟨Mk, k1, k2⟩ := keep_day hR
          obtain ⟨Mn, m1, m2⟩ := notes_row (M1 := uI (uI Mk 9 t y) 10 t z) hR (by rw [gi_uIa _ _ _ _ _ _ (by omega), gi_uIa _ _ _ _ _ _ (by omega)]; exact k2 326 3 (by omega))
          have r0' : ∀ i, gi (uI (uI Mk 9 t y) 10 t z) 327 i = gi M 327 i := fun i => by rw [gi_uIa _ _ _ _ _ _ (by omega), gi_uIa _ _ _ _ _ _ (by omega), k2 327 i (by omega)]
          have r0 : ∀ i, gi Mn 327 i = gi M 327 i := fun i => by rw [m2 327 i (by omega) (by omega), r0']
          have r4 : gi Mk 10 t = gi M 327 (41 + 3 * t + 1) := by rw [k2 10 t (by omega)]; exact r2
          refine ⟨gi M 327 (41 + 3 * t + 1), uI (uI Mk 9 t y) 10 t z, uI (uI Mn 327 (41 + 3 * t) y) 327 (41 + 3 * t + 1) z, ?_, ?_, ?_⟩
          · simp only [j_Fc_demand, hasTake_yes hc0 (by omega) ht, bd_some, z1, z0, if_false, isKind_eq, hk, hf, isTakeFeet_eq, and_self, if_true, gd_t hin, hix, lq_eq, ho, hop, k1, sq_eq, r4]
          · simp only [j_Md_demand, isTake_yes ((r0' 5).trans hm0) (by omega) ht, bd_some, z1, z0, if_false, md_in05, md_in60, hk, hf, and_self, if_true, md_isOpen (show t < 8 by omega), r0', hop, m1, i3, nI_1, gd_t (inb_nI (show 41 + 3 * t < 89 by omega) (by omega)), gd_t (inb_nI (show 41 + 3 * t + 1 < 89 by omega) (by omega)), ix_nI (show 41 + 3 * t < 2 ^ 31 by omega), ix_nI (show 41 + 3 * t + 1 < 2 ^ 31 by omega), sq_eq, lq_eq, r0]
          · exact act_rel hR ⟨Mk, k1, fun a i ha => by rw [gi_uIa _ _ _ _ _ _ (by omega), gi_uIa _ _ _ _ _ _ (by omega)]⟩ (dr_tfeet ht d2.1 (dr_tkind ht d2.1 (dr_keep d2.1 (fun b i h1 h2 => k2 b i (by omega)) d1))) ⟨Mn, m1, fun a i ha => by rw [gi_uIa _ _ _ _ _ _ (by omega), gi_uIa _ _ _ _ _ _ (by omega)]⟩ (fun i _ => row_u (row_u (row_0 r0)) i) (iv_tfeet ht hf (iv_tkind ht hk d2))
        · refine ⟨-1000002, M, M, ?_, ?_, hR⟩
          · simp only [j_Fc_demand, hasTake_yes hc0 (by omega) ht, bd_some, z1, z0, if_false, isKind_eq, hk, hf, isTakeFeet_eq, and_self, if_true, ho, hop]
          · simp only [j_Md_demand, isTake_yes hm0 (by omega) ht, bd_some, z1, z0, if_false, md_in05, md_in60, hk, hf, and_self, if_true, md_isOpen (show t < 8 by omega), hop]
      · refine ⟨-1000001, M, M, ?_, ?_, hR⟩
        · simp only [j_Fc_demand, hasTake_yes hc0 (by omega) ht, bd_some, z1, z0, if_false, isKind_eq, hk, hf, isTakeFeet_eq, and_self, if_true]
        · simp only [j_Md_demand, isTake_yes hm0 (by omega) ht, bd_some, z1, z0, if_false, md_in05, md_in60, hk, hf, and_self, if_true]
    · refine ⟨-1000001, M, M, ?_, ?_, hR⟩
      · simp only [j_Fc_demand, hasTake_yes hc0 (by omega) ht, bd_some, z1, z0, if_false, isKind_eq, hk, if_true]
      · simp only [j_Md_demand, isTake_yes hm0 (by omega) ht, bd_some, z1, z0, if_false, md_in05, hk, if_true]
theorem s_again (x : Int32) : Sim (j_Fc_again x) (j_Md_again x) := by
  intro M h
  have hR := h
  obtain ⟨nc, nt, nr, d1, d2⟩ := h.1
  have hc0 : gi M 3 1 = nI nt := d1.1.2.1
  have hm0 : gi M 327 5 = nI nt := d2.2.1.2.1
  have n8 : nt ≤ 8 := d2.1.2.1
  rcases there_or (n := nt) x (by omega) with hx | ⟨t, ht, rfl⟩
  · refine ⟨-1000001, M, M, ?_, ?_, hR⟩
    · simp only [j_Fc_again, hasTake_no hc0 (by omega) hx, bd_some, z0, if_true]
    · simp only [j_Md_again, isTake_no hm0 (by omega) hx, bd_some, z0, if_true]
  · have htk := d1.2.2.2.2.2.1 t ht
    have hin := inb_nI (show t < 8 by omega) (show 8 < 2 ^ 31 by omega)
    have hix := ix_nI (show t < 2 ^ 31 by omega)
    have r2 : gi M 10 t = gi M 327 (41 + 3 * t + 1) := by rw [htk.2.1, row_at]
    have hnn := htk.2.2
    rw [row_at] at hnn
    have ho : j_Day_isOpen 3 (nI t) M = some (if (gi M 327 (41 + 3 * t + 2)).toInt < 0 then 1 else 0, M) := day_isOpen (d := 3) (M := M) (show t < 8 by omega) hnn
    by_cases hop : (gi M 327 (41 + 3 * t + 2)).toInt < 0
    · refine ⟨-1000002, M, M, ?_, ?_, hR⟩
      · simp only [j_Fc_again, hasTake_yes hc0 (by omega) ht, bd_some, z1, if_false, ho, hop, if_true]
      · simp only [j_Md_again, isTake_yes hm0 (by omega) ht, bd_some, z1, if_false, md_isOpen (show t < 8 by omega), hop, if_true]
    · have hsame : gi M 11 t = gi M 327 (41 + 3 * t + 2) := by
        rcases hnn with ⟨q1, q2⟩ | ⟨q1, q2⟩
        · rw [q2, tm1] at hop; omega
        · exact q1
      obtain ⟨Mk, k1, k2⟩ := keep_day hR
      have r4 : gi Mk 10 t = gi M 327 (41 + 3 * t + 1) := by rw [k2 10 t (by omega)]; exact r2
      have r5 : gi Mk 11 t = gi M 327 (41 + 3 * t + 2) := by rw [k2 11 t (by omega)]; exact hsame
      have f8 : gi Mk 3 6 = rowM M 327 0 8 := by rw [k2 3 6 (by omega)]; exact d1.2.2.1.2.2.1
      have f9 : gi Mk 3 7 = rowM M 327 0 9 := by rw [k2 3 7 (by omega)]; exact d1.2.2.1.2.2.2.1
      rw [row_at] at f8 f9
      obtain ⟨M1, hM1⟩ : ∃ M1, M1 = uI (uI (uI Mk 3 6 (gi M 327 8 - gi M 327 (41 + 3 * t + 1))) 3 7 (gi M 327 9 + gi M 327 (41 + 3 * t + 1))) 11 t (-1000000) := ⟨_, rfl⟩
      have fr1 : ∀ a i, (a < 3 ∨ 14 < a) → gi M1 a i = gi Mk a i := fun a i ha => by rw [hM1, gi_uIa _ _ _ _ _ _ (by omega), gi_uIa _ _ _ _ _ _ (by omega), gi_uIa _ _ _ _ _ _ (by omega)]
      obtain ⟨Mn, m1, m2⟩ := notes_row (M1 := M1) hR (by rw [fr1 326 3 (by omega)]; exact k2 326 3 (by omega))
      have r0' : ∀ i, gi M1 327 i = gi M 327 i := fun i => by rw [fr1 327 i (by omega), k2 327 i (by omega)]
      have r0 : ∀ i, gi Mn 327 i = gi M 327 i := fun i => by rw [m2 327 i (by omega) (by omega), r0']
      refine ⟨gi M 327 (41 + 3 * t + 2), M1, uI (uI (uI Mn 327 (41 + 3 * t + 2) (-1)) 327 8 (gi M 327 8 - gi M 327 (41 + 3 * t + 1))) 327 9 (gi M 327 9 + gi M 327 (41 + 3 * t + 1)), ?_, ?_, ?_⟩
      · have q1 : gi (uI Mk 3 6 (gi M 327 8 - gi M 327 (41 + 3 * t + 1))) 3 7 = gi M 327 9 := by rw [gi_uIi _ _ _ _ _ _ (by omega)]; exact f9
        have q2 : gi (uI Mk 3 6 (gi M 327 8 - gi M 327 (41 + 3 * t + 1))) 10 t = gi M 327 (41 + 3 * t + 1) := by rw [gi_uIa _ _ _ _ _ _ (by omega)]; exact r4
        simp only [j_Fc_again, hasTake_yes hc0 (by omega) ht, bd_some, z1, z0, if_false, ho, hop, if_true, k1, gd_t hin, hix, lq_eq, r5, j_Day_reopen, Nat.reduceAdd, r4, f8, sq_eq, q1, q2, hM1]
      · have e1 : gi (uI Mn 327 (41 + 3 * t + 2) (-1)) 327 8 = gi M 327 8 := by rw [gi_uIi _ _ _ _ _ _ (by omega)]; exact r0 8
        have e2 : gi (uI Mn 327 (41 + 3 * t + 2) (-1)) 327 (41 + 3 * t + 1) = gi M 327 (41 + 3 * t + 1) := by rw [gi_uIi _ _ _ _ _ _ (by omega)]; exact r0 _
        have e3 : gi (uI (uI Mn 327 (41 + 3 * t + 2) (-1)) 327 8 (gi M 327 8 - gi M 327 (41 + 3 * t + 1))) 327 9 = gi M 327 9 := by rw [gi_uIi _ _ _ _ _ _ (by omega), gi_uIi _ _ _ _ _ _ (by omega)]; exact r0 9
        have e4 : gi (uI (uI Mn 327 (41 + 3 * t + 2) (-1)) 327 8 (gi M 327 8 - gi M 327 (41 + 3 * t + 1))) 327 (41 + 3 * t + 1) = gi M 327 (41 + 3 * t + 1) := by rw [gi_uIi _ _ _ _ _ _ (by omega)]; exact e2
        simp only [j_Md_again, isTake_yes ((r0' 5).trans hm0) (by omega) ht, bd_some, z1, z0, if_false, md_isOpen (show t < 8 by omega), r0', hop, if_true, m1, i3, nI_1, nI_p2, gd_t (inb_nI (show 41 + 3 * t + 2 < 89 by omega) (by omega)), gd_t (inb_nI (show 41 + 3 * t + 1 < 89 by omega) (by omega)), ix_nI (show 41 + 3 * t + 2 < 2 ^ 31 by omega), ix_nI (show 41 + 3 * t + 1 < 2 ^ 31 by omega), sq_eq, lq_eq, r0, e1, e2, e3, e4]
      · have hD : DR M1 3 (fu (fu (fu (rowM M 327 0) 8 (gi M 327 8 - gi M 327 (41 + 3 * t + 1))) 9 (gi M 327 9 + gi M 327 (41 + 3 * t + 1))) (41 + 3 * t + 2) (-1)) nc nt nr := by
          rw [hM1]
          exact dr_tcan ht (Or.inl ⟨rfl, rfl⟩) d2.1 (dr_waste d2.1 (dr_exposed d2.1 (dr_keep d2.1 (fun b i h1 h2 => k2 b i (by omega)) d1)))
        refine act_rel hR ⟨Mk, k1, fun a i ha => fr1 a i (by omega)⟩ (dr_row d2.1 (g := fu (fu (fu (rowM M 327 0) (41 + 3 * t + 2) (-1)) 8 (gi M 327 8 - gi M 327 (41 + 3 * t + 1))) 9 (gi M 327 9 + gi M 327 (41 + 3 * t + 1))) (fun i hi => by clear hD; unfold fu; grind) hD) ⟨Mn, m1, fun a i ha => by rw [gi_uIa _ _ _ _ _ _ (by omega), gi_uIa _ _ _ _ _ _ (by omega), gi_uIa _ _ _ _ _ _ (by omega)]⟩ (fun i _ => row_u (row_u (row_u (row_0 r0))) i) (iv_misc (by omega) (iv_misc (by omega) (iv_tcan ht ⟨by rw [tm1]; omega, by rw [tm1]; omega⟩ d2)))
