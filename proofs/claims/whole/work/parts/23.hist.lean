def shM (M : Mem) (n : Nat) : Mem := (fun b j => if b = 329 ∧ j < n then M.1 329 (j + 89) else M.1 b j, M.2)
theorem gi_shM (M : Mem) (n b j : Nat) : gi (shM M n) b j = if b = 329 ∧ j < n then gi M 329 (j + 89) else gi M b j := rfl
theorem shM_zero {M : Mem} : shM M 0 = M := by
  apply Prod.ext
  · funext b j
    show (if b = 329 ∧ j < 0 then M.1 329 (j + 89) else M.1 b j) = M.1 b j
    rw [if_neg (fun h => by omega)]
  · rfl
theorem shM_succ {M : Mem} {n : Nat} : uI (shM M n) 329 n (gi (shM M n) 329 (n + 89)) = shM M (n + 1) := by
  have h1 : gi (shM M n) 329 (n + 89) = M.1 329 (n + 89) := by rw [gi_shM, if_neg (fun h => by omega)]; rfl
  rw [h1]
  apply Prod.ext
  · funext b j
    show (if b = 329 ∧ j = n then M.1 329 (n + 89) else if b = 329 ∧ j < n then M.1 329 (j + 89) else M.1 b j) = if b = 329 ∧ j < n + 1 then M.1 329 (j + 89) else M.1 b j
    by_cases hb : b = 329
    · by_cases hj : j = n
      · rw [if_pos ⟨hb, hj⟩, if_pos ⟨hb, by omega⟩, hj]
      · rw [if_neg (fun h => hj h.2)]
        by_cases h2 : j < n
        · rw [if_pos ⟨hb, h2⟩, if_pos ⟨hb, by omega⟩]
        · rw [if_neg (fun h => h2 h.2), if_neg (fun h => h2 (by omega))]
    · rw [if_neg (fun h => hb h.1), if_neg (fun h => hb h.1), if_neg (fun h => hb h.1)]
  · rfl
theorem shift_loop (M : Mem) : ∀ (m k n : Nat), k + m = 1691 → m < n → Md_notes_h11 n (nI k) (shM M k) = Md_notes_b49 (uI (shM M 1691) 326 3 (gi (shM M 1691) 326 3 - 1)) := by
  have e : (1691 : Int32) = nI 1691 := rfl
  have e2 : (89 : Int32) = nI 89 := rfl
  intro m
  induction m with
  | zero =>
    intro k n hk hn
    obtain ⟨n, rfl⟩ : ∃ n', n = n' + 1 := ⟨n - 1, by omega⟩
    have : k = 1691 := by omega
    subst this
    rw [Md_notes_h11, e, if_neg (by rw [nI_ltI (by omega) (by omega)]; omega), sq_eq]
  | succ m ih =>
    intro k n hk hn
    obtain ⟨n, rfl⟩ : ∃ n', n = n' + 1 := ⟨n - 1, by omega⟩
    rw [Md_notes_h11, e, if_pos (by rw [nI_ltI (by omega) (by omega)]; omega), e2, nI_add, gd_t (inb_nI (by omega) (by omega)), gd_t (inb_nI (by omega) (by omega)), ix_nI (by omega), ix_nI (by omega), sq_eq, lq_eq, nI_1, shM_succ]
    exact ih (k + 1) n (by omega) (by omega)
theorem nI_mul89 {a : Nat} : (89 : Int32) * nI a = nI (89 * a) := by
  have e2 : (89 : Int32) = nI 89 := rfl
  rw [e2, pk_mul]
theorem notes_b49 {M : Mem} {a : Nat} (ha : a < 20) (h : gi M 326 3 = nI a) : Md_notes_b49 M = some ((), uI (cpyM M 327 0 329 (89 * a) 89) 326 3 (nI (a + 1))) := by
  have hl1 : ln 327 = 89 := by decide +kernel
  have hl2 : ln 329 = 1780 := by decide +kernel
  have hc := copies_ok (a0 := 327) (p := 0) (a2 := 329) (q := 89 * a) M (by decide) (by rw [hl1]; omega) (by rw [hl2]; omega) (by rw [hl1]; omega) (by rw [hl2]; omega)
  have e0 : (0 : Int32) = nI 0 := rfl
  simp only [Md_notes_b49, h, nI_mul89]
  rw [e0, hc, bd_some, sq_eq, gi_cpyM, if_neg (by omega), h, nI_1]
theorem notes_ok {M : Mem} {a : Nat} (ha : a ≤ 20) (h : gi M 326 3 = nI a) : ∃ Mn, j_Md_notes M = some ((), Mn) ∧ (∀ b i, b ≠ 329 → (b ≠ 326 ∨ i ≠ 3) → gi Mn b i = gi M b i) ∧ gi Mn 326 3 = nI (min (a + 1) 20) ∧ (∀ i, i < 89 → gi Mn 329 (89 * (min (a + 1) 20 - 1) + i) = gi M 327 i) ∧ (∀ j, j < min (a + 1) 20 - 1 → ∀ i, i < 89 → gi Mn 329 (89 * j + i) = gi M 329 (89 * (j + (a + 1 - min (a + 1) 20)) + i)) := by
  have e20 : (20 : Int32) = nI 20 := rfl
  by_cases h20 : a = 20
  · subst h20
    have hs := shift_loop M 1691 0 FU rfl (by decide)
    rw [shM_zero] at hs
    have hg : gi (shM M 1691) 326 3 = nI 20 := by rw [gi_shM, if_neg (by omega)]; exact h
    have h19 : (nI 20 - 1 : Int32) = nI 19 := by decide
    rw [hg, h19] at hs
    have hb := notes_b49 (M := uI (shM M 1691) 326 3 (nI 19)) (a := 19) (by omega) (gi_uIs _ _ _ _)
    have hfin := hs.trans hb
    have hfin2 : j_Md_notes M = Md_notes_h11 FU (nI 0) M := by
      simp only [j_Md_notes, h, e20, if_true, lq_eq]
      rfl
    rw [← hfin2] at hfin
    refine ⟨_, hfin, ?_, ?_, ?_, ?_⟩
    · intro b i hb1 hb2
      have hh : ¬ (b = 326 ∧ i = 3) := by omega
      rw [gi_uI, if_neg hh, gi_cpyM, if_neg (by omega), gi_uI, if_neg hh, gi_shM, if_neg (by omega)]
    · rw [gi_uIs]; rfl
    · intro i hi
      rw [gi_uIa _ _ _ _ _ _ (by omega), gi_cpyM, if_pos (by omega), gi_uIa _ _ _ _ _ _ (by omega), gi_shM, if_neg (by omega)]
      exact congrArg (gi M 327) (by omega)
    · intro j hj i hi
      rw [gi_uIa _ _ _ _ _ _ (by omega), gi_cpyM, if_neg (by omega), gi_uIa _ _ _ _ _ _ (by omega), gi_shM, if_pos (by omega)]
      exact congrArg (gi M 329) (by omega)
  · have hlt : a < 20 := by omega
    have hfin : j_Md_notes M = some ((), uI (cpyM M 327 0 329 (89 * a) 89) 326 3 (nI (a + 1))) := by
      simp only [j_Md_notes, h, e20]
      rw [if_neg (by rw [nI_eq (by omega) (by omega)]; exact h20)]
      exact notes_b49 hlt h
    refine ⟨_, hfin, ?_, ?_, ?_, ?_⟩
    · intro b i hb1 hb2
      have hh : ¬ (b = 326 ∧ i = 3) := by omega
      rw [gi_uI, if_neg hh, gi_cpyM, if_neg (by omega)]
    · rw [gi_uIs]; congr 1; omega
    · intro i hi
      rw [gi_uIa _ _ _ _ _ _ (by omega), gi_cpyM, if_pos (by omega)]
      exact congrArg (gi M 327) (by omega)
    · intro j hj i hi
      rw [gi_uIa _ _ _ _ _ _ (by omega), gi_cpyM, if_neg (by omega)]
      exact congrArg (gi M 329) (by omega)
/-- an act: the day is kept, then changed; now likewise -/
theorem act_rel {M M1 M2 : Mem} {g : Nat → Int32} {nc nt nr : Nat} (hR : Rel M) (hC : ∃ Mk, j_Hist_keep 3 M = some ((), Mk) ∧ ∀ a i, (a < 3 ∨ (14 < a ∧ (a < 15 ∨ 26 < a) ∧ a < 294) ∨ 326 ≤ a) → gi M1 a i = gi Mk a i) (hD : DR M1 3 g nc nt nr) (hN : ∃ Mn, j_Md_notes M1 = some ((), Mn) ∧ ∀ a i, (a < 294 ∨ a = 326 ∨ (329 ≤ a ∧ a ≤ 332)) → gi M2 a i = gi Mn a i) (hg : ∀ i, i < 89 → gi M2 327 i = g i) (hI : Iv g nc nt nr) : Rel M2 := by
  obtain ⟨⟨nc0, nt0, nr0, hD0, hI0⟩, hT, ⟨a, q, ha, hq, p1, p2, p3, p4⟩, hG⟩ := hR
  obtain ⟨Mk, k1, k2⟩ := hC
  obtain ⟨Mk', k3, k4, k5, k6, k7, k8⟩ := keep_ok ha hq p3 p1
  have : Mk' = Mk := by rw [k3] at k1; cases k1; rfl
  subst this
  have p2' : gi M1 326 3 = nI a := by rw [k2 326 3 (by omega), k4 326 3 (by omega) (by omega)]; exact p2
  obtain ⟨Mn, n1, n2⟩ := hN
  obtain ⟨Mn', n3, n4, n5, n6, n7⟩ := notes_ok ha p2'
  have : Mn' = Mn := by rw [n3] at n1; cases n1; rfl
  subst this
  have hold : ∀ b i, (b < 3 ∨ (26 < b ∧ b < 294)) → b ≠ 27 → (b < 29 + 12 * q ∨ 29 + 12 * q + 11 < b) → gi M2 b i = gi M b i := fun b i h1 h2 h3 => by
    rw [n2 b i (by omega), n4 b i (by omega) (by omega), k2 b i (by omega), k4 b i h2 h3]
  have hmod : ∀ b i, (b = 326 ∧ i ≠ 3) ∨ (330 ≤ b ∧ b ≤ 332) → gi M2 b i = gi M b i := fun b i h1 => by
    rw [n2 b i (by omega), n4 b i (by omega) (by omega), k2 b i (by omega), k4 b i (by omega) (by omega)]
  refine ⟨⟨nc, nt, nr, ?_, ?_⟩, ?_, ?_, ?_⟩
  · refine hD.cong hI.1 (fun i _ => ?_) (fun j hj1 hj2 i _ => ?_) (fun i hi => ?_)
    · rw [n2 3 i (by omega), n4 3 i (by omega) (by omega)]
    · rw [n2 _ i (by omega), n4 _ i (by omega) (by omega)]
    · show gi M2 327 (0 + i) = g i
      rw [Nat.zero_add]; exact hg i hi
  · exact hI.cong (fun i hi => by show gi M2 327 (0 + i) = g i; rw [Nat.zero_add]; exact hg i hi)
  · obtain ⟨⟨n, t1, t2, t3, t4⟩, t5⟩ := hT
    refine ⟨⟨n, t1, by rw [hold 1 1 (by omega) (by omega) (by omega)]; exact t2, by rw [hmod 326 7 (by omega)]; exact t3, fun i hi => ?_⟩, ?_⟩
    · rw [hold 2 i (by omega) (by omega) (by omega), hmod 332 i (by omega)]; exact t4 i hi
    · rw [hold 1 3 (by omega) (by omega) (by omega), hmod 326 14 (by omega)]; exact t5
  · have hmn : min (a + 1) 20 ≤ 20 := by omega
    refine ⟨min (a + 1) 20, (q + 1) % 20, hmn, Nat.mod_lt _ (by omega), ?_, ?_, ?_, fun j hj => ?_⟩
    · rw [n2 27 2 (by omega), n4 27 2 (by omega) (by omega), k2 27 2 (by omega)]; exact k6
    · rw [n2 326 3 (by omega)]; exact n5
    · rw [n2 27 1 (by omega), n4 27 1 (by omega) (by omega), k2 27 1 (by omega)]; exact k5
    · by_cases hlast : j = min (a + 1) 20 - 1
      · have hslot : ((q + 1) % 20 + 20 - min (a + 1) 20 + j) % 20 = q := by omega
        rw [hslot, hlast]
        refine ⟨nc0, nt0, nr0, hD0.cong hI0.1 (fun i hi => ?_) (fun j hj1 hj2 i hi => ?_) (fun i hi => ?_), hI0.cong (fun i hi => ?_)⟩
        · rw [n2 _ i (by omega), n4 _ i (by omega) (by omega), k2 _ i (by omega)]; exact k7 i hi
        · rw [n2 _ i (by omega), n4 _ i (by omega) (by omega), k2 _ i (by omega)]; exact k8 j hj1 hj2 i hi
        · show gi M2 329 _ = gi M 327 (0 + i)
          rw [n2 329 _ (by omega), n6 i hi, Nat.zero_add, k2 327 i (by omega), k4 327 i (by omega) (by omega)]
        · show gi M2 329 _ = gi M 327 (0 + i)
          rw [n2 329 _ (by omega), n6 i hi, Nat.zero_add, k2 327 i (by omega), k4 327 i (by omega) (by omega)]
      · have hj2 : j < min (a + 1) 20 - 1 := by omega
        have hold2 := p4 (j + (a + 1 - min (a + 1) 20)) (by omega)
        have hslot : ((q + 1) % 20 + 20 - min (a + 1) 20 + j) % 20 = (q + 20 - a + (j + (a + 1 - min (a + 1) 20))) % 20 := by omega
        have hneq : (q + 20 - a + (j + (a + 1 - min (a + 1) 20))) % 20 ≠ q := by omega
        have hltm := Nat.mod_lt (q + 20 - a + (j + (a + 1 - min (a + 1) 20))) (show 0 < 20 by omega)
        rw [hslot]
        refine hold2.cong (fun j2 hj3 i => hold _ i (by omega) (by omega) (by omega)) (fun i hi => ?_)
        rw [n2 329 _ (by omega), n7 j hj2 i hi, k2 329 _ (by omega), k4 329 _ (by omega) (by omega)]
  · intro k hk
    rcases hG k hk with ⟨g1, g2⟩ | ⟨g1, g2⟩
    · exact Or.inl ⟨by rw [hmod 331 k (by omega)]; exact g1, by rw [hold _ 0 (by omega) (by omega) (by omega)]; exact g2⟩
    · exact Or.inr ⟨by rw [hmod 331 k (by omega)]; exact g1, g2.cong (fun j hj i => hold _ i (by omega) (by omega) (by omega)) (fun i _ => hmod 330 _ (by omega))⟩
