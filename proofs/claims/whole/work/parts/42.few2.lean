theorem least_ex {B : Nat → Prop} {s : Nat} : ∀ n, Pt B n s → ∃ m, Least B s m := by
  intro n
  induction n using Nat.strongRecOn with
  | ind n ih =>
    intro h
    by_cases hs : ∃ m, m < n ∧ Pt B m s
    · obtain ⟨m, h1, h2⟩ := hs
      exact ih m h1 h2
    · exact ⟨n, h, fun m hm => by
        apply Classical.byContradiction
        intro hn
        exact hs ⟨m, by omega, hm⟩⟩
noncomputable def Wf (B : Nat → Prop) (s : Nat) : Nat := Classical.epsilon (fun n => Least B s n)
theorem wf_least {B : Nat → Prop} (hB : ∀ k, k < 8 → B (2 ^ k)) {s : Nat} (hs : s < 256) : Least B s (Wf B s) := by
  obtain ⟨n, _, h⟩ := pt_some hB 8 s (Nat.le_refl 8) hs
  have hx := least_ex n h
  exact Classical.epsilon_spec hx
theorem wf_eq {B : Nat → Prop} (hB : ∀ k, k < 8 → B (2 ^ k)) {s n : Nat} (hs : s < 256) (h : Least B s n) : Wf B s = n := least_uniq (wf_least hB hs) h
theorem wf_zero {B : Nat → Prop} (hB : ∀ k, k < 8 → B (2 ^ k)) : Wf B 0 = 0 := wf_eq hB (by omega) ⟨rfl, fun _ _ => Nat.zero_le _⟩
/-- isBatch -/
theorem isB_m {s : Nat} {M : Mem} (hs : s < 256) (hg : ∀ i, s.testBit i = true → gi M 327 (65 + 3 * i + 2) = 0 ∨ gi M 327 (65 + 3 * i + 2) = 1) : ∀ m k q, k + m = 8 → m < q → Md_isBatch_h7 q (nI s) (sumS (fun i => gi M 327 (65 + 3 * i + 1)) s k) (nI (famW (fun i => gi M 327 (65 + 3 * i + 2)) s k)) (nI k) M = (if (nI s &&& (nI s - 1)) = 0 then some (1, M) else if nI (famW (fun i => gi M 327 (65 + 3 * i + 2)) s 8) = 3 then some (0, M) else if gi M 327 2 < sumS (fun i => gi M 327 (65 + 3 * i + 1)) s 8 then some (0, M) else some (1, M)) := by
  have e8 : (8 : Int32) = nI 8 := rfl
  have s0 : ((1 : Int32) <<< ((0 : Int32) &&& 31)) = nI 1 := by decide
  have s1 : ((1 : Int32) <<< ((1 : Int32) &&& 31)) = nI 2 := by decide
  have s2 : ¬ (1 : Int32) = 0 := by decide
  intro m
  induction m with
  | zero =>
    intro k q hk hm
    obtain ⟨q, rfl⟩ : ∃ z, q = z + 1 := ⟨q - 1, by omega⟩
    have hge : ¬ nI k < nI 8 := nI_nlt (by omega) (by omega)
    simp only [Md_isBatch_h7, Md_isBatch_b105, e8, hge, if_false]
    rw [show k = 8 by omega]
  | succ m ih =>
    intro k q hk hm
    obtain ⟨q, rfl⟩ : ∃ z, q = z + 1 := ⟨q - 1, by omega⟩
    have hlt : nI k < nI 8 := nI_lt (by omega) (by omega)
    have ihk := ih (k + 1) q (by omega) (by omega)
    by_cases hb : s.testBit k = true
    · have g3 := hg k hb
      rcases g3 with g3 | g3
      · simp only [sumS, famW, hb, g3, if_true] at ihk
        simp only [Md_isBatch_h7, Md_isBatch_b42, Md_isBatch_b74, e8, hlt, if_true, md_has hs (show k < 8 by omega), bd_some, hb, z1, if_false, i65, nI_1, nI_p2, gd_t (inb_nI (show 65 + 3 * k + 1 < 89 by omega) (by omega)), ix_nI (show 65 + 3 * k + 1 < 2 ^ 31 by omega), gd_t (inb_nI (show 65 + 3 * k + 2 < 89 by omega) (by omega)), ix_nI (show 65 + 3 * k + 2 < 2 ^ 31 by omega), lq_eq, g3, s0, nI_or]
        exact ihk
      · simp only [sumS, famW, hb, g3, if_true, s2, if_false] at ihk
        simp only [Md_isBatch_h7, Md_isBatch_b42, Md_isBatch_b74, e8, hlt, if_true, md_has hs (show k < 8 by omega), bd_some, hb, z1, if_false, i65, nI_1, nI_p2, gd_t (inb_nI (show 65 + 3 * k + 1 < 89 by omega) (by omega)), ix_nI (show 65 + 3 * k + 1 < 2 ^ 31 by omega), gd_t (inb_nI (show 65 + 3 * k + 2 < 89 by omega) (by omega)), ix_nI (show 65 + 3 * k + 2 < 2 ^ 31 by omega), lq_eq, g3, s1, nI_or]
        exact ihk
    · have hb' : s.testBit k = false := by simpa using hb
      simp only [sumS, famW, hb', Bool.false_eq_true, if_false, Nat.or_zero] at ihk
      simp only [Md_isBatch_h7, Md_isBatch_b42, Md_isBatch_b74, e8, hlt, if_true, md_has hs (show k < 8 by omega), bd_some, hb', Bool.false_eq_true, z0, if_false, i65, nI_1, lq_eq, or_0]
      exact ihk
theorem isBatch_m {s nr : Nat} {M : Mem} (hs : s < 256) (h0 : s ≠ 0) (hg : ∀ i, s.testBit i = true → gi M 327 (65 + 3 * i + 2) = 0 ∨ gi M 327 (65 + 3 * i + 2) = 1) : (Bt (gi M 327 2) (fun i => gi M 327 (65 + 3 * i + 1)) (fun i => gi M 327 (65 + 3 * i + 2)) s → j_Md_isBatch (nI s) M = some (1, M)) ∧ (¬ Bt (gi M 327 2) (fun i => gi M 327 (65 + 3 * i + 1)) (fun i => gi M 327 (65 + 3 * i + 2)) s → j_Md_isBatch (nI s) M = some (0, M)) := by
  have key := isB_m hs hg 8 0 FU (by omega) (by unfold FU; omega)
  have start : j_Md_isBatch (nI s) M = Md_isBatch_h7 FU (nI s) (sumS (fun i => gi M 327 (65 + 3 * i + 1)) s 0) (nI (famW (fun i => gi M 327 (65 + 3 * i + 2)) s 0)) (nI 0) M := by
    simp only [j_Md_isBatch, lq_eq]; rfl
  rw [start, key]
  have hw := famW_le (fun i => gi M 327 (65 + 3 * i + 2)) s 8
  have e3 : nI (famW (fun i => gi M 327 (65 + 3 * i + 2)) s 8) = 3 ↔ (famS (fun i => gi M 327 (65 + 3 * i + 2)) 0 s ∧ famS (fun i => gi M 327 (65 + 3 * i + 2)) 1 s) := by
    rw [← famW_3 hg]
    have : (3 : Int32) = nI 3 := rfl
    rw [this, nI_eq (by omega) (by omega)]
  have e1 : (nI s &&& (nI s - 1)) = 0 ↔ ∃ k, s = 2 ^ k := by
    rw [single_val s hs]
    constructor
    · rintro (q | q)
      · exact absurd q h0
      · exact ⟨_, q⟩
    · rintro ⟨k, q⟩
      right
      have hk : k < 8 := by
        apply Classical.byContradiction
        intro hn
        have := Nat.pow_le_pow_right (show 0 < 2 by omega) (show 8 ≤ k by omega)
        omega
      rw [q, one_low k hk]
  constructor
  · rintro (⟨k, q⟩ | ⟨q1, q2⟩)
    · rw [if_pos (e1.mpr ⟨k, q⟩)]
    · by_cases c1 : (nI s &&& (nI s - 1)) = 0
      · rw [if_pos c1]
      · rw [if_neg c1, if_neg (fun c => q1 (e3.mp c)), if_neg q2]
  · intro hn
    have c1 : ¬ (nI s &&& (nI s - 1)) = 0 := fun c => hn (Or.inl (e1.mp c))
    rw [if_neg c1]
    by_cases c2 : nI (famW (fun i => gi M 327 (65 + 3 * i + 2)) s 8) = 3
    · rw [if_pos c2]
    · rw [if_neg c2]
      by_cases c3 : gi M 327 2 < sumS (fun i => gi M 327 (65 + 3 * i + 1)) s 8
      · rw [if_pos c3]
      · exact absurd (Or.inr ⟨fun c => c2 (e3.mpr c), c3⟩) hn
/-- the reference's search for the fewest -/
theorem few_in {K : Int32 → Int32 → Mem → Option (Int32 × Mem)} {x : Int32} {s : Nat} {M0 : Mem} {B : Nat → Prop} (hBdef : B = Bt (gi M0 327 2) (fun i => gi M0 327 (65 + 3 * i + 1)) (fun i => gi M0 327 (65 + 3 * i + 2))) (hs : s < 256) (h0 : s ≠ 0) (hg : ∀ i, s.testBit i = true → gi M0 327 (65 + 3 * i + 2) = 0 ∨ gi M0 327 (65 + 3 * i + 2) = 1) (hW : ∀ v, v < s → gi M0 338 v = nI (Wf B v) ∧ Wf B v ≤ 8) : ∀ u q b M, u < q → sb u s → b ≤ 9 → (∀ a i, (a ≠ 338 ∨ i ≠ s) → gi M a i = gi M0 a i) → gi M 338 s = nI b → ∃ M' b', Md_fewest_h36 K q x (nI s) (nI u) M = K x (nI (s + 1)) M' ∧ (∀ a i, (a ≠ 338 ∨ i ≠ s) → gi M' a i = gi M0 a i) ∧ gi M' 338 s = nI b' ∧ b' ≤ b ∧ (∀ v, sb v s → v ≠ 0 → v ≤ u → B v → b' ≤ Wf B (s ^^^ v) + 1) ∧ (b' = b ∨ ∃ v, sb v s ∧ v ≠ 0 ∧ B v ∧ b' = Wf B (s ^^^ v) + 1) := by
  intro u
  induction u using Nat.strongRecOn with
  | ind u ih =>
    intro q b M hq hu hb hM hMs
    obtain ⟨q, rfl⟩ : ∃ z, q = z + 1 := ⟨q - 1, by omega⟩
    by_cases hu0 : u = 0
    · subst hu0
      have c0 : ¬ (0 : Int32) < nI 0 := by decide
      refine ⟨M, b, ?_, hM, hMs, Nat.le_refl _, fun v _ h1 h2 _ => absurd (Nat.le_zero.mp h2) h1, Or.inl rfl⟩
      simp only [Md_fewest_h36, c0, if_false, lq_eq, nI_1]
    · have hle := sb_le hu
      have c0 : (0 : Int32) < nI u := nI_lt (a := 0) (by omega) (by omega)
      have hx := xor_lt hu hu0
      have hnx : (u - 1) &&& s < u := by have := Nat.and_le_left (n := u - 1) (m := s); omega
      have hWx := hW (s ^^^ u) hx
      have hMx : gi M 338 (s ^^^ u) = nI (Wf B (s ^^^ u)) := by rw [hM 338 _ (Or.inr (by omega))]; exact hWx.1
      have is1 := inb_nI (show s < 256 by omega) (show 256 < 2 ^ 31 by omega)
      have is2 := ix_nI (show s < 2 ^ 31 by omega)
      have ix1 := inb_nI (show s ^^^ u < 256 by omega) (show 256 < 2 ^ 31 by omega)
      have ix2 := ix_nI (show s ^^^ u < 2 ^ 31 by omega)
      have hpred : (nI u - 1) &&& nI s = nI ((u - 1) &&& s) := by rw [nI_pred1 (by omega), nI_and]
      have hMr : ∀ i, gi M 327 i = gi M0 327 i := fun i => hM 327 i (Or.inl (by omega))
      have hib := isBatch_m (s := u) (nr := 8) (M := M) (by omega) hu0 (fun i hi => by rw [hMr]; exact hg i (sb_bit.mp hu i hi))
      simp only [hMr] at hib
      rw [← hBdef] at hib
      -- the loop goes on with b2
      have go : ∀ b2 M2, b2 ≤ b → (∀ a i, (a ≠ 338 ∨ i ≠ s) → gi M2 a i = gi M0 a i) → gi M2 338 s = nI b2 → (B u → b2 ≤ Wf B (s ^^^ u) + 1) → (b2 = b ∨ (B u ∧ b2 = Wf B (s ^^^ u) + 1)) → ∃ M' b', Md_fewest_h36 K q x (nI s) (nI ((u - 1) &&& s)) M2 = K x (nI (s + 1)) M' ∧ (∀ a i, (a ≠ 338 ∨ i ≠ s) → gi M' a i = gi M0 a i) ∧ gi M' 338 s = nI b' ∧ b' ≤ b ∧ (∀ v, sb v s → v ≠ 0 → v ≤ u → B v → b' ≤ Wf B (s ^^^ v) + 1) ∧ (b' = b ∨ ∃ v, sb v s ∧ v ≠ 0 ∧ B v ∧ b' = Wf B (s ^^^ v) + 1) := by
        intro b2 M2 g1 g2 g3 g4 g5
        obtain ⟨M', b', k1, k2, k3, k4, k5, k6⟩ := ih ((u - 1) &&& s) hnx q b2 M2 (by omega) (sb_and _ _) (by omega) g2 g3
        refine ⟨M', b', k1, k2, k3, by omega, fun v v1 v2 v3 v4 => ?_, ?_⟩
        · by_cases hvu : v = u
          · subst hvu; have := g4 v4; omega
          · exact k5 v v1 v2 (sb_next u s v hu v1 (by omega)) v4
        · rcases k6 with k6 | k6
          · rcases g5 with g5 | ⟨g5, g6⟩
            · left; omega
            · right; exact ⟨u, hu, hu0, g5, by omega⟩
          · exact Or.inr k6
      have same : ∀ a i, (a ≠ 338 ∨ i ≠ s) → gi (uI M 338 s (nI b)) a i = gi M0 a i := fun a i h => by
        rw [gi_uI, if_neg (by omega)]; exact hM a i h
      have new : ∀ w a i, (a ≠ 338 ∨ i ≠ s) → gi (uI M 338 s w) a i = gi M0 a i := fun w a i h => by
        rw [gi_uI, if_neg (by omega)]; exact hM a i h
      by_cases hlt : Wf B (s ^^^ u) + 1 < b
      · have hlt' : nI (Wf B (s ^^^ u) + 1) < nI b := nI_lt hlt (by omega)
        by_cases hBu : B u
        · obtain ⟨M', b', r1, r2⟩ := go (Wf B (s ^^^ u) + 1) (uI M 338 s (nI (Wf B (s ^^^ u) + 1))) (by omega) (new _) (gi_uIs _ _ _ _) (fun _ => Nat.le_refl _) (Or.inr ⟨hBu, rfl⟩)
          refine ⟨M', b', ?_, r2⟩
          rw [← r1]
          simp only [Md_fewest_h36, Md_fewest_b87, c0, if_true, nI_xor, gd_t ix1, ix2, hMx, nI_1, lq_eq, gd_t is1, is2, hMs, hlt', hib.1 hBu, bd_some, z1, if_false, sq_eq, hpred]
        · obtain ⟨M', b', r1, r2⟩ := go b (uI M 338 s (nI b)) (Nat.le_refl _) same (gi_uIs _ _ _ _) (fun c => absurd c hBu) (Or.inl rfl)
          refine ⟨M', b', ?_, r2⟩
          rw [← r1]
          simp only [Md_fewest_h36, Md_fewest_b81, Md_fewest_b87, c0, if_true, nI_xor, gd_t ix1, ix2, hMx, nI_1, lq_eq, gd_t is1, is2, hMs, hlt', hib.2 hBu, bd_some, z0, sq_eq, hpred]
      · have hlt' : ¬ nI (Wf B (s ^^^ u) + 1) < nI b := nI_nlt (by omega) (by omega)
        obtain ⟨M', b', r1, r2⟩ := go b (uI M 338 s (nI b)) (Nat.le_refl _) same (gi_uIs _ _ _ _) (fun c => by omega) (Or.inl rfl)
        refine ⟨M', b', ?_, r2⟩
        rw [← r1]
        simp only [Md_fewest_h36, Md_fewest_b81, Md_fewest_b87, c0, if_true, nI_xor, gd_t ix1, ix2, hMx, nI_1, lq_eq, gd_t is1, is2, hMs, hlt', if_false, sq_eq, hpred]
