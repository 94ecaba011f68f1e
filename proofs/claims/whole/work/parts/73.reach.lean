def hold (f : Nat → Int32) (nc O s : Nat) : Nat := setN (fun c => hB f nc O c s) 6
theorem hold_bit {f : Nat → Int32} {nc O s j : Nat} (hj : j < 6) : (hold f nc O s).testBit j = true ↔ Hf f nc O j s := by
  unfold hold
  rw [setN_bit, Bool.and_eq_true, hB_iff]
  simp [hj]
theorem holders_in {M : Mem} {f : Nat → Int32} {nc nt O s : Nat} (h : RM M f nc nt O) (n8 : nt ≤ 8) (hO : O < 2 ^ nt) (hs : s < 256) : ∀ m k q, k + m = 6 → m < q → Reach_holdersOf_h5 q (nI s) (nI (setN (fun c => hB f nc O c s) k)) (nI k) M = some (nI (hold f nc O s), M) := by
  have e6 : (6 : Int32) = nI 6 := rfl
  intro m
  induction m with
  | zero =>
    intro k q hk hq
    obtain ⟨q, rfl⟩ : ∃ z, q = z + 1 := ⟨q - 1, by omega⟩
    have hge : ¬ nI k < nI 6 := nI_nlt (by omega) (by omega)
    have hk6 : k = 6 := by omega
    subst hk6
    simp only [Reach_holdersOf_h5, e6, hge, if_false]
    rfl
  | succ m ih =>
    intro k q hk hq
    obtain ⟨q, rfl⟩ : ∃ z, q = z + 1 := ⟨q - 1, by omega⟩
    have hlt : nI k < nI 6 := nI_lt (by omega) (by omega)
    have ihk := ih (k + 1) q (by omega) (by omega)
    by_cases hb : hB f nc O k s = true
    · rw [← set_yes (p := fun c => hB f nc O c s) (show k < 8 by omega) hb] at ihk
      simp only [Reach_holdersOf_h5, Reach_holdersOf_b29, e6, hlt, if_true, holds_yes h n8 hO (show k < 6 by omega) hs (hB_iff.mp hb), bd_some, z1, if_false, lq_eq, nI_1]
      exact ihk
    · have hb' : hB f nc O k s = false := by simpa using hb
      rw [← set_no (p := fun c => hB f nc O c s) hb'] at ihk
      simp only [Reach_holdersOf_h5, Reach_holdersOf_b29, e6, hlt, if_true, holds_no h n8 hO (show k < 6 by omega) hs (fun z => hb (hB_iff.mpr z)), bd_some, lq_eq, nI_1]
      exact ihk
theorem holders_c {M : Mem} {f : Nat → Int32} {nc nt O s : Nat} (h : RM M f nc nt O) (n8 : nt ≤ 8) (hO : O < 2 ^ nt) (hs : s < 256) : j_Reach_holdersOf (nI s) M = some (nI (hold f nc O s), M) := holders_in h n8 hO hs 6 0 FU (by omega) (by unfold FU; omega)
def Hr (f : Nat → Int32) (nc O R : Nat) : Nat → Nat → Prop := fun c t => Hf f nc O c t ∧ R.testBit c = true
theorem hr_wo {f : Nat → Int32} {nc O R k : Nat} (hk : R.testBit k = true) : Wo (Hr f nc O R) k = Hr f nc O (R ^^^ 2 ^ k) := by
  funext c t
  apply propext
  have hsb : sb (2 ^ k) R := sb_bit.mpr (fun i hi => by
    rw [Nat.testBit_two_pow] at hi
    have : k = i := by simpa using hi
    rw [← this]; exact hk)
  unfold Wo Hr
  rw [xor_bit hsb, Nat.testBit_two_pow, Bool.and_eq_true]
  constructor
  · rintro ⟨h1, h2, h3⟩
    exact ⟨h2, h3, by simp; omega⟩
  · rintro ⟨h1, h2, h3⟩
    exact ⟨fun z => by rw [z] at h3; simp at h3, h1, h2⟩
/-- how the takes of s are put on the cans of R: t, with its first take, on one of them -/
def Qr (f : Nat → Int32) (nc O s R t : Nat) : Prop := ∃ j, j < 6 ∧ Hf f nc O j t ∧ R.testBit j = true ∧ Pf (Hr f nc O (R ^^^ 2 ^ j)) 6 0 (s ^^^ t)
theorem qr_pf {f : Nat → Int32} {nc O s R e : Nat} (he : s.testBit e = true) : Pf (Hr f nc O R) 6 0 s ↔ ∃ t, sb t s ∧ t.testBit e = true ∧ Qr f nc O s R t := by
  constructor
  · intro h
    obtain ⟨k, t, g1, g2, g3, g4, g5, g6⟩ := pf_pull 6 0 s h he
    rw [hr_wo g3.2] at g6
    exact ⟨t, g5, g4, k, by omega, g3.1, g3.2, g6⟩
  · rintro ⟨t, g1, g2, k, g3, g4, g5, g6⟩
    rw [← hr_wo g5] at g6
    exact pf_push (H := Hr f nc O R) ⟨g4, g5⟩ 6 0 s (by omega) (by omega) g1 g6
theorem x64 {R j : Nat} (hR : R < 64) (hj : j < 6) : R ^^^ 2 ^ j < 64 := Nat.xor_lt_two_pow (n := 6) hR (Nat.pow_lt_pow_right (by omega) hj)
theorem hold_64 (f : Nat → Int32) (nc O s : Nat) : hold f nc O s < 64 := setN_lt _ 6
theorem rset_in {f : Nat → Int32} {nc O s e : Nat} {M : Mem} (hs : s < 256) (he : s.testBit e = true) (hH : ∀ t, sb t s → t ≠ 0 → gi M 325 t = nI (hold f nc O t)) (hP : ∀ v, sb v s → v < s → ∀ R, R < 64 → (qb (gl M 324 v) R = true ↔ Pf (Hr f nc O R) 6 0 v)) : ∀ u q y, u < q → sb u (s ^^^ 2 ^ e) → ∃ y', Reach_roomSetsFor_h30 q (nI (2 ^ e)) (nI (s ^^^ 2 ^ e)) y (nI u) M = some (y', M) ∧ ∀ R, R < 64 → (qb y' R = true ↔ (qb y R = true ∨ ∃ v, sb v (s ^^^ 2 ^ e) ∧ v ≠ 0 ∧ v ≤ u ∧ Qr f nc O s R (v ||| 2 ^ e))) := by
  intro u
  induction u using Nat.strongRecOn with
  | ind u ih =>
    intro q y hq hu
    obtain ⟨q, rfl⟩ : ∃ z, q = z + 1 := ⟨q - 1, by omega⟩
    by_cases hu0 : u = 0
    · subst hu0
      have c0 : ¬ (0 : Int32) < nI 0 := by decide
      refine ⟨y, by simp only [Reach_roomSetsFor_h30, c0, if_false], fun R hR => ⟨Or.inl, ?_⟩⟩
      rintro (g | ⟨v, g1, g2, g3, _⟩)
      · exact g
      · omega
    · have hle := sb_le hu
      obtain ⟨o1, o2, o3, o4⟩ := or_low he hu
      have hle2 := sb_le o2
      have hle3 := sb_le (sb_xor o1)
      have hpos : (0 : Int32) < nI u := by rw [i32_lt, t0, nI_toInt (by omega)]; omega
      have hand : (u - 1) &&& (s ^^^ 2 ^ e) < u := Nat.lt_of_le_of_lt Nat.and_le_left (by omega)
      have hpred := pred_and (s ^^^ 2 ^ e) hu0
      have hxs := sb_le (sb_xor hu)
      have hne : u ||| 2 ^ e ≠ 0 := fun z => by rw [z] at o3; simp at o3
      have hx : s ^^^ 2 ^ e ^^^ u = s ^^^ (u ||| 2 ^ e) := by
        apply Nat.eq_of_testBit_eq
        intro i
        rw [xor_bit hu, xor_bit o1, xor_bit o2, Nat.testBit_or]
        cases s.testBit i <;> cases u.testBit i <;> cases (2 ^ e).testBit i <;> rfl
      obtain ⟨y1, a1, a2⟩ := add_one_c (gl M 324 (s ^^^ 2 ^ e ^^^ u)) (hold_64 f nc O (u ||| 2 ^ e)) M
      have hq1 : ∀ R, R < 64 → (qb y1 R = true ↔ Qr f nc O s R (u ||| 2 ^ e)) := fun R hR => by
        rw [a2 R hR]
        constructor
        · rintro ⟨j, g1, g2, g3, g4⟩
          refine ⟨j, g1, (hold_bit g1).mp g2, g3, ?_⟩
          rw [hx] at g4
          exact (hP _ (sb_xor o2) (xor_lt o2 hne) _ (x64 hR g1)).mp g4
        · rintro ⟨j, g1, g2, g3, g4⟩
          refine ⟨j, g1, (hold_bit g1).mpr g2, g3, ?_⟩
          rw [hx]
          exact (hP _ (sb_xor o2) (xor_lt o2 hne) _ (x64 hR g1)).mpr g4
      obtain ⟨y', r1, r2⟩ := ih _ hand q (y ||| y1) (by omega) (sb_and _ _)
      refine ⟨y', ?_, fun R hR => ?_⟩
      · rw [← r1]
        simp only [Reach_roomSetsFor_h30, hpos, if_true, nI_xor, nI_or, gd_t (inb_nI (show s ^^^ 2 ^ e ^^^ u < 256 by omega) (show 256 < 2 ^ 31 by omega)), gd_t (inb_nI (show u ||| 2 ^ e < 256 by omega) (show 256 < 2 ^ 31 by omega)), ix_nI (show s ^^^ 2 ^ e ^^^ u < 2 ^ 31 by omega), ix_nI (show u ||| 2 ^ e < 2 ^ 31 by omega), hH _ o2 hne, a1, bd_some, lq_eq, hpred]
      · rw [r2 R hR, qb_or, Bool.or_eq_true, hq1 R hR]
        constructor
        · rintro ((g | g) | ⟨v, g1, g2, g3, g4⟩)
          · exact Or.inl g
          · exact Or.inr ⟨u, hu, hu0, Nat.le_refl u, g⟩
          · exact Or.inr ⟨v, g1, g2, by omega, g4⟩
        · rintro (g | ⟨v, g1, g2, g3, g4⟩)
          · exact Or.inl (Or.inl g)
          · by_cases hv : v = u
            · rw [hv] at g4
              exact Or.inl (Or.inr g4)
            · exact Or.inr ⟨v, g1, g2, sb_next u _ v hu g1 (by omega), g4⟩
theorem roomSets_c {f : Nat → Int32} {nc O s : Nat} {M : Mem} (hs : s < 256) (h0 : s ≠ 0) (hH : ∀ t, sb t s → t ≠ 0 → gi M 325 t = nI (hold f nc O t)) (hP : ∀ v, sb v s → v < s → ∀ R, R < 64 → (qb (gl M 324 v) R = true ↔ Pf (Hr f nc O R) 6 0 v)) : ∃ y', j_Reach_roomSetsFor (nI s) M = some (y', M) ∧ ∀ R, R < 64 → (qb y' R = true ↔ Pf (Hr f nc O R) 6 0 s) := by
  obtain ⟨e, hed⟩ : ∃ e, e = fst1 (fun i => s.testBit i) 8 0 := ⟨_, rfl⟩
  obtain ⟨l1, l2, l3⟩ := low_val s hs h0
  rw [← hed] at l1 l2 l3
  have hsb : sb (2 ^ e) s := (or_low (v := 0) l2 (sb_zero _)).1
  have hle := sb_le hsb
  have hle2 := sb_le (sb_xor hsb)
  have hpos2 := Nat.two_pow_pos e
  obtain ⟨y1, a1, a2⟩ := add_one_c (gl M 324 (s ^^^ 2 ^ e)) (hold_64 f nc O (2 ^ e)) M
  obtain ⟨y', r1, r2⟩ := rset_in hs l2 hH hP (s ^^^ 2 ^ e) FU y1 (by unfold FU; omega) (sb_refl _)
  refine ⟨y', ?_, fun R hR => ?_⟩
  · rw [← r1]
    unfold j_Reach_roomSetsFor
    rw [l1, lq_e, nI_xor, lq_e, gd_t (inb_nI (show s ^^^ 2 ^ e < 256 by omega) (by omega)), gd_t (inb_nI (show 2 ^ e < 256 by omega) (by omega)), ix_nI (show s ^^^ 2 ^ e < 2 ^ 31 by omega), ix_nI (show 2 ^ e < 2 ^ 31 by omega), hH _ hsb (by omega), a1, bd_some]
  · rw [r2 R hR, qr_pf l2, a2 R hR]
    constructor
    · rintro (⟨j, g1, g2, g3, g4⟩ | ⟨v, g1, g2, g3, g4⟩)
      · exact ⟨2 ^ e, hsb, Nat.testBit_two_pow_self, j, g1, (hold_bit g1).mp g2, g3, (hP _ (sb_xor hsb) (xor_lt hsb (by omega)) _ (x64 hR g1)).mp g4⟩
      · obtain ⟨o1, o2, o3, o4⟩ := or_low l2 g1
        exact ⟨v ||| 2 ^ e, o2, o3, g4⟩
    · rintro ⟨t, g1, g2, g3⟩
      by_cases ht : t = 2 ^ e
      · rw [ht] at g3
        obtain ⟨j, k1, k2, k3, k4⟩ := g3
        exact Or.inl ⟨j, k1, (hold_bit k1).mpr k2, k3, (hP _ (sb_xor hsb) (xor_lt hsb (by omega)) _ (x64 hR k1)).mpr k4⟩
      · have hbt : sb (2 ^ e) t := (or_low (v := 0) g2 (sb_zero _)).1
        have hsv : sb (t ^^^ 2 ^ e) (s ^^^ 2 ^ e) := sb_bit.mpr (fun i hi => by
          rw [xor_bit hbt, Bool.and_eq_true] at hi
          rw [xor_bit hsb, sb_bit.mp g1 i hi.1, hi.2]; rfl)
        have hor : t ^^^ 2 ^ e ||| 2 ^ e = t := by
          rw [Nat.or_comm]; exact (sb_or hbt).symm
        refine Or.inr ⟨t ^^^ 2 ^ e, hsv, fun z => ht (xor_z z), sb_le hsv, ?_⟩
        rw [hor]; exact g3
/-- Reach.work: placed and holders of every set of takes not yet shot -/
def RT (M : Mem) (f : Nat → Int32) (nc O n : Nat) : Prop := (∀ t, sb t O → t ≠ 0 → t < n → gi M 325 t = nI (hold f nc O t)) ∧ ∀ v, sb v O → v < n → ∀ R, R < 64 → (qb (gl M 324 v) R = true ↔ Pf (Hr f nc O R) 6 0 v)
theorem work_in {f : Nat → Int32} {nc nt O : Nat} {M0 : Mem} (h : RM M0 f nc nt O) (n8 : nt ≤ 8) (hO : O < 2 ^ nt) : ∀ m s q M, s + m = O + 1 → m < q → 1 ≤ s → (∀ b i, b ≠ 325 → gi M b i = gi M0 b i) → RT M f nc O s → ∃ M', Reach_work_h11 q (nI s) M = some ((), M') ∧ (∀ b i, b ≠ 325 → gi M' b i = gi M0 b i) ∧ RT M' f nc O (O + 1) := by
  have hO256 : O < 256 := Nat.lt_of_lt_of_le hO (two8 n8)
  intro m
  induction m with
  | zero =>
    intro s q M hs hq h1 hM hT
    obtain ⟨q, rfl⟩ : ∃ z, q = z + 1 := ⟨q - 1, by omega⟩
    have hO1 : gi M 299 1 = nI O := by rw [hM 299 1 (by omega)]; exact h.1.2
    have hlt : nI O < nI s := nI_lt (by omega) (by omega)
    have hsO : s = O + 1 := by omega
    subst hsO
    exact ⟨M, by simp only [Reach_work_h11, hO1, hlt, if_true], hM, hT⟩
  | succ m ih =>
    intro s q M hs hq h1 hM hT
    obtain ⟨q, rfl⟩ : ∃ z, q = z + 1 := ⟨q - 1, by omega⟩
    have hO1 : gi M 299 1 = nI O := by rw [hM 299 1 (by omega)]; exact h.1.2
    have hlt : ¬ nI O < nI s := nI_nlt (by omega) (by omega)
    by_cases hsb : sb s O
    · have ha : (nI s &&& (nI O ^^^ (-1))) = 0 := (and_not0 (show s < 2 ^ 32 by omega)).mpr hsb
      have hRM : RM M f nc nt O := h.cong (fun a i g1 g2 => hM a i (by omega))
      have hh := holders_c hRM n8 hO (show s < 256 by omega)
      obtain ⟨Ma, hMa⟩ : ∃ Ma, Ma = uI M 325 s (nI (hold f nc O s)) := ⟨_, rfl⟩
      have gla : ∀ b i, gl Ma b i = gl M b i := fun b i => by rw [hMa]; rfl
      obtain ⟨y, r1, r2⟩ := roomSets_c (M := Ma) (f := f) (nc := nc) (O := O) (show s < 256 by omega) (by omega) (fun t ht ht0 => by
        have hle := sb_le ht
        by_cases hts : t = s
        · rw [hts, hMa, gi_uIs]
        · rw [hMa, gi_uIi _ _ _ _ _ _ hts]
          exact hT.1 t (sb_trans ht hsb) ht0 (by omega)) (fun v hv hvs R hR => by
        rw [gla]
        exact hT.2 v (sb_trans hv hsb) hvs R hR)
      obtain ⟨M1, hM1⟩ : ∃ M1, M1 = uL Ma 324 s y := ⟨_, rfl⟩
      obtain ⟨M', p1, p2, p3⟩ := ih (s + 1) q M1 (by omega) (by omega) (by omega) (fun b i hb => by
        rw [hM1, gi_uL, hMa, gi_uIa _ _ _ _ _ _ hb]; exact hM b i hb) ⟨fun t ht ht0 htn => by
        rw [hM1, gi_uL, hMa]
        by_cases hts : t = s
        · rw [hts, gi_uIs]
        · rw [gi_uIi _ _ _ _ _ _ hts]
          exact hT.1 t ht ht0 (by omega), fun v hv hvn R hR => by
        rw [hM1, gl_uL]
        by_cases hvs : v = s
        · rw [if_pos ⟨rfl, hvs⟩, hvs]; exact r2 R hR
        · rw [if_neg (fun z => hvs z.2), gla]
          exact hT.2 v hv (by omega) R hR⟩
      refine ⟨M', ?_, p2, p3⟩
      rw [← p1]
      simp only [Reach_work_h11, Reach_work_b53, hO1, hlt, if_false, ha, if_true, hh, bd_some, gd_t (inb_nI (show s < 256 by omega) (show 256 < 2 ^ 31 by omega)), ix_nI (show s < 2 ^ 31 by omega), sq_eq, ← hMa, r1, ← hM1, lq_eq, nI_1]
    · have ha : ¬ (nI s &&& (nI O ^^^ (-1))) = 0 := fun z => hsb ((and_not0 (show s < 2 ^ 32 by omega)).mp z)
      obtain ⟨M', p1, p2, p3⟩ := ih (s + 1) q M (by omega) (by omega) (by omega) hM ⟨fun t ht ht0 htn => by
        have hts : t ≠ s := fun z => hsb (z ▸ ht)
        exact hT.1 t ht ht0 (by omega), fun v hv hvn R hR => by
        have hvs : v ≠ s := fun z => hsb (z ▸ hv)
        exact hT.2 v hv (by omega) R hR⟩
      refine ⟨M', ?_, p2, p3⟩
      rw [← p1]
      simp only [Reach_work_h11, Reach_work_b53, hO1, hlt, if_false, ha, lq_eq, nI_1]
theorem work_c {f : Nat → Int32} {nc nt O : Nat} {M : Mem} (h : RM M f nc nt O) (n8 : nt ≤ 8) (hO : O < 2 ^ nt) : ∃ M', j_Reach_work M = some ((), M') ∧ (∀ b i, b ≠ 325 → gi M' b i = gi M b i) ∧ RT M' f nc O (O + 1) := by
  have hO256 : O < 256 := Nat.lt_of_lt_of_le hO (two8 n8)
  obtain ⟨M1, hM1⟩ : ∃ M1, M1 = uL M 324 0 (-1) := ⟨_, rfl⟩
  have g1 : ∀ b i, gi M1 b i = gi M b i := fun b i => by rw [hM1]; rfl
  obtain ⟨M', r1, r2, r3⟩ := work_in (M0 := M1) (h.cong (fun a i _ _ => g1 a i)) n8 hO O 1 FU M1 (by omega) (by unfold FU; omega) (by omega) (fun _ _ _ => rfl) ⟨fun t _ ht0 ht1 => by omega, fun v hv hv1 R hR => by
    have : v = 0 := by omega
    subst this
    rw [hM1, gl_uLs]
    exact ⟨fun _ => pf_none 6 0, fun _ => qb_m1 R hR⟩⟩
  refine ⟨M', ?_, fun b i hb => (r2 b i hb).trans (g1 b i), r3⟩
  have e0 : (0 : Int32) = nI 0 := rfl
  unfold j_Reach_work
  rw [e0, gd_t (inb_nI (show 0 < 256 by omega) (by omega)), ix_nI (show 0 < 2 ^ 31 by omega), sq_e, ← hM1, lq_e]
  exact r1
theorem placed_c {f : Nat → Int32} {nc O n s R : Nat} {M : Mem} (h : RT M f nc O n) (hs : sb s O) (hn : s < n) (hs256 : s < 256) (hR : R < 64) : (Pf (Hr f nc O R) 6 0 s → j_Reach_isPlaced (nI s) (nI R) M = some (1, M)) ∧ (¬ Pf (Hr f nc O R) 6 0 s → j_Reach_isPlaced (nI s) (nI R) M = some (0, M)) := by
  have hv := ip_val hR (gl M 324 s)
  have ht := h.2 s hs hn R hR
  unfold j_Reach_isPlaced
  rw [gd_t (inb_nI hs256 (by omega)), ix_nI (show s < 2 ^ 31 by omega)]
  constructor
  · intro z
    rw [if_pos (hv.mpr (ht.mpr z))]
  · intro z
    rw [if_neg (fun q => z (ht.mp (hv.mp q)))]
theorem ahead_c {M : Mem} {nc nt nr : Nat} (hD : DR M 3 (rowM M 327 0) nc nt nr) (hI : Iv (rowM M 327 0) nc nt nr) : ∃ M', j_Fc_lookAhead M = some ((), M') ∧ (∀ a i, (a < 299 ∨ a = 307 ∨ (313 < a ∧ a ≠ 325)) → gi M' a i = gi M a i) ∧ RM M' (fun i => gi M 327 i) nc nt (openN M 327 nt) ∧ RT M' (fun i => gi M 327 i) nc (openN M 327 nt) (openN M 327 nt + 1) := by
  obtain ⟨Ma, l1, l2, l3⟩ := rm_look hD hI
  obtain ⟨M', r1, r2, r3⟩ := work_c l3 hI.1.2.1 (setN_lt _ nt)
  refine ⟨M', ?_, fun a i ha => (r2 a i (by omega)).trans (l2 a i (by omega)), l3.cong (fun a i h1 h2 => r2 a i (by omega)), r3⟩
  unfold j_Fc_lookAhead
  rw [l1, bd_some, r1, bd_some]
