theorem nL_to32 {b : Nat} (h : b < 2 ^ 31) : Int64.toInt32 (nL b) = nI b := by
  apply Int32.toInt_inj.mp
  rw [Int64.toInt_toInt32, nL_toInt (by omega), nI_toInt h]
  simp only [Int.bmod]
  omega
theorem nI_suc (c : Nat) : nI (c + 1) = nI c + 1 := (nI_1 c).symm
theorem sub_zero_iff {a b : Nat} (ha : a < 2 ^ 31) (hb : b < 2 ^ 31) : nI a - nI b = 0 ↔ b = a := by
  constructor
  · intro h
    have : nI a = nI b := by
      have h2 : nI a - nI b + nI b = 0 + nI b := by rw [h]
      rw [Int32.sub_add_cancel, Int32.zero_add] at h2
      exact h2
    exact ((nI_eq ha hb).mp this).symm
  · intro h; rw [h, Int32.sub_self]
theorem dl_in {g : Nat → Int32} {O k : Nat} {y : Int64} {v : Int32} {M0 : Mem} (hO : O < 256) (hk : k < 9) (h1 : gi M0 299 1 = nI O) (hv : (1 : Int32) + Int64.toInt32 (y / 16 - y / 16 / 60 * 60) = v) : ∀ m t q M, t + m = 8 → m < q → (∀ b i, b ≠ 305 → gi M b i = gi M0 b i) → (∀ i, i < 8 → gi M 305 i = if i < t ∧ O.testBit i = true ∧ bitsN O i = k then v else gi M0 305 i) → ∃ M', Rooms_drawLength_h29 q y (nI k - nI (bitsN O t)) (nI t) M = bd (j_Rooms_measure M') (fun _ M6 => some ((), M6)) ∧ (∀ b i, b ≠ 305 → gi M' b i = gi M0 b i) ∧ (∀ i, i < 8 → gi M' 305 i = if O.testBit i = true ∧ bitsN O i = k then v else gi M0 305 i) := by
  have e8 : (8 : Int32) = nI 8 := rfl
  intro m
  induction m with
  | zero =>
    intro t q M ht hq hM h5
    obtain ⟨q, rfl⟩ : ∃ z, q = z + 1 := ⟨q - 1, by omega⟩
    have hge : ¬ nI t < nI 8 := nI_nlt (by omega) (by omega)
    refine ⟨M, ?_, hM, fun i hi => ?_⟩
    · rw [Rooms_drawLength_h29, e8, if_neg hge]
    · rw [h5 i hi]
      by_cases hq : O.testBit i = true ∧ bitsN O i = k
      · rw [if_pos ⟨by omega, hq⟩, if_pos hq]
      · rw [if_neg (fun z => hq z.2), if_neg hq]
  | succ m ih =>
    intro t q M ht hq hM h5
    obtain ⟨q, rfl⟩ : ∃ z, q = z + 1 := ⟨q - 1, by omega⟩
    have hlt : nI t < nI 8 := nI_lt (by omega) (by omega)
    have hio := rooms_isOpen (M := M) hO (show t < 8 by omega) (by rw [hM 299 1 (by omega)]; exact h1)
    have hb8 : bitsN O t ≤ t := cnt_le _ t
    have hs := bitsN_s O t
    have hold : ∀ i, i < 8 → (¬ (i = t ∧ O.testBit i = true ∧ bitsN O i = k)) → (if i < t + 1 ∧ O.testBit i = true ∧ bitsN O i = k then v else gi M0 305 i) = (if i < t ∧ O.testBit i = true ∧ bitsN O i = k then v else gi M0 305 i) := fun i hi hn => by
      by_cases hq2 : O.testBit i = true ∧ bitsN O i = k
      · by_cases hit : i < t
        · rw [if_pos ⟨by omega, hq2⟩, if_pos ⟨hit, hq2⟩]
        · rw [if_neg (fun z => hn ⟨by omega, hq2⟩), if_neg (fun z => hit z.1)]
      · rw [if_neg (fun z => hq2 z.2), if_neg (fun z => hq2 z.2)]
    by_cases hbt : O.testBit t = true
    · rw [if_pos hbt] at hs
      have hdec : nI k - nI (bitsN O t) + (-1) = nI k - nI (bitsN O (t + 1)) := by
        rw [hs, nI_suc]
        grind
      by_cases hz : bitsN O t = k
      · have hx0 : nI k - nI (bitsN O t) = 0 := (sub_zero_iff (by omega) (by omega)).mpr hz
        obtain ⟨M1, hM1⟩ : ∃ M1, M1 = uI M 305 t v := ⟨_, rfl⟩
        obtain ⟨M', r1, r2, r3⟩ := ih (t + 1) q M1 (by omega) (by omega) (fun b i hb => by rw [hM1, gi_uIa _ _ _ _ _ _ hb]; exact hM b i hb) (fun i hi => by
          by_cases hit : i = t
          · rw [hit, hM1, gi_uIs, if_pos ⟨by omega, hbt, hz⟩]
          · rw [hM1, gi_uIi _ _ _ _ _ _ hit, h5 i hi, hold i hi (fun z => hit z.1)])
        refine ⟨M', ?_, r2, r3⟩
        rw [← r1, ← hdec]
        simp only [Rooms_drawLength_h29, Rooms_drawLength_b69, Rooms_drawLength_b72, e8, hlt, if_true, hio, hbt, bd_some, z1, if_false, hx0, gd_t (inb_nI (show t < 8 by omega) (show 8 < 2 ^ 31 by omega)), ix_nI (show t < 2 ^ 31 by omega), hv, sq_eq, ← hM1, lq_eq, nI_1]
      · have hx0 : ¬ nI k - nI (bitsN O t) = 0 := fun z => hz ((sub_zero_iff (by omega) (by omega)).mp z)
        obtain ⟨M', r1, r2, r3⟩ := ih (t + 1) q M (by omega) (by omega) hM (fun i hi => by rw [h5 i hi, hold i hi (fun z => hz (by rw [← z.1]; exact z.2.2))])
        refine ⟨M', ?_, r2, r3⟩
        rw [← r1, ← hdec]
        simp only [Rooms_drawLength_h29, Rooms_drawLength_b69, Rooms_drawLength_b72, e8, hlt, if_true, hio, hbt, bd_some, z1, if_false, hx0, lq_eq, nI_1]
    · have hs' : bitsN O (t + 1) = bitsN O t := by rw [hs, if_neg hbt]; rfl
      obtain ⟨M', r1, r2, r3⟩ := ih (t + 1) q M (by omega) (by omega) hM (fun i hi => by rw [h5 i hi, hold i hi (fun z => hbt (by rw [← z.1]; exact z.2.1))])
      refine ⟨M', ?_, r2, r3⟩
      rw [← r1, hs']
      simp only [Rooms_drawLength_h29, Rooms_drawLength_b69, Rooms_drawLength_b72, e8, hlt, if_true, hio, hbt, bd_some, Bool.false_eq_true, if_false, lq_eq, nI_1]
theorem drawR_ne {g : Nat → Int32} {O a i : Nat} (h : i < 41 ∨ 65 ≤ i ∨ (i - 41) % 3 ≠ 1) (hk : O ≠ 0 → kth O (a % bitsN O 8) < 8) : drawR g O a i = g i := by
  unfold drawR
  by_cases h0 : O = 0
  · rw [if_pos h0]
  · rw [if_neg h0]
    have := hk h0
    exact fu_ne (by omega)
theorem draw_ok {g : Nat → Int32} {nc nt O a : Nat} (hR : RowOk g nc nt) (hO : O < 2 ^ nt) : RowOk (drawR g O a) nc nt ∧ (O ≠ 0 → IsK O (a % bitsN O 8) (kth O (a % bitsN O 8))) ∧ Of (drawR g O a) nt = Of g nt := by
  have n8 := hR.1.2.1
  have hO256 : O < 256 := Nat.lt_of_lt_of_le hO (two8 n8)
  by_cases h0 : O = 0
  · have e : drawR g O a = g := if_pos h0
    rw [e]
    exact ⟨hR, fun z => absurd h0 z, rfl⟩
  · have hn : 0 < bitsN O 8 := by
      have : bitsN O 8 ≠ 0 := fun z => h0 ((bits0 hO256).mp z)
      omega
    have hk := (nth_m (MZ) hO256 (Nat.mod_lt a hn)).1
    have e : drawR g O a = fu g (41 + 3 * kth O (a % bitsN O 8) + 1) (nI (1 + a / 16 % 60)) := if_neg h0
    have h60 := Nat.mod_lt (a / 16) (show 0 < 60 by omega)
    rw [e]
    refine ⟨rowOk_fx hR (by omega) (by omega) hk.1 (fun i _ hi => fu_ne hi) fu_eq, fun _ => hk, of_fx n8 (fun i _ hi => fu_ne hi)⟩
theorem draw_c {g : Nat → Int32} {nc nt O a : Nat} {M : Mem} (h : RM M g nc nt O) (hR : RowOk g nc nt) (n6 : nc ≤ 6) (hO : O < 2 ^ nt) (ha : a < 2 ^ 31) : ∃ M', j_Rooms_drawLength (nL a) M = some ((), M') ∧ (∀ b i, b ≠ 305 → b ≠ 306 → (b < 308 ∨ 313 < b) → gi M' b i = gi M b i) ∧ RM M' (drawR g O a) nc nt O := by
  have n8 := hR.1.2.1
  have hO256 : O < 256 := Nat.lt_of_lt_of_le hO (two8 n8)
  obtain ⟨d1, d2, _⟩ := draw_ok (a := a) hR hO
  have hbc : bcV (nI O) = nI (bitsN O 8) := bc_val O hO256
  have hb8 : bitsN O 8 ≤ 8 := cnt_le _ 8
  by_cases h0 : O = 0
  · refine ⟨M, ?_, fun _ _ _ _ _ => rfl, ?_⟩
    · have hz : nI (bitsN O 8) = 0 := by rw [(bits0 hO256).mpr h0]; rfl
      simp only [j_Rooms_drawLength, h.1.2, bc_eq, hbc, bd_some, hz, if_true]
    · have e : drawR g O a = g := if_pos h0
      rw [e]; exact h
  · have hn : bitsN O 8 ≠ 0 := fun z => h0 ((bits0 hO256).mp z)
    obtain ⟨k, hkd⟩ : ∃ k, k = a % bitsN O 8 := ⟨_, rfl⟩
    have hklt : k < bitsN O 8 := by rw [hkd]; exact Nat.mod_lt a (by omega)
    have hK := d2 h0
    rw [← hkd] at hK
    have h60 := Nat.mod_lt (a / 16) (show 0 < 60 by omega)
    have hd16 : a / 16 ≤ a := Nat.div_le_self a 16
    have hv : (1 : Int32) + Int64.toInt32 (nL a / 16 - nL a / 16 / 60 * 60) = nI (1 + a / 16 % 60) := by
      rw [show (16 : Int64) = nL 16 from rfl, nL_div (by omega) (by omega), show (60 : Int64) = nL 60 from rfl, nL_mod (by omega) (by omega), nL_to32 (by omega), show (1 : Int32) = nI 1 from rfl, nI_add]
    obtain ⟨M1, r1, r2, r3⟩ := dl_in (g := g) (O := O) (k := k) (y := nL a) (M0 := M) hO256 (by omega) h.1.2 hv 8 0 FU M (by omega) (by unfold FU; omega) (fun _ _ _ => rfl) (fun i hi => by rw [if_neg (fun z => by omega)])
    have er : drawR g O a = fu g (41 + 3 * kth O k + 1) (nI (1 + a / 16 % 60)) := by rw [hkd]; exact if_neg h0
    have hne : ∀ i, (i < 41 ∨ 65 ≤ i ∨ (i - 41) % 3 ≠ 1) → drawR g O a i = g i := fun i hi => drawR_ne hi (fun _ => by rw [← hkd]; exact hK.1)
    have hft : ∀ i, i < 8 → gi M1 305 i = if O.testBit i = true then drawR g O a (41 + 3 * i + 1) else 0 := fun i hi => by
      rw [r3 i hi, h.2.2.1 i hi]
      by_cases hb : O.testBit i = true
      · simp only [if_pos hb]
        by_cases hz : bitsN O i = k
        · have : kth O k = i := kth_eq ⟨hi, hb, hz⟩
          rw [if_pos ⟨hb, hz⟩, er, this, fu_eq]
        · rw [if_neg (fun z => hz z.2), er, fu_ne]
          intro q
          have : i = kth O k := by omega
          rw [this] at hz
          exact hz hK.2.2
      · rw [if_neg (fun z => hb z.1), if_neg hb, if_neg hb]
    have eR : Rf (drawR g O a) nc = Rf g nc := setN_cong nc (fun c hc => by rw [hne _ (by omega)])
    have eS : ∀ c, Sf (drawR g O a) nc nt O c = Sf g nc nt O c := fun c => by
      unfold Sf
      rw [eR]
      by_cases hb : (Rf g nc).testBit c = true
      · have hc := (rf_bit.mp hb).1
        rw [if_pos hb, if_pos hb, setN_cong nt (fun t ht => by rw [hne (13 + 4 * c) (by omega), hne (41 + 3 * t) (by omega)])]
      · rw [if_neg hb, if_neg hb]
    obtain ⟨M', m1, m2, m3, m4⟩ := measure_c (M := M1) (S := fun c => Sf g nc nt O c) (f := fun i => if O.testBit i = true then drawR g O a (41 + 3 * i + 1) else 0) (fun c hc => ⟨sf_lt hO256, by rw [r2 _ _ (by omega)]; exact (h.2.1 c hc).1⟩) hft
    have hsum : ∀ w, sb w O → sumS (fun i => if O.testBit i = true then drawR g O a (41 + 3 * i + 1) else 0) w 8 = sumS (fun t => drawR g O a (41 + 3 * t + 1)) w 8 := fun w hw => sumS_cong 8 (fun i _ => ⟨rfl, fun hi => if_pos (sb_bit.mp hw i hi)⟩)
    refine ⟨M', ?_, fun b i h1 h2 h3 => (m2 b i h2 h3).trans (r2 b i h1), ?_⟩
    · have hnb : ¬ nI (bitsN O 8) = 0 := by rw [nI_eq0 (by omega)]; exact hn
      have hnl : ¬ nL a < 0 := by
        rw [i64_lt, nL_toInt (by omega)]
        have e : (0 : Int64).toInt = 0 := by decide
        omega
      have hn64 : ¬ nL (bitsN O 8) = 0 := fun z => hn ((nL_eq0 (by omega)).mp z)
      have hk32 : Int64.toInt32 (nL a - nL a / nL (bitsN O 8) * nL (bitsN O 8)) = nI k := by rw [nL_mod (by omega) (by omega), ← hkd, nL_to32 (by omega)]
      have r1' : Rooms_drawLength_h29 FU (nL a) (nI k) (nI 0) M = bd (j_Rooms_measure M1) (fun _ M6 => some ((), M6)) := by
        rw [← r1]
        have : nI k - nI (bitsN O 0) = nI k := by show nI k - 0 = nI k; rw [Int32.sub_zero]
        rw [this]
      unfold j_Rooms_drawLength
      rw [h.1.2, bc_eq, hbc, bd_some, if_neg hnb, if_neg hnl, nL_of (by omega), if_neg hn64, hk32, lq_e, lq_e]
      have : (0 : Int32) = nI 0 := rfl
      rw [this, r1', m1, bd_some]
    · refine ⟨⟨?_, ?_⟩, fun c hc => ?_, fun t ht => ?_, fun w hw hs => ?_, fun c hc v hv2 => ?_⟩
      · rw [eR, m2 _ _ (by omega) (by omega), r2 _ _ (by omega)]; exact h.1.1
      · rw [m2 _ _ (by omega) (by omega), r2 _ _ (by omega)]; exact h.1.2
      · rw [eS, eR, m2 _ _ (by omega) (by omega), r2 _ _ (by omega), m2 _ _ (by omega) (by omega), r2 _ _ (by omega), m2 _ _ (by omega) (by omega), r2 _ _ (by omega), m2 _ _ (by omega) (by omega), r2 _ _ (by omega), m2 _ _ (by omega) (by omega), r2 _ _ (by omega)]
        refine ⟨(h.2.1 c hc).1, fun hb => ?_⟩
        obtain ⟨g0, g1, g2, g3⟩ := (h.2.1 c hc).2 hb
        have hcn := (rf_bit.mp hb).1
        refine ⟨?_, ?_, ?_, ?_⟩
        · rw [hne _ (by omega)]; exact g0
        · unfold lead0 at *; rw [hne _ (by omega), hne _ (by omega), hne 0 (by omega)]; exact g1
        · rw [hne _ (by omega)]; exact g2
        · unfold keptN at *; rw [hne _ (by omega), hne 1 (by omega)]; exact g3
      · rw [m2 _ _ (by omega) (by omega)]; exact hft t ht
      · rw [m3 w hw, hsum w hs]
      · rw [eS]
        refine ⟨fun q1 q2 => ?_, (m4 c hc v hv2).2⟩
        rw [(m4 c hc v hv2).1 q1 q2]
        obtain ⟨p1, p2, p3, p4⟩ := (sf_iff n8 hO q2).mp q1
        have hb : (Rf g nc).testBit c = true := rf_bit.mpr ⟨p1, p3⟩
        obtain ⟨g0, g1, g2, g3⟩ := (h.2.1 c hc).2 hb
        rw [r2 _ _ (by omega), r2 _ _ (by omega), r2 _ _ (by omega), g0, g1, g2]
        have hl := ends_left (f := drawR g O a) (g := fun t => drawR g O a (41 + 3 * t + 1)) (c := c) (s := v) (fun t _ _ => rfl) 8 (Nat.le_refl 8)
        rw [hl]
        unfold endC lead0
        rw [hsum v p2, hne (13 + 4 * c + 1) (by omega), hne (13 + 4 * c + 2) (by omega), hne (13 + 4 * c) (by omega), hne 0 (by omega)]
