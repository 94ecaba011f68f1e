theorem m1_nI : (-1 : Int32) = nI 4294967295 := by decide
theorem nI_some (x : Int32) : ∃ a, a < 2 ^ 32 ∧ x = nI a := ⟨x.toBitVec.toNat, x.toBitVec.isLt, by
  apply Int32.toBitVec_inj.mp
  apply BitVec.eq_of_toNat_eq
  simp [nI]⟩
theorem nI_z {a : Nat} (h : a < 2 ^ 32) : nI a = 0 ↔ a = 0 := by
  constructor
  · intro q
    have h2 := congrArg (fun z : Int32 => z.toBitVec.toNat) q
    have e1 : (nI a).toBitVec.toNat = a := by simp [nI]; omega
    have e2 : (0 : Int32).toBitVec.toNat = 0 := by decide
    simp only [e1, e2] at h2
    exact h2
  · intro q; rw [q]; rfl
theorem full_bit (i : Nat) : (4294967295 : Nat).testBit i = decide (i < 32) := Nat.testBit_two_pow_sub_one 32 i
theorem and_not0 {a O : Nat} (ha : a < 2 ^ 32) : (nI a &&& (nI O ^^^ (-1))) = 0 ↔ sb a O := by
  rw [m1_nI, nI_xor, nI_and, nI_z (Nat.lt_of_le_of_lt Nat.and_le_left ha)]
  constructor
  · intro q
    apply sb_bit.mpr
    intro i hi
    have h1 : (a &&& (O ^^^ 4294967295)).testBit i = false := by rw [q]; exact Nat.zero_testBit i
    have h2 : i < 32 := bit_lt ha hi
    rw [Nat.testBit_and, hi, Nat.testBit_xor, full_bit] at h1
    simpa [h2] using h1
  · intro q
    apply Nat.eq_of_testBit_eq
    intro i
    rw [Nat.testBit_and, Nat.testBit_xor, full_bit, Nat.zero_testBit]
    by_cases hi : a.testBit i = true
    · have h2 : i < 32 := bit_lt ha hi
      rw [sb_bit.mp q i hi]
      simp [h2]
    · have : a.testBit i = false := by simpa using hi
      rw [this]; rfl
def dif (x t : Nat) : Nat := x ^^^ (x &&& t)
theorem dif_bit (x t i : Nat) : (dif x t).testBit i = (x.testBit i && !t.testBit i) := by
  unfold dif
  rw [Nat.testBit_xor, Nat.testBit_and]
  cases x.testBit i <;> cases t.testBit i <;> rfl
theorem dif_sb (x t : Nat) : sb (dif x t) x := sb_bit.mpr (fun i hi => by
  rw [dif_bit, Bool.and_eq_true] at hi
  exact hi.1)
theorem dif_eq {x t : Nat} (h : sb t x) : dif x t = x ^^^ t := by
  unfold dif
  rw [Nat.and_comm, show t &&& x = t from h]
theorem dif_nI {x t : Nat} (hx : x < 2 ^ 32) : (nI x &&& (nI t ^^^ (-1))) = nI (dif x t) := by
  rw [m1_nI, nI_xor, nI_and]
  congr 1
  apply Nat.eq_of_testBit_eq
  intro i
  rw [Nat.testBit_and, Nat.testBit_xor, full_bit, dif_bit]
  by_cases hi : x.testBit i = true
  · have h2 : i < 32 := bit_lt hx hi
    simp [hi, h2]
  · have : x.testBit i = false := by simpa using hi
    rw [this]; rfl
theorem sets_of {x : Int32} {O : Nat} (hO : O < 256) (h : (x &&& (nI O ^^^ (-1))) = 0) : ∃ v, v < 256 ∧ x = nI v ∧ sb v O := by
  obtain ⟨a, h1, h2⟩ := nI_some x
  rw [h2] at h
  have h3 := (and_not0 h1).mp h
  exact ⟨a, Nat.lt_of_le_of_lt (sb_le h3) hO, h2, h3⟩
theorem day_isRoom {c : Nat} {M : Mem} (hc : c < 6) : j_Day_isRoom 3 (nI c) M = some (if (!decide (gi M 7 c = 2)) = true then 1 else 0, M) := by
  have hin := inb_nI hc (show 6 < 2 ^ 31 by omega)
  have hix := ix_nI (show c < 2 ^ 31 by omega)
  by_cases h : gi M 7 c = 2
  · simp only [j_Day_isRoom, gd_t hin, hix, h, if_true, decide_true, Bool.not_true, Bool.false_eq_true, if_false]
  · simp only [j_Day_isRoom, gd_t hin, hix, h, if_true, decide_false, Bool.not_false, if_false]
theorem keep_rooms {M M' : Mem} (h : ∀ a i, (a < 299 ∨ a = 307 ∨ 313 < a) → gi M' a i = gi M a i) : Keep M M' := ⟨fun a i q => h a i (by omega), fun a i q => h a i (by omega), fun i _ => h 326 i (by omega)⟩
theorem s_fits (x y : Int32) : Sim (j_Fc_fits x y) (j_Md_fits x y) := by
  intro M h
  obtain ⟨nc, nt, nr, hD, hI⟩ := h.1
  have hR := iv_rowOk hI
  obtain ⟨⟨n6, n8, _⟩, ⟨a1, a2, a3⟩, _⟩ := id hI
  have hf : ∀ i, rowM M 327 0 i = gi M 327 i := row_at M
  have e4 : gi M 327 4 = nI nc := by rw [← hf]; exact a1
  have e5 : gi M 327 5 = nI nt := by rw [← hf]; exact a2
  have d0 : gi M 3 0 = nI nc := hD.1.1
  by_cases hx : 0 ≤ x.toInt ∧ x.toInt < nc
  · obtain ⟨c, hc, rfl⟩ : ∃ c, c < nc ∧ x = nI c := ⟨x.toInt.toNat, by omega, i32_nat hx.1⟩
    obtain ⟨O, hO⟩ : ∃ O, O = openN M 327 nt := ⟨_, rfl⟩
    have hO2 : O < 2 ^ nt := by rw [hO]; exact setN_lt _ nt
    have hO256 : O < 256 := Nat.lt_of_lt_of_le hO2 (two8 n8)
    have oc : j_Day_openTakes 3 M = some (nI O, M) := by
      have := openTakes_c n8 hD
      rw [this, hO]
      unfold openN
      rw [setN_cong nt (fun i _ => by rw [Nat.zero_add])]
    have om : j_Md_openOnes 327 M = some (nI O, M) := by rw [hO]; exact openOnes_m n8 e5
    have c1 := hasCan_yes d0 (show nc < 2 ^ 31 by omega) hc
    have m1 := isCan_yes e4 (show nc < 2 ^ 31 by omega) hc
    by_cases hy : (y &&& (nI O ^^^ (-1))) = 0
    · obtain ⟨v, hv, rfl, hs⟩ := sets_of hO256 hy
      have hnn : ¬ nI v < 0 := by rw [i32_lt, t0, nI_toInt (by omega)]; omega
      have hk : 1 ≤ (gi M 327 (13 + 4 * c)).toInt ∧ (gi M 327 (13 + 4 * c)).toInt ≤ 5 := by rw [← hf]; exact (hR.2.2.1 c hc).1
      have ht : ∀ t, v.testBit t = true → 0 ≤ (gi M 327 (41 + 3 * t)).toInt ∧ (gi M 327 (41 + 3 * t)).toInt ≤ 5 := fun t hb => by rw [← hf]; exact (hR.2.2.2 t (bitO hO2 hs hb)).1
      have hp : gi M 7 c = gi M 327 (13 + 4 * c + 2) := by rw [(hD.2.2.2.2.1 c hc).2.2.1, hf]
      have hft : gi M 6 c = gi M 327 (13 + 4 * c + 1) := by rw [(hD.2.2.2.2.1 c hc).2.1, hf]
      by_cases hr : gi M 327 (13 + 4 * c + 2) = 2
      · refine ⟨-1000000, M, M, ?_, ?_, h⟩
        · simp only [j_Fc_fits, c1, bd_some, z1, if_false, oc, hy, if_true, day_isRoom (show c < 6 by omega), hp, hr, decide_true, Bool.not_true, Bool.false_eq_true, z0]
        · by_cases hv0 : v = 0
          · simp only [j_Md_fits, Md_fits_b54, m1, bd_some, z1, if_false, hnn, om, hy, if_true, left_m0 (a := 327) (M := M) (show c < 7 by omega) hv0, md_isRoom (show c < 7 by omega), hr, decide_true, Bool.not_true, Bool.false_eq_true, z0]
          · simp only [j_Md_fits, Md_fits_b54, m1, bd_some, z1, if_false, hnn, om, hy, if_true, left_m (a := 327) (M := M) (show c < 7 by omega) hv hv0 hk ht, md_isRoom (show c < 7 by omega), hr, decide_true, Bool.not_true, Bool.false_eq_true, z0]
      · by_cases hv0 : v = 0
        · have hn0 : nI v = 0 := by rw [hv0]; rfl
          have hF : ¬ gi M 327 (13 + 4 * c + 1) < 0 := by
            rw [i32_lt, t0, ← hf]
            have := (hR.2.2.1 c hc).2
            omega
          refine ⟨gi M 6 c, M, M, ?_, ?_, h⟩
          · simp only [j_Fc_fits, c1, bd_some, z1, if_false, oc, hy, if_true, day_isRoom (show c < 6 by omega), hp, hr, decide_false, Bool.not_false, hn0, gd_t (inb_nI (show c < 6 by omega) (show 6 < 2 ^ 31 by omega)), ix_nI (show c < 2 ^ 31 by omega)]
            rw [hn0] at hy
            rw [if_pos hy]
          · simp only [j_Md_fits, Md_fits_b54, m1, bd_some, z1, if_false, hnn, om, hy, if_true, left_m0 (a := 327) (M := M) (show c < 7 by omega) hv0, md_isRoom (show c < 7 by omega), hr, decide_false, Bool.not_false, hF, hft]
        · have hn0 : ¬ nI v = 0 := by rw [nI_eq0 (by omega)]; exact hv0
          obtain ⟨M', l1, l2, l3⟩ := rm_look hD hI
          rw [← hO] at l3
          have hRel : Rel M' := h.keep (keep_rooms l2)
          have em : ∀ i, gi M' 327 i = gi M 327 i := fun i => l2 327 i (by omega)
          have ef : (fun i => gi M' 327 i) = (fun i => gi M 327 i) := funext em
          have hR2 : RowOk (fun i => gi M 327 i) nc nt := by have := hR; rw [show rowM M 327 0 = (fun i => gi M 327 i) from funext hf] at this; exact this
          have m1' := isCan_yes (show gi M' 327 4 = nI nc by rw [em]; exact e4) (show nc < 2 ^ 31 by omega) hc
          have om' : j_Md_openOnes 327 M' = some (nI O, M') := by
            have := openOnes_m (a := 327) (M := M') n8 (by rw [em]; exact e5)
            rw [this, hO]
            unfold openN
            rw [setN_cong nt (fun i _ => by rw [em])]
          have hl := left_m (a := 327) (M := M') (show c < 7 by omega) hv hv0 (by rw [em]; exact hk) (fun t hb => by rw [em]; exact ht t hb)
          rw [ef] at hl
          have hr' : ¬ gi M' 327 (13 + 4 * c + 2) = 2 := by rw [em]; exact hr
          have hneg := leftV_neg (f := fun i => gi M 327 i) hc hv0 hs hr
          by_cases hH : Hf (fun i => gi M 327 i) nc O c v
          · have e := rm_end l3 n8 hO2 (show c < 6 by omega) hv hH
            have hlt : ¬ leftV (fun i => gi M 327 i) c v < 0 := fun q => hneg.mp q hH
            have eV : leftV (fun i => gi M 327 i) c v = leftS (fun i => gi M 327 i) c v 8 := if_pos hH.2.2.2.2.1
            rw [eV] at hl hlt
            refine ⟨leftS (fun i => gi M 327 i) c v 8, M', M', ?_, ?_, hRel⟩
            · simp only [j_Fc_fits, c1, bd_some, z1, if_false, oc, hy, if_true, day_isRoom (show c < 6 by omega), hp, hr, decide_false, Bool.not_false, hn0, l1, holds_yes l3 n8 hO2 (show c < 6 by omega) hv hH, gd_t (inb_nI (show c < 6 by omega) (show 6 < 2 ^ 31 by omega)), gd_t (inb_nI hv (show 256 < 2 ^ 31 by omega)), ix_nI (show c < 2 ^ 31 by omega), ix_nI (show v < 2 ^ 31 by omega), e]
            · simp only [j_Md_fits, Md_fits_b54, m1', bd_some, z1, if_false, hnn, om', hy, if_true, hl, md_isRoom (show c < 7 by omega), hr', decide_false, Bool.not_false, hlt]
          · have hlt : leftV (fun i => gi M 327 i) c v < 0 := hneg.mpr hH
            refine ⟨-1000000, M', M', ?_, ?_, hRel⟩
            · simp only [j_Fc_fits, c1, bd_some, z1, if_false, oc, hy, if_true, day_isRoom (show c < 6 by omega), hp, hr, decide_false, Bool.not_false, hn0, l1, holds_no l3 n8 hO2 (show c < 6 by omega) hv hH, z0]
            · simp only [j_Md_fits, Md_fits_b54, m1', bd_some, z1, if_false, hnn, om', hy, if_true, hl, md_isRoom (show c < 7 by omega), hr', decide_false, Bool.not_false, hlt]
    · refine ⟨-1000001, M, M, ?_, ?_, h⟩
      · simp only [j_Fc_fits, c1, bd_some, z1, if_false, oc, hy]
      · by_cases hy0 : y < 0
        · simp only [j_Md_fits, m1, bd_some, z1, if_false, hy0, if_true]
        · simp only [j_Md_fits, m1, bd_some, z1, if_false, hy0, om, hy]
  · refine ⟨-1000001, M, M, ?_, ?_, h⟩
    · simp only [j_Fc_fits, hasCan_no d0 (show nc < 2 ^ 31 by omega) hx, bd_some, z0, if_true]
    · simp only [j_Md_fits, isCan_no e4 (show nc < 2 ^ 31 by omega) hx, bd_some, z0, if_true]
