def TM (M : Mem) (B : Nat → Int32) (n : Nat) : Prop := n ≤ 110 ∧ gi M 326 7 = nI n ∧ ∀ i, i < n → gi M 332 i = B i ∧ 0 ≤ (B i).toInt ∧ (B i).toInt ≤ 255
/-- the reference's reader has changed nothing but its own places -/
def FM (M M' : Mem) : Prop := ∀ b i, (b ≠ 326 ∨ i < 8 ∨ 13 < i) → gi M' b i = gi M b i
theorem FM.rfl {M : Mem} : FM M M := fun _ _ _ => Eq.refl _
theorem FM.trans {M M1 M2 : Mem} (h : FM M M1) (g : FM M1 M2) : FM M M2 := fun b i q => (g b i q).trans (h b i q)
theorem FM.up {M : Mem} {k : Nat} {v : Int32} (h1 : 8 ≤ k) (h2 : k ≤ 13) : FM M (uI M 326 k v) := fun b i q => by rw [gi_uI, if_neg (by omega)]
theorem TM.cong {M M' : Mem} {B : Nat → Int32} {n : Nat} (h : TM M B n) (g : FM M M') : TM M' B n := ⟨h.1, by rw [g 326 7 (by omega)]; exact h.2.1, fun i hi => by rw [g 332 i (by omega)]; exact h.2.2 i hi⟩
theorem byteAt_m {M : Mem} {B : Nat → Int32} {n i : Nat} (h : TM M B n) (hi : i < 2 ^ 31) : j_Md_byteAt (nI i) M = some (if i < n then B i else -1, M) := by
  have n110 := h.1
  by_cases hin : i < n
  · have hlt : nI i < nI n := nI_lt hin (by omega)
    simp only [j_Md_byteAt, h.2.1, hlt, if_true, gd_t (inb_nI (show i < 110 by omega) (show 110 < 2 ^ 31 by omega)), ix_nI hi, (h.2.2 i hin).1, hin]
  · have hlt : ¬ nI i < nI n := nI_nlt (by omega) (by omega)
    simp only [j_Md_byteAt, if_false, h.2.1, hlt, hin]
theorem in_dig (x : Int32) (M : Mem) : j_Md_in (Int32.toInt64 x) 48 57 M = some (if 48 ≤ x.toInt ∧ x.toInt ≤ 57 then 1 else 0, M) := md_in x 48 57 rfl rfl rfl
theorem in_let (x : Int32) (M : Mem) : j_Md_in (Int32.toInt64 x) 97 122 M = some (if 97 ≤ x.toInt ∧ x.toInt ≤ 122 then 1 else 0, M) := md_in x 97 122 rfl rfl rfl
theorem nI_diff {i p : Nat} (h : p ≤ i) (hi : i < 1000) : nI i - nI p = nI (i - p) := by
  apply Int32.toInt_inj.mp
  rw [i32_sub (by rw [nI_toInt (by omega)]; omega) (by rw [nI_toInt (by omega)]; omega), nI_toInt (by omega), nI_toInt (by omega), nI_toInt (by omega)]
  omega
theorem dig_in {B : Nat → Int32} {n p : Nat} : ∀ m i q M, i + m = n → m < q → p < i → TM M B n → gi M 326 8 = nI i → gi M 326 9 = nI p → gi M 326 11 = vm B p i → ∃ M', Md_next_h121 q M = some ((), M') ∧ FM M M' ∧ gi M' 326 9 = nI p ∧ gi M' 326 12 = gi M 326 12 ∧ gi M' 326 8 = nI (fst1 (fun i => !dgB B n i) m i) ∧ gi M' 326 11 = vm B p (fst1 (fun i => !dgB B n i) m i) ∧ gi M' 326 10 = (if 2 < fst1 (fun i => !dgB B n i) m i - p then 4 else 2) := by
  have e2 : (2 : Int32) = nI 2 := rfl
  -- the end
  have hend : ∀ i q M, p < i → i ≤ n → TM M B n → gi M 326 8 = nI i → gi M 326 9 = nI p → gi M 326 11 = vm B p i → ¬ dgB B n i = true → ∃ M', Md_next_h121 (q + 1) M = some ((), M') ∧ FM M M' ∧ gi M' 326 9 = nI p ∧ gi M' 326 12 = gi M 326 12 ∧ gi M' 326 8 = nI i ∧ gi M' 326 11 = vm B p i ∧ gi M' 326 10 = (if 2 < i - p then 4 else 2) := by
    intro i q M hpi hin hT h8 h9 h11 hd
    have n110 := hT.1
    have hb := byteAt_m hT (show i < 2 ^ 31 by omega)
    have hdig : ¬ (48 ≤ (if i < n then B i else (-1 : Int32)).toInt ∧ (if i < n then B i else (-1 : Int32)).toInt ≤ 57) := by
      rintro ⟨z1, z2⟩
      by_cases hin2 : i < n
      · rw [if_pos hin2] at z1 z2
        exact hd (dgB_iff.mpr ⟨hin2, z1, z2⟩)
      · rw [if_neg hin2, tm1] at z1
        omega
    by_cases h2 : 2 < i - p
    · have hlt : nI 2 < nI (i - p) := nI_lt h2 (by omega)
      refine ⟨uI M 326 10 4, ?_, FM.up (by omega) (by omega), ?_, ?_, ?_, ?_, ?_⟩
      · simp only [Md_next_h121, h8, hb, bd_some, in_dig, hdig, if_false, if_true, h9, nI_diff (show p ≤ i by omega) (show i < 1000 by omega), e2, hlt, sq_eq]
      · rw [gi_uIi _ _ _ _ _ _ (by omega)]; exact h9
      · rw [gi_uIi _ _ _ _ _ _ (by omega)]
      · rw [gi_uIi _ _ _ _ _ _ (by omega)]; exact h8
      · rw [gi_uIi _ _ _ _ _ _ (by omega)]; exact h11
      · rw [gi_uIs, if_pos h2]
    · have hlt : ¬ nI 2 < nI (i - p) := nI_nlt (by omega) (by omega)
      refine ⟨uI M 326 10 2, ?_, FM.up (by omega) (by omega), ?_, ?_, ?_, ?_, ?_⟩
      · simp only [Md_next_h121, h8, hb, bd_some, in_dig, hdig, if_false, if_true, h9, nI_diff (show p ≤ i by omega) (show i < 1000 by omega), e2, hlt, sq_eq]
      · rw [gi_uIi _ _ _ _ _ _ (by omega)]; exact h9
      · rw [gi_uIi _ _ _ _ _ _ (by omega)]
      · rw [gi_uIi _ _ _ _ _ _ (by omega)]; exact h8
      · rw [gi_uIi _ _ _ _ _ _ (by omega)]; exact h11
      · rw [gi_uIs, if_neg h2]
  intro m
  induction m with
  | zero =>
    intro i q M hi hq hpi hT h8 h9 h11
    obtain ⟨q, rfl⟩ : ∃ z, q = z + 1 := ⟨q - 1, by omega⟩
    simp only [fst1]
    exact hend i q M hpi (by omega) hT h8 h9 h11 (fun z => by have := (dgB_iff.mp z).1; omega)
  | succ m ih =>
    intro i q M hi hq hpi hT h8 h9 h11
    obtain ⟨q, rfl⟩ : ∃ z, q = z + 1 := ⟨q - 1, by omega⟩
    have n110 := hT.1
    by_cases hd : dgB B n i = true
    · simp only [fst1, hd, Bool.not_true, Bool.false_eq_true, if_false]
      obtain ⟨_, d1, d2⟩ := dgB_iff.mp hd
      have hb := byteAt_m hT (show i < 2 ^ 31 by omega)
      rw [if_pos (by omega)] at hb
      have hnext : ∀ v, v = vm B p (i + 1) → ∃ M', Md_next_b182 (fun M => Md_next_h121 q M) v M = some ((), M') ∧ FM M M' ∧ gi M' 326 9 = nI p ∧ gi M' 326 12 = gi M 326 12 ∧ gi M' 326 8 = nI (fst1 (fun i => !dgB B n i) m (i + 1)) ∧ gi M' 326 11 = vm B p (fst1 (fun i => !dgB B n i) m (i + 1)) ∧ gi M' 326 10 = (if 2 < fst1 (fun i => !dgB B n i) m (i + 1) - p then 4 else 2) := by
        intro v hv
        obtain ⟨Ma, hMa⟩ : ∃ Ma, Ma = uI M 326 11 v := ⟨_, rfl⟩
        obtain ⟨Mb, hMb⟩ : ∃ Mb, Mb = uI Ma 326 8 (nI (i + 1)) := ⟨_, rfl⟩
        have g8 : gi Ma 326 8 = nI i := by rw [hMa, gi_uIi _ _ _ _ _ _ (by omega)]; exact h8
        have fr : FM M Mb := by rw [hMb, hMa]; exact (FM.up (by omega) (by omega)).trans (FM.up (by omega) (by omega))
        obtain ⟨M', r1, r2, r3, r4, r5, r6, r7⟩ := ih (i + 1) q Mb (by omega) (by omega) (by omega) (hT.cong fr) (by rw [hMb, gi_uIs]) (by rw [hMb, gi_uIi _ _ _ _ _ _ (by omega), hMa, gi_uIi _ _ _ _ _ _ (by omega)]; exact h9) (by rw [hMb, gi_uIi _ _ _ _ _ _ (by omega), hMa, gi_uIs, hv])
        refine ⟨M', ?_, fr.trans r2, r3, ?_, r5, r6, r7⟩
        · unfold Md_next_b182
          rw [sq_e, ← hMa, sq_e, g8, nI_1, ← hMb]
          exact r1
        · rw [r4, hMb, gi_uIi _ _ _ _ _ _ (by omega), hMa, gi_uIi _ _ _ _ _ _ (by omega)]
      by_cases h2 : i - p < 2
      · have hlt : nI (i - p) < nI 2 := nI_lt h2 (by omega)
        have hip : i = p + 1 := by omega
        obtain ⟨M', r1, r2⟩ := hnext (((10 : Int32) * (vm B p i)) + B i - 48) (by
          rw [hip]
          unfold vm
          rw [if_pos (by omega), if_neg (by omega)])
        refine ⟨M', ?_, r2⟩
        rw [← r1]
        simp only [Md_next_h121, h8, hb, bd_some, in_dig, d1, d2, and_self, if_true, z1, if_false, h9, nI_diff (show p ≤ i by omega) (show i < 1000 by omega), e2, hlt, h11]
      · have hlt : ¬ nI (i - p) < nI 2 := nI_nlt (by omega) (by omega)
        obtain ⟨M', r1, r2⟩ := hnext (vm B p i) (by
          unfold vm
          rw [if_neg (by omega), if_neg (by omega)])
        refine ⟨M', ?_, r2⟩
        rw [← r1]
        simp only [Md_next_h121, h8, hb, bd_some, in_dig, d1, d2, and_self, if_true, z1, if_false, h9, nI_diff (show p ≤ i by omega) (show i < 1000 by omega), e2, hlt, h11]
    · have hd' : dgB B n i = false := by simpa using hd
      simp only [fst1, hd', Bool.not_false, if_true]
      exact hend i q M hpi (by omega) hT h8 h9 h11 hd
/-- the token that begins at p -/
def Tok (M : Mem) (B : Nat → Int32) (n p : Nat) : Prop := gi M 326 9 = nI p ∧ (n ≤ p → gi M 326 10 = 0) ∧ ((p < n ∧ 97 ≤ (B p).toInt ∧ (B p).toInt ≤ 122) → gi M 326 10 = 1 ∧ gi M 326 11 = B p ∧ gi M 326 8 = nI (p + 1)) ∧ (dgB B n p = true → gi M 326 10 = (if 2 < fe B n p - p then 4 else 2) ∧ gi M 326 11 = vm B p (fe B n p) ∧ gi M 326 8 = nI (fe B n p)) ∧ ((p < n ∧ (B p = 44 ∨ B p = 59)) → gi M 326 10 = 3 ∧ gi M 326 11 = B p ∧ gi M 326 8 = nI (p + 1)) ∧ ((p < n ∧ ¬ (97 ≤ (B p).toInt ∧ (B p).toInt ≤ 122) ∧ ¬ dgB B n p = true ∧ ¬ (B p = 44 ∨ B p = 59)) → gi M 326 10 = 4)
theorem next_m {M : Mem} {B : Nat → Int32} {n p : Nat} (hT : TM M B n) (h8 : gi M 326 8 = nI p) (hpn : p ≤ n) : ∃ M', j_Md_next M = some ((), M') ∧ FM M M' ∧ Tok M' B n p ∧ gi M' 326 12 = gi M 326 12 := by
  have n110 := hT.1
  have t44 : (44 : Int32).toInt = 44 := by decide
  have t59 : (59 : Int32).toInt = 59 := by decide
  obtain ⟨Ma, hMa⟩ : ∃ Ma, Ma = uI M 326 9 (nI p) := ⟨_, rfl⟩
  have fa : FM M Ma := by rw [hMa]; exact FM.up (by omega) (by omega)
  have ga8 : gi Ma 326 8 = nI p := by rw [hMa, gi_uIi _ _ _ _ _ _ (by omega)]; exact h8
  have hb := byteAt_m (hT.cong fa) (show p < 2 ^ 31 by omega)
  obtain ⟨b, hbd⟩ : ∃ b : Int32, b = if p < n then B p else -1 := ⟨_, rfl⟩
  rw [← hbd] at hb
  obtain ⟨Mb, hMb⟩ : ∃ Mb, Mb = uI Ma 326 11 b := ⟨_, rfl⟩
  have gb8 : gi Mb 326 8 = nI p := by rw [hMb, gi_uIi _ _ _ _ _ _ (by omega)]; exact ga8
  have hst : j_Md_next M = (if b < 0 then Md_next_b36 b 0 (nI p) Mb else Md_next_b36 b 1 (nI p) Mb) := by
    unfold j_Md_next
    rw [h8, sq_e, ← hMa, ga8, hb, bd_some, sq_e, ← hMb, gb8]
  rw [hst]
  by_cases hpn2 : p < n
  · rw [if_pos hpn2] at hbd
    obtain ⟨q1, q2, q3⟩ := hT.2.2 p hpn2
    have hnn : ¬ b < 0 := by rw [hbd, i32_lt, t0]; omega
    rw [if_neg hnn]
    obtain ⟨Mc, hMc⟩ : ∃ Mc, Mc = uI Mb 326 8 (nI (p + 1)) := ⟨_, rfl⟩
    have fc : FM M Mc := by rw [hMc, hMb]; exact (fa.trans (FM.up (by omega) (by omega))).trans (FM.up (by omega) (by omega))
    have c9 : gi Mc 326 9 = nI p := by rw [hMc, gi_uIi _ _ _ _ _ _ (by omega), hMb, gi_uIi _ _ _ _ _ _ (by omega), hMa, gi_uIs]
    have c11 : gi Mc 326 11 = B p := by rw [hMc, gi_uIi _ _ _ _ _ _ (by omega), hMb, gi_uIs, hbd]
    have c8 : gi Mc 326 8 = nI (p + 1) := by rw [hMc, gi_uIs]
    have c12 : gi Mc 326 12 = gi M 326 12 := by rw [hMc, gi_uIi _ _ _ _ _ _ (by omega), hMb, gi_uIi _ _ _ _ _ _ (by omega), hMa, gi_uIi _ _ _ _ _ _ (by omega)]
    have e1 : nI p + 1 = nI (p + 1) := nI_1 p
    -- a token of one sign
    have hone : ∀ k : Int32, k ≠ 2 → ∃ M', Md_next_b102 (B p) k Mc = some ((), M') ∧ FM M M' ∧ gi M' 326 9 = nI p ∧ gi M' 326 10 = k ∧ gi M' 326 11 = B p ∧ gi M' 326 8 = nI (p + 1) ∧ gi M' 326 12 = gi M 326 12 := by
      intro k hk
      refine ⟨uI Mc 326 10 k, ?_, fc.trans (FM.up (by omega) (by omega)), ?_, gi_uIs _ _ _ _, ?_, ?_, ?_⟩
      · unfold Md_next_b102
        rw [sq_e, gi_uIs, if_neg hk]
      · rw [gi_uIi _ _ _ _ _ _ (by omega)]; exact c9
      · rw [gi_uIi _ _ _ _ _ _ (by omega)]; exact c11
      · rw [gi_uIi _ _ _ _ _ _ (by omega)]; exact c8
      · rw [gi_uIi _ _ _ _ _ _ (by omega)]; exact c12
    have hb36 : Md_next_b36 b 1 (nI p) Mb = (if b < 0 then Md_next_b102 b 0 Mc else bd (j_Md_in (Int32.toInt64 b) 97 122 Mc) (fun r6 M7 => (if r6 = 0 then bd (j_Md_in (Int32.toInt64 b) 48 57 M7) (fun r8 M9 => (if r8 = 0 then (if b = 44 then (Md_next_b97 b M9) else (if b = 59 then (Md_next_b97 b M9) else (Md_next_b102 b 4 M9))) else (Md_next_b102 b 2 M9))) else (Md_next_b102 b 1 M7)))) := by
      unfold Md_next_b36
      rw [sq_e, e1, ← hMc]
    rw [hb36, if_neg hnn, hbd, in_let, bd_some]
    by_cases hl : 97 ≤ (B p).toInt ∧ (B p).toInt ≤ 122
    · rw [if_pos hl, if_neg (by decide)]
      obtain ⟨M', r1, r2, r3, r4, r5, r6, r7⟩ := hone 1 (by decide)
      refine ⟨M', r1, r2, ⟨r3, fun z => by omega, fun _ => ⟨r4, r5, r6⟩, fun z => ?_, fun z => ?_, fun z => absurd hl z.2.1⟩, r7⟩
      · have := dgB_iff.mp z; omega
      · rcases z.2 with z | z
        · rw [z, t44] at hl; omega
        · rw [z, t59] at hl; omega
    · rw [if_neg hl, if_pos rfl, in_dig, bd_some]
      by_cases hd : 48 ≤ (B p).toInt ∧ (B p).toInt ≤ 57
      · have hdg : dgB B n p = true := dgB_iff.mpr ⟨hpn2, hd.1, hd.2⟩
        rw [if_pos hd, if_neg (by decide)]
        obtain ⟨Md, hMd⟩ : ∃ Md, Md = uI Mc 326 10 2 := ⟨_, rfl⟩
        obtain ⟨Me, hMe⟩ : ∃ Me, Me = uI Md 326 11 (B p - 48) := ⟨_, rfl⟩
        have fe' : FM M Me := by rw [hMe, hMd]; exact (fc.trans (FM.up (by omega) (by omega))).trans (FM.up (by omega) (by omega))
        obtain ⟨M', r1, r2, r3, r4, r5, r6, r7⟩ := dig_in (B := B) (n := n) (p := p) (n - (p + 1)) (p + 1) FU Me (by omega) (by unfold FU; omega) (by omega) (hT.cong fe') (by rw [hMe, gi_uIi _ _ _ _ _ _ (by omega), hMd, gi_uIi _ _ _ _ _ _ (by omega)]; exact c8) (by rw [hMe, gi_uIi _ _ _ _ _ _ (by omega), hMd, gi_uIi _ _ _ _ _ _ (by omega)]; exact c9) (by rw [hMe, gi_uIs]; unfold vm; rw [if_pos (by omega)])
        have efe : fst1 (fun i => !dgB B n i) (n - (p + 1)) (p + 1) = fe B n p := by
          unfold fe
          rw [show n - p = (n - (p + 1)) + 1 by omega]
          simp only [fst1, hdg, Bool.not_true, Bool.false_eq_true, if_false]
        rw [efe] at r5 r6 r7
        refine ⟨M', ?_, fe'.trans r2, ⟨r3, fun z => by omega, fun z => absurd z.2 hl, fun _ => ⟨r7, r6, r5⟩, fun z => ?_, fun z => absurd hdg z.2.2.1⟩, ?_⟩
        · unfold Md_next_b102
          rw [sq_e, ← hMd]
          have : gi Md 326 10 = 2 := by rw [hMd, gi_uIs]
          rw [this, if_pos rfl, sq_e, ← hMe]
          exact r1
        · rcases z.2 with z | z
          · rw [z, t44] at hd; omega
          · rw [z, t59] at hd; omega
        · rw [r4, hMe, gi_uIi _ _ _ _ _ _ (by omega), hMd, gi_uIi _ _ _ _ _ _ (by omega)]; exact c12
      · have hdg : ¬ dgB B n p = true := fun z => by have := dgB_iff.mp z; omega
        rw [if_neg hd, if_pos rfl]
        by_cases hs : B p = 44 ∨ B p = 59
        · obtain ⟨M', r1, r2, r3, r4, r5, r6, r7⟩ := hone 3 (by decide)
          refine ⟨M', ?_, r2, ⟨r3, fun z => by omega, fun z => absurd z.2 hl, fun z => absurd z hdg, fun _ => ⟨r4, r5, r6⟩, fun z => absurd hs z.2.2.2⟩, r7⟩
          by_cases h44 : B p = 44
          · rw [if_pos h44]; exact r1
          · rw [if_neg h44, if_pos (hs.resolve_left h44)]; exact r1
        · obtain ⟨M', r1, r2, r3, r4, r5, r6, r7⟩ := hone 4 (by decide)
          refine ⟨M', ?_, r2, ⟨r3, fun z => by omega, fun z => absurd z.2 hl, fun z => absurd z hdg, fun z => absurd z.2 hs, fun _ => r4⟩, r7⟩
          rw [if_neg (fun z => hs (Or.inl z)), if_neg (fun z => hs (Or.inr z))]
          exact r1
  · rw [if_neg hpn2] at hbd
    have hneg : b < 0 := by rw [hbd]; decide
    rw [if_pos hneg]
    obtain ⟨Mc, hMc⟩ : ∃ Mc, Mc = uI Mb 326 8 (nI p) := ⟨_, rfl⟩
    have fc : FM M Mc := by rw [hMc, hMb]; exact (fa.trans (FM.up (by omega) (by omega))).trans (FM.up (by omega) (by omega))
    have hno : ∀ z : Prop, p < n → z := fun z q => absurd q hpn2
    refine ⟨uI Mc 326 10 0, ?_, fc.trans (FM.up (by omega) (by omega)), ⟨?_, fun _ => gi_uIs _ _ _ _, fun z => hno _ z.1, fun z => hno _ (dgB_iff.mp z).1, fun z => hno _ z.1, fun z => hno _ z.1⟩, ?_⟩
    · unfold Md_next_b36
      rw [sq_e, nI_p0, ← hMc, if_pos hneg]
      unfold Md_next_b102
      rw [sq_e, gi_uIs, if_neg (by decide)]
    · rw [gi_uIi _ _ _ _ _ _ (by omega), hMc, gi_uIi _ _ _ _ _ _ (by omega), hMb, gi_uIi _ _ _ _ _ _ (by omega), hMa, gi_uIs]
    · rw [gi_uIi _ _ _ _ _ _ (by omega), hMc, gi_uIi _ _ _ _ _ _ (by omega), hMb, gi_uIi _ _ _ _ _ _ (by omega), hMa, gi_uIi _ _ _ _ _ _ (by omega)]
