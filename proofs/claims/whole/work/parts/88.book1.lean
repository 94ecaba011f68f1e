def SC (M : Mem) (B : Nat → Int32) (n p : Nat) : Prop := TC M B n ∧ gi M 1 2 = nI p ∧ p ≤ n
def SM (M : Mem) (B : Nat → Int32) (n p : Nat) : Prop := TM M B n ∧ Tok M B n p ∧ gi M 326 12 = 0
theorem num_both {Mc Mm : Mem} {B : Nat → Int32} {n p : Nat} {lo hi : Int32} (hc : SC Mc B n p) (hm : SM Mm B n p) : (∃ e v Mm', j_Tape_readNumber lo hi Mc = some (v, uI Mc 1 2 (nI e)) ∧ j_Md_number lo hi Mm = some (v, Mm') ∧ FM Mm Mm' ∧ SM Mm' B n e ∧ e ≤ n ∧ lo.toInt ≤ v.toInt ∧ v.toInt ≤ hi.toInt) ∨ (∃ k Mm', j_Tape_readNumber lo hi Mc = some (-1000000, uI Mc 1 3 (nI k)) ∧ j_Md_number lo hi Mm = some (lo, Mm') ∧ FM Mm Mm' ∧ Fl Mm' k p) := by
  obtain ⟨c1, c2, c3⟩ := hc
  obtain ⟨m1, m2, m3⟩ := hm
  obtain ⟨a1, a2, a3⟩ := num_c (lo := lo) (hi := hi) c1 c2 c3
  obtain ⟨b1, b2, b3⟩ := num_m (lo := lo) (hi := hi) m1 m3 m2 c3
  by_cases h : numOK B n lo hi p
  · obtain ⟨Mm', r1, r2, r3, r4⟩ := b1 h
    exact Or.inl ⟨fe B n p, vm B p (fe B n p), Mm', a1 h, r1, r2, ⟨m1.cong r2, r3, r4⟩, (fe_le c3).2, h.2.1, h.2.2⟩
  · by_cases hd : dgB B n p = true ∧ fe B n p - p ≤ 2
    · obtain ⟨Mm', r1, r2, r3⟩ := b3 hd h
      exact Or.inr ⟨2, Mm', a3 hd h, r1, r2, r3⟩
    · obtain ⟨Mm', r1, r2, r3⟩ := b2 hd
      exact Or.inr ⟨1, Mm', a2 hd, r1, r2, r3⟩
theorem sign_both {Mc Mm : Mem} {B : Nat → Int32} {n p : Nat} {x : Int32} (hx : x = 44 ∨ x = 59) (hc : SC Mc B n p) (hm : SM Mm B n p) : (∃ Mm', j_Tape_pass x Mc = some (1, uI Mc 1 2 (nI (p + 1))) ∧ j_Md_sign x Mm = some ((), Mm') ∧ FM Mm Mm' ∧ SM Mm' B n (p + 1) ∧ p + 1 ≤ n) ∨ (∃ Mm', j_Tape_pass x Mc = some (0, uI Mc 1 3 (nI 1)) ∧ j_Md_sign x Mm = some ((), Mm') ∧ FM Mm Mm' ∧ Fl Mm' 1 p) := by
  obtain ⟨c1, c2, c3⟩ := hc
  obtain ⟨m1, m2, m3⟩ := hm
  have hx0 : 0 ≤ x.toInt := by rcases hx with h | h <;> rw [h] <;> decide
  obtain ⟨a1, a2⟩ := pass_c hx0 c1 c2 c3
  obtain ⟨b1, b2⟩ := sign_m hx m1 m3 m2 c3
  by_cases h : p < n ∧ B p = x
  · obtain ⟨Mm', r1, r2, r3, r4⟩ := b1 h
    exact Or.inl ⟨Mm', a1 h, r1, r2, ⟨m1.cong r2, r3, r4⟩, by omega⟩
  · obtain ⟨Mm', r1, r2, r3⟩ := b2 h
    exact Or.inr ⟨Mm', a2 h, r1, r2, r3⟩
theorem SC.up {M : Mem} {B : Nat → Int32} {n p e : Nat} (h : SC M B n p) (he : e ≤ n) : SC (uI M 1 2 (nI e)) B n e := ⟨h.1.cong (gi_uIi _ _ _ _ _ _ (by omega)) (fun i => gi_uIa _ _ _ _ _ _ (by omega)), gi_uIs _ _ _ _, he⟩
/-- frames: the class's reader, the reference's reader -/
def CF (M M' : Mem) : Prop := ∀ b i, ¬ (15 ≤ b ∧ b ≤ 26) → ¬ (b = 1 ∧ (i = 2 ∨ i = 3)) → gi M' b i = gi M b i
def MF (M M' : Mem) : Prop := ∀ b i, b ≠ 328 → (b ≠ 326 ∨ i < 8 ∨ 13 < i) → gi M' b i = gi M b i
theorem CF.rfl {M : Mem} : CF M M := fun _ _ _ _ => Eq.refl _
theorem CF.trans {M M1 M2 : Mem} (h : CF M M1) (g : CF M1 M2) : CF M M2 := fun b i q1 q2 => (g b i q1 q2).trans (h b i q1 q2)
theorem CF.up {M : Mem} {k : Nat} {v : Int32} (h : k = 2 ∨ k = 3) : CF M (uI M 1 k v) := fun b i q1 q2 => by rw [gi_uI, if_neg (by omega)]
theorem MF.rfl {M : Mem} : MF M M := fun _ _ _ _ => Eq.refl _
theorem MF.trans {M M1 M2 : Mem} (h : MF M M1) (g : MF M1 M2) : MF M M2 := fun b i q1 q2 => (g b i q1 q2).trans (h b i q1 q2)
theorem MF.of {M M' : Mem} (h : FM M M') : MF M M' := fun b i q1 q2 => h b i q2
theorem MF.up {M : Mem} {k : Nat} {v : Int32} : MF M (uI M 328 k v) := fun b i q1 q2 => by rw [gi_uI, if_neg (by omega)]
theorem SC.cf {M M' : Mem} {B : Nat → Int32} {n p : Nat} (h : SC M B n p) (g : CF M M') (e : gi M' 1 2 = gi M 1 2) : SC M' B n p := ⟨h.1.cong (g 1 1 (by omega) (by omega)) (fun i => g 2 i (by omega) (by omega)), by rw [e]; exact h.2.1, h.2.2⟩
theorem SM.row {M : Mem} {B : Nat → Int32} {n p k : Nat} {v : Int32} (h : SM M B n p) : SM (uI M 328 k v) B n p := by
  obtain ⟨⟨m1, m2, m3⟩, m4, m5⟩ := h
  have e : ∀ b i, b ≠ 328 → gi (uI M 328 k v) b i = gi M b i := fun b i hb => gi_uIa _ _ _ _ _ _ hb
  refine ⟨⟨m1, by rw [e _ _ (by omega)]; exact m2, fun i hi => by rw [e _ _ (by omega)]; exact m3 i hi⟩, ?_, by rw [e _ _ (by omega)]; exact m5⟩
  unfold Tok
  rw [e 326 9 (by omega), e 326 10 (by omega), e 326 11 (by omega), e 326 8 (by omega)]
  exact m4
theorem Fl.row {M : Mem} {k p j : Nat} {v : Int32} (h : Fl M k p) : Fl (uI M 328 j v) k p := ⟨by rw [gi_uIa _ _ _ _ _ _ (by omega)]; exact h.1, h.2.1, h.2.2.1, by rw [gi_uIa _ _ _ _ _ _ (by omega)]; exact h.2.2.2⟩
/-- one of the four laws in the reference -/
def mL (lo hi : Int32) (i : Nat) (sg : Int32) (K : Mem → Option (Int32 × Mem)) (M : Mem) : Option (Int32 × Mem) := bd (j_Md_number lo hi M) (fun r M1 => sq (uI M1 328 i r) (fun M2 => bd (j_Md_sign sg M2) (fun _ M3 => K M3)))
theorem mL_f {lo hi sg : Int32} {i k p : Nat} {K : Mem → Option (Int32 × Mem)} {M : Mem} (h : Fl M k p) : ∃ M', mL lo hi i sg K M = K M' ∧ Fl M' k p ∧ MF M M' := by
  refine ⟨uI M 328 i lo, ?_, h.row, MF.up⟩
  unfold mL
  rw [num_f h, bd_some, sq_e, sign_f h.row, bd_some]
/-- a fault found: what the class's cells say -/
def FC (M : Mem) (k p : Nat) : Prop := gi M 1 3 = nI k ∧ gi M 1 2 = nI p
theorem FC.up {M : Mem} {k p : Nat} (h : gi M 1 2 = nI p) : FC (uI M 1 3 (nI k)) k p := ⟨gi_uIs _ _ _ _, by rw [gi_uIi _ _ _ _ _ _ (by omega)]; exact h⟩
theorem law_both {Mc Mm : Mem} {B : Nat → Int32} {n p i q : Nat} {lo hi sg : Int32} {K : Mem → Option (Int32 × Mem)} (hi4 : i < 4) (hlo : cLL i = lo) (hhi : cLM i = hi) (hsg : sg = if i < 3 then 44 else 59) (hlo0 : 0 ≤ lo.toInt) (hc : SC Mc B n p) (hm : SM Mm B n p) : (∃ p' v Mc' Mm', Tape_readLaws_h13 (q + 1) 15 (nI i) Mc = Tape_readLaws_h13 q 15 (nI (i + 1)) Mc' ∧ mL lo hi i sg K Mm = K Mm' ∧ SC Mc' B n p' ∧ SM Mm' B n p' ∧ CF Mc Mc' ∧ MF Mm Mm' ∧ gi Mc' 1 3 = gi Mc 1 3 ∧ gi Mc' 16 i = v ∧ gi Mm' 328 i = v ∧ lo.toInt ≤ v.toInt ∧ v.toInt ≤ hi.toInt ∧ (∀ b j, 15 ≤ b → (b ≠ 16 ∨ j ≠ i) → gi Mc' b j = gi Mc b j) ∧ (∀ j, j ≠ i → gi Mm' 328 j = gi Mm 328 j)) ∨ (∃ k r Mc' Mm', Tape_readLaws_h13 (q + 1) 15 (nI i) Mc = some (0, Mc') ∧ mL lo hi i sg K Mm = K Mm' ∧ FC Mc' k r ∧ Fl Mm' k r ∧ CF Mc Mc' ∧ MF Mm Mm') := by
  have e4 : (4 : Int32) = nI 4 := rfl
  have e3 : (3 : Int32) = nI 3 := rfl
  have hlt : nI i < nI 4 := nI_lt hi4 (by omega)
  have hin := inb_nI hi4 (show 4 < 2 ^ 31 by omega)
  have hix := ix_nI (show i < 2 ^ 31 by omega)
  have hsg2 : sg = 44 ∨ sg = 59 := by
    rw [hsg]
    by_cases h : i < 3
    · rw [if_pos h]; exact Or.inl rfl
    · rw [if_neg h]; exact Or.inr rfl
  have hstep : ∀ v M1, j_Tape_readNumber lo hi Mc = some (v, M1) → ¬ v = -1000000 → Tape_readLaws_h13 (q + 1) 15 (nI i) Mc = Tape_readLaws_b52 (fun d1 x2 M => Tape_readLaws_h13 q d1 x2 M) 15 (nI i) v sg M1 := by
    intro v M1 h1 h2
    by_cases h3 : i < 3
    · have h3' : nI i < nI 3 := nI_lt h3 (by omega)
      rw [if_pos h3] at hsg
      simp only [Tape_readLaws_h13, e4, hlt, if_true, gd_t hin, hix, hlo, hhi, h1, bd_some, h2, if_false, e3, h3', hsg]
    · have h3' : ¬ nI i < nI 3 := nI_nlt (by omega) (by omega)
      rw [if_neg h3] at hsg
      simp only [Tape_readLaws_h13, e4, hlt, if_true, gd_t hin, hix, hlo, hhi, h1, bd_some, h2, if_false, e3, h3', hsg]
  rcases num_both (lo := lo) (hi := hi) hc hm with ⟨e, v, M1, a1, a2, a3, a4, a5, a6, a7⟩ | ⟨k, M1, a1, a2, a3, a4⟩
  · have hv : ¬ v = -1000000 := fun z => by rw [z, tN] at a6; omega
    have hc1 := hc.up a5
    have hm1 : SM (uI M1 328 i v) B n e := a4.row
    rcases sign_both hsg2 hc1 hm1 with ⟨M2, b1, b2, b3, b4, b5⟩ | ⟨M2, b1, b2, b3, b4⟩
    · left
      refine ⟨e + 1, v, uI (uI (uI Mc 1 2 (nI e)) 1 2 (nI (e + 1))) 16 i v, M2, ?_, ?_, ?_, b4, ?_, ?_, ?_, gi_uIs _ _ _ _, ?_, a6, a7, fun b j hb hbj => ?_, fun j hj => ?_⟩
      · rw [hstep v _ a1 hv]
        unfold Tape_readLaws_b52
        rw [b1, bd_some, if_neg (by decide), gd_t hin, hix, sq_e, lq_e, nI_1]
      · unfold mL
        rw [a2, bd_some, sq_e, b2, bd_some]
      · refine SC.cf (hc1.up b5) (fun b j q1 q2 => gi_uIa _ _ _ _ _ _ (by omega)) (gi_uIa _ _ _ _ _ _ (by omega))
      · exact ((CF.up (Or.inl rfl)).trans (CF.up (Or.inl rfl))).trans (fun b j q1 q2 => gi_uIa _ _ _ _ _ _ (by omega))
      · exact ((MF.of a3).trans MF.up).trans (MF.of b3)
      · rw [gi_uIa _ _ _ _ _ _ (by omega), gi_uIi _ _ _ _ _ _ (by omega), gi_uIi _ _ _ _ _ _ (by omega)]
      · rw [b3 328 i (by omega), gi_uIs]
      · rw [gi_uI, if_neg (by omega), gi_uIa _ _ _ _ _ _ (by omega), gi_uIa _ _ _ _ _ _ (by omega)]
      · rw [b3 328 j (by omega), gi_uIi _ _ _ _ _ _ hj, a3 328 j (by omega)]
    · right
      refine ⟨1, e, uI (uI Mc 1 2 (nI e)) 1 3 (nI 1), M2, ?_, ?_, FC.up (gi_uIs _ _ _ _), b4, (CF.up (Or.inl rfl)).trans (CF.up (Or.inr rfl)), ((MF.of a3).trans MF.up).trans (MF.of b3)⟩
      · rw [hstep v _ a1 hv]
        unfold Tape_readLaws_b52
        rw [b1, bd_some, if_pos rfl]
      · unfold mL
        rw [a2, bd_some, sq_e, b2, bd_some]
  · right
    refine ⟨k, p, uI Mc 1 3 (nI k), uI M1 328 i lo, ?_, ?_, FC.up hc.2.1, a4.row, CF.up (Or.inr rfl), (MF.of a3).trans MF.up⟩
    · simp only [Tape_readLaws_h13, e4, hlt, if_true, gd_t hin, hix, hlo, hhi, a1, bd_some]
    · unfold mL
      rw [a2, bd_some, sq_e, sign_f a4.row, bd_some]
theorem h13_end (M : Mem) (q : Nat) : Tape_readLaws_h13 (q + 1) 15 (nI 4) M = some (1, M) := by
  have : ¬ nI 4 < (4 : Int32) := by decide
  rw [Tape_readLaws_h13, if_neg this]
def mEnd (M33 : Mem) : Option (Int32 × Mem) := bd (j_Md_isCanTold M33) (fun r34 M35 => (if r34 = 0 then bd (j_Md_bad 1 M35) (fun _ M51 => (Md_book_h138 FU M51)) else (Md_book_h138 FU M35)))
def mLaws (M : Mem) : Option (Int32 × Mem) := mL 0 9 0 44 (mL 1 40 1 44 (mL 10 99 2 44 (mL 0 20 3 59 mEnd))) M
/-- the laws are read -/
theorem laws_both {Mc Mm : Mem} {B : Nat → Int32} {n p q : Nat} (hc : SC Mc B n p) (hm : SM Mm B n p) : (∃ p' Mc' Mm', Tape_readLaws_h13 (q + 5) 15 (nI 0) Mc = some (1, Mc') ∧ mLaws Mm = mEnd Mm' ∧ SC Mc' B n p' ∧ SM Mm' B n p' ∧ CF Mc Mc' ∧ MF Mm Mm' ∧ gi Mc' 1 3 = gi Mc 1 3 ∧ (∀ i, i < 4 → gi Mc' 16 i = gi Mm' 328 i) ∧ (0 ≤ (gi Mm' 328 0).toInt ∧ (gi Mm' 328 0).toInt ≤ 9) ∧ (0 ≤ (gi Mm' 328 1).toInt ∧ (gi Mm' 328 1).toInt ≤ 40) ∧ (∀ b j, 15 ≤ b → b ≠ 16 → gi Mc' b j = gi Mc b j) ∧ (∀ j, 4 ≤ j → gi Mm' 328 j = gi Mm 328 j)) ∨ (∃ k r Mc' Mm', Tape_readLaws_h13 (q + 5) 15 (nI 0) Mc = some (0, Mc') ∧ mLaws Mm = mEnd Mm' ∧ FC Mc' k r ∧ Fl Mm' k r ∧ CF Mc Mc' ∧ MF Mm Mm') := by
  have t9 : (9 : Int32).toInt = 9 := by decide
  have t40 : (40 : Int32).toInt = 40 := by decide
  rcases law_both (q := q + 4) (i := 0) (lo := 0) (hi := 9) (sg := 44) (K := mL 1 40 1 44 (mL 10 99 2 44 (mL 0 20 3 59 mEnd))) (by omega) rfl rfl rfl (by decide) hc hm with ⟨p1, v1, C1, M1, a1, a2, a3, a4, a5, a6, a7, a8, a9, a10, a11, a12, a13⟩ | ⟨k, r, C1, M1, a1, a2, a3, a4, a5, a6⟩
  · rcases law_both (q := q + 3) (i := 1) (lo := 1) (hi := 40) (sg := 44) (K := mL 10 99 2 44 (mL 0 20 3 59 mEnd)) (by omega) rfl rfl rfl (by decide) a3 a4 with ⟨p2, v2, C2, M2, b1, b2, b3, b4, b5, b6, b7, b8, b9, b10, b11, b12, b13⟩ | ⟨k, r, C2, M2, b1, b2, b3, b4, b5, b6⟩
    · rcases law_both (q := q + 2) (i := 2) (lo := 10) (hi := 99) (sg := 44) (K := mL 0 20 3 59 mEnd) (by omega) rfl rfl rfl (by decide) b3 b4 with ⟨p3, v3, C3, M3, c1, c2, c3, c4, c5, c6, c7, c8, c9, c10, c11, c12, c13⟩ | ⟨k, r, C3, M3, c1, c2, c3, c4, c5, c6⟩
      · rcases law_both (q := q + 1) (i := 3) (lo := 0) (hi := 20) (sg := 59) (K := mEnd) (by omega) rfl rfl rfl (by decide) c3 c4 with ⟨p4, v4, C4, M4, d1, d2, d3, d4, d5, d6, d7, d8, d9, d10, d11, d12, d13⟩ | ⟨k, r, C4, M4, d1, d2, d3, d4, d5, d6⟩
        · left
          refine ⟨p4, C4, M4, ?_, ?_, d3, d4, ((a5.trans b5).trans c5).trans d5, ((a6.trans b6).trans c6).trans d6, ?_, fun i hi => ?_, ?_, ?_, fun b j h1 h2 => ?_, fun j hj => ?_⟩
          · rw [a1, b1, c1, d1, h13_end]
          · unfold mLaws
            rw [a2, b2, c2, d2]
          · rw [d7, c7, b7, a7]
          · have : i = 0 ∨ i = 1 ∨ i = 2 ∨ i = 3 := by omega
            rcases this with h | h | h | h <;> subst h
            · rw [d12 16 0 (by omega) (by omega), c12 16 0 (by omega) (by omega), b12 16 0 (by omega) (by omega), a8, d13 0 (by omega), c13 0 (by omega), b13 0 (by omega), a9]
            · rw [d12 16 1 (by omega) (by omega), c12 16 1 (by omega) (by omega), b8, d13 1 (by omega), c13 1 (by omega), b9]
            · rw [d12 16 2 (by omega) (by omega), c8, d13 2 (by omega), c9]
            · rw [d8, d9]
          · rw [d13 0 (by omega), c13 0 (by omega), b13 0 (by omega), a9]
            rw [t0] at a10
            rw [t9] at a11
            exact ⟨a10, a11⟩
          · rw [d13 1 (by omega), c13 1 (by omega), b9]
            rw [t1] at b10
            rw [t40] at b11
            exact ⟨by omega, b11⟩
          · rw [d12 b j h1 (by omega), c12 b j h1 (by omega), b12 b j h1 (by omega), a12 b j h1 (by omega)]
          · rw [d13 j (by omega), c13 j (by omega), b13 j (by omega), a13 j (by omega)]
        · right
          refine ⟨k, r, C4, M4, ?_, ?_, d3, d4, ((a5.trans b5).trans c5).trans d5, ((a6.trans b6).trans c6).trans d6⟩
          · rw [a1, b1, c1, d1]
          · unfold mLaws
            rw [a2, b2, c2, d2]
      · right
        obtain ⟨N1, e1, e2, e3⟩ := mL_f (lo := 0) (hi := 20) (sg := 59) (i := 3) (K := mEnd) c4
        refine ⟨k, r, C3, N1, ?_, ?_, c3, e2, (a5.trans b5).trans c5, ((a6.trans b6).trans c6).trans e3⟩
        · rw [a1, b1, c1]
        · unfold mLaws
          rw [a2, b2, c2, e1]
    · right
      obtain ⟨N1, e1, e2, e3⟩ := mL_f (lo := 10) (hi := 99) (sg := 44) (i := 2) (K := mL 0 20 3 59 mEnd) b4
      obtain ⟨N2, f1, f2, f3⟩ := mL_f (lo := 0) (hi := 20) (sg := 59) (i := 3) (K := mEnd) e2
      refine ⟨k, r, C2, N2, ?_, ?_, b3, f2, a5.trans b5, ((a6.trans b6).trans e3).trans f3⟩
      · rw [a1, b1]
      · unfold mLaws
        rw [a2, b2, e1, f1]
  · right
    obtain ⟨N0, g1, g2, g3⟩ := mL_f (lo := 1) (hi := 40) (sg := 44) (i := 1) (K := mL 10 99 2 44 (mL 0 20 3 59 mEnd)) a4
    obtain ⟨N1, e1, e2, e3⟩ := mL_f (lo := 10) (hi := 99) (sg := 44) (i := 2) (K := mL 0 20 3 59 mEnd) g2
    obtain ⟨N2, f1, f2, f3⟩ := mL_f (lo := 0) (hi := 20) (sg := 59) (i := 3) (K := mEnd) e2
    refine ⟨k, r, C1, N2, ?_, ?_, a3, f2, a5, ((a6.trans g3).trans e3).trans f3⟩
    · rw [a1]
    · unfold mLaws
      rw [a2, g1, e1, f1]
