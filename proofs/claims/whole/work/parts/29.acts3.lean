def leadV (k l : Int32) : Int32 := if k < 4 then l else (2 : Int32) * l
def slateV (k : Int32) : Int32 := if k = 3 then 1 else 0
def leastV (k keep : Int32) : Int32 := if k = 5 then -1000000 else (if (if k = 2 then keep / 2 else keep) < 1 then 1 else (if k = 2 then keep / 2 else keep))
def famV (k : Int32) : Int32 := if k < 4 then 0 else 1
theorem kind5 {k : Int32} (h : 1 ≤ k.toInt ∧ k.toInt ≤ 5) : k = 1 ∨ k = 2 ∨ k = 3 ∨ k = 4 ∨ k = 5 := by
  rcases i32_cases k with h1 | ⟨j, h1, rfl⟩
  · omega
  · rw [nI_toInt h1] at h
    have : j = 1 ∨ j = 2 ∨ j = 3 ∨ j = 4 ∨ j = 5 := by omega
    rcases this with q | q | q | q | q <;> subst q
    · exact Or.inl rfl
    · exact Or.inr (Or.inl rfl)
    · exact Or.inr (Or.inr (Or.inl rfl))
    · exact Or.inr (Or.inr (Or.inr (Or.inl rfl)))
    · exact Or.inr (Or.inr (Or.inr (Or.inr rfl)))
theorem tkind6 {k : Int32} (h : 0 ≤ k.toInt ∧ k.toInt ≤ 5) : k = 0 ∨ k = 1 ∨ k = 2 ∨ k = 3 ∨ k = 4 ∨ k = 5 := by
  by_cases h0 : k.toInt = 0
  · left; rw [i32_eq, t0]; exact h0
  · right; exact kind5 (by omega)
theorem kinds_lead {k l : Int32} {M : Mem} (h : 1 ≤ k.toInt ∧ k.toInt ≤ 5) : j_Kinds_leadOf k l M = some (leadV k l, M) := by
  rcases kind5 h with q | q | q | q | q <;> subst q <;> rfl
theorem kinds_slate {k : Int32} {M : Mem} (h : 1 ≤ k.toInt ∧ k.toInt ≤ 5) : j_Kinds_slateOf k M = some (slateV k, M) := by
  rcases kind5 h with q | q | q | q | q <;> subst q <;> rfl
theorem kinds_fam {k : Int32} {M : Mem} (h : 1 ≤ k.toInt ∧ k.toInt ≤ 5) : j_Kinds_familyOf k M = some (famV k, M) := by
  rcases kind5 h with q | q | q | q | q <;> subst q <;> rfl
theorem mx1 (v : Int32) : mx 1 v = if v < 1 then 1 else v := by
  simp only [mx, i32_lt, t1]
  by_cases h : v.toInt < 1
  · rw [if_pos h, if_neg (by omega)]
  · rw [if_neg h]
    by_cases h2 : 1 < v.toInt
    · rw [if_pos h2]
    · rw [if_neg h2]; rw [i32_eq, t1]; omega
theorem kinds_least {k keep : Int32} {M : Mem} (h : 1 ≤ k.toInt ∧ k.toInt ≤ 5) : j_Kinds_leastKept k keep M = some (leastV k keep, M) := by
  rcases kind5 h with q | q | q | q | q <;> subst q
  · show some (mx 1 keep, M) = some (if keep < 1 then 1 else keep, M); rw [mx1]
  · show some (mx 1 (keep / 2), M) = some (if keep / 2 < 1 then 1 else keep / 2, M); rw [mx1]
  · show some (mx 1 keep, M) = some (if keep < 1 then 1 else keep, M); rw [mx1]
  · show some (mx 1 keep, M) = some (if keep < 1 then 1 else keep, M); rw [mx1]
  · rfl
def isOfV (k t : Int32) : Bool := t = 0 || k = t || (t = 1 && (k = 2 || k = 3)) || (t = 4 && k = 5)
theorem kinds_isOf {k t : Int32} {M : Mem} (h : 1 ≤ k.toInt ∧ k.toInt ≤ 5) (ht : 0 ≤ t.toInt ∧ t.toInt ≤ 5) : j_Kinds_isOf k t M = some (if isOfV k t = true then 1 else 0, M) := by
  rcases kind5 h with q | q | q | q | q <;> subst q <;> rcases tkind6 ht with q | q | q | q | q | q <;> subst q <;> rfl
theorem md_isOf {k t : Int32} {M : Mem} (h : 1 ≤ k.toInt ∧ k.toInt ≤ 5) (ht : 0 ≤ t.toInt ∧ t.toInt ≤ 5) : j_Md_isOf k t M = some (if isOfV k t = true then 1 else 0, M) := by
  rcases kind5 h with q | q | q | q | q <;> subst q <;> rcases tkind6 ht with q | q | q | q | q | q <;> subst q <;> rfl
theorem md_lead {a c : Nat} {M : Mem} (hc : c < 7) : j_Md_lead a (nI c) M = some (leadV (gi M a (13 + 4 * c)) (gi M a 0), M) := by
  simp only [j_Md_lead, md_kind hc, bd_some, leadV]
  by_cases h : gi M a (13 + 4 * c) < 4
  · rw [if_pos h, if_pos h]
  · rw [if_neg h, if_neg h]
theorem md_slate {a c : Nat} {M : Mem} (hc : c < 7) : j_Md_slate a (nI c) M = some (slateV (gi M a (13 + 4 * c)), M) := by
  simp only [j_Md_slate, md_kind hc, bd_some, slateV]
  by_cases h : gi M a (13 + 4 * c) = 3
  · rw [if_pos h, if_pos h]
  · rw [if_neg h, if_neg h]
theorem md_leastEnd {a c : Nat} {M : Mem} (hc : c < 7) : j_Md_leastEnd a (nI c) M = some (leastV (gi M a (13 + 4 * c)) (gi M a 1), M) := by
  simp only [j_Md_leastEnd, md_kind hc, bd_some, leastV, Md_leastEnd_b32]
  by_cases h : gi M a (13 + 4 * c) = 5
  · rw [if_pos h, if_pos h]
  · rw [if_neg h, if_neg h]
    by_cases h2 : gi M a (13 + 4 * c) = 2
    · simp only [h2, if_true]
      by_cases h3 : gi M a 1 / 2 < 1
      · rw [if_pos h3, if_pos h3]
      · rw [if_neg h3, if_neg h3]
    · simp only [h2, if_false]
      by_cases h3 : gi M a 1 < 1
      · rw [if_pos h3, if_pos h3]
      · rw [if_neg h3, if_neg h3]
def keptV (k keep e : Int32) : Bool := !(leastV k keep = -1000000) && !(decide (e < leastV k keep))
theorem md_isKept {a c : Nat} {e : Int32} {M : Mem} (hc : c < 7) : j_Md_isKept a (nI c) e M = some (if keptV (gi M a (13 + 4 * c)) (gi M a 1) e = true then 1 else 0, M) := by
  simp only [j_Md_isKept, md_leastEnd hc, bd_some, keptV]
  by_cases h : leastV (gi M a (13 + 4 * c)) (gi M a 1) = -1000000
  · simp [h]
  · by_cases h2 : e < leastV (gi M a (13 + 4 * c)) (gi M a 1)
    · simp [h, h2]
    · simp [h, h2]
theorem kinds_isKept {k keep e : Int32} {M : Mem} : j_Kinds_isKept e (leastV k keep) M = some (if keptV k keep e = true then 1 else 0, M) := by
  simp only [j_Kinds_isKept, keptV]
  by_cases h : leastV k keep = -1000000
  · simp [h]
  · by_cases h2 : e < leastV k keep
    · simp [h, h2]
    · simp [h, h2]
theorem dr_addtake {M : Mem} {f : Nat → Int32} {nc nt nr : Nat} {k v : Int32} (hn : nc ≤ 6 ∧ nt < 8 ∧ nr ≤ 8) (hD : DR M 3 f nc nt nr) : DR (uI (uI (uI (uI M 9 nt k) 10 nt v) 11 nt (-1000000)) 3 1 (nI (nt + 1))) 3 (fu (fu (fu (fu f (41 + 3 * nt) k) (41 + 3 * nt + 1) v) (41 + 3 * nt + 2) (-1)) 5 (nI (nt + 1))) nc (nt + 1) nr := by
  obtain ⟨⟨a1, a2, a3⟩, a4, ⟨a5, a6, a7, a8, a9⟩, b1, b2, b3, b4⟩ := hD
  obtain ⟨n1, n2, n3⟩ := hn
  have hnn : nn (-1000000) (-1) := Or.inl ⟨rfl, rfl⟩
  refine ⟨⟨?_, ?_, ?_⟩, ?_, ⟨?_, ?_, ?_, ?_, ?_⟩, fun i hi => ?_, fun c' hc' => ?_, fun t' ht' => ?_, fun r' hr' => ?_⟩
  · grind [gi_uI, fu]
  · grind [gi_uI, fu]
  · grind [gi_uI, fu]
  · grind [gi_uI, fu]
  · grind [gi_uI, fu]
  · grind [gi_uI, fu]
  · grind [gi_uI, fu]
  · grind [gi_uI, fu]
  · grind [gi_uI, fu]
  · have := b1 i hi; clear b1 b2 b3 b4; grind [gi_uI, fu]
  · have := b2 c' hc'; clear b1 b2 b3 b4; refine ⟨?_, ?_, ?_, ?_⟩ <;> grind [gi_uI, fu]
  · by_cases h : t' = nt
    · subst h; clear b1 b2 b3 b4; refine ⟨?_, ?_, ?_⟩ <;> grind [gi_uI, fu]
    · have := b3 t' (by omega); clear b1 b2 b3 b4; refine ⟨?_, ?_, ?_⟩ <;> grind [gi_uI, fu]
  · have := b4 r' hr'; clear b1 b2 b3 b4; refine ⟨?_, ?_, ?_⟩ <;> grind [gi_uI, fu]
theorem iv_addtake {f : Nat → Int32} {nc nt nr : Nat} {k v : Int32} (hp : 0 < nc) (hn : nt < 8) (hk : 0 ≤ k.toInt ∧ k.toInt ≤ 5) (hv : 1 ≤ v.toInt ∧ v.toInt ≤ 60) (hI : Iv f nc nt nr) : Iv (fu (fu (fu (fu f (41 + 3 * nt) k) (41 + 3 * nt + 1) v) (41 + 3 * nt + 2) (-1)) 5 (nI (nt + 1))) nc (nt + 1) nr := by
  obtain ⟨⟨n1, n2, n3⟩, ⟨a1, a2, a3⟩, a4, a5, b1, b2, b3, b4⟩ := hI
  have hm := tm1
  refine ⟨⟨n1, by omega, n3⟩, ⟨?_, ?_, ?_⟩, ?_, ?_, fun c' hc' => ?_, fun t' ht' => ?_, fun r' hr' => ?_, by omega⟩
  · grind [fu]
  · grind [fu]
  · grind [fu]
  · clear b1 b2 b3 b4 a5; grind [fu]
  · rw [fu_ne (by omega), fu_ne (by omega), fu_ne (by omega), fu_ne (by omega)]; exact a5
  · have := b1 c' hc'
    rw [fu_ne (by omega), fu_ne (by omega), fu_ne (by omega), fu_ne (by omega), fu_ne (by omega), fu_ne (by omega), fu_ne (by omega), fu_ne (by omega), fu_ne (by omega), fu_ne (by omega), fu_ne (by omega), fu_ne (by omega), fu_ne (by omega), fu_ne (by omega), fu_ne (by omega), fu_ne (by omega)]; exact this
  · by_cases h : t' = nt
    · subst h
      rw [fu_ne (by omega : 41 + 3 * t' ≠ 5), fu_ne (by omega : 41 + 3 * t' ≠ 41 + 3 * t' + 2), fu_ne (by omega : 41 + 3 * t' ≠ 41 + 3 * t' + 1), fu_eq, fu_ne (by omega : 41 + 3 * t' + 1 ≠ 5), fu_ne (by omega : 41 + 3 * t' + 1 ≠ 41 + 3 * t' + 2), fu_eq, fu_ne (by omega : 41 + 3 * t' + 2 ≠ 5), fu_eq, hm]
      exact ⟨hk, hv, by omega, by omega⟩
    · have := b2 t' (by omega); clear b1 b2 b3 b4 a5; refine ⟨?_, ?_, ?_⟩ <;> grind [fu]
  · have := b3 r' hr'; clear b1 b2 b3 b4 a5; grind [fu]
theorem s_ask (x y : Int32) : Sim (j_Fc_ask x y) (j_Md_ask x y) := by
  intro M h
  have hR := h
  obtain ⟨nc, nt, nr, d1, d2⟩ := h.1
  have hc0 : gi M 3 0 = nI nc := d1.1.1
  have hm0 : gi M 327 4 = nI nc := d2.2.1.1
  have hc1 : gi M 3 1 = nI nt := d1.1.2.1
  have hm1 : gi M 327 5 = nI nt := d2.2.1.2.1
  have n6 : nc ≤ 6 := d2.1.1
  have n8 : nt ≤ 8 := d2.1.2.1
  have e8 : (8 : Int32) = nI 8 := rfl
  by_cases h0 : nc = 0
  · subst h0
    have e0 : nI 0 = (0 : Int32) := rfl
    refine ⟨-1000002, M, M, ?_, ?_, hR⟩
    · simp only [j_Fc_ask, hasNoBook_eq, hc0, e0, if_true, bd_some, z1, if_false]
    · simp only [j_Md_ask, isBook_eq hm0 (by omega), if_true, bd_some, z0]
  · have hn0 : ¬ nI nc = 0 := by rw [nI_eq0 (by omega)]; exact h0
    by_cases hk : 0 ≤ x.toInt ∧ x.toInt ≤ 5
    · by_cases hf : 1 ≤ y.toInt ∧ y.toInt ≤ 60
      · by_cases h8 : nt = 8
        · subst h8
          refine ⟨-1000003, M, M, ?_, ?_, hR⟩
          · have : ¬ nI 8 < nI 8 := by decide
            simp only [j_Fc_ask, hasNoBook_eq, hc0, hn0, if_false, bd_some, z1, z0, if_true, isKind_eq, hk, and_self, isTakeFeet_eq, hf, e8, this, hc1]
          · simp only [j_Md_ask, isBook_eq hm0 (by omega), h0, if_false, bd_some, z1, z0, if_true, md_in05, md_in60, hk, hf, and_self, hm1, e8]
        · obtain ⟨Mk, k1, k2⟩ := keep_day hR
          have g0 : gi Mk 3 1 = nI nt := by rw [k2 3 1 (by omega)]; exact hc1
          have hlt : nI nt < nI 8 := nI_lt (by omega) (by omega)
          obtain ⟨M1, hM1⟩ : ∃ M1, M1 = uI (uI (uI (uI Mk 9 nt x) 10 nt y) 11 nt (-1000000)) 3 1 (nI (nt + 1)) := ⟨_, rfl⟩
          have fr1 : ∀ a i, (a < 3 ∨ 14 < a) → gi M1 a i = gi Mk a i := fun a i ha => by rw [hM1, gi_uIa _ _ _ _ _ _ (by omega), gi_uIa _ _ _ _ _ _ (by omega), gi_uIa _ _ _ _ _ _ (by omega), gi_uIa _ _ _ _ _ _ (by omega)]
          obtain ⟨Mn, m1, m2⟩ := notes_row (M1 := M1) hR (by rw [fr1 326 3 (by omega)]; exact k2 326 3 (by omega))
          have r0' : ∀ i, gi M1 327 i = gi M 327 i := fun i => by rw [fr1 327 i (by omega), k2 327 i (by omega)]
          have r0 : ∀ i, gi Mn 327 i = gi M 327 i := fun i => by rw [m2 327 i (by omega) (by omega), r0']
          refine ⟨nI nt, M1, uI (uI (uI (uI Mn 327 (41 + 3 * nt) x) 327 (41 + 3 * nt + 1) y) 327 (41 + 3 * nt + 2) (-1)) 327 5 (nI (nt + 1)), ?_, ?_, ?_⟩
          · have q2 : gi (uI (uI (uI Mk 9 nt x) 10 nt y) 11 nt (-1000000)) 3 1 = nI nt := by rw [gi_uIa _ _ _ _ _ _ (by omega), gi_uIa _ _ _ _ _ _ (by omega), gi_uIa _ _ _ _ _ _ (by omega)]; exact g0
            simp only [j_Fc_ask, hasNoBook_eq, hc0, hn0, if_false, bd_some, z1, z0, if_true, isKind_eq, hk, and_self, isTakeFeet_eq, hf, e8, hc1, hlt, k1, j_Day_addTake, g0, lq_eq, gd_t (inb_nI (show nt < 8 by omega) (by omega)), ix_nI (show nt < 2 ^ 31 by omega), sq_eq, Nat.reduceAdd, q2, nI_1, hM1]
          · have hne8 : ¬ nI nt = nI 8 := by rw [nI_eq (by omega) (by omega)]; exact h8
            have q1 : gi (uI (uI (uI Mn 327 (41 + 3 * nt) x) 327 (41 + 3 * nt + 1) y) 327 (41 + 3 * nt + 2) (-1)) 327 5 = nI nt := by rw [gi_uIi _ _ _ _ _ _ (by omega), gi_uIi _ _ _ _ _ _ (by omega), gi_uIi _ _ _ _ _ _ (by omega), r0]; exact hm1
            simp only [j_Md_ask, isBook_eq ((r0' 4).trans hm0) (by omega), h0, if_false, bd_some, z1, z0, if_true, md_in05, md_in60, hk, hf, and_self, r0', hm1, e8, hne8, m1, r0, i3, lq_eq, nI_1, nI_p2, gd_t (inb_nI (show 41 + 3 * nt < 89 by omega) (by omega)), gd_t (inb_nI (show 41 + 3 * nt + 1 < 89 by omega) (by omega)), gd_t (inb_nI (show 41 + 3 * nt + 2 < 89 by omega) (by omega)), ix_nI (show 41 + 3 * nt < 2 ^ 31 by omega), ix_nI (show 41 + 3 * nt + 1 < 2 ^ 31 by omega), ix_nI (show 41 + 3 * nt + 2 < 2 ^ 31 by omega), sq_eq, q1, gi_uIs, nI_pred]
          · have hD := dr_addtake (k := x) (v := y) ⟨d2.1.1, by omega, d2.1.2.2⟩ (dr_keep d2.1 (fun b i h1 h2 => k2 b i (by omega)) d1)
            rw [← hM1] at hD
            exact act_rel hR ⟨Mk, k1, fun a i ha => fr1 a i (by omega)⟩ hD ⟨Mn, m1, fun a i ha => by rw [gi_uIa _ _ _ _ _ _ (by omega), gi_uIa _ _ _ _ _ _ (by omega), gi_uIa _ _ _ _ _ _ (by omega), gi_uIa _ _ _ _ _ _ (by omega)]⟩ (fun i _ => row_u (row_u (row_u (row_u (row_0 r0)))) i) (iv_addtake (by omega) (by omega) hk hf d2)
      · refine ⟨-1000001, M, M, ?_, ?_, hR⟩
        · simp only [j_Fc_ask, hasNoBook_eq, hc0, hn0, if_false, bd_some, z1, z0, if_true, isKind_eq, hk, and_self, isTakeFeet_eq, hf]
        · simp only [j_Md_ask, isBook_eq hm0 (by omega), h0, if_false, bd_some, z1, z0, if_true, md_in05, md_in60, hk, hf, and_self]
    · refine ⟨-1000001, M, M, ?_, ?_, hR⟩
      · simp only [j_Fc_ask, hasNoBook_eq, hc0, hn0, if_false, bd_some, z1, z0, if_true, isKind_eq, hk]
      · simp only [j_Md_ask, isBook_eq hm0 (by omega), h0, if_false, bd_some, z1, z0, if_true, md_in05, hk]
