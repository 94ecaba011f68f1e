theorem need_pos {M : Mem} {f : Nat → Int32} {nc nt O v : Nat} {k : Int32} (h : RM M f nc nt O) (hR : RowOk f nc nt) (hO : O < 2 ^ nt) (hvO : sb v O) (hv0 : v ≠ 0) : 1 ≤ needV M (leadV k (f 0)) (slateV k) v := by
  obtain ⟨A, s1, s2, s3⟩ := sumS_val (g := fun t => f (41 + 3 * t + 1)) (s := v) (fun t ht => (hR.2.2.2 t (bitO hO hvO ht)).2) 8 (Nat.le_refl 8)
  have hv256 : v < 256 := Nat.lt_of_le_of_lt (sb_le hvO) (Nat.lt_of_lt_of_le hO (two8 hR.1.2.1))
  have hA : 1 ≤ A := by
    obtain ⟨_, b2, b3⟩ := low_val v hv256 hv0
    exact s3 _ b3 b2
  have hlead := lead_bound (k := k) hR.2.1
  have hsl := slate_mul k (cnt_le (fun i => v.testBit i) 8)
  have e5 : needV M (leadV k (f 0)) (slateV k) v = (leadV k (f 0)).toInt + (slateV k * nI (cnt (fun i => v.testBit i) 8)).toInt + A := by
    unfold needV
    rw [h.2.2.2.1 v hv256 hvO, i32_add (by rw [i32_add (by omega) (by omega)]; omega) (by omega), i32_add (by omega) (by omega), s2]
  omega
theorem adds_m {M : Mem} {f : Nat → Int32} {nc x : Nat} {k : Int32} (n6 : nc ≤ 6) (hf : ∀ i, i < 89 → gi M 328 i = f i) (e4 : f 4 = nI nc) : ∃ M', j_Md_adds 328 k (nI x) M = some ((), M') ∧ (∀ b i, b ≠ 328 → gi M' b i = gi M b i) ∧ Add f (fun i => gi M' 328 i) nc k x := by
  have h4 : gi M 328 4 = nI nc := by rw [hf 4 (by omega)]; exact e4
  obtain ⟨M1, hM1⟩ : ∃ M1, M1 = uI (uI (uI (uI M 328 (13 + 4 * nc) k) 328 (13 + 4 * nc + 1) (nI x)) 328 (13 + 4 * nc + 2) 0) 328 (13 + 4 * nc + 3) 0 := ⟨_, rfl⟩
  have h4' : gi M1 328 4 = nI nc := by rw [hM1, gi_uIi _ _ _ _ _ _ (by omega), gi_uIi _ _ _ _ _ _ (by omega), gi_uIi _ _ _ _ _ _ (by omega), gi_uIi _ _ _ _ _ _ (by omega)]; exact h4
  obtain ⟨M2, hM2⟩ : ∃ M2, M2 = uI M1 328 4 (nI (nc + 1)) := ⟨_, rfl⟩
  obtain ⟨M3, hM3⟩ : ∃ M3, M3 = uI M2 328 7 (gi M2 328 7 + nI x) := ⟨_, rfl⟩
  refine ⟨M3, ?_, fun b i hb => ?_, fun i h1 h2 h3 h5 => ?_, ?_, ?_, ?_, ?_⟩
  · simp only [j_Md_adds, h4, i4, lq_eq, nI_1, nI_p2, nI_p3, gd_t (inb_nI (show 13 + 4 * nc < 89 by omega) (show 89 < 2 ^ 31 by omega)), gd_t (inb_nI (show 13 + 4 * nc + 1 < 89 by omega) (show 89 < 2 ^ 31 by omega)), gd_t (inb_nI (show 13 + 4 * nc + 2 < 89 by omega) (show 89 < 2 ^ 31 by omega)), gd_t (inb_nI (show 13 + 4 * nc + 3 < 89 by omega) (show 89 < 2 ^ 31 by omega)), ix_nI (show 13 + 4 * nc < 2 ^ 31 by omega), ix_nI (show 13 + 4 * nc + 1 < 2 ^ 31 by omega), ix_nI (show 13 + 4 * nc + 2 < 2 ^ 31 by omega), ix_nI (show 13 + 4 * nc + 3 < 2 ^ 31 by omega), sq_eq, ← hM1, h4', ← hM2, ← hM3]
  · rw [hM3, gi_uIa _ _ _ _ _ _ hb, hM2, gi_uIa _ _ _ _ _ _ hb, hM1, gi_uIa _ _ _ _ _ _ hb, gi_uIa _ _ _ _ _ _ hb, gi_uIa _ _ _ _ _ _ hb, gi_uIa _ _ _ _ _ _ hb]
  · show gi M3 328 i = f i
    rw [hM3, gi_uIi _ _ _ _ _ _ h3, hM2, gi_uIi _ _ _ _ _ _ h2, hM1, gi_uIi _ _ _ _ _ _ (by omega), gi_uIi _ _ _ _ _ _ (by omega), gi_uIi _ _ _ _ _ _ (by omega), gi_uIi _ _ _ _ _ _ (by omega)]
    exact hf i h1
  · show gi M3 328 4 = nI (nc + 1)
    rw [hM3, gi_uIi _ _ _ _ _ _ (by omega), hM2, gi_uIs]
  · show gi M3 328 (13 + 4 * nc) = k
    rw [hM3, gi_uIi _ _ _ _ _ _ (by omega), hM2, gi_uIi _ _ _ _ _ _ (by omega), hM1, gi_uIi _ _ _ _ _ _ (by omega), gi_uIi _ _ _ _ _ _ (by omega), gi_uIi _ _ _ _ _ _ (by omega), gi_uIs]
  · show gi M3 328 (13 + 4 * nc + 1) = nI x
    rw [hM3, gi_uIi _ _ _ _ _ _ (by omega), hM2, gi_uIi _ _ _ _ _ _ (by omega), hM1, gi_uIi _ _ _ _ _ _ (by omega), gi_uIi _ _ _ _ _ _ (by omega), gi_uIs]
  · show gi M3 328 (13 + 4 * nc + 2) = 0
    rw [hM3, gi_uIi _ _ _ _ _ _ (by omega), hM2, gi_uIi _ _ _ _ _ _ (by omega), hM1, gi_uIi _ _ _ _ _ _ (by omega), gi_uIs]
theorem more_m {f : Nat → Int32} {nc nt : Nat} {k : Int32} {L : Int} {M0 : Mem} (hR : RowOk f nc nt) (n6 : nc ≤ 6) (hk : 1 ≤ k.toInt ∧ k.toInt ≤ 5) (hf : ∀ i, gi M0 327 i = f i) (h1L : 1 ≤ L) (hL : ∀ x g, x ≤ 99 → Add f g nc k x → (Pf (Ho g (nc + 1) (Of f nt) 0) (nc + 1) 0 (Of f nt) ↔ L ≤ (x : Int))) : ∀ m x q M, x + m = 100 → m < q → 1 ≤ x → (∀ b i, b ≠ 328 → b ≠ 333 → b ≠ 334 → gi M b i = gi M0 b i) → (∀ x' : Nat, x' < x → ¬ L ≤ (x' : Int)) → ∃ M', Md_more_h41 q k (nI x) M = some (if 99 < L then -1000000 else nI L.toNat, M') ∧ (∀ b i, b ≠ 328 → b ≠ 333 → b ≠ 334 → gi M' b i = gi M0 b i) := by
  have e100 : (100 : Int32) = nI 100 := rfl
  have z0' : nI 0 = 0 := rfl
  intro m
  induction m with
  | zero =>
    intro x q M hx hq h1 hM hno
    obtain ⟨q, rfl⟩ : ∃ z, q = z + 1 := ⟨q - 1, by omega⟩
    have hge : ¬ nI x < nI 100 := nI_nlt (by omega) (by omega)
    have := hno 99 (by omega)
    refine ⟨M, ?_, hM⟩
    rw [if_pos (by omega)]
    simp only [Md_more_h41, e100, hge, if_false]
  | succ m ih =>
    intro x q M hx hq h1 hM hno
    obtain ⟨q, rfl⟩ : ∃ z, q = z + 1 := ⟨q - 1, by omega⟩
    have hlt : nI x < nI 100 := nI_lt (by omega) (by omega)
    obtain ⟨Ma, a1, a2, a3⟩ := copy_m M
    obtain ⟨Mb, b1, b2, b3⟩ := adds_m (M := Ma) (f := f) (k := k) (x := x) n6 (fun i hi => by rw [a3 i hi, hM 327 i (by omega) (by omega) (by omega)]; exact hf i) hR.1.2.2.1
    obtain ⟨g1, g2⟩ := add_row hR n6 hk (by omega) b3
    obtain ⟨Mc, c1, c2, c3, _⟩ := can_m (a := 328) (M := Mb) (f := fun i => gi Mb 328 i) (out := 0) (by omega) g1 (fun _ => rfl) (by omega)
    rw [g2, z0'] at c1 c2
    have hiff := hL x _ (by omega) b3
    have fr : ∀ b i, b ≠ 328 → b ≠ 333 → b ≠ 334 → gi Mc b i = gi M0 b i := fun b i h1 h2 h3 => by rw [c3 b i h2 h3, b2 b i h1, a2 b i h1]; exact hM b i h1 h2 h3
    by_cases hp : L ≤ (x : Int)
    · have : ¬ L ≤ ((x - 1 : Nat) : Int) := hno (x - 1) (by omega)
      have hLx : L.toNat = x := by omega
      refine ⟨Mc, ?_, fr⟩
      rw [if_neg (by omega), hLx]
      simp only [Md_more_h41, e100, hlt, if_true, a1, bd_some, b1, c1 (hiff.mpr hp), z1, if_false]
    · obtain ⟨M', r1, r2⟩ := ih (x + 1) q Mc (by omega) (by omega) (by omega) fr (fun x' h => by
        by_cases hx' : x' = x
        · rw [hx']; exact hp
        · exact hno x' (by omega))
      refine ⟨M', ?_, r2⟩
      rw [← r1]
      simp only [Md_more_h41, e100, hlt, if_true, a1, bd_some, b1, c2 (fun z => hp (hiff.mp z)), lq_eq, nI_1]
theorem s_more (y : Int32) : Sim (j_Fc_more y) (j_Md_more y) := by
  intro M h
  obtain ⟨nc, nt, nr, hD, hI⟩ := h.1
  have hR := iv_rowOk hI
  rw [show rowM M 327 0 = (fun i => gi M 327 i) from funext (row_at M)] at hR
  have n6 := hI.1.1
  have n8 := hI.1.2.1
  have d0 : gi M 3 0 = nI nc := hD.1.1
  have d1 : gi M 3 1 = nI nt := hD.1.2.1
  have e4 : gi M 327 4 = nI nc := hR.1.2.2.1
  by_cases hp : nc = 0
  · refine ⟨-1000002, M, M, ?_, ?_, h⟩
    · have q : gi M 3 0 = 0 := by rw [d0, hp]; rfl
      simp only [j_Fc_more, hasNoBook_eq, q, if_true, bd_some, z1, if_false]
    · simp only [j_Md_more, isBook_eq e4 (show nc < 2 ^ 31 by omega), hp, if_true, bd_some]
  · have q : ¬ gi M 3 0 = 0 := by rw [d0, nI_eq0 (by omega)]; exact hp
    by_cases hk : 1 ≤ y.toInt ∧ y.toInt ≤ 5
    · obtain ⟨M1, l1, l2, l3, l4⟩ := ahead_c hD hI
      have hO2 : Of (fun i => gi M 327 i) nt < 2 ^ nt := setN_lt _ nt
      have hO : Of (fun i => gi M 327 i) nt < 256 := Nat.lt_of_lt_of_le hO2 (two8 n8)
      have eO : openN M 327 nt = Of (fun i => gi M 327 i) nt := rfl
      rw [eO] at l3 l4
      obtain ⟨a1, a2⟩ := all_c l3 l4 n6 hO
      have ef1 : ∀ i, gi M1 327 i = gi M 327 i := fun i => l2 327 i (by omega)
      obtain ⟨M2, c1, c2, c3, _⟩ := can_m (a := 327) (M := M1) (f := fun i => gi M 327 i) (out := 0) (by omega) hR ef1 (by omega)
      have z0' : nI 0 = 0 := rfl
      rw [z0'] at c1 c2
      have e4' : gi M1 327 4 = nI nc := by rw [ef1]; exact e4
      by_cases hF : Pf (Ho (fun i => gi M 327 i) nc (Of (fun i => gi M 327 i) nt) 0) nc 0 (Of (fun i => gi M 327 i) nt)
      · refine ⟨0, M1, M2, ?_, ?_, h.keep ((keep_ahead l2).trans (keep_model (fun a i h1 h2 => c3 a i (by omega) (by omega))))⟩
        · simp only [j_Fc_more, hasNoBook_eq, q, if_false, bd_some, if_true, isCanKind_eq, hk, and_self, z1, l1, a1 hF]
        · simp only [j_Md_more, isBook_eq e4' (show nc < 2 ^ 31 by omega), hp, if_false, bd_some, md_in15, hk, and_self, if_true, z1, c1 hF]
      · have d5 : gi M1 4 0 = gi M 327 0 := by rw [l2 4 0 (by omega), hD.2.2.2.1 0 (by omega), row_at]
        have d9 : ∀ t, t < nt → gi M1 9 t = gi M 327 (41 + 3 * t) := fun t ht => by rw [l2 9 t (by omega), (hD.2.2.2.2.2.1 t ht).1, row_at]
        have hsv := servedBy_c (k := y) (nt := nt) (M := M1) hk n8 (by rw [l2 3 1 (by omega)]; exact d1) (fun t ht => by rw [d9 t ht]; exact (hR.2.2.2 t ht).1)
        have eSv : setN (fun t => isOfV y (gi M1 9 t)) nt = setN (fun t => isOfV y (gi M 327 (41 + 3 * t))) nt := setN_cong nt (fun t ht => by rw [d9 t ht])
        rw [eSv] at hsv
        obtain ⟨r, r1, r2⟩ := rest_in (Sv := setN (fun t => isOfV y (gi M 327 (41 + 3 * t))) nt) (ld := leadV y (gi M 327 0)) (sl := slateV y) l3 l4 hO (Of (fun i => gi M 327 i) nt) 1 FU 100 (by omega) (by unfold FU; omega) (by omega)
        have t100 : (100 : Int32).toInt = 100 := by decide
        rw [t100] at r2
        have hj : j_Reach_leastRest (nI (setN (fun t => isOfV y (gi M 327 (41 + 3 * t))) nt)) (leadV y (gi M 327 0)) (slateV y) M1 = some (r, M1) := r1
        have h1L : 1 ≤ r.toInt := by
          apply Classical.byContradiction
          intro z
          rcases (r2 0).mp (by omega) with z1 | ⟨v, z1, z2, _, z4⟩
          · omega
          · have hvO : sb v (Of (fun i => gi M 327 i) nt) := sb_trans z2 (by rw [Nat.and_comm]; exact sb_and _ _)
            have hpos : 1 ≤ needV M1 (leadV y (gi M 327 0)) (slateV y) v := need_pos (k := y) l3 hR hO2 hvO (by omega)
            omega
        obtain ⟨M3, p1, p2⟩ := more_m (f := fun i => gi M 327 i) (k := y) (L := r.toInt) (M0 := M2) hR n6 hk (fun i => (c3 327 i (by omega) (by omega)).trans (ef1 i)) h1L (fun x g hx hA => by
          rw [more_pf l3 hR n6 hO2 hk hx hA hF, r2 x]
          constructor
          · rintro ⟨v, z⟩; exact Or.inr ⟨v, z⟩
          · rintro (z | ⟨v, z⟩)
            · omega
            · exact ⟨v, z⟩) 99 1 FU M2 (by omega) (by unfold FU; omega) (by omega) (fun _ _ _ _ _ => rfl) (fun x' hx' => by omega)
        have t99 : (99 : Int32).toInt = 99 := by decide
        refine ⟨if 99 < r.toInt then -1000000 else nI r.toInt.toNat, M1, M3, ?_, ?_, h.keep ((keep_ahead l2).trans (keep_model (fun a i h1 h2 => (p2 a i h1 (by omega) (by omega)).trans (c3 a i (by omega) (by omega)))))⟩
        · by_cases hr : 99 < r.toInt
          · have hr' : (99 : Int32) < r := by rw [i32_lt, t99]; exact hr
            simp only [j_Fc_more, hasNoBook_eq, q, if_false, bd_some, if_true, isCanKind_eq, hk, and_self, z1, l1, a2 hF, d5, kinds_lead hk, hsv, kinds_slate hk, hj, hr', hr]
          · have hr' : ¬ (99 : Int32) < r := by rw [i32_lt, t99]; exact hr
            rw [if_neg hr, ← i32_nat (by omega)]
            simp only [j_Fc_more, hasNoBook_eq, q, if_false, bd_some, if_true, isCanKind_eq, hk, and_self, z1, l1, a2 hF, d5, kinds_lead hk, hsv, kinds_slate hk, hj, hr']
        · unfold j_Md_more
          rw [isBook_eq e4' (show nc < 2 ^ 31 by omega), bd_some, if_neg hp, if_neg (by decide), md_in15, bd_some, if_pos hk, if_neg (by decide), c2 hF, bd_some, if_pos rfl, lq_e]
          exact p1
    · refine ⟨-1000001, M, M, ?_, ?_, h⟩
      · simp only [j_Fc_more, hasNoBook_eq, q, if_false, bd_some, if_true, isCanKind_eq, hk]
      · simp only [j_Md_more, isBook_eq e4 (show nc < 2 ^ 31 by omega), hp, if_false, bd_some, md_in15, hk, z1, if_true]
