theorem rowOk_fx {f g : Nat → Int32} {nc nt t x : Nat} (hR : RowOk f nc nt) (h1 : 1 ≤ x) (h60 : x ≤ 60) (ht : t < 8) (hg : ∀ i, i < 89 → i ≠ 41 + 3 * t + 1 → g i = f i) (hgx : g (41 + 3 * t + 1) = nI x) : RowOk g nc nt := by
  obtain ⟨⟨n1, n2, n3, n4⟩, a, b, c⟩ := hR
  refine ⟨⟨n1, n2, ?_, ?_⟩, ?_, fun j hj => ?_, fun j hj => ?_⟩
  · rw [hg 4 (by omega) (by omega)]; exact n3
  · rw [hg 5 (by omega) (by omega)]; exact n4
  · rw [hg 0 (by omega) (by omega)]; exact a
  · rw [hg _ (by omega) (by omega), hg _ (by omega) (by omega)]; exact b j hj
  · rw [hg (41 + 3 * j) (by omega) (by omega)]
    refine ⟨(c j hj).1, ?_⟩
    by_cases hjt : j = t
    · rw [hjt, hgx, nI_toInt (by omega)]; omega
    · rw [hg _ (by omega) (by omega)]; exact (c j hj).2
theorem of_fx {f g : Nat → Int32} {nt t : Nat} (n8 : nt ≤ 8) (hg : ∀ i, i < 89 → i ≠ 41 + 3 * t + 1 → g i = f i) : Of g nt = Of f nt := setN_cong nt (fun i hi => by rw [hg _ (by omega) (by omega)])
theorem long_m {f : Nat → Int32} {nc nt t : Nat} {L : Int} {M0 : Mem} (hR : RowOk f nc nt) (ht : t < nt) (hL : ∀ x g, 1 ≤ x → x ≤ 60 → (∀ i, i < 89 → i ≠ 41 + 3 * t + 1 → g i = f i) → g (41 + 3 * t + 1) = nI x → (Pf (Ho g nc (Of f nt) 0) nc 0 (Of f nt) ↔ (x : Int) ≤ L)) : ∀ x q M, x < q → x ≤ 60 → (∀ i, i < 89 → i ≠ 41 + 3 * t + 1 → gi M 328 i = f i) → (∀ b i, b ≠ 328 → b ≠ 333 → b ≠ 334 → gi M b i = gi M0 b i) → (∀ x' : Nat, x < x' → x' ≤ 60 → ¬ (x' : Int) ≤ L) → ∃ M', Md_longer_h41 q (nI t) (nI x) M = some (if L < 1 then -1000000 else nI (min L.toNat 60), M') ∧ (∀ b i, b ≠ 328 → b ≠ 333 → b ≠ 334 → gi M' b i = gi M0 b i) := by
  have n8 := hR.1.2.1
  intro x
  induction x with
  | zero =>
    intro q M hq hx h8 hM hno
    obtain ⟨q, rfl⟩ : ∃ z, q = z + 1 := ⟨q - 1, by omega⟩
    have c0 : ¬ (0 : Int32) < nI 0 := by decide
    have := hno 1 (by omega) (by omega)
    refine ⟨M, ?_, hM⟩
    rw [if_pos (by omega)]
    simp only [Md_longer_h41, c0, if_false]
  | succ x ih =>
    intro q M hq hx h8 hM hno
    obtain ⟨q, rfl⟩ : ∃ z, q = z + 1 := ⟨q - 1, by omega⟩
    have hpos : (0 : Int32) < nI (x + 1) := by rw [i32_lt, t0, nI_toInt (by omega)]; omega
    obtain ⟨M1, hM1⟩ : ∃ M1, M1 = uI M 328 (41 + 3 * t + 1) (nI (x + 1)) := ⟨_, rfl⟩
    have hg : ∀ i, i < 89 → i ≠ 41 + 3 * t + 1 → gi M1 328 i = f i := fun i h1 h2 => by rw [hM1, gi_uIi _ _ _ _ _ _ h2]; exact h8 i h1 h2
    have hgx : gi M1 328 (41 + 3 * t + 1) = nI (x + 1) := by rw [hM1, gi_uIs]
    have hR1 : RowOk (fun i => gi M1 328 i) nc nt := rowOk_fx hR (by omega) hx (by omega) hg hgx
    obtain ⟨M2, c1, c2, c3, _⟩ := can_m (a := 328) (M := M1) (f := fun i => gi M1 328 i) (out := 0) (by omega) hR1 (fun _ => rfl) (by omega)
    have z0' : nI 0 = 0 := rfl
    rw [of_fx (f := f) n8 hg, z0'] at c1 c2
    have hiff := hL (x + 1) (fun i => gi M1 328 i) (by omega) hx hg hgx
    have fr : ∀ b i, b ≠ 328 → b ≠ 333 → b ≠ 334 → gi M2 b i = gi M0 b i := fun b i h1 h2 h3 => by rw [c3 b i h2 h3, hM1, gi_uIa _ _ _ _ _ _ h1]; exact hM b i h1 h2 h3
    have hi := inb_nI (show 41 + 3 * t + 1 < 89 by omega) (show 89 < 2 ^ 31 by omega)
    by_cases hp : ((x + 1 : Nat) : Int) ≤ L
    · refine ⟨M2, ?_, fr⟩
      have hmin : min L.toNat 60 = x + 1 := by
        by_cases h60 : x + 1 = 60
        · omega
        · have := hno (x + 2) (by omega) (by omega)
          omega
      rw [if_neg (by omega), hmin]
      simp only [Md_longer_h41, hpos, if_true, i3, nI_1, gd_t hi, ix_nI (show 41 + 3 * t + 1 < 2 ^ 31 by omega), sq_eq, ← hM1, c1 (hiff.mpr hp), bd_some, z1, if_false]
    · obtain ⟨M', r1, r2⟩ := ih q M2 (by omega) (by omega) (fun i h1 h2 => by rw [c3 328 i (by omega) (by omega)]; exact hg i h1 h2) fr (fun x' h1 h2 => by
        by_cases hx' : x' = x + 1
        · rw [hx']; exact hp
        · exact hno x' (by omega) h2)
      refine ⟨M', ?_, r2⟩
      rw [← r1]
      simp only [Md_longer_h41, hpos, if_true, i3, nI_1, gd_t hi, ix_nI (show 41 + 3 * t + 1 < 2 ^ 31 by omega), sq_eq, ← hM1, c2 (fun z => hp (hiff.mp z)), bd_some, lq_eq, nI_addm1, nI_s1]
theorem copy_m (M : Mem) : ∃ M', j_Md_copies 327 0 328 0 M = some ((), M') ∧ (∀ b i, b ≠ 328 → gi M' b i = gi M b i) ∧ ∀ i, i < 89 → gi M' 328 i = gi M 327 i := by
  have h := copies_ok (a0 := 327) (p := 0) (a2 := 328) (q := 0) M (by omega) (by decide +kernel) (by decide +kernel) (by decide +kernel) (by decide +kernel)
  refine ⟨cpyM M 327 0 328 0 89, h, fun b i hb => ?_, fun i hi => ?_⟩
  · rw [gi_cpyM, if_neg (fun z => hb z.1)]
  · rw [gi_cpyM, if_pos ⟨rfl, by omega, by omega⟩, Nat.zero_add, Nat.sub_zero]
theorem mn_60 {y : Int32} (h : 1 ≤ y.toInt) : mn y 60 = nI (min y.toInt.toNat 60) := by
  have e60 : (60 : Int32) = nI 60 := rfl
  have hb := Int32.toInt_lt y
  rw [e60, i32_nat (x := y) (by omega), nI_mn (by omega) (by omega), nI_toInt (by omega)]
  congr 1
theorem s_longer (y : Int32) : Sim (j_Fc_longer y) (j_Md_longer y) := by
  intro M h
  obtain ⟨nc, nt, nr, hD, hI⟩ := h.1
  have hR := iv_rowOk hI
  rw [show rowM M 327 0 = (fun i => gi M 327 i) from funext (row_at M)] at hR
  have n6 := hI.1.1
  have n8 := hI.1.2.1
  have d1 : gi M 3 1 = nI nt := hD.1.2.1
  have e5 : gi M 327 5 = nI nt := hR.1.2.2.2
  by_cases hy : 0 ≤ y.toInt ∧ y.toInt < nt
  · obtain ⟨t, ht, rfl⟩ : ∃ t, t < nt ∧ y = nI t := ⟨y.toInt.toNat, by omega, i32_nat hy.1⟩
    have c1 := hasTake_yes d1 (show nt < 2 ^ 31 by omega) ht
    have hnn := (hD.2.2.2.2.2.1 t ht).2.2
    rw [row_at] at hnn
    have c2 := day_isOpen (d := 3) (M := M) (show t < 8 by omega) hnn
    by_cases hop : (gi M 327 (41 + 3 * t + 2)).toInt < 0
    · rw [if_pos hop] at c2
      obtain ⟨M1, l1, l2, l3, l4⟩ := ahead_c hD hI
      have eO : openN M 327 nt = Of (fun i => gi M 327 i) nt := rfl
      have hO2 : Of (fun i => gi M 327 i) nt < 2 ^ nt := setN_lt _ nt
      have hO : Of (fun i => gi M 327 i) nt < 256 := Nat.lt_of_lt_of_le hO2 (two8 n8)
      rw [eO] at l3 l4
      have hb : (Of (fun i => gi M 327 i) nt).testBit t = true := by
        unfold Of
        rw [setN_bit]
        simp [ht, hop]
      obtain ⟨O, hOd⟩ : ∃ O, O = Of (fun i => gi M 327 i) nt := ⟨_, rfl⟩
      rw [← hOd] at l3 l4 hO2 hO hb
      have hsb2 : sb (2 ^ t) O := (or_low (v := 0) hb (sb_zero _)).1
      obtain ⟨r, r1, r2⟩ := lof_in l4 hO (show t < 8 by omega) (sb_xor hsb2) (fun v hv => Nat.lt_of_le_of_lt (sb_le (or_low hb hv).2.1) hO) 6 0 FU 0 (by omega) (by unfold FU; omega)
      have hj : j_Reach_longestOf (nI t) M1 = some (r, M1) := by
        unfold j_Reach_longestOf
        rw [shl_bit t (by omega), lq_e, l3.1.2, dif_nI (by omega), dif_eq hsb2, lq_e, lq_e, lq_e]
        exact r1
      have ef1 : ∀ i, gi M1 327 i = gi M 327 i := fun i => l2 327 i (by omega)
      obtain ⟨M2, k1, k2, k3⟩ := copy_m M1
      obtain ⟨M3, p1, p2⟩ := long_m (f := fun i => gi M 327 i) (L := r.toInt) (M0 := M2) hR ht (fun x g h1 h60 hg hgx => by
        rw [← hOd, long_pf l3 hR n6 hO2 hb h1 h60 hg hgx]
        rw [r2 x (by omega), t0]
        constructor
        · rintro ⟨j, v, z⟩; exact Or.inr ⟨j, v, Nat.zero_le j, z⟩
        · rintro (z | ⟨j, v, _, z⟩)
          · omega
          · exact ⟨j, v, z⟩) 60 FU M2 (by unfold FU; omega) (by omega) (fun i hi _ => by rw [k3 i hi]; exact ef1 i) (fun _ _ _ _ _ => rfl) (fun x' h1 h2 => by omega)
      have m1 := isTake_yes (show gi M1 327 5 = nI nt by rw [ef1]; exact e5) (show nt < 2 ^ 31 by omega) ht
      have m2 := md_isOpen (a := 327) (M := M1) (show t < 8 by omega)
      rw [ef1, if_pos hop] at m2
      refine ⟨if r.toInt < 1 then -1000000 else nI (min r.toInt.toNat 60), M1, M3, ?_, ?_, ?_⟩
      · by_cases hr1 : r.toInt < 1
        · have hlt : r < 1 := by rw [i32_lt, t1]; exact hr1
          simp only [j_Fc_longer, c1, bd_some, z1, if_false, c2, l1, hj, hlt, if_true, hr1]
        · have hlt : ¬ r < 1 := by rw [i32_lt, t1]; exact hr1
          simp only [j_Fc_longer, c1, bd_some, z1, if_false, c2, l1, hj, hlt, hr1, mn_60 (show 1 ≤ r.toInt by omega)]
      · unfold j_Md_longer
        rw [m1, bd_some, if_neg (by decide), m2, bd_some, if_neg (by decide), k1, bd_some, lq_e]
        exact p1
      · exact h.keep ((keep_ahead l2).trans (keep_model (fun a i h1 h2 => (p2 a i h1 (by omega) (by omega)).trans (k2 a i h1))))
    · rw [if_neg hop] at c2
      have m1 := isTake_yes e5 (show nt < 2 ^ 31 by omega) ht
      have m2 := md_isOpen (a := 327) (M := M) (show t < 8 by omega)
      rw [if_neg hop] at m2
      refine ⟨-1000002, M, M, ?_, ?_, h⟩
      · simp only [j_Fc_longer, c1, bd_some, z1, if_false, c2, if_true]
      · simp only [j_Md_longer, m1, bd_some, z1, if_false, m2, if_true]
  · refine ⟨-1000001, M, M, ?_, ?_, h⟩
    · simp only [j_Fc_longer, hasTake_no d1 (show nt < 2 ^ 31 by omega) hy, bd_some, if_true]
    · simp only [j_Md_longer, isTake_no e5 (show nt < 2 ^ 31 by omega) hy, bd_some, if_true]
