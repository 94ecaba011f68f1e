theorem pr_le {R p x : Nat} (hp : p ≤ 10) : ∀ k, pr R p x k ≤ 10 ^ k
  | 0 => Nat.le_refl _
  | k + 1 => by
    show pr R p x k * fac R p x k ≤ 10 ^ (k + 1)
    have hf : fac R p x k ≤ 10 := by
      unfold fac
      by_cases h1 : R.testBit k = true
      · rw [if_pos h1]
        by_cases h2 : x.testBit k = true
        · rw [if_pos h2]; exact hp
        · rw [if_neg h2]; omega
      · rw [if_neg h1]
        by_cases h2 : x.testBit k = true
        · rw [if_pos h2]; omega
        · rw [if_neg h2]; omega
    rw [Nat.pow_succ]
    exact Nat.mul_le_mul (pr_le hp k) hf
theorem pr_end {R p x n : Nat} (hR : R < 2 ^ n) (hx : x < 2 ^ n) : ∀ m, pr R p x (n + m) = pr R p x n
  | 0 => rfl
  | m + 1 => by
    show pr R p x (n + m) * fac R p x (n + m) = _
    have h2 : 2 ^ n ≤ 2 ^ (n + m) := Nat.pow_le_pow_right (by omega) (by omega)
    have e : fac R p x (n + m) = 1 := by
      unfold fac
      rw [Nat.testBit_lt_two_pow (Nat.lt_of_lt_of_le hR h2), Nat.testBit_lt_two_pow (Nat.lt_of_lt_of_le hx h2)]
      rfl
    rw [e, Nat.mul_one, pr_end hR hx m]
noncomputable def fogG (f : Nat → Int32) (nc O p x : Nat) : Nat := if dB (Pf (Ho f nc O x) nc 0 O) = true then pr (Rf f nc) p x nc else 0
theorem fog_clr {f : Nat → Int32} {nc O p x : Nat} (n6 : nc ≤ 6) (hx : x < 2 ^ nc) : fogG f nc O p x = clr f nc O p (Rf f nc ^^^ x) := by
  have hR : Rf f nc < 2 ^ nc := setN_lt _ nc
  by_cases hs : sb x (Rf f nc)
  · have hpf : Pf (Hr f nc O (Rf f nc ^^^ x)) 6 0 O ↔ Pf (Ho f nc O x) nc 0 O := pf_hr_ho n6 (fun c hc hr => by
      rw [xor_bit hs, rf_bit.mpr ⟨hc, hr⟩]
      simp)
    have hw := (pr_set (p := p) (sb_xor hs) 8).1
    rw [show Rf f nc ^^^ (Rf f nc ^^^ x) = x by rw [← Nat.xor_assoc, Nat.xor_self, Nat.zero_xor]] at hw
    have he := pr_end (p := p) hR hx (8 - nc)
    rw [show nc + (8 - nc) = 8 by omega] at he
    rw [he] at hw
    unfold fogG clr
    by_cases hP : Pf (Ho f nc O x) nc 0 O
    · rw [if_pos (dB_iff.mpr hP), if_pos (dB_iff.mpr ⟨sb_xor hs, hpf.mpr hP⟩), hw]
    · rw [if_neg (fun z => hP (dB_iff.mp z)), if_neg (fun z => hP (hpf.mp (dB_iff.mp z).2))]
  · obtain ⟨c, h1, h2⟩ : ∃ c, x.testBit c = true ∧ ¬ (Rf f nc).testBit c = true := by
      apply Classical.byContradiction
      intro z
      apply hs
      apply sb_bit.mpr
      intro i hi
      apply Classical.byContradiction
      intro z2
      exact z ⟨i, hi, z2⟩
    have hpr := pr_none (p := p) h1 h2 nc (bit_lt hx h1)
    have hno : ¬ sb (Rf f nc ^^^ x) (Rf f nc) := fun z => by
      apply h2
      apply sb_bit.mp z c
      rw [Nat.testBit_xor, h1]
      have : (Rf f nc).testBit c = false := by simpa using h2
      rw [this]; rfl
    have e1 : clr f nc O p (Rf f nc ^^^ x) = 0 := if_neg (fun z => hno (dB_iff.mp z).1)
    have e2 : fogG f nc O p x ≤ 0 := by
      unfold fogG
      rw [hpr]
      by_cases hd : dB (Pf (Ho f nc O x) nc 0 O) = true
      · rw [if_pos hd]; exact Nat.le_refl 0
      · rw [if_neg hd]; exact Nat.le_refl 0
    rw [e1]; omega
theorem fog_sum {f : Nat → Int32} {nc O p : Nat} (n6 : nc ≤ 6) : sm (fogG f nc O p) (2 ^ nc) = sm (clr f nc O p) 64 := by
  have hR : Rf f nc < 2 ^ nc := setN_lt _ nc
  rw [sm_cong (2 ^ nc) (fun x hx => fog_clr n6 hx), sm_xor nc (Rf f nc) (clr f nc O p) hR]
  have h64 : 2 ^ nc ≤ 64 := Nat.le_trans (Nat.pow_le_pow_right (by omega) n6) (by decide)
  have := sm_zero (F := clr f nc O p) (n := 2 ^ nc) (fun i hi => by
    unfold clr
    rw [if_neg]
    intro z
    have := sb_le (dB_iff.mp z).1
    omega) (64 - 2 ^ nc)
  rw [show 2 ^ nc + (64 - 2 ^ nc) = 64 by omega] at this
  exact this.symm
theorem sm_le {F G : Nat → Nat} (h : ∀ i, F i ≤ G i) : ∀ n, sm F n ≤ sm G n
  | 0 => Nat.le_refl _
  | n + 1 => by
    have h1 := sm_le h n
    have h2 := h n
    show sm F n + F n ≤ sm G n + G n
    omega
theorem fog_le (f : Nat → Int32) (nc O p x : Nat) : fogG f nc O p x ≤ pr (Rf f nc) p x nc := by
  unfold fogG
  by_cases h : dB (Pf (Ho f nc O x) nc 0 O) = true
  · rw [if_pos h]; exact Nat.le_refl _
  · rw [if_neg h]; omega
theorem fog_tot {f : Nat → Int32} {nc p : Nat} (n6 : nc ≤ 6) (hp : p ≤ 10) : sm (fun x => pr (Rf f nc) p x nc) (2 ^ nc) = 10 ^ cnt (fun i => (Rf f nc).testBit i) 8 ∧ cnt (fun i => (Rf f nc).testBit i) 8 ≤ 6 := by
  have h := cnt_zero (p := fun i => (Rf f nc).testBit i) (n := nc) (fun i hi => Nat.testBit_lt_two_pow (Nat.lt_of_lt_of_le (setN_lt _ nc) (Nat.pow_le_pow_right (by omega) hi))) (8 - nc)
  rw [show nc + (8 - nc) = 8 by omega] at h
  have := cnt_le (fun i => (Rf f nc).testBit i) nc
  rw [pr_sum hp, h]
  exact ⟨rfl, by omega⟩
theorem fogi_in {K : Int32 → Int32 → Int64 → Int64 → Int32 → Mem → Option (Int64 × Mem)} {f : Nat → Int32} {nc nt p out : Nat} {x2 : Int32} {y3 y5 : Int64} {M : Mem} (hR : RowOk f nc nt) (n6 : nc ≤ 6) (hf : ∀ i, gi M 327 i = f i) (hp : p ≤ 10) (ho : out < 256) : ∀ m c q, c + m = nc → m < q → Md_fogged_h64 K q (nI p) x2 y3 y5 (nI out) (nL (pr (Rf f nc) p out c)) (nI c) M = (if (0 : Int64) < nL (pr (Rf f nc) p out nc) then bd (j_Md_canBePlaced 327 (nI out) M) (fun r19 M20 => (if r19 = 0 then (Md_fogged_b169 K (nI p) x2 (y5 + nL (pr (Rf f nc) p out nc)) (nI out) y3 M20) else (Md_fogged_b170 K (nI p) x2 (y5 + nL (pr (Rf f nc) p out nc)) (nI out) (nL (pr (Rf f nc) p out nc)) y3 M20))) else (Md_fogged_b169 K (nI p) x2 (y5 + nL (pr (Rf f nc) p out nc)) (nI out) y3 M)) := by
  have e4 : gi M 327 4 = nI nc := by rw [hf]; exact hR.1.2.2.1
  have l1 : (1 : Int64) = nL 1 := rfl
  have l0 : (0 : Int64) = nL 0 := rfl
  intro m
  induction m with
  | zero =>
    intro c q hc hq
    obtain ⟨q, rfl⟩ : ∃ z, q = z + 1 := ⟨q - 1, by omega⟩
    have hge : ¬ nI c < nI nc := nI_nlt (by omega) (by omega)
    have hcn : c = nc := by omega
    subst hcn
    rw [Md_fogged_h64, e4, if_neg hge, lq_e]
  | succ m ih =>
    intro c q hc hq
    obtain ⟨q, rfl⟩ : ∃ z, q = z + 1 := ⟨q - 1, by omega⟩
    have hlt : nI c < nI nc := nI_lt (by omega) (by omega)
    rw [← ih (c + 1) q (by omega) (by omega)]
    have e : pr (Rf f nc) p out (c + 1) = pr (Rf f nc) p out c * fac (Rf f nc) p out c := rfl
    rw [e, ← nL_mul]
    unfold fac
    have hc7 : c < 7 := by omega
    by_cases hr : f (13 + 4 * c + 2) = 2
    · have hr' : gi M 327 (13 + 4 * c + 2) = 2 := by rw [hf]; exact hr
      have hb : ¬ (Rf f nc).testBit c = true := fun z => (rf_bit.mp z).2 hr
      rw [if_neg hb]
      by_cases ho2 : out.testBit c = true
      · rw [if_pos ho2, ← l0]
        simp only [Md_fogged_h64, Md_fogged_b127, e4, hlt, if_true, md_isRoom hc7, hr', decide_true, Bool.not_true, Bool.false_eq_true, if_false, bd_some, md_has ho (show c < 8 by omega), ho2, z1, lq_eq, nI_1]
      · rw [if_neg ho2, ← l1]
        simp only [Md_fogged_h64, Md_fogged_b127, e4, hlt, if_true, md_isRoom hc7, hr', decide_true, Bool.not_true, Bool.false_eq_true, if_false, bd_some, md_has ho (show c < 8 by omega), ho2, lq_eq, nI_1]
    · have hr' : ¬ gi M 327 (13 + 4 * c + 2) = 2 := by rw [hf]; exact hr
      have hb : (Rf f nc).testBit c = true := rf_bit.mpr ⟨by omega, hr⟩
      rw [if_pos hb]
      by_cases ho2 : out.testBit c = true
      · rw [if_pos ho2]
        simp only [Md_fogged_h64, Md_fogged_b127, e4, hlt, if_true, md_isRoom hc7, hr', decide_false, Bool.not_false, if_false, bd_some, md_has ho (show c < 8 by omega), ho2, z1, nL_of (show p < 2 ^ 31 by omega), lq_eq, nI_1]
      · rw [if_neg ho2]
        simp only [Md_fogged_h64, Md_fogged_b127, e4, hlt, if_true, md_isRoom hc7, hr', decide_false, Bool.not_false, Bool.false_eq_true, if_false, bd_some, md_has ho (show c < 8 by omega), ho2, z1, ten_minus p hp, nL_of (show 10 - p < 2 ^ 31 by omega), lq_eq, nI_1]
theorem fogo_in {f : Nat → Int32} {nc nt p : Nat} {x2 : Int32} {M0 : Mem} (hR : RowOk f nc nt) (n6 : nc ≤ 6) (hf : ∀ i, gi M0 327 i = f i) (hp : p ≤ 10) : ∀ m x q M, x + m = 2 ^ nc → m < q → (∀ b i, b ≠ 333 → b ≠ 334 → gi M b i = gi M0 b i) → ∃ M', Md_fogged_h45 q (nI p) x2 (nL (sm (fogG f nc (Of f nt) p) x)) (nL (sm (fun x => pr (Rf f nc) p x nc) x)) (nI x) M = (if x2 = 0 then Md_fogged_b188 (nL (sm (fogG f nc (Of f nt) p) (2 ^ nc))) (nL (sm (fun x => pr (Rf f nc) p x nc) (2 ^ nc))) (nL (sm (fogG f nc (Of f nt) p) (2 ^ nc))) M' else Md_fogged_b188 (nL (sm (fogG f nc (Of f nt) p) (2 ^ nc))) (nL (sm (fun x => pr (Rf f nc) p x nc) (2 ^ nc))) (nL (sm (fun x => pr (Rf f nc) p x nc) (2 ^ nc))) M') ∧ (∀ b i, b ≠ 333 → b ≠ 334 → gi M' b i = gi M0 b i) := by
  have h64 : 2 ^ nc ≤ 64 := Nat.le_trans (Nat.pow_le_pow_right (by omega) n6) (by decide)
  have l0 : (0 : Int64) = nL 0 := rfl
  intro m
  induction m with
  | zero =>
    intro x q M hx hq hM
    obtain ⟨q, rfl⟩ : ∃ z, q = z + 1 := ⟨q - 1, by omega⟩
    have e4 : gi M 327 4 = nI nc := by rw [hM 327 4 (by omega) (by omega), hf]; exact hR.1.2.2.1
    have hge : ¬ nI x < nI (2 ^ nc) := nI_nlt (by omega) (by omega)
    have hx2 : x = 2 ^ nc := by omega
    subst hx2
    refine ⟨M, ?_, hM⟩
    rw [Md_fogged_h45, e4, shl_bit nc (by omega), if_neg hge]
  | succ m ih =>
    intro x q M hx hq hM
    obtain ⟨q, rfl⟩ : ∃ z, q = z + 1 := ⟨q - 1, by omega⟩
    have ef : ∀ i, gi M 327 i = f i := fun i => by rw [hM 327 i (by omega) (by omega), hf]
    have e4 : gi M 327 4 = nI nc := by rw [ef]; exact hR.1.2.2.1
    have hlt : nI x < nI (2 ^ nc) := nI_lt (by omega) (by omega)
    have hstart : Md_fogged_h45 (q + 1) (nI p) x2 (nL (sm (fogG f nc (Of f nt) p) x)) (nL (sm (fun x => pr (Rf f nc) p x nc) x)) (nI x) M = Md_fogged_h64 (fun x1 x2 y3 y5 x7 M => Md_fogged_h45 q x1 x2 y3 y5 x7 M) FU (nI p) x2 (nL (sm (fogG f nc (Of f nt) p) x)) (nL (sm (fun x => pr (Rf f nc) p x nc) x)) (nI x) (nL (pr (Rf f nc) p x 0)) (nI 0) M := by
      rw [Md_fogged_h45, e4, shl_bit nc (by omega), if_pos hlt, lq_e, lq_e]
      rfl
    rw [hstart, fogi_in hR n6 ef hp (show x < 256 by omega) nc 0 FU (by omega) (by unfold FU; omega)]
    have hple := pr_le (R := Rf f nc) (x := x) hp nc
    have h10 : 10 ^ nc ≤ 10 ^ 6 := Nat.pow_le_pow_right (by omega) n6
    have hpl : pr (Rf f nc) p x nc < 2 ^ 62 := by omega
    have eT : sm (fun x => pr (Rf f nc) p x nc) (x + 1) = sm (fun x => pr (Rf f nc) p x nc) x + pr (Rf f nc) p x nc := rfl
    have eG : sm (fogG f nc (Of f nt) p) (x + 1) = sm (fogG f nc (Of f nt) p) x + fogG f nc (Of f nt) p x := rfl
    obtain ⟨M1, c1, c2, c3, _⟩ := can_m (a := 327) (M := M) (by omega) hR ef (show x < 256 by omega)
    by_cases h0 : pr (Rf f nc) p x nc = 0
    · obtain ⟨M', r1, r2⟩ := ih (x + 1) q M (by omega) (by omega) hM
      have hg0 : fogG f nc (Of f nt) p x = 0 := by have := fog_le f nc (Of f nt) p x; omega
      refine ⟨M', ?_, r2⟩
      rw [← r1, eT, eG, hg0, h0, ← nL_add, ← nL_add, if_neg (by rw [i64_lt, nL_toInt (by omega)]; decide)]
      unfold Md_fogged_b169 Md_fogged_b170
      rw [lq_e, lq_e, nI_1]
      rfl
    · have hpos : (0 : Int64) < nL (pr (Rf f nc) p x nc) := by
        rw [i64_lt, nL_toInt hpl]
        have e : (0 : Int64).toInt = 0 := by decide
        omega
      obtain ⟨M', r1, r2⟩ := ih (x + 1) q M1 (by omega) (by omega) (fun b i h1 h2 => (c3 b i h1 h2).trans (hM b i h1 h2))
      refine ⟨M', ?_, r2⟩
      rw [if_pos hpos, ← r1, eT, eG, ← nL_add, ← nL_add]
      by_cases hP : Pf (Ho f nc (Of f nt) x) nc 0 (Of f nt)
      · have hg : fogG f nc (Of f nt) p x = pr (Rf f nc) p x nc := if_pos (dB_iff.mpr hP)
        rw [c1 hP, bd_some, if_neg (by decide), hg]
        unfold Md_fogged_b170
        rw [lq_e, lq_e, nI_1]
      · have hg : fogG f nc (Of f nt) p x = 0 := if_neg (fun z => hP (dB_iff.mp z))
        rw [c2 hP, bd_some, if_pos rfl, hg]
        unfold Md_fogged_b169 Md_fogged_b170
        rw [lq_e, lq_e, nI_1]
        rfl
def SimL (A B : Mem → Option (Int64 × Mem)) : Prop := ∀ M, Rel M → ∃ r M1 M2, A M = some (r, M1) ∧ B M1 = some (r, M2) ∧ Rel M2
theorem s_fogged (x y : Int32) : SimL (j_Fc_fogged x y) (j_Md_fogged x y) := by
  intro M h
  obtain ⟨nc, nt, nr, hD, hI⟩ := h.1
  have hR := iv_rowOk hI
  rw [show rowM M 327 0 = (fun i => gi M 327 i) from funext (row_at M)] at hR
  have n6 := hI.1.1
  have n8 := hI.1.2.1
  have d0 : gi M 3 0 = nI nc := hD.1.1
  have e4 : gi M 327 4 = nI nc := hR.1.2.2.1
  have t10 : (10 : Int32).toInt = 10 := by decide
  have hin : ∀ M', j_Md_in (Int32.toInt64 x) 0 10 M' = some (if (0 : Int32).toInt ≤ x.toInt ∧ x.toInt ≤ (10 : Int32).toInt then 1 else 0, M') := fun M' => md_in x 0 10 rfl rfl rfl
  rw [t0, t10] at hin
  by_cases hp : nc = 0
  · refine ⟨-1000002, M, M, ?_, ?_, h⟩
    · have q : gi M 3 0 = 0 := by rw [d0, hp]; rfl
      simp only [j_Fc_fogged, hasNoBook_eq, q, if_true, bd_some, z1, if_false]
    · simp only [j_Md_fogged, isBook_eq e4 (show nc < 2 ^ 31 by omega), hp, if_true, bd_some]
  · have q : ¬ gi M 3 0 = 0 := by rw [d0, nI_eq0 (by omega)]; exact hp
    by_cases hx : 0 ≤ x.toInt ∧ x.toInt ≤ 10
    · have x1 : ¬ x < 0 := by rw [i32_lt, t0]; omega
      have x2 : ¬ (10 : Int32) < x := by rw [i32_lt, t10]; omega
      by_cases hy : y = 0 ∨ y = 1
      · obtain ⟨p, hpl, rfl⟩ : ∃ p, p ≤ 10 ∧ x = nI p := ⟨x.toInt.toNat, by omega, i32_nat hx.1⟩
        obtain ⟨M1, l1, l2, l3, l4⟩ := ahead_c hD hI
        have hO : Of (fun i => gi M 327 i) nt < 256 := Nat.lt_of_lt_of_le (setN_lt _ nt) (two8 n8)
        have eO : openN M 327 nt = Of (fun i => gi M 327 i) nt := rfl
        rw [eO] at l3 l4
        have ef1 : ∀ i, gi M1 327 i = gi M 327 i := fun i => l2 327 i (by omega)
        have e4' : gi M1 327 4 = nI nc := by rw [ef1]; exact e4
        have hcs := cases_in (p := p) l3 l4 n6 hO hpl 64 0 FU (by omega) (by unfold FU; omega)
        have hj : j_Reach_casesAmongTens (nI p) M1 = some (nL (sm (clr (fun i => gi M 327 i) nc (Of (fun i => gi M 327 i) nt) p) 64), M1) := hcs
        obtain ⟨M2, r1, r2⟩ := fogo_in (f := fun i => gi M 327 i) (nt := nt) (x2 := y) (M0 := M1) hR n6 ef1 hpl (2 ^ nc) 0 FU M1 (by omega) (by
          have : 2 ^ nc ≤ 64 := Nat.le_trans (Nat.pow_le_pow_right (by omega) n6) (by decide)
          unfold FU; omega) (fun _ _ _ _ => rfl)
        obtain ⟨t1', t2'⟩ := fog_tot (f := fun i => gi M 327 i) n6 hpl
        rw [fog_sum n6, t1'] at r1
        have hle : sm (clr (fun i => gi M 327 i) nc (Of (fun i => gi M 327 i) nt) p) 64 ≤ 10 ^ cnt (fun i => (Rf (fun i => gi M 327 i) nc).testBit i) 8 := by
          rw [← fog_sum n6, ← t1']
          exact sm_le (fun i => fog_le _ _ _ _ i) _
        have hR256 : Rf (fun i => gi M 327 i) nc < 256 := Nat.lt_of_lt_of_le (setN_lt _ nc) (two8 (by omega))
        obtain ⟨S, hS⟩ : ∃ S, S = sm (clr (fun i => gi M 327 i) nc (Of (fun i => gi M 327 i) nt) p) 64 := ⟨_, rfl⟩
        obtain ⟨n, hn⟩ : ∃ n, n = cnt (fun i => (Rf (fun i => gi M 327 i) nc).testBit i) 8 := ⟨_, rfl⟩
        rw [← hS] at hj r1 hle
        rw [← hn] at r1 hle t2'
        have h10 : 10 ^ n ≤ 10 ^ 6 := Nat.pow_le_pow_right (by omega) t2'
        have hpos10 : 0 < 10 ^ n := Nat.pow_pos (by omega)
        have hgc := gcd_c (M := M1) 30 S (10 ^ n) 0 FU (by omega) (by omega) (by omega) (by omega) (by unfold FU; omega)
        have hgm := gcd_m (M := M2) 30 S (10 ^ n) FU (by omega) (by omega) (by omega) (by unfold FU; omega)
        have hjc : j_Fc_greatestDivisor (nL S) (nL (10 ^ n)) M1 = some (nL (Nat.gcd S (10 ^ n)), M1) := hgc
        have hjm : j_Md_gcd (nL S) (nL (10 ^ n)) M2 = some (nL (Nat.gcd S (10 ^ n)), M2) := hgm
        have hg1 : 0 < Nat.gcd S (10 ^ n) := Nat.gcd_pos_of_pos_right _ hpos10
        have hg2 : Nat.gcd S (10 ^ n) ≤ 10 ^ n := Nat.gcd_le_right _ hpos10
        have hgn : ¬ nL (Nat.gcd S (10 ^ n)) = 0 := fun z => by have := (nL_eq0 (by omega)).mp z; omega
        have hglt : ¬ nL (Nat.gcd S (10 ^ n)) < 1 := by
          rw [i64_lt, nL_toInt (by omega)]
          have e : (1 : Int64).toInt = 1 := by decide
          omega
        have hpw : j_Fc_power 10 (nI n) M1 = some (nL (10 ^ n), M1) := pow_c M1 (a := 10) (by omega) (by omega)
        have hbc := bc_val _ hR256
        rw [← hn] at hbc
        have hRel : Rel M2 := h.keep ((keep_ahead l2).trans (keep_model (fun a i h1 h2 => r2 a i (by omega) (by omega))))
        have hstart : j_Md_fogged (nI p) y M1 = (if y = 0 then Md_fogged_b188 (nL S) (nL (10 ^ n)) (nL S) M2 else Md_fogged_b188 (nL S) (nL (10 ^ n)) (nL (10 ^ n)) M2) := by
          rw [← r1]
          unfold j_Md_fogged
          rw [isBook_eq e4' (show nc < 2 ^ 31 by omega), bd_some, if_neg hp, if_neg (by decide), hin, bd_some, if_pos hx, if_neg (by decide), (z01_yes hy M1).2, bd_some, if_neg (by decide), lq_e, lq_e, lq_e]
          rfl
        refine ⟨if y = 0 then nL S / nL (Nat.gcd S (10 ^ n)) else nL (10 ^ n) / nL (Nat.gcd S (10 ^ n)), M1, M2, ?_, ?_, hRel⟩
        · by_cases hy0 : y = 0
          · subst hy0
            simp only [j_Fc_fogged, hasNoBook_eq, q, if_false, bd_some, if_true, x1, x2, (z01_yes (Or.inl rfl) M).1, z1, l1, hj, l3.1.1, bc_eq, hbc, hpw, hjc, hglt, hgn]
          · simp only [j_Fc_fogged, hasNoBook_eq, q, if_false, bd_some, if_true, x1, x2, (z01_yes hy M).1, z1, l1, hj, l3.1.1, bc_eq, hbc, hpw, hjc, hglt, hgn, hy0]
        · rw [hstart]
          by_cases hy0 : y = 0
          · rw [if_pos hy0, if_pos hy0]
            unfold Md_fogged_b188
            rw [hjm, bd_some, if_neg hgn]
          · rw [if_neg hy0, if_neg hy0]
            unfold Md_fogged_b188
            rw [hjm, bd_some, if_neg hgn]
      · refine ⟨-1000001, M, M, ?_, ?_, h⟩
        · simp only [j_Fc_fogged, hasNoBook_eq, q, if_false, bd_some, if_true, x1, x2, (z01_no hy M).1]
        · simp only [j_Md_fogged, isBook_eq e4 (show nc < 2 ^ 31 by omega), hp, if_false, bd_some, hin, hx, and_self, if_true, z1, (z01_no hy M).2]
    · refine ⟨-1000001, M, M, ?_, ?_, h⟩
      · by_cases x1 : x < 0
        · simp only [j_Fc_fogged, hasNoBook_eq, q, if_false, bd_some, if_true, x1]
        · have x2 : (10 : Int32) < x := by rw [i32_lt, t10]; rw [i32_lt, t0] at x1; omega
          simp only [j_Fc_fogged, hasNoBook_eq, q, if_false, bd_some, if_true, x1, x2]
      · simp only [j_Md_fogged, isBook_eq e4 (show nc < 2 ^ 31 by omega), hp, if_false, bd_some, hin, hx, z1, if_true]
