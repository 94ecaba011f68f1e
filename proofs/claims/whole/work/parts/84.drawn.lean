theorem seed_eq {a : Nat} (h : a < 2147483647) : nL a * 16807 - nL a * 16807 / 2147483647 * 2147483647 = nL (seed a) := by
  rw [show (16807 : Int64) = nL 16807 from rfl, show (2147483647 : Int64) = nL 2147483647 from rfl, nL_mul, nL_mod (by omega) (by omega)]
  rfl
theorem seed_lt (a : Nat) : seed a < 2147483647 := Nat.mod_lt _ (by omega)
theorem drawS_yes {nc O m a : Nat} {g : Nat → Int32} {S F : Int32} (h : Bv (Hf (drawR g O (seed a)) nc O) (wf (drawR g O (seed a))) 6 0 O < 1000000) : drawS nc O (m + 1) g a S F = drawS nc O m (drawR g O (seed a)) (seed a) (S + nI (Bv (Hf (drawR g O (seed a)) nc O) (wf (drawR g O (seed a))) 6 0 O / 16)) F := if_pos (dB_iff.mpr h)
theorem drawS_no {nc O m a : Nat} {g : Nat → Int32} {S F : Int32} (h : ¬ Bv (Hf (drawR g O (seed a)) nc O) (wf (drawR g O (seed a))) 6 0 O < 1000000) : drawS nc O (m + 1) g a S F = drawS nc O m (drawR g O (seed a)) (seed a) S (F + 1) := if_neg (fun z => h (dB_iff.mp z))
theorem dc_in {nc nt O N : Nat} {x3 : Int32} {M0 : Mem} (n6 : nc ≤ 6) (hO : O < 2 ^ nt) (hN : N < 2 ^ 31) : ∀ m j q M g a S F, j + m = N → m < q → a < 2147483647 → RM M g nc nt O → RowOk g nc nt → (∀ b i, (b < 299 ∨ 322 < b) → gi M b i = gi M0 b i) → ∃ M', Fc_drawn_h66 q (nI N) x3 (nL a) S F (nI j) M = some (if x3 = 0 then (drawS nc O m g a S F).1 else (drawS nc O m g a S F).2, M') ∧ (∀ b i, (b < 299 ∨ 322 < b) → gi M' b i = gi M0 b i) := by
  intro m
  induction m with
  | zero =>
    intro j q M g a S F hj hq ha h hR hM
    obtain ⟨q, rfl⟩ : ∃ z, q = z + 1 := ⟨q - 1, by omega⟩
    have hge : ¬ nI j < nI N := nI_nlt (by omega) (by omega)
    refine ⟨M, ?_, hM⟩
    by_cases hx : x3 = 0
    · simp only [Fc_drawn_h66, hge, if_false, hx, if_true, drawS]
    · simp only [Fc_drawn_h66, hge, if_false, hx, drawS]
  | succ m ih =>
    intro j q M g a S F hj hq ha h hR hM
    obtain ⟨q, rfl⟩ : ∃ z, q = z + 1 := ⟨q - 1, by omega⟩
    have hlt : nI j < nI N := nI_lt (by omega) (by omega)
    have hsl := seed_lt a
    obtain ⟨M1, r1, r2, r3⟩ := draw_c (a := seed a) h hR n6 hO (by omega)
    obtain ⟨d1, _, _⟩ := draw_ok (a := seed a) hR hO
    obtain ⟨M2, b1, b2, b3⟩ := best_c r3 d1 hO
    have hRM2 : RM M2 (drawR g O (seed a)) nc nt O := r3.cong (fun a i h1 h2 => b1 a i (by omega))
    have fr : ∀ b i, (b < 299 ∨ 322 < b) → gi M2 b i = gi M0 b i := fun b i hb => by rw [b1 b i (by omega), r2 b i (by omega) (by omega) (by omega)]; exact hM b i hb
    by_cases hF : Bv (Hf (drawR g O (seed a)) nc O) (wf (drawR g O (seed a))) 6 0 O < 1000000
    · obtain ⟨k1, k2⟩ := b2 hF
      have hl := losses_c hRM2 d1 hO (bestP_plan hF) k2
      rw [best_loss d1 hO hF] at hl
      obtain ⟨M', p1, p2⟩ := ih (j + 1) q M2 (drawR g O (seed a)) (seed a) (S + nI (Bv (Hf (drawR g O (seed a)) nc O) (wf (drawR g O (seed a))) 6 0 O / 16)) F (by omega) (by omega) hsl hRM2 d1 fr
      refine ⟨M', ?_, p2⟩
      rw [drawS_yes hF, ← p1]
      simp only [Fc_drawn_h66, Fc_drawn_b125, hlt, if_true, seed_eq ha, lq_eq, r1, bd_some, k1, z1, if_false, hl, nI_1]
    · have hI : Bv (Hf (drawR g O (seed a)) nc O) (wf (drawR g O (seed a))) 6 0 O = 1000000 := by have := bv_le (Hf (drawR g O (seed a)) nc O) (wf (drawR g O (seed a))) 6 0 O; omega
      have k1 := b3 hI
      obtain ⟨M', p1, p2⟩ := ih (j + 1) q M2 (drawR g O (seed a)) (seed a) S (F + 1) (by omega) (by omega) hsl hRM2 d1 fr
      refine ⟨M', ?_, p2⟩
      rw [drawS_no hF, ← p1]
      simp only [Fc_drawn_h66, Fc_drawn_b125, hlt, if_true, seed_eq ha, lq_eq, r1, bd_some, k1, nI_1]
theorem dm_in {nc nt O N : Nat} {x3 : Int32} {M0 : Mem} (n6 : nc ≤ 6) (hO : O < 2 ^ nt) (hN : N < 2 ^ 31) : ∀ m j q M g a S F, j + m = N → m < q → a < 2147483647 → (∀ i, gi M 328 i = g i) → RowOk g nc nt → Of g nt = O → (∀ b i, b ≠ 328 → b ≠ 333 → b ≠ 334 → gi M b i = gi M0 b i) → ∃ M', Md_drawn_h82 q (nI N) x3 (nI O) S F (nL a) (nI j) M = some (if x3 = 0 then (drawS nc O m g a S F).1 else (drawS nc O m g a S F).2, M') ∧ (∀ b i, b ≠ 328 → b ≠ 333 → b ≠ 334 → gi M' b i = gi M0 b i) := by
  intro m
  induction m with
  | zero =>
    intro j q M g a S F hj hq ha h hR hOe hM
    obtain ⟨q, rfl⟩ : ∃ z, q = z + 1 := ⟨q - 1, by omega⟩
    have hge : ¬ nI j < nI N := nI_nlt (by omega) (by omega)
    refine ⟨M, ?_, hM⟩
    by_cases hx : x3 = 0
    · simp only [Md_drawn_h82, hge, if_false, hx, if_true, drawS]
    · simp only [Md_drawn_h82, hge, if_false, hx, drawS]
  | succ m ih =>
    intro j q M g a S F hj hq ha h hR hOe hM
    obtain ⟨q, rfl⟩ : ∃ z, q = z + 1 := ⟨q - 1, by omega⟩
    have n8 := hR.1.2.1
    have hO256 : O < 256 := Nat.lt_of_lt_of_le hO (two8 n8)
    have hlt : nI j < nI N := nI_lt (by omega) (by omega)
    have hsl := seed_lt a
    obtain ⟨d1, d2, d3⟩ := draw_ok (a := seed a) hR hO
    rw [hOe] at d3
    have hw : ∀ c t, Hf (drawR g O (seed a)) nc O c t → wf (drawR g O (seed a)) c t ≤ 1585 ∧ wf (drawR g O (seed a)) c t % 16 = 1 := fun c t q => by
      have := hf_w d1 hO c t q
      exact ⟨this.1, this.2.1⟩
    -- the step up to the placing
    have hstep : ∃ M1, (∀ i, gi M1 328 i = drawR g O (seed a) i) ∧ (∀ b i, b ≠ 328 → b ≠ 333 → b ≠ 334 → gi M1 b i = gi M0 b i) ∧ Md_drawn_h82 (q + 1) (nI N) x3 (nI O) S F (nL a) (nI j) M = Md_drawn_b144 (fun x1 x3 x4 x5 x6 y7 x9 M => Md_drawn_h82 q x1 x3 x4 x5 x6 y7 x9 M) (nI N) x3 (nI O) S F (nL (seed a)) (nI j) M1 := by
      by_cases h0 : O = 0
      · refine ⟨M, fun i => ?_, hM, ?_⟩
        · have e : drawR g O (seed a) = g := if_pos h0
          rw [e]; exact h i
        · have hz : nI O = 0 := by rw [h0]; rfl
          simp only [Md_drawn_h82, hlt, if_true, seed_eq ha, lq_eq, hz]
      · have hn : bitsN O 8 ≠ 0 := fun z => h0 ((bits0 hO256).mp z)
        have hb8 : bitsN O 8 ≤ 8 := cnt_le _ 8
        have hK := d2 h0
        have hmlt := Nat.mod_lt (seed a) (show 0 < bitsN O 8 by omega)
        have hnth := (nth_m M hO256 hmlt).2
        have h60 := Nat.mod_lt (seed a / 16) (show 0 < 60 by omega)
        have hd16 : seed a / 16 ≤ seed a := Nat.div_le_self _ 16
        have hv : (1 : Int32) + Int64.toInt32 (nL (seed a) / 16 - nL (seed a) / 16 / 60 * 60) = nI (1 + seed a / 16 % 60) := by
          rw [show (16 : Int64) = nL 16 from rfl, nL_div (by omega) (by omega), show (60 : Int64) = nL 60 from rfl, nL_mod (by omega) (by omega), nL_to32 (by omega), show (1 : Int32) = nI 1 from rfl, nI_add]
        have hones : j_Md_ones (nI O) M = some (nI (bitsN O 8), M) := ones_eq hO256
        have hn64 : ¬ nL (bitsN O 8) = 0 := fun z => hn ((nL_eq0 (by omega)).mp z)
        have hnz : ¬ nI O = 0 := by rw [nI_eq0 (by omega)]; exact h0
        have hTl := hK.1
        refine ⟨uI M 328 (41 + 3 * kth O (seed a % bitsN O 8) + 1) (nI (1 + seed a / 16 % 60)), fun i => ?_, fun b i h1 h2 h3 => ?_, ?_⟩
        · have e : drawR g O (seed a) = fu g (41 + 3 * kth O (seed a % bitsN O 8) + 1) (nI (1 + seed a / 16 % 60)) := if_neg h0
          rw [e]
          by_cases hi : i = 41 + 3 * kth O (seed a % bitsN O 8) + 1
          · rw [hi, gi_uIs, fu_eq]
          · rw [gi_uIi _ _ _ _ _ _ hi, fu_ne hi]; exact h i
        · rw [gi_uIa _ _ _ _ _ _ h1]; exact hM b i h1 h2 h3
        · simp only [Md_drawn_h82, hlt, if_true, seed_eq ha, lq_eq, hnz, if_false, hones, bd_some, nL_of (show bitsN O 8 < 2 ^ 31 by omega), hn64, nL_mod (show seed a < 2 ^ 62 by omega) (show bitsN O 8 < 2 ^ 62 by omega), hnth, i3, nI_1, gd_t (inb_nI (show 41 + 3 * kth O (seed a % bitsN O 8) + 1 < 89 by omega) (show 89 < 2 ^ 31 by omega)), ix_nI (show 41 + 3 * kth O (seed a % bitsN O 8) + 1 < 2 ^ 31 by omega), hv, sq_eq]
    obtain ⟨M1, e1, e2, e3⟩ := hstep
    obtain ⟨M2, c1, c2, c3, c4⟩ := can_m (a := 328) (M := M1) (out := 0) (by omega) d1 e1 (by omega)
    have z0' : nI 0 = 0 := rfl
    rw [d3, ho_0] at c1 c2 c4
    rw [z0'] at c1 c2
    have hpf : Pf (Hf (drawR g O (seed a)) nc O) nc 0 O ↔ Bv (Hf (drawR g O (seed a)) nc O) (wf (drawR g O (seed a))) 6 0 O ≠ 1000000 := by
      have := bv_six (f := drawR g O (seed a)) (nc := nc) (O := O) (c := 0) (s := O) (w := wf (drawR g O (seed a))) n6 (by omega)
      rw [pf_bv hw (by omega), ← this, Nat.sub_zero]
    have hent := c4 0 (by omega) O (sb_refl O)
    rw [bv_six n6 (by omega), Nat.mul_zero, Nat.zero_add, Nat.sub_zero] at hent
    have fr : ∀ b i, b ≠ 328 → b ≠ 333 → b ≠ 334 → gi M2 b i = gi M0 b i := fun b i h1 h2 h3 => (c3 b i h2 h3).trans (e2 b i h1 h2 h3)
    have e1' : ∀ i, gi M2 328 i = drawR g O (seed a) i := fun i => (c3 328 i (by omega) (by omega)).trans (e1 i)
    by_cases hF : Bv (Hf (drawR g O (seed a)) nc O) (wf (drawR g O (seed a))) 6 0 O < 1000000
    · have hg : gi M2 333 O = nI (Bv (Hf (drawR g O (seed a)) nc O) (wf (drawR g O (seed a))) 6 0 O / 16) := by
        rcases hent with ⟨q1, _⟩ | ⟨_, q2, _⟩
        · omega
        · exact q2
      obtain ⟨M', p1, p2⟩ := ih (j + 1) q M2 (drawR g O (seed a)) (seed a) (S + nI (Bv (Hf (drawR g O (seed a)) nc O) (wf (drawR g O (seed a))) 6 0 O / 16)) F (by omega) (by omega) hsl e1' d1 d3 fr
      refine ⟨M', ?_, p2⟩
      rw [drawS_yes hF, ← p1, e3]
      simp only [Md_drawn_b144, Md_drawn_b173, Md_drawn_b188, c1 (hpf.mpr (by omega)), bd_some, z1, if_false, gd_t (inb_nI (show O < 2048 by omega) (show 2048 < 2 ^ 31 by omega)), ix_nI (show O < 2 ^ 31 by omega), hg, lq_eq, Int32.add_zero, nI_1]
    · have hI : Bv (Hf (drawR g O (seed a)) nc O) (wf (drawR g O (seed a))) 6 0 O = 1000000 := by have := bv_le (Hf (drawR g O (seed a)) nc O) (wf (drawR g O (seed a))) 6 0 O; omega
      obtain ⟨M', p1, p2⟩ := ih (j + 1) q M2 (drawR g O (seed a)) (seed a) S (F + 1) (by omega) (by omega) hsl e1' d1 d3 fr
      refine ⟨M', ?_, p2⟩
      rw [drawS_no hF, ← p1, e3]
      simp only [Md_drawn_b144, Md_drawn_b173, Md_drawn_b188, c2 (fun z => hpf.mp z hI), bd_some, if_true, lq_eq, Int32.add_zero, nI_1]
theorem copy_m2 (M : Mem) : ∃ M', j_Md_copies 327 0 328 0 M = some ((), M') ∧ (∀ b i, b ≠ 328 → gi M' b i = gi M b i) ∧ ∀ i, gi M' 328 i = if i < 89 then gi M 327 i else gi M 328 i := by
  have h := copies_ok (a0 := 327) (p := 0) (a2 := 328) (q := 0) M (by omega) (by decide +kernel) (by decide +kernel) (by decide +kernel) (by decide +kernel)
  refine ⟨cpyM M 327 0 328 0 89, h, fun b i hb => ?_, fun i => ?_⟩
  · rw [gi_cpyM, if_neg (fun z => hb z.1)]
  · rw [gi_cpyM]
    by_cases hi : i < 89
    · rw [if_pos ⟨rfl, by omega, by omega⟩, if_pos hi, Nat.zero_add, Nat.sub_zero]
    · rw [if_neg (fun z => by omega), if_neg hi]
theorem row89 {f g : Nat → Int32} {nc nt : Nat} (n6 : nc ≤ 6) (hR : RowOk f nc nt) (e : ∀ i, i < 89 → g i = f i) : RowOk g nc nt ∧ Of g nt = Of f nt := by
  obtain ⟨⟨n1, n2, n3, n4⟩, a, b, c⟩ := hR
  refine ⟨⟨⟨n1, n2, ?_, ?_⟩, ?_, fun j hj => ?_, fun j hj => ?_⟩, ?_⟩
  · rw [e 4 (by omega)]; exact n3
  · rw [e 5 (by omega)]; exact n4
  · rw [e 0 (by omega)]; exact a
  · rw [e _ (by omega), e _ (by omega)]; exact b j hj
  · rw [e _ (by omega), e _ (by omega)]; exact c j hj
  · exact setN_cong nt (fun i hi => by rw [e _ (by omega)])
theorem s_drawn (x y w : Int32) : Sim (j_Fc_drawn x y w) (j_Md_drawn x y w) := by
  intro M h
  obtain ⟨nc, nt, nr, hD, hI⟩ := h.1
  have hR := iv_rowOk hI
  rw [show rowM M 327 0 = (fun i => gi M 327 i) from funext (row_at M)] at hR
  have n6 := hI.1.1
  have n8 := hI.1.2.1
  have d0 : gi M 3 0 = nI nc := hD.1.1
  have e4 : gi M 327 4 = nI nc := hR.1.2.2.1
  have e5 : gi M 327 5 = nI nt := hR.1.2.2.2
  have t20 : (20 : Int32).toInt = 20 := by decide
  have t9 : (999999 : Int32).toInt = 999999 := by decide
  have hin : ∀ M', j_Md_in (Int32.toInt64 x) 0 20 M' = some (if (0 : Int32).toInt ≤ x.toInt ∧ x.toInt ≤ (20 : Int32).toInt then 1 else 0, M') := fun M' => md_in x 0 20 rfl rfl rfl
  have hin2 : ∀ M', j_Md_in (Int32.toInt64 y) 1 999999 M' = some (if (1 : Int32).toInt ≤ y.toInt ∧ y.toInt ≤ (999999 : Int32).toInt then 1 else 0, M') := fun M' => md_in y 1 999999 rfl rfl rfl
  rw [t0, t20] at hin
  rw [t1, t9] at hin2
  by_cases hp : nc = 0
  · refine ⟨-1000002, M, M, ?_, ?_, h⟩
    · have q : gi M 3 0 = 0 := by rw [d0, hp]; rfl
      simp only [j_Fc_drawn, hasNoBook_eq, q, if_true, bd_some, z1, if_false]
    · simp only [j_Md_drawn, isBook_eq e4 (show nc < 2 ^ 31 by omega), hp, if_true, bd_some]
  · have q : ¬ gi M 3 0 = 0 := by rw [d0, nI_eq0 (by omega)]; exact hp
    by_cases hx : 0 ≤ x.toInt ∧ x.toInt ≤ 20
    · have x1 : ¬ x < 0 := by rw [i32_lt, t0]; omega
      have x2 : ¬ (20 : Int32) < x := by rw [i32_lt, t20]; omega
      by_cases hy : 1 ≤ y.toInt ∧ y.toInt ≤ 999999
      · have y1 : ¬ y < 1 := by rw [i32_lt, t1]; omega
        have y2 : ¬ (999999 : Int32) < y := by rw [i32_lt, t9]; omega
        by_cases hw : w = 0 ∨ w = 1
        · obtain ⟨N, hN, rfl⟩ : ∃ N, N ≤ 20 ∧ x = nI N := ⟨x.toInt.toNat, by omega, i32_nat hx.1⟩
          obtain ⟨a, ha, rfl⟩ : ∃ a, a ≤ 999999 ∧ y = nI a := ⟨y.toInt.toNat, by omega, i32_nat (by omega)⟩
          obtain ⟨Ma, l1, l2, l3⟩ := rm_look hD hI
          have eO : openN M 327 nt = Of (fun i => gi M 327 i) nt := rfl
          rw [eO] at l3
          obtain ⟨f, hfd⟩ : ∃ f : Nat → Int32, f = fun i => if i < 89 then gi M 327 i else gi M 328 i := ⟨_, rfl⟩
          have e89 : ∀ i, i < 89 → f i = (fun i => gi M 327 i) i := fun i hi => by rw [hfd]; exact if_pos hi
          obtain ⟨g1, g2⟩ := row89 n6 hR e89
          have hO2 : Of (fun i => gi M 327 i) nt < 2 ^ nt := setN_lt _ nt
          obtain ⟨M1, p1, p2⟩ := dc_in (x3 := w) (M0 := Ma) n6 hO2 (show N < 2 ^ 31 by omega) N 0 FU Ma f a 0 0 (by omega) (by unfold FU; omega) (by omega) (l3.cong89 n6 n8 hO2 e89) g1 (fun _ _ _ => rfl)
          have fr1 : ∀ b i, (b < 299 ∨ 322 < b) → gi M1 b i = gi M b i := fun b i hb => (p2 b i hb).trans (l2 b i (by omega))
          obtain ⟨M2, k1, k2, k3⟩ := copy_m2 M1
          have hrow : ∀ i, gi M2 328 i = f i := fun i => by
            rw [k3 i, hfd, fr1 327 i (by omega), fr1 328 i (by omega)]
          have ho : j_Md_openOnes 327 M2 = some (nI (Of (fun i => gi M 327 i) nt), M2) := by
            have := openOnes_m (a := 327) (M := M2) n8 (by rw [k2 327 5 (by omega), fr1 327 5 (by omega)]; exact e5)
            rw [this]
            unfold openN Of
            rw [setN_cong nt (fun i _ => by rw [k2 327 _ (by omega), fr1 327 _ (by omega)])]
          obtain ⟨M3, r1, r2⟩ := dm_in (x3 := w) (M0 := M2) n6 hO2 (show N < 2 ^ 31 by omega) N 0 FU M2 f a 0 0 (by omega) (by unfold FU; omega) (by omega) hrow g1 g2 (fun _ _ _ _ _ => rfl)
          have e4' : gi M1 327 4 = nI nc := by rw [fr1 327 4 (by omega)]; exact e4
          refine ⟨if w = 0 then (drawS nc (Of (fun i => gi M 327 i) nt) N f a 0 0).1 else (drawS nc (Of (fun i => gi M 327 i) nt) N f a 0 0).2, M1, M3, ?_, ?_, ?_⟩
          · unfold j_Fc_drawn
            rw [hasNoBook_eq, if_neg q, bd_some, if_pos rfl, if_neg x1, if_neg x2, if_neg y1, if_neg y2, (z01_yes hw M).1, bd_some, if_neg (by decide), l1, bd_some, nL_of (by omega), lq_e, lq_e, lq_e, lq_e]
            exact p1
          · unfold j_Md_drawn
            rw [isBook_eq e4' (show nc < 2 ^ 31 by omega), bd_some, if_neg hp, if_neg (by decide), hin, bd_some, if_pos hx, if_neg (by decide), hin2, bd_some, if_pos hy, if_neg (by decide), (z01_yes hw M1).2, bd_some, if_neg (by decide), k1, bd_some, ho, bd_some, nL_of (by omega), lq_e, lq_e, lq_e, lq_e]
            exact r1
          · exact h.keep ((show Keep M M1 from ⟨fun a i q => fr1 a i (by omega), fun a i q => fr1 a i (by omega), fun i _ => fr1 326 i (by omega)⟩).trans (keep_model (fun b i h1 h2 => (r2 b i h1 (by omega) (by omega)).trans (k2 b i h1))))
        · refine ⟨-1000001, M, M, ?_, ?_, h⟩
          · simp only [j_Fc_drawn, hasNoBook_eq, q, if_false, bd_some, if_true, x1, x2, y1, y2, (z01_no hw M).1]
          · simp only [j_Md_drawn, isBook_eq e4 (show nc < 2 ^ 31 by omega), hp, if_false, bd_some, hin, hx, hin2, hy, and_self, if_true, z1, (z01_no hw M).2]
      · refine ⟨-1000001, M, M, ?_, ?_, h⟩
        · by_cases y1 : y < 1
          · simp only [j_Fc_drawn, hasNoBook_eq, q, if_false, bd_some, if_true, x1, x2, y1]
          · have y2 : (999999 : Int32) < y := by rw [i32_lt, t9]; rw [i32_lt, t1] at y1; omega
            simp only [j_Fc_drawn, hasNoBook_eq, q, if_false, bd_some, if_true, x1, x2, y1, y2]
        · simp only [j_Md_drawn, isBook_eq e4 (show nc < 2 ^ 31 by omega), hp, if_false, bd_some, hin, hx, and_self, hin2, hy, if_true, z1]
    · refine ⟨-1000001, M, M, ?_, ?_, h⟩
      · by_cases x1 : x < 0
        · simp only [j_Fc_drawn, hasNoBook_eq, q, if_false, bd_some, if_true, x1]
        · have x2 : (20 : Int32) < x := by rw [i32_lt, t20]; rw [i32_lt, t0] at x1; omega
          simp only [j_Fc_drawn, hasNoBook_eq, q, if_false, bd_some, if_true, x1, x2]
      · simp only [j_Md_drawn, isBook_eq e4 (show nc < 2 ^ 31 by omega), hp, if_false, bd_some, hin, hx, z1, if_true]
