noncomputable def Pv (H : Nat → Nat → Prop) (w : Nat → Nat → Nat) (m c s u : Nat) : Nat := Classical.epsilon (fun x => Mn (Pu H w m c s u) x)
theorem pv_mn (H : Nat → Nat → Prop) (w : Nat → Nat → Nat) (m c s u : Nat) : Mn (Pu H w m c s u) (Pv H w m c s u) := Classical.epsilon_spec (mn_ex _)
theorem pv_eq {H : Nat → Nat → Prop} {w : Nat → Nat → Nat} {m c s u x : Nat} (h : Mn (Pu H w m c s u) x) : Pv H w m c s u = x := mn_uniq (pv_mn H w m c s u) h
theorem admit_in {f : Nat → Int32} {nc nt O c m U : Nat} {M0 : Mem} (h : RM M0 f nc nt O) (hR : RowOk f nc nt) (hO : O < 2 ^ nt) (hc : c < 5) (hU256 : U < 256) (hU : ∀ s, Bv (Hf f nc O) (wf f) m (c + 2) s ≠ 1000000 → sb s U) (hB : ∀ x, x < 256 → gi M0 (317 + (c + 1)) x = nI (Bv (Hf f nc O) (wf f) m (c + 2) x)) : ∀ u q M, u < q → sb u (Sf f nc nt O (c + 1)) → (∀ b i, b ≠ 317 + c → gi M b i = gi M0 b i) → (∀ s, s < 256 → gi M (317 + c) s = nI (Pv (Hf f nc O) (wf f) m (c + 1) s u)) → ∃ M', Best_admit_h12 q (nI (c + 1)) (nI U) (nI (Sf f nc nt O (c + 1))) (nI u) M = some ((), M') ∧ (∀ b i, b ≠ 317 + c → gi M' b i = gi M0 b i) ∧ (∀ s, s < 256 → gi M' (317 + c) s = nI (Bv (Hf f nc O) (wf f) (m + 1) (c + 1) s)) := by
  have n8 := hR.1.2.1
  have hO256 : O < 256 := Nat.lt_of_lt_of_le hO (two8 n8)
  have hS256 : Sf f nc nt O (c + 1) < 256 := sf_lt hO256
  intro u
  induction u using Nat.strongRecOn with
  | ind u ih =>
    intro q M hq hu hM hS
    obtain ⟨q, rfl⟩ : ∃ z, q = z + 1 := ⟨q - 1, by omega⟩
    by_cases hu0 : u = 0
    · subst hu0
      have c0 : ¬ (0 : Int32) < nI 0 := by decide
      refine ⟨M, by simp only [Best_admit_h12, c0, if_false], hM, fun s hs => ?_⟩
      rw [hS s hs, bv_eq (mn_cong pu_end (pv_mn (Hf f nc O) (wf f) m (c + 1) s 0))]
    · have hle := sb_le hu
      have hpos : (0 : Int32) < nI u := by rw [i32_lt, t0, nI_toInt (by omega)]; omega
      have hand : (u - 1) &&& Sf f nc nt O (c + 1) < u := Nat.lt_of_le_of_lt Nat.and_le_left (by omega)
      have hpred := pred_and (Sf f nc nt O (c + 1)) hu0
      have hn : ∀ s t, Hf f nc O (c + 1) t → sb t s → t < u → t ≤ (u - 1) &&& Sf f nc nt O (c + 1) := fun s t h1 _ h2 => sb_next u _ t hu (hf_sf n8 hO h1) h2
      have hRM : RM M f nc nt O := h.cong (fun a i h1 h2 => hM a i (by omega))
      by_cases hHu : Hf f nc O (c + 1) u
      · obtain ⟨w1, w2, w3, w4⟩ := hf_w hR hO (c + 1) u hHu
        have hD : dif U u < 256 := Nat.lt_of_le_of_lt (sb_le (dif_sb U u)) hU256
        obtain ⟨M1, r1, r2, r3⟩ := spread_c (M := M) (c := c) (u := u) (D := dif U u) (p := wf f (c + 1) u) (r := fun s => Pv (Hf f nc O) (wf f) m (c + 1) s u) (B := fun x => Bv (Hf f nc O) (wf f) m (c + 2) x) hc (by omega) hD (fun i hi => by
          rw [dif_bit, Bool.and_eq_true] at hi
          simpa using hi.2) (by omega) (fun s => (pv_mn (Hf f nc O) (wf f) m (c + 1) s u).1) (bv_0 _ _ _ _) (fun x hx => ⟨by rw [hM _ _ (by omega)]; exact hB x hx, bv_le _ _ _ _ _⟩) hS
        obtain ⟨M', p1, p2, p3⟩ := ih _ hand q M1 (by omega) (sb_and _ _) (fun b i hb => (r2 b i hb).trans (hM b i hb)) (fun s hs => by
          rw [r3 s hs]
          congr 1
          unfold spr
          by_cases hq1 : u &&& s = u
          · have hmin := pu_yes hu0 hand (hn s) hHu hq1 (pv_mn (Hf f nc O) (wf f) m (c + 1) s u)
            by_cases hq2 : (s ^^^ u) &&& dif U u = s ^^^ u
            · rw [if_pos ⟨hq1, hq2, by omega⟩]
              exact (pv_eq hmin).symm
            · rw [if_neg (fun z => hq2 z.2.1)]
              have hinf : Bv (Hf f nc O) (wf f) m (c + 2) (s ^^^ u) = 1000000 := by
                apply Classical.byContradiction
                intro z
                apply hq2
                have hz := hU _ z
                apply sb_bit.mpr
                intro i hi
                rw [dif_bit, sb_bit.mp hz i hi]
                rw [xor_bit hq1, Bool.and_eq_true] at hi
                rw [hi.2]; rfl
              rw [show c + 1 + 1 = c + 2 from rfl, hinf, Nat.min_eq_left (by have := (pv_mn (Hf f nc O) (wf f) m (c + 1) s u).1; omega)] at hmin
              exact (pv_eq hmin).symm
          · rw [if_neg (fun z => hq1 z.1)]
            exact (pv_eq (pu_no hand (hn s) (fun z => hq1 z.2) (pv_mn (Hf f nc O) (wf f) m (c + 1) s u))).symm)
        refine ⟨M', ?_, p2, p3⟩
        rw [← p1]
        simp only [Best_admit_h12, Best_admit_b47, hpos, if_true, holds_yes hRM n8 hO (show c + 1 < 6 by omega) (show u < 256 by omega) hHu, bd_some, z1, if_false, price_c hRM hR hO (show c + 1 < 6 by omega) (show u < 256 by omega) hHu, dif_nI (show U < 2 ^ 32 by omega), r1, lq_eq, hpred]
      · obtain ⟨M', p1, p2, p3⟩ := ih _ hand q M (by omega) (sb_and _ _) hM (fun s hs => by
          rw [hS s hs, pv_eq (pu_no hand (hn s) (fun z => hHu z.1) (pv_mn (Hf f nc O) (wf f) m (c + 1) s u))])
        refine ⟨M', ?_, p2, p3⟩
        rw [← p1]
        simp only [Best_admit_h12, Best_admit_b47, hpos, if_true, holds_no hRM n8 hO (show c + 1 < 6 by omega) (show u < 256 by omega) hHu, bd_some, lq_eq, hpred]
theorem admit_c {f : Nat → Int32} {nc nt O c m U : Nat} {M : Mem} (h : RM M f nc nt O) (hR : RowOk f nc nt) (hO : O < 2 ^ nt) (hc : c < 5) (hU256 : U < 256) (hU : ∀ s, Bv (Hf f nc O) (wf f) m (c + 2) s ≠ 1000000 → sb s U) (hB : ∀ x, x < 256 → gi M (317 + (c + 1)) x = nI (Bv (Hf f nc O) (wf f) m (c + 2) x)) (hS : ∀ s, s < 256 → gi M (317 + c) s = nI (Bv (Hf f nc O) (wf f) m (c + 2) s)) : ∃ M', j_Best_admit (nI (c + 1)) (nI U) M = some ((), M') ∧ (∀ b i, b ≠ 317 + c → gi M' b i = gi M b i) ∧ (∀ s, s < 256 → gi M' (317 + c) s = nI (Bv (Hf f nc O) (wf f) (m + 1) (c + 1) s)) := by
  have n8 := hR.1.2.1
  have hO256 : O < 256 := Nat.lt_of_lt_of_le hO (two8 n8)
  have hS256 : Sf f nc nt O (c + 1) < 256 := sf_lt hO256
  obtain ⟨M', r1, r2, r3⟩ := admit_in h hR hO hc hU256 hU hB (Sf f nc nt O (c + 1)) FU M (by unfold FU; omega) (sb_refl _) (fun _ _ _ => rfl) (fun s hs => by
    rw [hS s hs]
    congr 1
    exact (pv_eq (mn_cong (fun v => (pu_start (fun t q _ => sb_le (hf_sf n8 hO q)) v).symm) (bv_mn (Hf f nc O) (wf f) m (c + 2) s))).symm)
  refine ⟨M', ?_, r2, r3⟩
  unfold j_Best_admit
  rw [gd_t (inb_nI (show c + 1 < 6 by omega) (by omega)), ix_nI (show c + 1 < 2 ^ 31 by omega), lq_e, (h.2.1 (c + 1) (by omega)).1]
  exact r1
theorem sb_both {t s A B : Nat} (h1 : sb t s) (h2 : sb t A) (h3 : sb (s ^^^ t) B) : sb s (B ||| A) := sb_bit.mpr (fun i hi => by
  rw [Nat.testBit_or]
  cases ht : t.testBit i
  · have : (s ^^^ t).testBit i = true := by rw [xor_bit h1, hi, ht]; rfl
    rw [sb_bit.mp h3 i this]; rfl
  · rw [sb_bit.mp h2 i ht]; simp)
theorem place_in {f : Nat → Int32} {nc nt O : Nat} {M0 : Mem} (h : RM M0 f nc nt O) (hR : RowOk f nc nt) (hO : O < 2 ^ nt) : ∀ k q U M, k < q → k ≤ 5 → U < 256 → (∀ s, Bv (Hf f nc O) (wf f) (5 - k) (k + 1) s ≠ 1000000 → sb s U) → (∀ b i, (b < 317 ∨ 322 < b) → gi M b i = gi M0 b i) → (∀ j, k ≤ j → j ≤ 5 → ∀ s, s < 256 → gi M (317 + j) s = nI (Bv (Hf f nc O) (wf f) (5 - j) (j + 1) s)) → ∃ M', Best_place_h27 q (nI U) (nI k) M = bd (j_Best_choose M') (fun r9 M10 => (gd (isB r9) (some (r9, M10)))) ∧ (∀ b i, (b < 317 ∨ 322 < b) → gi M' b i = gi M0 b i) ∧ (∀ j, j ≤ 5 → ∀ s, s < 256 → gi M' (317 + j) s = nI (Bv (Hf f nc O) (wf f) (5 - j) (j + 1) s)) := by
  have n8 := hR.1.2.1
  have hO256 : O < 256 := Nat.lt_of_lt_of_le hO (two8 n8)
  have hw : ∀ c t, Hf f nc O c t → wf f c t ≤ 1585 ∧ wf f c t % 16 = 1 := fun c t q => by
    have := hf_w hR hO c t q
    exact ⟨this.1, this.2.1⟩
  intro k
  induction k with
  | zero =>
    intro q U M hq hk hU2 hU hM hS
    obtain ⟨q, rfl⟩ : ∃ z, q = z + 1 := ⟨q - 1, by omega⟩
    have c0 : ¬ (0 : Int32) < nI 0 := by decide
    refine ⟨M, ?_, hM, fun j hj s hs => hS j (by omega) hj s hs⟩
    rw [Best_place_h27, if_neg c0]
  | succ k ih =>
    intro q U M hq hk hU2 hU hM hS
    obtain ⟨q, rfl⟩ : ∃ z, q = z + 1 := ⟨q - 1, by omega⟩
    have hpos : (0 : Int32) < nI (k + 1) := by rw [i32_lt, t0, nI_toInt (by omega)]; omega
    obtain ⟨Ma, hMa⟩ : ∃ Ma, Ma = cpI M (317 + (k + 1)) 0 (317 + k) 0 256 := ⟨_, rfl⟩
    have fra : ∀ b i, b ≠ 317 + k → gi Ma b i = gi M b i := fun b i hb => by rw [hMa, cpI_ne hb]
    have hRMa : RM Ma f nc nt O := h.cong (fun a i h1 h2 => by rw [fra a i (by omega)]; exact hM a i (by omega))
    have e5 : 5 - k = (5 - (k + 1)) + 1 := by omega
    obtain ⟨M1, r1, r2, r3⟩ := admit_c (c := k) (m := 5 - (k + 1)) hRMa hR hO (by omega) hU2 hU (fun x hx => by rw [fra _ _ (by omega)]; exact hS (k + 1) (Nat.le_refl _) hk x hx) (fun s hs => by rw [hMa, cpI_at hs]; exact hS (k + 1) (Nat.le_refl _) hk s hs)
    have hSk : gi M1 304 (k + 1) = nI (Sf f nc nt O (k + 1)) := by rw [r2 _ _ (by omega)]; exact (hRMa.2.1 (k + 1) (by omega)).1
    have hS256 : Sf f nc nt O (k + 1) < 256 := sf_lt hO256
    obtain ⟨M', p1, p2, p3⟩ := ih q (U ||| Sf f nc nt O (k + 1)) M1 (by omega) (by omega) (Nat.or_lt_two_pow (n := 8) hU2 hS256) (fun s hs => by
      rw [e5] at hs
      rcases bv_bound hw (m := 5 - (k + 1) + 1) (c := k + 1) (s := s) (by omega) with z | z
      · exact absurd z hs
      · obtain ⟨t, v', g1, g2, g3, g4⟩ := z.2.2
        have hrest : sb (s ^^^ t) U := hU _ (fun q => by
          have := (bv_mn (Hf f nc O) (wf f) (5 - (k + 1)) (k + 1 + 1) (s ^^^ t)).2.2 v' g3
          have b2 := cs_bound hw _ _ _ _ (by omega) g3
          omega)
        have ht : sb t (Sf f nc nt O (k + 1)) := by
          rcases g2 with g2 | g2
          · rw [g2]; exact sb_zero _
          · exact hf_sf n8 hO g2
        exact sb_both g1 ht hrest) (fun b i hb => by rw [r2 b i (by omega), fra b i (by omega)]; exact hM b i hb) (fun j hj1 hj2 s hs => by
      by_cases hjk : j = k
      · rw [hjk, e5]; exact r3 s hs
      · rw [r2 _ _ (by omega), fra _ _ (by omega)]; exact hS j (by omega) hj2 s hs)
    refine ⟨M', ?_, p2, p3⟩
    rw [← p1, Best_place_h27, if_pos hpos, gd_t (inb_nI (show k + 1 < 6 by omega) (by omega)), nI_s1, gd_t (inb_nI (show k < 6 by omega) (by omega)), ix_nI (show k + 1 < 2 ^ 31 by omega), ix_nI (show k < 2 ^ 31 by omega), sq_e, ← hMa, r1, bd_some, gd_t (inb_nI (show k + 1 < 6 by omega) (by omega)), hSk, nI_or, lq_e, lq_e, nI_addm1, nI_s1]
theorem ln_322 : ln 322 = 256 := by decide +kernel
theorem place_c {f : Nat → Int32} {nc nt O : Nat} {M : Mem} (h : RM M f nc nt O) (hR : RowOk f nc nt) (hO : O < 2 ^ nt) : ∃ M', j_Best_place M = bd (j_Best_choose M') (fun r9 M10 => (gd (isB r9) (some (r9, M10)))) ∧ (∀ b i, (b < 317 ∨ 322 < b) → gi M' b i = gi M b i) ∧ (∀ j, j ≤ 5 → ∀ s, s < 256 → gi M' (317 + j) s = nI (Bv (Hf f nc O) (wf f) (5 - j) (j + 1) s)) := by
  have hO256 : O < 256 := Nat.lt_of_lt_of_le hO (two8 hR.1.2.1)
  obtain ⟨Ma, f1, f2, f3⟩ := fill_c (x := 1000000) (M := M) ln_322 (by omega)
  obtain ⟨Mb, hMb⟩ : ∃ Mb, Mb = uI Ma 322 0 0 := ⟨_, rfl⟩
  have frb : ∀ b i, b ≠ 322 → gi Mb b i = gi M b i := fun b i hb => by rw [hMb, gi_uIa _ _ _ _ _ _ hb]; exact f2 b i hb
  obtain ⟨M', r1, r2, r3⟩ := place_in (M0 := Mb) (h.cong (fun a i h1 h2 => frb a i (by omega))) hR hO 5 FU 0 Mb (by unfold FU; omega) (by omega) (by omega) (fun s hs => by
    rw [bv_last] at hs
    by_cases h0 : s = 0
    · rw [h0]; exact sb_zero 0
    · rw [if_neg h0] at hs; exact absurd rfl hs) (fun _ _ _ => rfl) (fun j h1 h2 s hs => by
    have hj : j = 5 := by omega
    subst hj
    rw [Nat.sub_self, bv_last, hMb]
    by_cases h0 : s = 0
    · rw [h0, gi_uIs, if_pos rfl]; rfl
    · rw [gi_uIi _ _ _ _ _ _ h0, if_neg h0, f3 s hs]; rfl)
  refine ⟨M', ?_, fun b i hb => (r2 b i hb).trans (frb b i (by omega)), r3⟩
  have e5 : (5 : Int32) = nI 5 := rfl
  rw [← r1]
  unfold j_Best_place
  rw [lq_e, e5, gd_t (inb_nI (show 5 < 6 by omega) (by omega)), ix_nI (show 5 < 2 ^ 31 by omega), f1, bd_some, gd_t (inb_nI (show 5 < 6 by omega) (by omega)), sq_e, ← hMb, lq_e]
  exact congrArg (fun z => Best_place_h27 FU z (nI 5) Mb) (rfl : (0 : Int32) = nI 0)
