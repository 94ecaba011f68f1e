theorem leastOf_c {s nr : Nat} {law : Int32} {f g : Nat → Int32} {M : Mem} {B : Nat → Prop} (hBdef : B = Bt law f g) (hB1 : ∀ k, k < 8 → B (2 ^ k)) (hn : nr ≤ 8) (hs : s < 2 ^ nr) (h0 : s ≠ 0) (hg : ∀ i, i < nr → g i = 0 ∨ g i = 1) (hS : ∀ w, w < 2 ^ nr → gi M 297 w = sumS f w 8) (hW : ∀ v, v < s → gi M 298 v = nI (Wf B v) ∧ Wf B v ≤ 8) : j_Lab_leastOf (nI s) (nI (setN (fun i => decide (g i = 1)) nr)) law M = some (nI (Wf B s), M) := by
  have h256 := two8 hn
  obtain ⟨l1, l2, l3⟩ := low_val s (by omega) h0
  revert l1 l2 l3
  generalize fst1 (fun i => s.testBit i) 8 0 = e
  intro l1 l2 l3
  obtain ⟨o1, _, _, _⟩ := or_low l2 (sb_zero (s ^^^ 2 ^ e))
  have hp2 : 2 ^ e ≠ 0 := Nat.ne_of_gt (Nat.two_pow_pos e)
  have hlt := xor_lt o1 hp2
  have hWr := hW _ hlt
  obtain ⟨b', k1, k2, k3, k4⟩ := low_in hBdef hn hs l2 hg hS hW (s ^^^ 2 ^ e) FU (Wf B (s ^^^ 2 ^ e) + 1) (by unfold FU; omega) (sb_refl _) (by omega)
  have hL : Least B s b' := by
    refine ⟨?_, fun n hn' => ?_⟩
    · rcases k4 with k4 | ⟨v, v1, v2, v3, v4⟩
      · rw [k4]
        exact ⟨2 ^ e, hB1 e l3, hp2, o1, (wf_least hB1 (by omega)).1⟩
      · obtain ⟨_, p2, p3, _⟩ := or_low l2 v1
        have hx := sb_le (sb_xor p2)
        rw [v4]
        exact ⟨v ||| 2 ^ e, v3, fun c => by rw [c] at p3; simp at p3, p2, (wf_least hB1 (by omega)).1⟩
    · obtain ⟨m, v, g1, g2, g3, g4, g5⟩ := pt_pull (e := e) n s hn' l2
      have hx := sb_le (sb_xor g4)
      have hw := (wf_least hB1 (show s ^^^ v < 256 by omega)).2 m g5
      have hev : sb (2 ^ e) v := sb_bit.mpr (fun i hi => by
        rw [Nat.testBit_two_pow] at hi
        have : e = i := by simpa using hi
        rw [← this]; exact g3)
      have hvo : (v ^^^ 2 ^ e) ||| 2 ^ e = v := by
        apply Nat.eq_of_testBit_eq
        intro i
        rw [Nat.testBit_or, xor_bit hev]
        cases c1 : (2 ^ e).testBit i
        · simp
        · simp [sb_bit.mp hev i c1]
      by_cases hw0 : v ^^^ 2 ^ e = 0
      · have hv2 : v = 2 ^ e := by rw [← hvo, hw0, Nat.zero_or]
        rw [hv2] at hw
        omega
      · have hsub : sb (v ^^^ 2 ^ e) (s ^^^ 2 ^ e) := sb_bit.mpr (fun i hi => by
          rw [xor_bit hev, Bool.and_eq_true] at hi
          rw [xor_bit o1, sb_bit.mp g4 i hi.1]
          exact hi.2)
        have h3 := k3 (v ^^^ 2 ^ e) hsub hw0 (sb_le hsub) (by rw [hvo]; exact g2)
        rw [hvo] at h3
        omega
  rw [wf_eq hB1 (by omega) hL]
  rw [← k1]
  have i1 : (1 : Int32) + nI (Wf B (s ^^^ 2 ^ e)) = nI (Wf B (s ^^^ 2 ^ e) + 1) := by rw [Int32.add_comm, nI_1]
  simp only [j_Lab_leastOf, l1, lq_eq, nI_xor, gd_t (inb_nI (show s ^^^ 2 ^ e < 256 by omega) (by omega)), ix_nI (show s ^^^ 2 ^ e < 2 ^ 31 by omega), hWr.1, i1]
theorem least_out {d nr : Nat} {f g : Nat → Int32} {M0 : Mem} {B : Nat → Prop} (hd : d + 11 < 295) (hBdef : B = Bt (gi M0 (d + 1) 2) f g) (hB1 : ∀ k, k < 8 → B (2 ^ k)) (hn : nr ≤ 8) (hg : ∀ i, i < nr → g i = 0 ∨ g i = 1) (hS : ∀ w, w < 2 ^ nr → gi M0 297 w = sumS f w 8) : ∀ m s q M, s + m = 2 ^ nr → 0 < s → m < q → (∀ a i, a ≠ 298 → gi M a i = gi M0 a i) → (∀ v, v < s → gi M 298 v = nI (Wf B v)) → ∃ M', Lab_leastBatches_h30 q d (nI (setN (fun i => decide (g i = 1)) nr)) (nI (2 ^ nr - 1)) (nI s) M = some (nI (Wf B (2 ^ nr - 1)), M') ∧ ∀ a i, a ≠ 298 → gi M' a i = gi M0 a i := by
  have h256 := two8 hn
  intro m
  induction m with
  | zero =>
    intro s q M hs hp hq hM hW
    obtain ⟨q, rfl⟩ : ∃ z, q = z + 1 := ⟨q - 1, by omega⟩
    have hlt : nI (2 ^ nr - 1) < nI s := nI_lt (by omega) (by omega)
    refine ⟨M, ?_, hM⟩
    simp only [Lab_leastBatches_h30, hlt, if_true, gd_t (inb_nI (show 2 ^ nr - 1 < 256 by omega) (by omega)), ix_nI (show 2 ^ nr - 1 < 2 ^ 31 by omega), hW (2 ^ nr - 1) (by omega)]
  | succ m ih =>
    intro s q M hs hp hq hM hW
    obtain ⟨q, rfl⟩ : ∃ z, q = z + 1 := ⟨q - 1, by omega⟩
    have hlt : ¬ nI (2 ^ nr - 1) < nI s := nI_nlt (by omega) (by omega)
    have hle8 : ∀ v, v < 256 → Wf B v ≤ 8 := fun v hv => least_le8 hB1 hv (wf_least hB1 hv)
    have hl := leastOf_c (s := s) (M := M) hBdef hB1 hn (by omega) (by omega) hg (fun w hw => by rw [hM 297 w (by omega)]; exact hS w hw) (fun v hv => ⟨hW v hv, hle8 v (by omega)⟩)
    have hlaw : gi M (d + 1) 2 = gi M0 (d + 1) 2 := hM _ _ (by omega)
    obtain ⟨M', r1, r2⟩ := ih (s + 1) q (uI M 298 s (nI (Wf B s))) (by omega) (by omega) (by omega) (fun a i h => by rw [gi_uIa _ _ _ _ _ _ h]; exact hM a i h) (fun v hv => by
      by_cases hvs : v = s
      · subst hvs; rw [gi_uIs]
      · rw [gi_uIi _ _ _ _ _ _ hvs]; exact hW v (by omega))
    refine ⟨M', ?_, r2⟩
    rw [← r1]
    simp only [Lab_leastBatches_h30, hlt, if_false, hlaw, hl, bd_some, gd_t (inb_nI (show s < 256 by omega) (by omega)), ix_nI (show s < 2 ^ 31 by omega), sq_eq, lq_eq, nI_1]
theorem leastBatches_c {d nr : Nat} {f g : Nat → Int32} {M : Mem} {B : Nat → Prop} (hd : d + 11 < 295) (hBdef : B = Bt (gi M (d + 1) 2) f g) (hn : nr ≤ 8) (hc : gi M d 2 = nI nr) (hf : ∀ i, i < nr → gi M (d + 10) i = f i ∧ gi M (d + 11) i = g i) (hg : ∀ i, i < nr → g i = 0 ∨ g i = 1) : ∃ M', j_Lab_leastBatches d M = some (nI (Wf B (2 ^ nr - 1)), M') ∧ ∀ a i, a ≠ 297 → a ≠ 298 → gi M' a i = gi M a i := by
  have hB1 : ∀ k, k < 8 → B (2 ^ k) := fun k _ => by rw [hBdef]; exact bt_one _ _ _ k
  have hp := Nat.two_pow_pos nr
  have h256 := two8 hn
  obtain ⟨M1, a1, a2, a3⟩ := sumUp_c (M := M) hd hn hc (fun i hi => (hf i hi).1)
  have c1 : gi M1 d 2 = nI nr := by rw [a2 _ _ (by omega)]; exact hc
  have hr := rev_c (M := M1) hn c1 nr 0 FU (by omega) (by unfold FU; omega)
  rw [setN_cong nr (q := fun i => decide (g i = 1)) (fun i hi => by rw [a2 _ _ (by omega), (hf i hi).2])] at hr
  have hr' : j_Lab_reversalRolls d M1 = some (nI (setN (fun i => decide (g i = 1)) nr), M1) := by
    simp only [j_Lab_reversalRolls, lq_eq]; exact hr
  obtain ⟨M', b1, b2⟩ := least_out (M0 := M1) hd (by rw [a2 _ _ (by omega)]; exact hBdef) hB1 hn hg a3 (2 ^ nr - 1) 1 FU (uI M1 298 0 0) (by omega) (by omega) (by unfold FU; omega) (fun a i h => gi_uIa _ _ _ _ _ _ h) (fun v hv => by
    have : v = 0 := by omega
    subst this
    rw [gi_uIs, wf_zero hB1]; rfl)
  refine ⟨M', ?_, fun a i h1 h2 => by rw [b2 a i h2, a2 a i h1]⟩
  simp only [j_Lab_leastBatches, a1, bd_some, hr', c1, shl_full nr hn, lq_eq, sq_eq]
  exact b1
theorem s_batches (x : Int32) : Sim (j_Fc_batches x) (j_Md_batches x) := by
  intro M h
  have hR := h
  obtain ⟨nc, nt, nr, d1, d2⟩ := h.1
  have hc2 : gi M 3 2 = nI nr := d1.1.2.2
  have hm2 : gi M 327 6 = nI nr := d2.2.1.2.2
  have n8 : nr ≤ 8 := d2.1.2.2
  have hrow : ∀ i, i < nr → gi M (3 + 10) i = gi M 327 (65 + 3 * i + 1) ∧ gi M (3 + 11) i = gi M 327 (65 + 3 * i + 2) := fun i hi => by
    have := d1.2.2.2.2.2.2 i hi
    simp only [row_at] at this
    exact this.2
  have hlaw2 : gi M (3 + 1) 2 = gi M 327 2 := by
    have := d1.2.2.2.1 2 (by omega)
    rw [row_at] at this
    exact this
  have hfam : ∀ i, i < nr → gi M 327 (65 + 3 * i + 2) = 0 ∨ gi M 327 (65 + 3 * i + 2) = 1 := fun i hi => by
    have := d2.2.2.2.2.2.2.1 i hi
    rw [row_at] at this
    exact this
  by_cases x0 : x = 0
  · subst x0
    obtain ⟨Mb, b1, b2⟩ := byLab_c (d := 3) (M := M) (by omega) n8 hc2
    rw [hlaw2, lb_cong nr hrow] at b1
    have r0 : ∀ i, gi Mb 327 i = gi M 327 i := fun i => b2 _ _ (by omega) (by omega)
    obtain ⟨Nb, c1, c2⟩ := batched_m (M := Mb) n8 (by rw [r0]; exact hm2)
    simp only [r0] at c1
    refine ⟨nI (lb (gi M 327 2) (fun i => gi M 327 (65 + 3 * i + 1)) (fun i => gi M 327 (65 + 3 * i + 2)) nr).1, Mb, Nb, ?_, ?_, ?_⟩
    · simp only [j_Fc_batches, if_true, b1, bd_some]
    · simp only [j_Md_batches, if_true, c1, bd_some]
    · refine hR.keep ⟨fun a i ha => ?_, fun a i ha => ?_, fun i _ => ?_⟩
      · rw [c2 a i (by omega) (by omega), b2 a i (by omega) (by omega)]
      · rw [c2 a i (by omega) (by omega), b2 a i (by omega) (by omega)]
      · rw [c2 326 i (by omega) (by omega), b2 326 i (by omega) (by omega)]
  · by_cases x1 : x = 1
    · subst x1
      obtain ⟨B, hB⟩ : ∃ B, B = Bt (gi M 327 2) (fun i => gi M 327 (65 + 3 * i + 1)) (fun i => gi M 327 (65 + 3 * i + 2)) := ⟨_, rfl⟩
      obtain ⟨Mb, b1, b2⟩ := leastBatches_c (d := 3) (M := M) (B := B) (f := fun i => gi M 327 (65 + 3 * i + 1)) (g := fun i => gi M 327 (65 + 3 * i + 2)) (by omega) (by rw [hlaw2]; exact hB) n8 hc2 hrow hfam
      have r0 : ∀ i, gi Mb 327 i = gi M 327 i := fun i => b2 _ _ (by omega) (by omega)
      obtain ⟨Nb, c1, c2⟩ := fewest_m (M := Mb) (B := B) (nr := nr) (by simp only [r0]; exact hB) n8 (by rw [r0]; exact hm2) (fun i hi => by rw [r0]; exact hfam i hi)
      refine ⟨nI (Wf B (2 ^ nr - 1)), Mb, Nb, ?_, ?_, ?_⟩
      · simp only [j_Fc_batches, i10, if_false, if_true, b1, bd_some]
      · simp only [j_Md_batches, i10, if_false, if_true, c1, bd_some]
      · refine hR.keep ⟨fun a i ha => ?_, fun a i ha => ?_, fun i _ => ?_⟩
        · rw [c2 a i (by omega), b2 a i (by omega) (by omega)]
        · rw [c2 a i (by omega), b2 a i (by omega) (by omega)]
        · rw [c2 326 i (by omega), b2 326 i (by omega) (by omega)]
    · refine ⟨-1000001, M, M, ?_, ?_, hR⟩
      · simp only [j_Fc_batches, x0, x1, if_false]
      · simp only [j_Md_batches, x0, x1, if_false]
