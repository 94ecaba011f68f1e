theorem ho_0 (f : Nat → Int32) (nc O : Nat) : Ho f nc O 0 = Hf f nc O := by
  funext c t
  apply propext
  unfold Ho
  constructor
  · intro h; exact h.1
  · intro h; exact ⟨h, by rw [Nat.zero_testBit]; decide⟩
theorem hf_out {f : Nat → Int32} {nc O : Nat} : ∀ c t, nc ≤ c → ¬ Hf f nc O c t := fun c t h q => by have := q.1; omega
theorem bv_six {f : Nat → Int32} {nc O c s : Nat} {w : Nat → Nat → Nat} (n6 : nc ≤ 6) (hc : c ≤ nc) : Bv (Hf f nc O) w (nc - c) c s = Bv (Hf f nc O) w (6 - c) c s := by
  have := bv_ext (H := Hf f nc O) (w := w) (n := nc) hf_out (m := nc - c) (c := c) (s := s) (6 - nc) (by omega)
  rw [show nc - c + (6 - nc) = 6 - c by omega] at this
  exact this.symm
theorem at_in {a nc nt O c m s : Nat} {M : Mem} {f : Nat → Int32} (ha : a < 333) (hfd : f = fun i => gi M a i) (hR : RowOk f nc nt) (hO : O < 2 ^ nt) (hc : c < nc) (hm : m ≤ 8) (hs : sb s O) (hr : s ≠ 0 → True) (hE1 : Ent M (256 * c + s) (Bv (Hf f nc O) (wf f) (m + 1) c s)) (hE : ∀ v, sb v s → Ent M (256 * (c + 1) + v) (Bv (Hf f nc O) (wf f) m (c + 1) v)) (hF : Bv (Hf f nc O) (wf f) (m + 1) c s < 1000000) (h0 : ¬ Gd (Hf f nc O) (wf f) m c s 0) (hroom : ¬ f (13 + 4 * c + 2) = 2) : ∀ u q y, u < q → sb u s → ((∃ t, u < t ∧ Gd (Hf f nc O) (wf f) m c s t) → (Gd (Hf f nc O) (wf f) m c s y ∧ u < y ∧ ∀ t, Gd (Hf f nc O) (wf f) m c s t → u < t → y ≤ t)) → Md_leastAt_h59 q a (nI c) (nI s) (nI (256 * c + s)) (nI y) (nI u) M = some (nI (cho (Hf f nc O) (wf f) m c s), M) := by
  have n7 := hR.1.1
  have n8 := hR.1.2.1
  have hO256 : O < 256 := Nat.lt_of_lt_of_le hO (two8 n8)
  have hs256 : s < 256 := Nat.lt_of_le_of_lt (sb_le hs) hO256
  have hw : ∀ c t, Hf f nc O c t → wf f c t ≤ 1585 ∧ wf f c t % 16 = 1 := fun c t q => by
    have := hf_w hR hO c t q
    exact ⟨this.1, this.2.1⟩
  have ef : ∀ i, gi M a i = f i := fun i => by rw [hfd]
  obtain ⟨T, hT⟩ : ∃ T, T = Bv (Hf f nc O) (wf f) (m + 1) c s := ⟨_, rfl⟩
  rw [← hT] at hE1 hF
  obtain ⟨T1, T2⟩ : gi M 333 (256 * c + s) = nI (T / 16) ∧ gi M 334 (256 * c + s) = nI (T % 16) := by
    rcases hE1 with ⟨q1, _⟩ | ⟨_, q2, q3⟩
    · omega
    · exact ⟨q2, q3⟩
  intro u
  induction u using Nat.strongRecOn with
  | ind u ih =>
    intro q y hq hu hinv
    obtain ⟨q, rfl⟩ : ∃ z, q = z + 1 := ⟨q - 1, by omega⟩
    by_cases hu0 : u = 0
    · subst hu0
      have c0 : ¬ (0 : Int32) < nI 0 := by decide
      obtain ⟨t, ht⟩ := gd_ex (by rw [← hT]; exact hF : Bv (Hf f nc O) (wf f) (m + 1) c s < 1000000)
      have htp : 0 < t := by
        rcases Nat.eq_zero_or_pos t with z | z
        · rw [z] at ht; exact absurd ht h0
        · exact z
      obtain ⟨g1, g2, g3⟩ := hinv ⟨t, htp, ht⟩
      have hch : cho (Hf f nc O) (wf f) m c s = y := cho_eq (by rw [← hT]; exact hF) ⟨g1, fun t' ht' => by
        rcases Nat.eq_zero_or_pos t' with z | z
        · rw [z] at ht'; exact absurd ht' h0
        · exact g3 t' ht' z⟩
      simp only [Md_leastAt_h59, c0, if_false, hch]
    · have hle := sb_le hu
      have hpos : (0 : Int32) < nI u := by rw [i32_lt, t0, nI_toInt (by omega)]; omega
      have hand : (u - 1) &&& s < u := Nat.lt_of_le_of_lt Nat.and_le_left (by omega)
      have hpred := pred_and s hu0
      have hxs := sb_le (sb_xor hu)
      have hi8 : inb (nI (256 * (c + 1) + (s ^^^ u))) 2048 = true := inb_nI (by omega) (by omega)
      have hx8 : ix (nI (256 * (c + 1) + (s ^^^ u))) = 256 * (c + 1) + (s ^^^ u) := ix_nI (by omega)
      have hi5 : inb (nI (256 * c + s)) 2048 = true := inb_nI (by omega) (by omega)
      have hx5 : ix (nI (256 * c + s)) = 256 * c + s := ix_nI (by omega)
      have hno : ¬ Gd (Hf f nc O) (wf f) m c s u → Md_leastAt_h59 q a (nI c) (nI s) (nI (256 * c + s)) (nI y) (nI ((u - 1) &&& s)) M = some (nI (cho (Hf f nc O) (wf f) m c s), M) := fun hn => ih _ hand q y (by omega) (sb_and _ _) (fun ⟨t, ht1, ht2⟩ => by
        have hbig : ∀ t, (u - 1) &&& s < t → Gd (Hf f nc O) (wf f) m c s t → u < t := fun t h1 h2 => by
          rcases Nat.lt_trichotomy t u with g | g | g
          · have := sb_next u s t hu h2.1.1 g; omega
          · rw [g] at h2; exact absurd h2 hn
          · exact g
        obtain ⟨g1, g2, g3⟩ := hinv ⟨t, hbig t ht1 ht2, ht2⟩
        exact ⟨g1, by omega, fun t' h1 h2 => g3 t' h1 (hbig t' h2 h1)⟩)
      have hyes : Gd (Hf f nc O) (wf f) m c s u → Md_leastAt_h59 q a (nI c) (nI s) (nI (256 * c + s)) (nI u) (nI ((u - 1) &&& s)) M = some (nI (cho (Hf f nc O) (wf f) m c s), M) := fun hy => ih _ hand q u (by omega) (sb_and _ _) (fun _ => ⟨hy, hand, fun t' h1 h2 => by
        apply Classical.byContradiction
        intro z
        have := sb_next u s t' hu h1.1.1 (by omega)
        omega⟩)
      rcases hE _ (sb_xor hu) with ⟨b1, b2⟩ | ⟨b1, b2, b3⟩
      · have hn := hno (fun z => by have := z.2; rw [b1, ← hT] at this; omega)
        rw [← hn]
        simp only [Md_leastAt_h59, Md_leastAt_b148, Md_leastAt_b149, Md_leastAt_b163, hpos, if_true, lq_eq, nI_1, nI_xor, i256, gd_t hi8, hx8, b2, hpred]
      · have hBn : ¬ nI (Bv (Hf f nc O) (wf f) m (c + 1) (s ^^^ u) / 16) = -1000000 := nI_neM (by omega)
        have hl := left_m (a := a) (M := M) (show c < 7 by omega) (show u < 256 by omega) hu0 (by rw [ef]; exact (hR.2.2.1 c hc).1) (fun t ht => by rw [ef]; exact (hR.2.2.2 t (bitO hO (sb_trans hu hs) ht)).1)
        rw [← hfd] at hl
        have hneg := leftV_neg (f := f) (nc := nc) (O := O) hc hu0 (sb_trans hu hs) hroom
        by_cases hHu : Hf f nc O c u
        · have hp : ¬ leftV f c u < 0 := fun z => hneg.mp z hHu
          have hlo := lossOf_m (a := a) (M := M) (show c < 7 by omega) (show u < 256 by omega) hu0 (by rw [ef]; exact (hR.2.2.1 c hc).1) (fun t ht => by rw [ef]; exact (hR.2.2.2 t (bitO hO (sb_trans hu hs) ht)).1) (by rw [← hfd]; exact hHu.2.2.2.2.1)
          rw [← hfd] at hlo
          obtain ⟨w1, w2, w3, w4⟩ := hf_w hR hO c u hHu
          rw [w3] at hlo
          obtain ⟨B, hB⟩ : ∃ B, B = Bv (Hf f nc O) (wf f) m (c + 1) (s ^^^ u) := ⟨_, rfl⟩
          have hBb : B ≤ 1585 * m ∧ B % 16 ≤ m := by
            rcases bv_bound hw (m := m) (c := c + 1) (s := s ^^^ u) (by omega) with z | z
            · omega
            · rw [hB]; exact ⟨z.1, z.2.1⟩
          rw [← hB] at b1 b2 b3 hBn
          have hwe : wf f c u = 16 * lf f c u + 1 := rfl
          have hcu : cst (wf f) c u = wf f c u := if_neg hu0
          have hgd : Gd (Hf f nc O) (wf f) m c s u ↔ (B / 16 + lf f c u = T / 16 ∧ B % 16 + 1 = T % 16) := by
            constructor
            · intro z
              have := z.2
              rw [hcu, ← hB, ← hT, hwe] at this
              omega
            · intro z
              refine ⟨⟨hu, Or.inr hHu⟩, ?_⟩
              rw [hcu, ← hB, ← hT, hwe]
              omega
          by_cases g1 : B / 16 + lf f c u = T / 16
          · by_cases g2 : B % 16 + 1 = T % 16
            · have hy := hyes (hgd.mpr ⟨g1, g2⟩)
              rw [← hy]
              simp only [Md_leastAt_h59, Md_leastAt_b148, Md_leastAt_b149, Md_leastAt_b163, hpos, if_true, lq_eq, nI_1, nI_xor, i256, gd_t hi8, hx8, b2, hBn, if_false, hl, bd_some, hp, hlo, nI_add, gd_t hi5, hx5, T1, g1, b3, T2, g2, z1, hpred]
            · have g2' : ¬ nI (B % 16 + 1) = nI (T % 16) := by rw [nI_eq (by omega) (by omega)]; exact g2
              have hn := hno (fun z => g2 (hgd.mp z).2)
              rw [← hn]
              simp only [Md_leastAt_h59, Md_leastAt_b148, Md_leastAt_b149, Md_leastAt_b163, hpos, if_true, lq_eq, nI_1, nI_xor, i256, gd_t hi8, hx8, b2, hBn, if_false, hl, bd_some, hp, hlo, nI_add, gd_t hi5, hx5, T1, g1, b3, T2, g2', hpred]
          · have g1' : ¬ nI (B / 16 + lf f c u) = nI (T / 16) := by rw [nI_eq (by omega) (by omega)]; exact g1
            have hn := hno (fun z => g1 (hgd.mp z).1)
            rw [← hn]
            simp only [Md_leastAt_h59, Md_leastAt_b148, Md_leastAt_b149, Md_leastAt_b163, hpos, if_true, lq_eq, nI_1, nI_xor, i256, gd_t hi8, hx8, b2, hBn, if_false, hl, bd_some, hp, hlo, nI_add, gd_t hi5, hx5, T1, g1', hpred]
        · have hp : leftV f c u < 0 := hneg.mpr hHu
          have hn := hno (fun z => by
            rcases z.1.2 with z | z
            · exact hu0 z
            · exact hHu z)
          rw [← hn]
          simp only [Md_leastAt_h59, Md_leastAt_b148, Md_leastAt_b149, Md_leastAt_b163, hpos, if_true, lq_eq, nI_1, nI_xor, i256, gd_t hi8, hx8, b2, hBn, if_false, hl, bd_some, hp, hpred]
theorem leastAt_m {a nc nt O c m s : Nat} {M : Mem} {f : Nat → Int32} (ha : a < 333) (hfd : f = fun i => gi M a i) (hR : RowOk f nc nt) (hO : O < 2 ^ nt) (hc : c < nc) (hm : m ≤ 8) (hs : sb s O) (hE1 : Ent M (256 * c + s) (Bv (Hf f nc O) (wf f) (m + 1) c s)) (hE : ∀ v, sb v s → Ent M (256 * (c + 1) + v) (Bv (Hf f nc O) (wf f) m (c + 1) v)) (hF : Bv (Hf f nc O) (wf f) (m + 1) c s < 1000000) : j_Md_leastAt a (nI c) (nI s) M = some (nI (cho (Hf f nc O) (wf f) m c s), M) := by
  have n7 := hR.1.1
  have n8 := hR.1.2.1
  have hO256 : O < 256 := Nat.lt_of_lt_of_le hO (two8 n8)
  have hs256 : s < 256 := Nat.lt_of_le_of_lt (sb_le hs) hO256
  have hi : inb (nI (256 * c + s)) 2048 = true := inb_nI (by omega) (by omega)
  have hx5 : ix (nI (256 * c + s)) = 256 * c + s := ix_nI (by omega)
  have e256 : nI (256 * c + s) + 256 = nI (256 * (c + 1) + s) := by
    rw [show (256 : Int32) = nI 256 from rfl, nI_add]
    congr 1; omega
  have hi2 : inb (nI (256 * (c + 1) + s)) 2048 = true := inb_nI (by omega) (by omega)
  have hx2 : ix (nI (256 * (c + 1) + s)) = 256 * (c + 1) + s := ix_nI (by omega)
  have hE0 := hE s (sb_refl s)
  have hc0 : cst (wf f) c 0 = 0 := if_pos rfl
  have hg0 : Gd (Hf f nc O) (wf f) m c s 0 ↔ Bv (Hf f nc O) (wf f) m (c + 1) s = Bv (Hf f nc O) (wf f) (m + 1) c s := by
    unfold Gd
    rw [hc0, Nat.xor_zero, Nat.zero_add]
    exact ⟨fun z => z.2, fun z => ⟨⟨sb_zero s, Or.inl rfl⟩, z⟩⟩
  obtain ⟨T1, T2⟩ : gi M 333 (256 * c + s) = nI (Bv (Hf f nc O) (wf f) (m + 1) c s / 16) ∧ gi M 334 (256 * c + s) = nI (Bv (Hf f nc O) (wf f) (m + 1) c s % 16) := by
    rcases hE1 with ⟨q1, _⟩ | ⟨_, q2, q3⟩
    · omega
    · exact ⟨q2, q3⟩
  by_cases hg : Gd (Hf f nc O) (wf f) m c s 0
  · have he := hg0.mp hg
    have hch : cho (Hf f nc O) (wf f) m c s = 0 := cho_eq hF ⟨hg, fun t' _ => Nat.zero_le t'⟩
    obtain ⟨S1, S2⟩ : gi M 333 (256 * (c + 1) + s) = nI (Bv (Hf f nc O) (wf f) (m + 1) c s / 16) ∧ gi M 334 (256 * (c + 1) + s) = nI (Bv (Hf f nc O) (wf f) (m + 1) c s % 16) := by
      rw [he] at hE0
      rcases hE0 with ⟨q1, _⟩ | ⟨_, q2, q3⟩
      · omega
      · exact ⟨q2, q3⟩
    unfold j_Md_leastAt
    rw [lq_e, i256, e256, gd_t hi2, gd_t hi, hx5, hx2, S1, T1, if_pos rfl, gd_t hi2, gd_t hi, S2, T2, if_pos rfl, hch]
    rfl
  · have hloop : Md_leastAt_b53 a (nI c) (nI s) (nI (256 * c + s)) M = some (nI (cho (Hf f nc O) (wf f) m c s), M) := by
      have hroom : ¬ f (13 + 4 * c + 2) = 2 := fun z => by
        obtain ⟨t, ht⟩ := gd_ex hF
        rcases ht.1.2 with g | g
        · rw [g] at ht; exact hg ht
        · exact g.2.2.2.1 z
      unfold Md_leastAt_b53
      exact at_in ha hfd hR hO hc hm hs (fun _ => trivial) hE1 hE hF hg hroom s FU s (by unfold FU; omega) (sb_refl s) (fun ⟨t, ht1, ht2⟩ => by have := sb_le ht2.1.1; omega)
    unfold j_Md_leastAt
    rw [lq_e, i256, e256, gd_t hi2, gd_t hi, hx5, hx2, T1]
    rcases hE0 with ⟨q1, q2⟩ | ⟨q1, q2, q3⟩
    · rw [q2, if_neg (fun z => nI_neM (by omega) z.symm), hloop]
    · rw [q2]
      by_cases g1 : Bv (Hf f nc O) (wf f) m (c + 1) s / 16 = Bv (Hf f nc O) (wf f) (m + 1) c s / 16
      · rw [g1, if_pos rfl, gd_t hi2, gd_t hi, q3, T2, if_neg, hloop]
        rw [nI_eq (by omega) (by omega)]
        intro g2
        exact hg (hg0.mpr (by omega))
      · rw [if_neg, hloop]
        rw [nI_eq (by omega) (by omega)]
        exact g1
theorem mbest_in {nc nt O a : Nat} {M0 : Mem} {f : Nat → Int32} (ha : a < 333) (hfd : f = fun i => gi M0 a i) (hR : RowOk f nc nt) (n6 : nc ≤ 6) (hO : O < 2 ^ nt) (hE : ∀ c, c ≤ nc → ∀ v, sb v O → Ent M0 (256 * c + v) (Bv (Hf f nc O) (wf f) (6 - c) c v)) (hF : Bv (Hf f nc O) (wf f) 6 0 O < 1000000) : ∀ m c q M, c + m = nc → m < q → (∀ b i, b ≠ 335 → gi M b i = gi M0 b i) → (∀ j, j < c → gi M 335 j = nI (bestP (Hf f nc O) (wf f) O j)) → ∃ M', Md_best_h18 q a (nI (rst (Hf f nc O) (wf f) O c)) (nI c) M = some (1, M') ∧ (∀ b i, b ≠ 335 → gi M' b i = gi M0 b i) ∧ (∀ j, j < nc → gi M' 335 j = nI (bestP (Hf f nc O) (wf f) O j)) := by
  have e4 : gi M0 a 4 = nI nc := by have := hR.1.2.2.1; rw [hfd] at this; exact this
  have hO256 : O < 256 := Nat.lt_of_lt_of_le hO (two8 hR.1.2.1)
  intro m
  induction m with
  | zero =>
    intro c q M hc hq hM h4
    obtain ⟨q, rfl⟩ : ∃ z, q = z + 1 := ⟨q - 1, by omega⟩
    have hge : ¬ nI c < nI nc := nI_nlt (by omega) (by omega)
    exact ⟨M, by simp only [Md_best_h18, hM a 4 (by omega), e4, hge, if_false], hM, fun j hj => h4 j (by omega)⟩
  | succ m ih =>
    intro c q M hc hq hM h4
    obtain ⟨q, rfl⟩ : ∃ z, q = z + 1 := ⟨q - 1, by omega⟩
    have hlt : nI c < nI nc := nI_lt (by omega) (by omega)
    obtain ⟨k1, k2⟩ := rst_ok hF c (by omega)
    have hr256 := Nat.lt_of_le_of_lt (sb_le k2) hO256
    have e6 : 6 - c = (5 - c) + 1 := by omega
    rw [e6] at k1
    have hl := leastAt_m (M := M) (m := 5 - c) ha (by rw [hfd]; exact funext (fun i => (hM a i (by omega)).symm)) hR hO (show c < nc by omega) (by omega) k2 (by
      have := hE c (by omega) _ k2
      rw [e6] at this
      exact ent_cong (hM 333 _ (by omega)) (hM 334 _ (by omega)) this) (fun v hv => by
      have := hE (c + 1) (by omega) v (sb_trans hv k2)
      rw [show 6 - (c + 1) = 5 - c by omega] at this
      exact ent_cong (hM 333 _ (by omega)) (hM 334 _ (by omega)) this) k1
    have hbp : bestP (Hf f nc O) (wf f) O c = cho (Hf f nc O) (wf f) (5 - c) c (rst (Hf f nc O) (wf f) O c) := if_pos (by omega)
    obtain ⟨M1, hM1⟩ : ∃ M1, M1 = uI M 335 c (nI (cho (Hf f nc O) (wf f) (5 - c) c (rst (Hf f nc O) (wf f) O c))) := ⟨_, rfl⟩
    obtain ⟨M', p1, p2, p3⟩ := ih (c + 1) q M1 (by omega) (by omega) (fun b i hb => by rw [hM1, gi_uIa _ _ _ _ _ _ hb]; exact hM b i hb) (fun j hj => by
      by_cases hjc : j = c
      · rw [hjc, hM1, gi_uIs, hbp]
      · rw [hM1, gi_uIi _ _ _ _ _ _ hjc]; exact h4 j (by omega))
    refine ⟨M', ?_, p2, p3⟩
    rw [← p1]
    have er : rst (Hf f nc O) (wf f) O (c + 1) = rst (Hf f nc O) (wf f) O c ^^^ cho (Hf f nc O) (wf f) (5 - c) c (rst (Hf f nc O) (wf f) O c) := rfl
    rw [er]
    have g1 : gi M1 335 c = nI (cho (Hf f nc O) (wf f) (5 - c) c (rst (Hf f nc O) (wf f) O c)) := by rw [hM1, gi_uIs]
    simp only [Md_best_h18, hM a 4 (by omega), e4, hlt, if_true, hl, bd_some, gd_t (inb_nI (show c < 7 by omega) (show 7 < 2 ^ 31 by omega)), ix_nI (show c < 2 ^ 31 by omega), sq_eq, lq_eq, ← hM1, g1, nI_xor, nI_1]
theorem best_m {nc nt O a : Nat} {M : Mem} {f : Nat → Int32} (ha : a < 333) (hfd : f = fun i => gi M a i) (hR : RowOk f nc nt) (n6 : nc ≤ 6) (hOe : O = openN M a nt) : ∃ M', (∀ b i, b ≠ 333 → b ≠ 334 → b ≠ 335 → gi M' b i = gi M b i) ∧ (Bv (Hf f nc O) (wf f) 6 0 O < 1000000 → j_Md_best a M = some (1, M') ∧ ∀ j, j < nc → gi M' 335 j = nI (bestP (Hf f nc O) (wf f) O j)) ∧ (Bv (Hf f nc O) (wf f) 6 0 O = 1000000 → j_Md_best a M = some (0, M')) := by
  have n8 := hR.1.2.1
  have hO : O < 2 ^ nt := by rw [hOe]; exact setN_lt _ nt
  have e5 : gi M a 5 = nI nt := by have := hR.1.2.2.2; rw [hfd] at this; exact this
  obtain ⟨M1, r1, r2, r3, r4⟩ := placed_m (out := 0) ha hR hfd hOe (by omega)
  rw [ho_0] at r1 r2 r4
  have hw : ∀ c t, Hf f nc O c t → wf f c t ≤ 1585 ∧ wf f c t % 16 = 1 := fun c t q => by
    have := hf_w hR hO c t q
    exact ⟨this.1, this.2.1⟩
  have hpf : Pf (Hf f nc O) nc 0 O ↔ Bv (Hf f nc O) (wf f) 6 0 O ≠ 1000000 := by
    have := bv_six (f := f) (nc := nc) (O := O) (c := 0) (s := O) (w := wf f) n6 (by omega)
    rw [pf_bv hw (by omega), ← this, Nat.sub_zero]
  have z0' : nI 0 = 0 := rfl
  by_cases hF : Bv (Hf f nc O) (wf f) 6 0 O < 1000000
  · have hfd1 : f = fun i => gi M1 a i := by rw [hfd]; exact funext (fun i => (r3 a i (by omega) (by omega)).symm)
    obtain ⟨M', p1, p2, p3⟩ := mbest_in (M0 := M1) ha hfd1 hR n6 hO (fun c hc v hv => by
      rw [← bv_six n6 hc]
      exact r4 c hc v hv) hF nc 0 FU M1 (by omega) (by unfold FU; omega) (fun _ _ _ => rfl) (fun j hj => absurd hj (by omega))
    refine ⟨M', fun b i h1 h2 h3 => (p2 b i h3).trans (r3 b i h1 h2), fun _ => ⟨?_, p3⟩, fun z => by omega⟩
    have o2 : j_Md_openOnes a M1 = some (nI O, M1) := by
      have := openOnes_m (a := a) (M := M1) n8 (by rw [r3 a 5 (by omega) (by omega)]; exact e5)
      rw [this, hOe]
      unfold openN
      rw [setN_cong nt (fun i _ => by rw [r3 a _ (by omega) (by omega)])]
    have c1 := r1 (hpf.mpr (by omega))
    rw [z0'] at c1
    have p1' : Md_best_h18 FU a (nI O) (nI 0) M1 = some (1, M') := p1
    unfold j_Md_best
    rw [c1, bd_some, if_neg (by decide), o2, bd_some, lq_e, ← p1']
    exact congrArg (fun z => Md_best_h18 FU a (nI O) z M1) (rfl : (0 : Int32) = nI 0)
  · have hI : Bv (Hf f nc O) (wf f) 6 0 O = 1000000 := by have := bv_le (Hf f nc O) (wf f) 6 0 O; omega
    refine ⟨M1, fun b i h1 h2 _ => r3 b i h1 h2, fun z => by omega, fun _ => ?_⟩
    have c1 := r2 (fun z => hpf.mp z hI)
    rw [z0'] at c1
    unfold j_Md_best
    rw [c1, bd_some, if_pos rfl]
