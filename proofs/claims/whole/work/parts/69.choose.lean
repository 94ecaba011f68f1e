def cst (w : Nat → Nat → Nat) (c t : Nat) : Nat := if t = 0 then 0 else w c t
def Cd (H : Nat → Nat → Prop) (c s t : Nat) : Prop := sb t s ∧ (t = 0 ∨ H c t)
def Gd (H : Nat → Nat → Prop) (w : Nat → Nat → Nat) (m c s t : Nat) : Prop := Cd H c s t ∧ cst w c t + Bv H w m (c + 1) (s ^^^ t) = Bv H w (m + 1) c s
def Ch (H : Nat → Nat → Prop) (w : Nat → Nat → Nat) (m c s t : Nat) : Prop := Gd H w m c s t ∧ ∀ t', Gd H w m c s t' → t ≤ t'
noncomputable def cho (H : Nat → Nat → Prop) (w : Nat → Nat → Nat) (m c s : Nat) : Nat := Classical.epsilon (fun t => Ch H w m c s t)
theorem bv_cand {H : Nat → Nat → Prop} {w : Nat → Nat → Nat} {m c s t : Nat} (h : Cd H c s t) : Bv H w (m + 1) c s ≤ cst w c t + Bv H w m (c + 1) (s ^^^ t) := by
  have h1 := bv_mn H w (m + 1) c s
  have h2 := bv_mn H w m (c + 1) (s ^^^ t)
  by_cases hb : Bv H w m (c + 1) (s ^^^ t) < 1000000
  · exact h1.2.2 _ ⟨t, _, h.1, h.2, h2.2.1 hb, rfl⟩
  · have := h1.1; omega
theorem gd_ex {H : Nat → Nat → Prop} {w : Nat → Nat → Nat} {m c s : Nat} (h : Bv H w (m + 1) c s < 1000000) : ∃ t, Gd H w m c s t := by
  obtain ⟨t, v', g1, g2, g3, g4⟩ := (bv_mn H w (m + 1) c s).2.1 h
  have h1 := (bv_mn H w m (c + 1) (s ^^^ t)).2.2 v' g3
  have h2 := bv_cand (w := w) (m := m) (show Cd H c s t from ⟨g1, g2⟩)
  refine ⟨t, ⟨g1, g2⟩, ?_⟩
  have e : cst w c t = if t = 0 then 0 else w c t := rfl
  rw [← e] at g4
  omega
theorem cho_ch {H : Nat → Nat → Prop} {w : Nat → Nat → Nat} {m c s : Nat} (h : Bv H w (m + 1) c s < 1000000) : Ch H w m c s (cho H w m c s) := by
  obtain ⟨t, ht⟩ := gd_ex h
  obtain ⟨x, h1, h2⟩ := mn_ex_in (fun t => Gd H w m c s t) t ht
  exact Classical.epsilon_spec (p := fun t => Ch H w m c s t) ⟨x, h1, h2⟩
theorem cho_eq {H : Nat → Nat → Prop} {w : Nat → Nat → Nat} {m c s t : Nat} (h : Bv H w (m + 1) c s < 1000000) (g : Ch H w m c s t) : cho H w m c s = t := Nat.le_antisymm ((cho_ch h).2 t g.1) (g.2 _ (cho_ch h).1)
theorem gd_fin {H : Nat → Nat → Prop} {w : Nat → Nat → Nat} {m c s t : Nat} (h : Bv H w (m + 1) c s < 1000000) (g : Gd H w m c s t) : Bv H w m (c + 1) (s ^^^ t) < 1000000 := by
  have := g.2; omega
/-- the state of the search for the cheapest set, upwards -/
def Up (H : Nat → Nat → Prop) (w : Nat → Nat → Nat) (m c s u x : Nat) (y : Int32) : Prop := x ≤ 1000000 ∧ (∀ t, t < u → Cd H c s t → x ≤ cst w c t + Bv H w m (c + 1) (s ^^^ t)) ∧ (x < 1000000 → ∃ t0, y = nI t0 ∧ t0 < u ∧ Cd H c s t0 ∧ cst w c t0 + Bv H w m (c + 1) (s ^^^ t0) = x ∧ ∀ t, t < t0 → Cd H c s t → x < cst w c t + Bv H w m (c + 1) (s ^^^ t)) ∧ (x = 1000000 → y = -1000000)
theorem up_end {H : Nat → Nat → Prop} {w : Nat → Nat → Nat} {m c s u x : Nat} {y : Int32} (hu : s < u) (h : Up H w m c s u x y) : (Bv H w (m + 1) c s < 1000000 → y = nI (cho H w m c s)) ∧ (Bv H w (m + 1) c s = 1000000 → y = -1000000) := by
  obtain ⟨h1, h2, h3, h4⟩ := h
  have hx : Bv H w (m + 1) c s = x := bv_eq ⟨h1, fun q => by
    obtain ⟨t0, _, _, g3, g4, _⟩ := h3 q
    exact ⟨t0, _, g3.1, g3.2, (bv_mn H w m (c + 1) (s ^^^ t0)).2.1 (by omega), g4.symm⟩, fun v hv => by
    obtain ⟨t, v', g1, g2, g3, g4⟩ := hv
    have k1 := h2 t (Nat.lt_of_le_of_lt (sb_le g1) hu) ⟨g1, g2⟩
    have k2 := (bv_mn H w m (c + 1) (s ^^^ t)).2.2 v' g3
    have e : cst w c t = if t = 0 then 0 else w c t := rfl
    rw [← e] at g4
    omega⟩
  refine ⟨fun q => ?_, fun q => h4 (by omega)⟩
  obtain ⟨t0, g1, g2, g3, g4, g5⟩ := h3 (by omega)
  rw [g1, cho_eq q ⟨⟨g3, by rw [hx]; exact g4⟩, fun t' ht' => by
    apply Classical.byContradiction
    intro z
    have := g5 t' (by omega) ht'.1
    have := ht'.2
    omega⟩]
theorem chp_in {f : Nat → Int32} {nc nt O c m s : Nat} {M : Mem} (h : RM M f nc nt O) (hR : RowOk f nc nt) (hO : O < 2 ^ nt) (hc : c < 6) (hs : s < 256) (hB : ∀ x, x < 256 → gi M (317 + c) x = nI (Bv (Hf f nc O) (wf f) m (c + 1) x)) : ∀ k u q x y, u + k = s + 1 → k < q → 1 ≤ u → Up (Hf f nc O) (wf f) m c s u x y → ∃ y', Best_cheapestSet_h28 q (nI c) (nI s) (nI x) y (nI u) M = some (y', M) ∧ (Bv (Hf f nc O) (wf f) (m + 1) c s < 1000000 → y' = nI (cho (Hf f nc O) (wf f) m c s)) ∧ (Bv (Hf f nc O) (wf f) (m + 1) c s = 1000000 → y' = -1000000) := by
  have n8 := hR.1.2.1
  intro k
  induction k with
  | zero =>
    intro u q x y hk hq hu hup
    obtain ⟨q, rfl⟩ : ∃ z, q = z + 1 := ⟨q - 1, by omega⟩
    have hlt : nI s < nI u := nI_lt (by omega) (by omega)
    exact ⟨y, by simp only [Best_cheapestSet_h28, hlt, if_true], up_end (by omega) hup⟩
  | succ k ih =>
    intro u q x y hk hq hu hup
    obtain ⟨q, rfl⟩ : ∃ z, q = z + 1 := ⟨q - 1, by omega⟩
    have hlt : ¬ nI s < nI u := nI_nlt (by omega) (by omega)
    obtain ⟨h1, h2, h3, h4⟩ := id hup
    have hskip : ¬ Cd (Hf f nc O) c s u → Up (Hf f nc O) (wf f) m c s (u + 1) x y := fun hn => ⟨h1, fun t ht hcd => by
      by_cases htu : t = u
      · exact absurd (htu ▸ hcd) hn
      · exact h2 t (by omega) hcd, fun q => by
      obtain ⟨t0, g1, g2, g3⟩ := h3 q
      exact ⟨t0, g1, by omega, g3⟩, h4⟩
    by_cases hsb : sb u s
    · have ha : (nI u &&& (nI s ^^^ (-1))) = 0 := (and_not0 (show u < 2 ^ 32 by omega)).mpr hsb
      by_cases hH : Hf f nc O c u
      · obtain ⟨w1, w2, w3, w4⟩ := hf_w hR hO c u hH
        have hxs := Nat.lt_of_le_of_lt (sb_le (sb_xor hsb)) hs
        have hbl := bv_le (Hf f nc O) (wf f) m (c + 1) (s ^^^ u)
        have hcu : cst (wf f) c u = wf f c u := if_neg (by omega)
        by_cases hl : wf f c u + Bv (Hf f nc O) (wf f) m (c + 1) (s ^^^ u) < x
        · have hl' : nI (wf f c u + Bv (Hf f nc O) (wf f) m (c + 1) (s ^^^ u)) < nI x := nI_lt hl (by omega)
          obtain ⟨y', r1, r2⟩ := ih (u + 1) q (wf f c u + Bv (Hf f nc O) (wf f) m (c + 1) (s ^^^ u)) (nI u) (by omega) (by omega) (by omega) ⟨by omega, fun t ht hcd => by
            by_cases htu : t = u
            · rw [htu, hcu]; exact Nat.le_refl _
            · have := h2 t (by omega) hcd; omega, fun _ => ⟨u, rfl, by omega, ⟨hsb, Or.inr hH⟩, by rw [hcu], fun t ht hcd => by
              have := h2 t ht hcd; omega⟩, fun z => by omega⟩
          refine ⟨y', ?_, r2⟩
          rw [← r1]
          simp only [Best_cheapestSet_h28, Best_cheapestSet_b89, hlt, if_false, ha, if_true, holds_yes h n8 hO hc (show u < 256 by omega) hH, bd_some, z1, price_c h hR hO hc (show u < 256 by omega) hH, gd_t (inb_nI hc (show 6 < 2 ^ 31 by omega)), nI_xor, gd_t (inb_nI hxs (show 256 < 2 ^ 31 by omega)), ix_nI (show c < 2 ^ 31 by omega), ix_nI (show s ^^^ u < 2 ^ 31 by omega), hB _ hxs, nI_add, lq_eq, hl', nI_1]
        · have hl' : ¬ nI (wf f c u + Bv (Hf f nc O) (wf f) m (c + 1) (s ^^^ u)) < nI x := nI_nlt (by omega) (by omega)
          obtain ⟨y', r1, r2⟩ := ih (u + 1) q x y (by omega) (by omega) (by omega) ⟨h1, fun t ht hcd => by
            by_cases htu : t = u
            · rw [htu, hcu]; omega
            · exact h2 t (by omega) hcd, fun q => by
            obtain ⟨t0, g1, g2, g3⟩ := h3 q
            exact ⟨t0, g1, by omega, g3⟩, h4⟩
          refine ⟨y', ?_, r2⟩
          rw [← r1]
          simp only [Best_cheapestSet_h28, Best_cheapestSet_b89, hlt, if_false, ha, if_true, holds_yes h n8 hO hc (show u < 256 by omega) hH, bd_some, z1, price_c h hR hO hc (show u < 256 by omega) hH, gd_t (inb_nI hc (show 6 < 2 ^ 31 by omega)), nI_xor, gd_t (inb_nI hxs (show 256 < 2 ^ 31 by omega)), ix_nI (show c < 2 ^ 31 by omega), ix_nI (show s ^^^ u < 2 ^ 31 by omega), hB _ hxs, nI_add, lq_eq, hl', nI_1]
      · obtain ⟨y', r1, r2⟩ := ih (u + 1) q x y (by omega) (by omega) (by omega) (hskip (fun z => by
          rcases z.2 with z | z
          · omega
          · exact hH z))
        refine ⟨y', ?_, r2⟩
        rw [← r1]
        simp only [Best_cheapestSet_h28, Best_cheapestSet_b89, hlt, if_false, ha, if_true, holds_no h n8 hO hc (show u < 256 by omega) hH, bd_some, lq_eq, nI_1]
    · have ha : ¬ (nI u &&& (nI s ^^^ (-1))) = 0 := fun z => hsb ((and_not0 (show u < 2 ^ 32 by omega)).mp z)
      obtain ⟨y', r1, r2⟩ := ih (u + 1) q x y (by omega) (by omega) (by omega) (hskip (fun z => hsb z.1))
      refine ⟨y', ?_, r2⟩
      rw [← r1]
      simp only [Best_cheapestSet_h28, Best_cheapestSet_b89, hlt, if_false, ha, lq_eq, nI_1]
theorem chp_c {f : Nat → Int32} {nc nt O c m s : Nat} {M : Mem} (h : RM M f nc nt O) (hR : RowOk f nc nt) (hO : O < 2 ^ nt) (hc : c < 6) (hs : s < 256) (hB : ∀ x, x < 256 → gi M (317 + c) x = nI (Bv (Hf f nc O) (wf f) m (c + 1) x)) : ∃ y', j_Best_cheapestSet (nI c) (nI s) M = some (y', M) ∧ (Bv (Hf f nc O) (wf f) (m + 1) c s < 1000000 → y' = nI (cho (Hf f nc O) (wf f) m c s)) ∧ (Bv (Hf f nc O) (wf f) (m + 1) c s = 1000000 → y' = -1000000) := by
  have hbl := bv_le (Hf f nc O) (wf f) m (c + 1) s
  have eM : (1000000 : Int32) = nI 1000000 := rfl
  obtain ⟨y, hy⟩ : ∃ y : Int32, y = if Bv (Hf f nc O) (wf f) m (c + 1) s < 1000000 then 0 else -1000000 := ⟨_, rfl⟩
  have hc0 : cst (wf f) c 0 = 0 := if_pos rfl
  obtain ⟨y', r1, r2⟩ := chp_in h hR hO hc hs hB s 1 FU (Bv (Hf f nc O) (wf f) m (c + 1) s) y (by omega) (by unfold FU; omega) (by omega) ⟨hbl, fun t ht hcd => by
    have : t = 0 := by omega
    rw [this, hc0, Nat.xor_zero]; omega, fun q => ⟨0, by rw [hy, if_pos q]; rfl, by omega, ⟨sb_zero s, Or.inl rfl⟩, by rw [hc0, Nat.xor_zero]; omega, fun t ht => by omega⟩, fun q => by rw [hy, if_neg (by omega)]⟩
  refine ⟨y', ?_, r2⟩
  rw [← r1]
  unfold j_Best_cheapestSet
  rw [gd_t (inb_nI hc (by omega)), gd_t (inb_nI hs (by omega)), ix_nI (show c < 2 ^ 31 by omega), ix_nI (show s < 2 ^ 31 by omega), hB s hs, lq_e]
  by_cases q : Bv (Hf f nc O) (wf f) m (c + 1) s < 1000000
  · rw [eM, if_pos (nI_lt q (by omega)), hy, if_pos q]
    unfold Best_cheapestSet_b23
    rw [lq_e]
    exact congrArg (fun z => Best_cheapestSet_h28 FU (nI c) (nI s) _ 0 z M) (rfl : (1 : Int32) = nI 1)
  · rw [eM, if_neg (nI_nlt (by omega) (by omega)), hy, if_neg q]
    unfold Best_cheapestSet_b23
    rw [lq_e]
    exact congrArg (fun z => Best_cheapestSet_h28 FU (nI c) (nI s) _ (-1000000) z M) (rfl : (1 : Int32) = nI 1)
/-- what is left to be placed from can c on, when each can takes the cheapest set -/
noncomputable def rst (H : Nat → Nat → Prop) (w : Nat → Nat → Nat) (O : Nat) : Nat → Nat
  | 0 => O
  | c + 1 => rst H w O c ^^^ cho H w (5 - c) c (rst H w O c)
noncomputable def bestP (H : Nat → Nat → Prop) (w : Nat → Nat → Nat) (O c : Nat) : Nat := if c < 6 then cho H w (5 - c) c (rst H w O c) else 0
theorem rst_ok {H : Nat → Nat → Prop} {w : Nat → Nat → Nat} {O : Nat} (h : Bv H w 6 0 O < 1000000) : ∀ c, c ≤ 6 → Bv H w (6 - c) c (rst H w O c) < 1000000 ∧ sb (rst H w O c) O
  | 0, _ => ⟨h, sb_refl O⟩
  | c + 1, hc => by
    obtain ⟨h1, h2⟩ := rst_ok h c (by omega)
    rw [show 6 - c = (5 - c) + 1 by omega] at h1
    have hg := (cho_ch h1).1
    refine ⟨?_, sb_trans (sb_xor hg.1.1) h2⟩
    rw [show 6 - (c + 1) = 5 - c by omega]
    exact gd_fin h1 hg
theorem bestP_plan {f : Nat → Int32} {nc O : Nat} {w : Nat → Nat → Nat} (h : Bv (Hf f nc O) w 6 0 O < 1000000) : Plan f nc O (bestP (Hf f nc O) w O) := fun c => by
  unfold bestP
  by_cases hc : c < 6
  · rw [if_pos hc]
    obtain ⟨h1, h2⟩ := rst_ok h c (by omega)
    rw [show 6 - c = (5 - c) + 1 by omega] at h1
    exact (cho_ch h1).1.1.2
  · rw [if_neg hc]; exact Or.inl rfl
theorem choose_in {f : Nat → Int32} {nc nt O : Nat} {M0 : Mem} (h : RM M0 f nc nt O) (hR : RowOk f nc nt) (hO : O < 2 ^ nt) (hB : ∀ j, j ≤ 5 → ∀ s, s < 256 → gi M0 (317 + j) s = nI (Bv (Hf f nc O) (wf f) (5 - j) (j + 1) s)) (hF : Bv (Hf f nc O) (wf f) 6 0 O < 1000000) : ∀ m c q M, c + m = 6 → m < q → (∀ b i, b ≠ 314 → gi M b i = gi M0 b i) → (∀ j, j < c → gi M 314 j = nI (bestP (Hf f nc O) (wf f) O j)) → ∃ M', Best_choose_h7 q (nI (rst (Hf f nc O) (wf f) O c)) (nI c) M = some (1, M') ∧ (∀ b i, b ≠ 314 → gi M' b i = gi M0 b i) ∧ (∀ j, j < 6 → gi M' 314 j = nI (bestP (Hf f nc O) (wf f) O j)) := by
  have e6 : (6 : Int32) = nI 6 := rfl
  have hO256 : O < 256 := Nat.lt_of_lt_of_le hO (two8 hR.1.2.1)
  intro m
  induction m with
  | zero =>
    intro c q M hc hq hM h4
    obtain ⟨q, rfl⟩ : ∃ z, q = z + 1 := ⟨q - 1, by omega⟩
    have hge : ¬ nI c < nI 6 := nI_nlt (by omega) (by omega)
    exact ⟨M, by simp only [Best_choose_h7, e6, hge, if_false], hM, fun j hj => h4 j (by omega)⟩
  | succ m ih =>
    intro c q M hc hq hM h4
    obtain ⟨q, rfl⟩ : ∃ z, q = z + 1 := ⟨q - 1, by omega⟩
    have hlt : nI c < nI 6 := nI_lt (by omega) (by omega)
    obtain ⟨k1, k2⟩ := rst_ok hF c (by omega)
    have hr256 := Nat.lt_of_le_of_lt (sb_le k2) hO256
    rw [show 6 - c = (5 - c) + 1 by omega] at k1
    obtain ⟨y', r1, r2, _⟩ := chp_c (m := 5 - c) (h.cong (fun a i h1 h2 => hM a i (by omega))) hR hO (show c < 6 by omega) hr256 (fun x hx => by rw [hM _ _ (by omega)]; exact hB c (by omega) x hx)
    have hy := r2 k1
    rw [hy] at r1
    have hch := (cho_ch k1).1
    have hch256 := Nat.lt_of_le_of_lt (sb_le hch.1.1) hr256
    have hbp : bestP (Hf f nc O) (wf f) O c = cho (Hf f nc O) (wf f) (5 - c) c (rst (Hf f nc O) (wf f) O c) := if_pos (by omega)
    have hne := nI_neM (show cho (Hf f nc O) (wf f) (5 - c) c (rst (Hf f nc O) (wf f) O c) < 2 ^ 31 by omega)
    obtain ⟨M1, hM1⟩ : ∃ M1, M1 = uI M 314 c (nI (cho (Hf f nc O) (wf f) (5 - c) c (rst (Hf f nc O) (wf f) O c))) := ⟨_, rfl⟩
    obtain ⟨M', p1, p2, p3⟩ := ih (c + 1) q M1 (by omega) (by omega) (fun b i hb => by rw [hM1, gi_uIa _ _ _ _ _ _ hb]; exact hM b i hb) (fun j hj => by
      by_cases hjc : j = c
      · rw [hjc, hM1, gi_uIs, hbp]
      · rw [hM1, gi_uIi _ _ _ _ _ _ hjc]; exact h4 j (by omega))
    refine ⟨M', ?_, p2, p3⟩
    rw [← p1]
    have er : rst (Hf f nc O) (wf f) O (c + 1) = rst (Hf f nc O) (wf f) O c ^^^ cho (Hf f nc O) (wf f) (5 - c) c (rst (Hf f nc O) (wf f) O c) := rfl
    rw [er, ← dif_eq hch.1.1]
    simp only [Best_choose_h7, e6, hlt, if_true, r1, bd_some, hne, if_false, gd_t (inb_nI (show c < 6 by omega) (show 6 < 2 ^ 31 by omega)), ix_nI (show c < 2 ^ 31 by omega), sq_eq, lq_eq, dif_nI (show rst (Hf f nc O) (wf f) O c < 2 ^ 32 by omega), nI_1, ← hM1]
/-- Best.place: what it says and leaves -/
theorem best_c {f : Nat → Int32} {nc nt O : Nat} {M : Mem} (h : RM M f nc nt O) (hR : RowOk f nc nt) (hO : O < 2 ^ nt) : ∃ M', (∀ b i, (b < 314 ∨ 322 < b ∨ b = 315 ∨ b = 316) → gi M' b i = gi M b i) ∧ (Bv (Hf f nc O) (wf f) 6 0 O < 1000000 → j_Best_place M = some (1, M') ∧ ∀ j, j < 6 → gi M' 314 j = nI (bestP (Hf f nc O) (wf f) O j)) ∧ (Bv (Hf f nc O) (wf f) 6 0 O = 1000000 → j_Best_place M = some (0, M')) := by
  have hO256 : O < 256 := Nat.lt_of_lt_of_le hO (two8 hR.1.2.1)
  obtain ⟨M1, r1, r2, r3⟩ := place_c h hR hO
  have hRM1 : RM M1 f nc nt O := h.cong (fun a i h1 h2 => r2 a i (by omega))
  have hst : j_Best_choose M1 = Best_choose_h7 FU (nI O) (nI 0) M1 := by
    unfold j_Best_choose
    rw [lq_e, hRM1.1.2, lq_e]
    exact congrArg (fun z => Best_choose_h7 FU (nI O) z M1) (rfl : (0 : Int32) = nI 0)
  by_cases hF : Bv (Hf f nc O) (wf f) 6 0 O < 1000000
  · obtain ⟨M', p1, p2, p3⟩ := choose_in hRM1 hR hO r3 hF 6 0 FU M1 (by omega) (by unfold FU; omega) (fun _ _ _ => rfl) (fun j hj => absurd hj (by omega))
    refine ⟨M', fun b i hb => (p2 b i (by omega)).trans (r2 b i (by omega)), fun _ => ⟨?_, p3⟩, fun z => by omega⟩
    have p1' : Best_choose_h7 FU (nI O) (nI 0) M1 = some (1, M') := p1
    rw [r1, hst, p1', bd_some]
    rfl
  · have hI : Bv (Hf f nc O) (wf f) 6 0 O = 1000000 := by have := bv_le (Hf f nc O) (wf f) 6 0 O; omega
    obtain ⟨y', q1, _, q3⟩ := chp_c (c := 0) (m := 5) hRM1 hR hO (by omega) hO256 (fun x hx => r3 0 (by omega) x hx)
    have hy := q3 hI
    rw [hy] at q1
    refine ⟨M1, fun b i hb => r2 b i (by omega), fun z => by omega, fun _ => ?_⟩
    have hFU : FU = (FU - 1) + 1 := by unfold FU; omega
    have hlt : nI 0 < (6 : Int32) := by decide
    rw [r1, hst, hFU, Best_choose_h7, if_pos hlt, q1, bd_some, if_pos rfl, bd_some]
    rfl
