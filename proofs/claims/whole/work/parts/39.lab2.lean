theorem nI_addm1 (k : Nat) : nI k + (-1) = nI k - 1 := by rw [Int32.sub_eq_add_neg]
theorem nI_s1 (k : Nat) : nI (k + 1) - 1 = nI k := nI_pred1 (by omega)
theorem nI_0m1 : (nI 0 - 1 : Int32) < 0 := by decide
theorem bat_in {K : Int32 → Int32 → Mem → Option (Int32 × Mem)} {n r : Nat} {f g : Int32} {M : Mem} {F G : Nat → Int32} (hn : n ≤ 8) (hF : ∀ b, b < n → gi M 336 b = F b ∧ gi M 337 b = G b) : ∀ k q, k ≤ n → k < q → Md_batched_h52 K q (nI n) (nI r) f g (nI (fst1 (fitP (gi M 327 2) F G f g) (n - k) k)) (nI k - 1) M = (if nI (lbN (gi M 327 2) n F G f g) = nI n then Md_batched_b127 K (nI n) (nI r) g (nI (lbN (gi M 327 2) n F G f g)) f (nI (lbN (gi M 327 2) n F G f g)) M else gd (inb (nI (lbN (gi M 327 2) n F G f g)) 8) (Md_batched_b127 K (nI n) (nI r) g (nI (lbN (gi M 327 2) n F G f g)) ((gi M 336 (ix (nI (lbN (gi M 327 2) n F G f g)))) + f) (nI (lbN (gi M 327 2) n F G f g)) M)) := by
  intro k
  induction k with
  | zero =>
    intro q _ hq
    obtain ⟨q, rfl⟩ : ∃ z, q = z + 1 := ⟨q - 1, by omega⟩
    simp only [Md_batched_h52, nI_0m1, if_true, Nat.sub_zero]
    rfl
  | succ k ih =>
    intro q hk hq
    obtain ⟨q, rfl⟩ : ∃ z, q = z + 1 := ⟨q - 1, by omega⟩
    have ihk := ih q (by omega) (by omega)
    have a1 := (hF k (by omega)).1
    have a2 := (hF k (by omega)).2
    have c1 : ¬ nI k < 0 := nI_pos (by omega)
    have e : n - k = (n - (k + 1)) + 1 := by omega
    rw [e] at ihk
    by_cases g1 : G k = g
    · by_cases g2 : gi M 327 2 < F k + f
      · have hp : fitP (gi M 327 2) F G f g k = false := by simp [fitP, g2]
        simp only [fst1, hp, Bool.false_eq_true, if_false] at ihk
        simp only [Md_batched_h52, Md_batched_b92, Md_batched_b94, nI_s1, c1, if_false, gd_t (inb_nI (show k < 8 by omega) (by omega)), ix_nI (show k < 2 ^ 31 by omega), a1, a2, g1, g2, if_true, lq_eq, nI_addm1]
        exact ihk
      · have hp : fitP (gi M 327 2) F G f g k = true := by simp [fitP, g1, g2]
        simp only [fst1, hp, if_true] at ihk
        simp only [Md_batched_h52, Md_batched_b92, Md_batched_b94, nI_s1, c1, if_false, gd_t (inb_nI (show k < 8 by omega) (by omega)), ix_nI (show k < 2 ^ 31 by omega), a1, a2, g1, g2, if_true, lq_eq, nI_addm1]
        exact ihk
    · have hp : fitP (gi M 327 2) F G f g k = false := by simp [fitP, g1]
      simp only [fst1, hp, Bool.false_eq_true, if_false] at ihk
      simp only [Md_batched_h52, Md_batched_b92, Md_batched_b94, nI_s1, c1, if_false, gd_t (inb_nI (show k < 8 by omega) (by omega)), ix_nI (show k < 2 ^ 31 by omega), a2, g1, lq_eq, nI_addm1]
      exact ihk
/-- the reference's laboratory -/
theorem lab_m {nr : Nat} {M0 : Mem} (hn : nr ≤ 8) (h0 : gi M0 327 6 = nI nr) : ∀ m r q M, r + m = nr → m < q → (∀ a i, a ≠ 336 → a ≠ 337 → gi M a i = gi M0 a i) → (∀ b, b < (lb (gi M0 327 2) (fun i => gi M0 327 (65 + 3 * i + 1)) (fun i => gi M0 327 (65 + 3 * i + 2)) r).1 → gi M 336 b = (lb (gi M0 327 2) (fun i => gi M0 327 (65 + 3 * i + 1)) (fun i => gi M0 327 (65 + 3 * i + 2)) r).2.1 b ∧ gi M 337 b = (lb (gi M0 327 2) (fun i => gi M0 327 (65 + 3 * i + 1)) (fun i => gi M0 327 (65 + 3 * i + 2)) r).2.2 b) → ∃ M', Md_batched_h4 q (nI (lb (gi M0 327 2) (fun i => gi M0 327 (65 + 3 * i + 1)) (fun i => gi M0 327 (65 + 3 * i + 2)) r).1) (nI r) M = some (nI (lb (gi M0 327 2) (fun i => gi M0 327 (65 + 3 * i + 1)) (fun i => gi M0 327 (65 + 3 * i + 2)) nr).1, M') ∧ ∀ a i, a ≠ 336 → a ≠ 337 → gi M' a i = gi M0 a i := by
  intro m
  induction m with
  | zero =>
    intro r q M hr hq hk hb
    obtain ⟨q, rfl⟩ : ∃ z, q = z + 1 := ⟨q - 1, by omega⟩
    have hge : ¬ nI r < nI nr := nI_nlt (by omega) (by omega)
    have e2 : gi M 327 6 = nI nr := by rw [hk 327 6 (by omega) (by omega)]; exact h0
    refine ⟨M, ?_, hk⟩
    simp only [Md_batched_h4, e2, hge, if_false]
    rw [show r = nr by omega]
  | succ m ih =>
    intro r q M hr hq hk hb
    obtain ⟨q, rfl⟩ : ∃ z, q = z + 1 := ⟨q - 1, by omega⟩
    have hlt : nI r < nI nr := nI_lt (by omega) (by omega)
    have e2 : gi M 327 6 = nI nr := by rw [hk 327 6 (by omega) (by omega)]; exact h0
    have e3 : gi M 327 2 = gi M0 327 2 := hk _ _ (by omega) (by omega)
    have e4 : gi M 327 (65 + 3 * r + 1) = gi M0 327 (65 + 3 * r + 1) := hk _ _ (by omega) (by omega)
    have e5 : gi M 327 (65 + 3 * r + 2) = gi M0 327 (65 + 3 * r + 2) := hk _ _ (by omega) (by omega)
    have hle := lb_le (gi M0 327 2) (fun i => gi M0 327 (65 + 3 * i + 1)) (fun i => gi M0 327 (65 + 3 * i + 2)) r
    have IH := ih (r + 1) q
    simp only [lb] at IH
    revert IH hb hle
    generalize lb (gi M0 327 2) (fun i => gi M0 327 (65 + 3 * i + 1)) (fun i => gi M0 327 (65 + 3 * i + 2)) r = S
    obtain ⟨n, F, G⟩ := S
    intro hb hle IH
    simp only at hb hle IH ⊢
    have hfw := bat_in (K := fun x1 x2 M => Md_batched_h4 q x1 x2 M) (n := n) (r := r) (f := gi M0 327 (65 + 3 * r + 1)) (g := gi M0 327 (65 + 3 * r + 2)) (M := M) (F := F) (G := G) (by omega) hb n FU (by omega) (by unfold FU; omega)
    rw [e3, Nat.sub_self] at hfw
    simp only [fst1] at hfw
    have hbl := fst1_le (fitP (gi M0 327 2) F G (gi M0 327 (65 + 3 * r + 1)) (gi M0 327 (65 + 3 * r + 2))) n 0
    change 0 ≤ lbN (gi M0 327 2) n F G (gi M0 327 (65 + 3 * r + 1)) (gi M0 327 (65 + 3 * r + 2)) ∧ lbN (gi M0 327 2) n F G (gi M0 327 (65 + 3 * r + 1)) (gi M0 327 (65 + 3 * r + 2)) ≤ 0 + n at hbl
    revert hbl hfw IH
    generalize lbN (gi M0 327 2) n F G (gi M0 327 (65 + 3 * r + 1)) (gi M0 327 (65 + 3 * r + 2)) = b
    intro IH hfw hbl
    have hb8 := inb_nI (show b < 8 by omega) (show 8 < 2 ^ 31 by omega)
    have hbx := ix_nI (show b < 2 ^ 31 by omega)
    have start : Md_batched_h4 (q + 1) (nI n) (nI r) M = Md_batched_h52 (fun x1 x2 M => Md_batched_h4 q x1 x2 M) FU (nI n) (nI r) (gi M0 327 (65 + 3 * r + 1)) (gi M0 327 (65 + 3 * r + 2)) (nI n) (nI n - 1) M := by
      simp only [Md_batched_h4, e2, hlt, if_true, i65, nI_1, nI_p2, gd_t (inb_nI (show 65 + 3 * r + 1 < 89 by omega) (by omega)), ix_nI (show 65 + 3 * r + 1 < 2 ^ 31 by omega), gd_t (inb_nI (show 65 + 3 * r + 2 < 89 by omega) (by omega)), ix_nI (show 65 + 3 * r + 2 < 2 ^ 31 by omega), lq_eq, e4, e5]
    rw [start, hfw]
    by_cases hbn : b = n
    · subst hbn
      simp only [if_true] at IH
      have go := IH (uI (uI M 336 b (gi M0 327 (65 + 3 * r + 1))) 337 b (gi M0 327 (65 + 3 * r + 2))) (by omega) (by omega) (fun a i h1 h2 => by rw [gi_uIa _ _ _ _ _ _ h2, gi_uIa _ _ _ _ _ _ h1]; exact hk a i h1 h2) (fun j hj => by
        by_cases hjb : j = b
        · subst hjb
          rw [gi_uIs, gi_uIa _ _ _ _ _ _ (by omega), gi_uIs]
          simp [fu]
        · rw [gi_uIi _ _ _ _ _ _ hjb, gi_uIi _ _ _ _ _ _ hjb, gi_uIi _ _ _ _ _ _ hjb, gi_uIi _ _ _ _ _ _ hjb]
          simp only [fu, hjb, if_false]
          exact hb j (by omega))
      obtain ⟨M', g1, g2⟩ := go
      refine ⟨M', ?_, g2⟩
      rw [← g1]
      simp only [if_true, Md_batched_b127, Md_batched_b149, gd_t hb8, hbx, sq_eq, lq_eq, nI_1]
    · simp only [hbn, if_false] at IH
      have hFb := hb b (by omega)
      have go := IH (uI (uI M 336 b (F b + gi M0 327 (65 + 3 * r + 1))) 337 b (gi M0 327 (65 + 3 * r + 2))) (by omega) (by omega) (fun a i h1 h2 => by rw [gi_uIa _ _ _ _ _ _ h2, gi_uIa _ _ _ _ _ _ h1]; exact hk a i h1 h2) (fun j hj => by
        by_cases hjb : j = b
        · subst hjb
          rw [gi_uIs, gi_uIa _ _ _ _ _ _ (by omega), gi_uIs]
          simp [fu]
        · rw [gi_uIi _ _ _ _ _ _ hjb, gi_uIi _ _ _ _ _ _ hjb, gi_uIi _ _ _ _ _ _ hjb, gi_uIi _ _ _ _ _ _ hjb]
          simp only [fu, hjb, if_false]
          exact hb j (by omega))
      obtain ⟨M', g1, g2⟩ := go
      refine ⟨M', ?_, g2⟩
      rw [← g1]
      have hne : ¬ nI b = nI n := by rw [nI_eq (by omega) (by omega)]; exact hbn
      simp only [hne, if_false, Md_batched_b127, Md_batched_b149, gd_t hb8, hbx, hFb.1, sq_eq, lq_eq, nI_1, nI_p0]
theorem batched_m {nr : Nat} {M : Mem} (hn : nr ≤ 8) (h0 : gi M 327 6 = nI nr) : ∃ M', j_Md_batched M = some (nI (lb (gi M 327 2) (fun i => gi M 327 (65 + 3 * i + 1)) (fun i => gi M 327 (65 + 3 * i + 2)) nr).1, M') ∧ ∀ a i, a ≠ 336 → a ≠ 337 → gi M' a i = gi M a i := by
  simp only [j_Md_batched, lq_eq]
  exact lab_m hn h0 nr 0 FU M (by omega) (by unfold FU; omega) (fun _ _ _ _ => rfl) (fun b hb => absurd hb (by simp [lb]))
/-- no rolls left -/
theorem dr_norolls {M : Mem} {f : Nat → Int32} {nc nt nr : Nat} (hD : DR M 3 f nc nt nr) : DR (uI M 3 2 0) 3 (fu f 6 0) nc nt 0 := by
  obtain ⟨⟨a1, a2, a3⟩, b, ⟨c1, c2, c3, c4, c5⟩, d, e, g, h⟩ := hD
  refine ⟨⟨?_, ?_, ?_⟩, ?_, ⟨?_, ?_, ?_, ?_, ?_⟩, fun i hi => ?_, fun c hc => ?_, fun t ht => ?_, fun r hr => absurd hr (by omega)⟩
  · rw [gi_uIi _ _ _ _ _ _ (by omega)]; exact a1
  · rw [gi_uIi _ _ _ _ _ _ (by omega)]; exact a2
  · rw [gi_uIs]; rfl
  · rw [gi_uIi _ _ _ _ _ _ (by omega), fu_ne (by omega)]; exact b
  · rw [gi_uIi _ _ _ _ _ _ (by omega), fu_ne (by omega)]; exact c1
  · rw [gi_uIi _ _ _ _ _ _ (by omega), fu_ne (by omega)]; exact c2
  · rw [gi_uIi _ _ _ _ _ _ (by omega), fu_ne (by omega)]; exact c3
  · rw [gi_uIi _ _ _ _ _ _ (by omega), fu_ne (by omega)]; exact c4
  · rw [gi_uIi _ _ _ _ _ _ (by omega), fu_ne (by omega)]; exact c5
  · rw [gi_uIa _ _ _ _ _ _ (by omega), fu_ne (by omega)]; exact d i hi
  · rw [gi_uIa _ _ _ _ _ _ (by omega), gi_uIa _ _ _ _ _ _ (by omega), gi_uIa _ _ _ _ _ _ (by omega), gi_uIa _ _ _ _ _ _ (by omega), fu_ne (by omega), fu_ne (by omega), fu_ne (by omega), fu_ne (by omega)]; exact e c hc
  · rw [gi_uIa _ _ _ _ _ _ (by omega), gi_uIa _ _ _ _ _ _ (by omega), gi_uIa _ _ _ _ _ _ (by omega), fu_ne (by omega), fu_ne (by omega), fu_ne (by omega)]; exact g t ht
theorem iv_norolls {f : Nat → Int32} {nc nt nr : Nat} (hI : Iv f nc nt nr) : Iv (fu f 6 0) nc nt 0 := by
  obtain ⟨⟨a1, a2, a3⟩, ⟨b1, b2, b3⟩, c, d, e, g, h, j⟩ := hI
  refine ⟨⟨a1, a2, by omega⟩, ⟨?_, ?_, ?_⟩, ?_, ?_, fun c hc => ?_, fun t ht => ?_, fun r hr => absurd hr (by omega), fun h => ⟨(j h).1, rfl⟩⟩
  · rw [fu_ne (by omega)]; exact b1
  · rw [fu_ne (by omega)]; exact b2
  · rw [fu_eq]; rfl
  · rw [fu_ne (by omega), fu_ne (by omega)]; exact c
  · rw [fu_ne (by omega)]; exact d
  · rw [fu_ne (by omega), fu_ne (by omega), fu_ne (by omega), fu_ne (by omega)]; exact e c hc
  · rw [fu_ne (by omega), fu_ne (by omega), fu_ne (by omega)]; exact g t ht
theorem s_lab : Sim j_Fc_lab j_Md_lab := by
  intro M h
  have hR := h
  obtain ⟨nc, nt, nr, d1, d2⟩ := h.1
  have hc2 : gi M 3 2 = nI nr := d1.1.2.2
  have hm2 : gi M 327 6 = nI nr := d2.2.1.2.2
  have n8 : nr ≤ 8 := d2.1.2.2
  by_cases h0 : nr = 0
  · subst h0
    have e0 : nI 0 = (0 : Int32) := rfl
    refine ⟨-1000002, M, M, ?_, ?_, hR⟩
    · simp only [j_Fc_lab, hc2, e0, if_true]
    · simp only [j_Md_lab, hm2, e0, if_true]
  · have hn0 : ¬ nI nr = 0 := by rw [nI_eq0 (by omega)]; exact h0
    obtain ⟨Mk, k1, k2⟩ := keep_day hR
    have hc2k : gi Mk 3 2 = nI nr := by rw [k2 3 2 (by omega)]; exact hc2
    obtain ⟨Mb, b1, b2⟩ := byLab_c (d := 3) (M := Mk) (by omega) n8 hc2k
    have hrow : ∀ i, i < nr → gi Mk (3 + 10) i = gi M 327 (65 + 3 * i + 1) ∧ gi Mk (3 + 11) i = gi M 327 (65 + 3 * i + 2) := fun i hi => by
      have := d1.2.2.2.2.2.2 i hi
      simp only [row_at] at this
      rw [k2 (3 + 10) i (by omega), k2 (3 + 11) i (by omega)]
      exact this.2
    have hlaw2 : gi Mk (3 + 1) 2 = gi M 327 2 := by
      have := d1.2.2.2.1 2 (by omega)
      rw [row_at] at this
      rw [k2 (3 + 1) 2 (by omega)]; exact this
    have hlaw3 : gi Mb (3 + 1) 3 = gi M 327 3 := by
      have := d1.2.2.2.1 3 (by omega)
      rw [row_at] at this
      rw [b2 _ _ (by omega) (by omega), k2 (3 + 1) 3 (by omega)]; exact this
    rw [hlaw2, lb_cong nr hrow] at b1
    obtain ⟨B, hB⟩ : ∃ B, B = (lb (gi M 327 2) (fun i => gi M 327 (65 + 3 * i + 1)) (fun i => gi M 327 (65 + 3 * i + 2)) nr).1 := ⟨_, rfl⟩
    rw [← hB] at b1
    have hw := waits_c (d := 3) (M := Mb) n8 (by rw [b2 _ _ (by omega) (by omega)]; exact hc2k)
    rw [sumN_cong nr (g := fun i => gi M 327 (65 + 3 * i + 1)) (fun i hi => by rw [b2 _ _ (by omega) (by omega)]; exact (hrow i hi).1)] at hw
    obtain ⟨S, hS⟩ : ∃ S, S = sumN (fun i => gi M 327 (65 + 3 * i + 1)) nr := ⟨_, rfl⟩
    rw [← hS] at hw
    have hp8 : gi Mb 3 8 = gi M 327 10 := by
      have := d1.2.2.1.2.2.2.2
      rw [row_at] at this
      rw [b2 _ _ (by omega) (by omega), k2 3 8 (by omega)]; exact this
    obtain ⟨M1, hM1⟩ : ∃ M1, M1 = uI (uI Mb 3 8 (gi M 327 10 + (gi M 327 3 * nI B + S))) 3 2 0 := ⟨_, rfl⟩
    have fr : ∀ a i, a ≠ 3 → a ≠ 295 → a ≠ 296 → gi M1 a i = gi Mk a i := fun a i h1 h2 h3 => by
      rw [hM1, gi_uIa _ _ _ _ _ _ h1, gi_uIa _ _ _ _ _ _ h1, b2 a i h2 h3]
    obtain ⟨Mn, m1, m2⟩ := notes_row (M1 := M1) hR (by rw [fr 326 3 (by omega) (by omega) (by omega)]; exact k2 326 3 (by omega))
    have r0' : ∀ i, gi M1 327 i = gi M 327 i := fun i => by rw [fr 327 i (by omega) (by omega) (by omega), k2 327 i (by omega)]
    have r0 : ∀ i, gi Mn 327 i = gi M 327 i := fun i => by rw [m2 327 i (by omega) (by omega), r0']
    obtain ⟨Nb, c1, c2⟩ := batched_m (M := Mn) n8 (by rw [r0]; exact hm2)
    simp only [r0] at c1
    rw [← hB] at c1
    have q0 : ∀ i, gi Nb 327 i = gi M 327 i := fun i => by rw [c2 _ _ (by omega) (by omega)]; exact r0 i
    have hw2 := waits_m (M := Nb) n8 (by rw [q0]; exact hm2)
    simp only [q0] at hw2
    rw [← hS] at hw2
    refine ⟨nI B, M1, uI (uI Nb 327 10 (gi M 327 10 + (nI B * gi M 327 3 + S))) 327 6 0, ?_, ?_, ?_⟩
    · simp only [j_Fc_lab, hc2, hn0, if_false, k1, bd_some, b1, j_Day_develop, hw, hp8, hlaw3, sq_eq]
      rw [hM1]
    · simp only [j_Md_lab, r0', hm2, hn0, if_false, m1, bd_some, c1, hw2, q0, sq_eq]
    · have hDk : DR Mb 3 (rowM M 327 0) nc nt nr := dr_keep d2.1 (fun b i g1 g2 => by rw [b2 b i (by omega) (by omega)]; exact k2 b i (by omega)) d1
      have hcomm : gi M 327 3 * nI B = nI B * gi M 327 3 := Int32.mul_comm _ _
      refine act_rel hR ⟨Mk, k1, fun a i ha => fr a i (by omega) (by omega) (by omega)⟩ (g := fu (fu (rowM M 327 0) 10 (gi M 327 10 + (gi M 327 3 * nI B + S))) 6 0) (nr := 0) (by rw [hM1]; exact dr_norolls (dr_paid d2.1 hDk)) ⟨Mn, m1, fun a i ha => by rw [gi_uIa _ _ _ _ _ _ (by omega), gi_uIa _ _ _ _ _ _ (by omega)]; exact c2 a i (by omega) (by omega)⟩ (fun i _ => ?_) (iv_norolls (iv_misc (by omega) d2))
      rw [hcomm]
      exact row_u (row_u (row_0 q0)) i
