theorem dr_addroll {M : Mem} {f : Nat → Int32} {nc nt nr : Nat} {k v w : Int32} (hn : nc ≤ 6 ∧ nt ≤ 8 ∧ nr < 8) (hD : DR M 3 f nc nt nr) : DR (uI (uI (uI (uI M 12 nr k) 13 nr v) 14 nr w) 3 2 (nI (nr + 1))) 3 (fu (fu (fu (fu f (65 + 3 * nr) k) (65 + 3 * nr + 1) v) (65 + 3 * nr + 2) w) 6 (nI (nr + 1))) nc nt (nr + 1) := by
  obtain ⟨⟨a1, a2, a3⟩, a4, ⟨a5, a6, a7, a8, a9⟩, b1, b2, b3, b4⟩ := hD
  obtain ⟨n1, n2, n3⟩ := hn
  refine ⟨⟨?_, ?_, ?_⟩, ?_, ⟨?_, ?_, ?_, ?_, ?_⟩, fun i hi => ?_, fun c' hc' => ?_, fun t' ht' => ?_, fun r' hr' => ?_⟩
  · grind [gi_uI, fu]
  · grind [gi_uI, fu]
  · grind [gi_uI, fu]
  · grind [gi_uI, fu]
  · grind [gi_uI, fu]
  · grind [gi_uI, fu]
  · grind [gi_uI, fu]
  · grind [gi_uI, fu]
  · grind [gi_uI, fu]
  · have := b1 i hi; clear b1 b2 b3 b4; grind [gi_uI, fu]
  · have := b2 c' hc'; clear b1 b2 b3 b4; refine ⟨?_, ?_, ?_, ?_⟩ <;> grind [gi_uI, fu]
  · have := b3 t' ht'; clear b1 b2 b3 b4; refine ⟨?_, ?_, ?_⟩ <;> grind [gi_uI, fu]
  · by_cases h : r' = nr
    · subst h; clear b1 b2 b3 b4; refine ⟨?_, ?_, ?_⟩ <;> grind [gi_uI, fu]
    · have := b4 r' (by omega); clear b1 b2 b3 b4; refine ⟨?_, ?_, ?_⟩ <;> grind [gi_uI, fu]
theorem iv_addroll {f : Nat → Int32} {nc nt nr : Nat} {k v w : Int32} (hp : 0 < nc) (hn : nr < 8) (hw : w = 0 ∨ w = 1) (hI : Iv f nc nt nr) : Iv (fu (fu (fu (fu f (65 + 3 * nr) k) (65 + 3 * nr + 1) v) (65 + 3 * nr + 2) w) 6 (nI (nr + 1))) nc nt (nr + 1) := by
  obtain ⟨⟨n1, n2, n3⟩, ⟨a1, a2, a3⟩, a4, a5, b1, b2, b3, b4⟩ := hI
  refine ⟨⟨n1, n2, by omega⟩, ⟨?_, ?_, ?_⟩, ?_, ?_, fun c' hc' => ?_, fun t' ht' => ?_, fun r' hr' => ?_, by omega⟩
  · grind [fu]
  · grind [fu]
  · grind [fu]
  · clear b1 b2 b3 b4 a5; grind [fu]
  · rw [fu_ne (by omega), fu_ne (by omega), fu_ne (by omega), fu_ne (by omega)]; exact a5
  · have := b1 c' hc'
    rw [fu_ne (by omega), fu_ne (by omega), fu_ne (by omega), fu_ne (by omega), fu_ne (by omega), fu_ne (by omega), fu_ne (by omega), fu_ne (by omega), fu_ne (by omega), fu_ne (by omega), fu_ne (by omega), fu_ne (by omega), fu_ne (by omega), fu_ne (by omega), fu_ne (by omega), fu_ne (by omega)]; exact this
  · have := b2 t' ht'
    rw [fu_ne (by omega), fu_ne (by omega), fu_ne (by omega), fu_ne (by omega), fu_ne (by omega), fu_ne (by omega), fu_ne (by omega), fu_ne (by omega), fu_ne (by omega), fu_ne (by omega), fu_ne (by omega), fu_ne (by omega)]; exact this
  · by_cases h : r' = nr
    · subst h
      rw [fu_ne (by omega), fu_eq]; exact hw
    · rw [fu_ne (by omega), fu_ne (by omega), fu_ne (by omega), fu_ne (by omega)]; exact b3 r' (by omega)
theorem i65 (c : Nat) : (65 : Int32) + (3 : Int32) * nI c = nI (65 + 3 * c) := by
  have e1 : (65 : Int32) = nI 65 := rfl
  have e2 : (3 : Int32) = nI 3 := rfl
  rw [e1, e2, pk_mul, nI_add]
/-- behind the roll: the end is kept, or thrown away; of the class -/
theorem out_c {A : Mem} {f : Nat → Int32} {nc nt nr c : Nat} (hc : c < nc) (hD : DR A 3 f nc nt nr) (hI : Iv f nc nt nr) (h11 : f 11 = nI c) : ∃ A1, Day_takeOut_b67 3 (nI c) A = some ((), A1) ∧ (∀ a i, (a < 3 ∨ 14 < a) → gi A1 a i = gi A a i) ∧ gi A1 6 c = (if keptV (f (13 + 4 * c)) (f 1) (f (13 + 4 * c + 1)) = true then f (13 + 4 * c + 1) else 0) ∧ (keptV (f (13 + 4 * c)) (f 1) (f (13 + 4 * c + 1)) = true → DR A1 3 (fu (fu (fu (fu f (13 + 4 * c + 2) 0) (13 + 4 * c + 3) 1) 11 (-1)) 12 0) nc nt nr) ∧ (¬ keptV (f (13 + 4 * c)) (f 1) (f (13 + 4 * c + 1)) = true → DR A1 3 (fu (fu (fu (fu (fu f (13 + 4 * c + 2) 2) 9 (f 9 + f (13 + 4 * c + 1))) (13 + 4 * c + 1) 0) 11 (-1)) 12 0) nc nt nr) := by
  have hn := hI.1
  have hcan := hD.2.2.2.2.1 c hc
  have hIc := hI.2.2.2.2.1 c hc
  have hin := inb_nI (show c < 6 by omega) (show 6 < 2 ^ 31 by omega)
  have hix := ix_nI (show c < 2 ^ 31 by omega)
  simp only [Nat.reduceAdd] at hcan
  obtain ⟨r1, r2, r3, r4⟩ := hcan
  have rk : gi A 4 1 = f 1 := hD.2.2.2.1 1 (by omega)
  have rw9 : gi A 3 7 = f 9 := hD.2.2.1.2.2.2.1
  have p1 : gi (uI (uI A 3 4 0) 3 3 (-1000000)) 6 c = f (13 + 4 * c + 1) := by rw [gi_uIa _ _ _ _ _ _ (by omega), gi_uIa _ _ _ _ _ _ (by omega)]; exact r2
  have p2 : gi (uI (uI A 3 4 0) 3 3 (-1000000)) 5 c = f (13 + 4 * c) := by rw [gi_uIa _ _ _ _ _ _ (by omega), gi_uIa _ _ _ _ _ _ (by omega)]; exact r1
  have p3 : gi (uI (uI A 3 4 0) 3 3 (-1000000)) 4 1 = f 1 := by rw [gi_uIa _ _ _ _ _ _ (by omega), gi_uIa _ _ _ _ _ _ (by omega)]; exact rk
  have p4 : gi (uI (uI A 3 4 0) 3 3 (-1000000)) 3 7 = f 9 := by rw [gi_uIi _ _ _ _ _ _ (by omega), gi_uIi _ _ _ _ _ _ (by omega)]; exact rw9
  have hD2 : DR (uI (uI A 3 4 0) 3 3 (-1000000)) 3 (fu (fu f 12 0) 11 (-1)) nc nt nr := dr_in (Or.inl ⟨rfl, rfl⟩) hn (dr_croll hn hD)
  by_cases hkp : keptV (f (13 + 4 * c)) (f 1) (f (13 + 4 * c + 1)) = true
  · refine ⟨uI (uI (uI (uI A 3 4 0) 3 3 (-1000000)) 7 c 0) 8 c 1, ?_, ?_, ?_, fun _ => ?_, fun q => absurd hkp q⟩
    · simp only [Day_takeOut_b67, sq_eq, gd_t hin, hix, Nat.reduceAdd, j_Day_leastKeptOf, p1, p2, p3, kinds_least hIc.1, bd_some, kinds_isKept, hkp, if_true, z1, if_false]
    · intro a i ha
      rw [gi_uIa _ _ _ _ _ _ (by omega), gi_uIa _ _ _ _ _ _ (by omega), gi_uIa _ _ _ _ _ _ (by omega), gi_uIa _ _ _ _ _ _ (by omega)]
    · rw [if_pos hkp, gi_uIa _ _ _ _ _ _ (by omega), gi_uIa _ _ _ _ _ _ (by omega)]; exact p1
    · refine dr_row hn (fun i hi => ?_) (dr_short (v := 1) hc hn (dr_where (v := 0) hc hn hD2))
      clear hD2 hD hI p1 p2 p3 p4; unfold fu; grind
  · refine ⟨uI (uI (uI (uI (uI A 3 4 0) 3 3 (-1000000)) 3 7 (f 9 + f (13 + 4 * c + 1))) 6 c 0) 7 c 2, ?_, ?_, ?_, fun q => absurd q hkp, fun _ => ?_⟩
    · simp only [Day_takeOut_b67, sq_eq, gd_t hin, hix, Nat.reduceAdd, j_Day_leastKeptOf, p1, p2, p3, p4, kinds_least hIc.1, bd_some, kinds_isKept, hkp, Bool.false_eq_true, if_false, z0, if_true]
    · intro a i ha
      rw [gi_uIa _ _ _ _ _ _ (by omega), gi_uIa _ _ _ _ _ _ (by omega), gi_uIa _ _ _ _ _ _ (by omega), gi_uIa _ _ _ _ _ _ (by omega), gi_uIa _ _ _ _ _ _ (by omega)]
    · rw [if_neg hkp, gi_uIa _ _ _ _ _ _ (by omega), gi_uIs]
    · refine dr_row hn (fun i hi => ?_) (dr_where (v := 2) hc hn (dr_feet (v := 0) hc hn (dr_waste (v := f 9 + f (13 + 4 * c + 1)) hn hD2)))
      clear hD2 hD hI p1 p2 p3 p4; unfold fu; grind
/-- the same, of the reference -/
theorem out_m {A : Mem} {f : Nat → Int32} {c : Nat} (hc : c < 6) (hA : ∀ i, gi A 327 i = f i) : ∃ A1, Md_unload_b125 (nI c) A = some ((if keptV (f (13 + 4 * c)) (f 1) (f (13 + 4 * c + 1)) = true then f (13 + 4 * c + 1) else 0), A1) ∧ (∀ a i, a ≠ 327 → gi A1 a i = gi A a i) ∧ (keptV (f (13 + 4 * c)) (f 1) (f (13 + 4 * c + 1)) = true → ∀ i, gi A1 327 i = (fu (fu (fu (fu f (13 + 4 * c + 2) 0) (13 + 4 * c + 3) 1) 11 (-1)) 12 0) i) ∧ (¬ keptV (f (13 + 4 * c)) (f 1) (f (13 + 4 * c + 1)) = true → ∀ i, gi A1 327 i = (fu (fu (fu (fu (fu f (13 + 4 * c + 2) 2) 9 (f 9 + f (13 + 4 * c + 1))) (13 + 4 * c + 1) 0) 11 (-1)) 12 0) i) := by
  have c7 : c < 7 := by omega
  by_cases hkp : keptV (f (13 + 4 * c)) (f 1) (f (13 + 4 * c + 1)) = true
  · refine ⟨uI (uI (uI (uI A 327 (13 + 4 * c + 2) 0) 327 (13 + 4 * c + 3) 1) 327 11 (-1)) 327 12 0, ?_, ?_, fun _ => ?_, fun q => absurd hkp q⟩
    · simp only [Md_unload_b125, md_feet c7, md_isKept c7, bd_some, hA, hkp, if_true, z1, if_false, Md_unload_b165, i4, nI_p2, nI_p3, gd_t (inb_nI (show 13 + 4 * c + 2 < 89 by omega) (by omega)), ix_nI (show 13 + 4 * c + 2 < 2 ^ 31 by omega), gd_t (inb_nI (show 13 + 4 * c + 3 < 89 by omega) (by omega)), ix_nI (show 13 + 4 * c + 3 < 2 ^ 31 by omega), sq_eq, Md_unload_b212]
    · intro a i ha
      rw [gi_uIa _ _ _ _ _ _ (by omega), gi_uIa _ _ _ _ _ _ (by omega), gi_uIa _ _ _ _ _ _ (by omega), gi_uIa _ _ _ _ _ _ (by omega)]
    · exact row_u (row_u (row_u (row_u hA)))
  · have q1 : gi (uI A 327 (13 + 4 * c + 2) 2) 327 9 = f 9 := by rw [gi_uIi _ _ _ _ _ _ (by omega)]; exact hA 9
    refine ⟨uI (uI (uI (uI (uI A 327 (13 + 4 * c + 2) 2) 327 9 (f 9 + f (13 + 4 * c + 1))) 327 (13 + 4 * c + 1) 0) 327 11 (-1)) 327 12 0, ?_, ?_, fun q => absurd q hkp, fun _ => ?_⟩
    · simp only [Md_unload_b125, md_feet c7, md_isKept c7, bd_some, hA, hkp, Bool.false_eq_true, if_false, z0, if_true, Md_unload_b165, i4, nI_p2, nI_1, gd_t (inb_nI (show 13 + 4 * c + 2 < 89 by omega) (by omega)), ix_nI (show 13 + 4 * c + 2 < 2 ^ 31 by omega), gd_t (inb_nI (show 13 + 4 * c + 1 < 89 by omega) (by omega)), ix_nI (show 13 + 4 * c + 1 < 2 ^ 31 by omega), sq_eq, Md_unload_b212, q1]
    · intro a i ha
      rw [gi_uIa _ _ _ _ _ _ (by omega), gi_uIa _ _ _ _ _ _ (by omega), gi_uIa _ _ _ _ _ _ (by omega), gi_uIa _ _ _ _ _ _ (by omega), gi_uIa _ _ _ _ _ _ (by omega)]
    · exact row_u (row_u (row_u (row_u (row_u hA))))
theorem iv_out1 {f : Nat → Int32} {nc nt nr c : Nat} (hc : c < nc) (h11 : f 11 = nI c) (hI : Iv f nc nt nr) : Iv (fu (fu (fu (fu f (13 + 4 * c + 2) 0) (13 + 4 * c + 3) 1) 11 (-1)) 12 0) nc nt nr := by
  have h := iv_misc (k := 12) (v := 0) (by omega) (iv_short (v := 1) hc (iv_unload (v := 0) hc h11 (Or.inl rfl) hI))
  refine h.cong (fun i hi => ?_)
  clear h hI; unfold fu; grind
theorem iv_out2 {f : Nat → Int32} {nc nt nr c : Nat} {w : Int32} (hc : c < nc) (h11 : f 11 = nI c) (hI : Iv f nc nt nr) : Iv (fu (fu (fu (fu (fu f (13 + 4 * c + 2) 2) 9 w) (13 + 4 * c + 1) 0) 11 (-1)) 12 0) nc nt nr := by
  have h := iv_misc (k := 12) (v := 0) (by omega) (iv_feet (v := 0) hc (by decide) (iv_misc (k := 9) (v := w) (by omega) (iv_unload (v := 2) hc h11 (Or.inr rfl) hI)))
  refine h.cong (fun i hi => ?_)
  clear h hI; unfold fu; grind
theorem s_unload : Sim j_Fc_unload j_Md_unload := by
  intro M h
  have hR := h
  obtain ⟨nc, nt, nr, d1, d2⟩ := h.1
  have hc0 : gi M 3 0 = nI nc := d1.1.1
  have hc2 : gi M 3 2 = nI nr := d1.1.2.2
  have hm2 : gi M 327 6 = nI nr := d2.2.1.2.2
  have n6 : nc ≤ 6 := d2.1.1
  have n8 : nr ≤ 8 := d2.1.2.2
  have e8 : (8 : Int32) = nI 8 := rfl
  have hcam := nn_in (d1.2.1) (d2.2.2.2.1) (by omega)
  have hroll : gi M 3 4 = gi M 327 12 := by have := d1.2.2.1.1; rw [row_at] at this; exact this
  simp only [row_at] at hcam
  rcases hcam with ⟨cam1, cam2⟩ | ⟨c, hc, cam1, cam2⟩
  · refine ⟨-1000002, M, M, ?_, ?_, hR⟩
    · have : j_Day_hasCan 3 (-1000000) M = some (0, M) := hasCan_no hc0 (by omega) (by rw [tN]; omega)
      simp only [j_Fc_unload, lq_eq, cam1, this, bd_some, z0, if_true]
    · have : (-1 : Int32) < 0 := by decide
      simp only [j_Md_unload, lq_eq, cam2, this, if_true]
  · have mpos : ¬ nI c < 0 := nI_pos (by omega)
    have hI := d2.2.2.2.2.1 c hc
    simp only [row_at] at hI
    by_cases hfull : (0 : Int32) < gi M 327 12 ∧ nr = 8
    · obtain ⟨hf1, hf2⟩ := hfull
      subst hf2
      refine ⟨-1000003, M, M, ?_, ?_, hR⟩
      · have : ¬ nI 8 < nI 8 := by decide
        simp only [j_Fc_unload, lq_eq, cam1, hasCan_yes hc0 (by omega) hc, bd_some, z1, if_false, hroll, hf1, if_true, hc2, e8, this]
      · simp only [j_Md_unload, lq_eq, cam2, mpos, if_false, hf1, if_true, hm2, e8]
    · have hcgo : j_Fc_unload M = Fc_unload_b47 (nI c) M := by
        by_cases hf : (0 : Int32) < gi M 327 12
        · have hn8 : ¬ nr = 8 := fun q => hfull ⟨hf, q⟩
          have hlt : nI nr < nI 8 := nI_lt (by omega) (by omega)
          simp only [j_Fc_unload, lq_eq, cam1, hasCan_yes hc0 (by omega) hc, bd_some, z1, if_false, hroll, hf, if_true, hc2, e8, hlt]
        · simp only [j_Fc_unload, lq_eq, cam1, hasCan_yes hc0 (by omega) hc, bd_some, z1, if_false, hroll, hf]
      have hmgo : ∀ A : Mem, (∀ i, gi A 327 i = gi M 327 i) → j_Md_unload A = Md_unload_b40 (nI c) A := fun A hA => by
        by_cases hf : (0 : Int32) < gi M 327 12
        · have hn8 : ¬ nr = 8 := fun q => hfull ⟨hf, q⟩
          have hne : ¬ nI nr = nI 8 := by rw [nI_eq (by omega) (by omega)]; omega
          simp only [j_Md_unload, lq_eq, hA, cam2, mpos, if_false, hf, if_true, hm2, e8, hne]
        · simp only [j_Md_unload, lq_eq, hA, cam2, mpos, if_false, hf]
      obtain ⟨Mk, k1, k2⟩ := keep_day hR
      have kk : ∀ b i, 3 ≤ b → b ≤ 14 → gi Mk b i = gi M b i := fun b i h1 h2 => k2 b i (by omega)
      have hDk := dr_keep d2.1 kk d1
      have hin := inb_nI (show c < 6 by omega) (show 6 < 2 ^ 31 by omega)
      have hix := ix_nI (show c < 2 ^ 31 by omega)
      -- the roll: what the row is behind it
      obtain ⟨A, g, nr', hA1, hA2, hA3, hA4, hA5, hA6, hA7⟩ : ∃ (A : Mem) (g : Nat → Int32) (nr' : Nat), j_Day_takeOut 3 (nI c) Mk = Day_takeOut_b67 3 (nI c) A ∧ (∀ a i, (a < 3 ∨ 14 < a) → gi A a i = gi Mk a i) ∧ DR A 3 g nc nt nr' ∧ Iv g nc nt nr' ∧ g 11 = nI c ∧ True ∧ (∀ N : Mem, (∀ i, gi N 327 i = gi M 327 i) → ∃ N1, (∀ a i, a ≠ 327 → gi N1 a i = gi N a i) ∧ (∀ i, gi N1 327 i = g i) ∧ (if (0 : Int32) < (gi N 327 12) then lq ((65 : Int32) + ((3 : Int32) * (gi N 327 6))) (fun x25_ => gd (inb x25_ 89) (sq (uI N 327 (ix x25_) (nI c)) (fun M27 => gd (inb (x25_ + 1) 89) (sq (uI M27 327 (ix (x25_ + 1)) (gi M27 327 12)) (fun M30 => bd (j_Md_kind 327 (nI c) M30) (fun r31 M32 => (if r31 < 4 then (Md_unload_b113 (nI c) 0 (x25_ + 2) M32) else (Md_unload_b113 (nI c) 1 (x25_ + 2) M32)))))))) else (Md_unload_b125 (nI c) N)) = Md_unload_b125 (nI c) N1) := by
        by_cases hf : (0 : Int32) < gi M 327 12
        · have hn8 : ¬ nr = 8 := fun q => hfull ⟨hf, q⟩
          have hlt8 : nr < 8 := by omega
          have hlt : nI nr < nI 8 := nI_lt hlt8 (by omega)
          obtain ⟨FV, hFV⟩ : ∃ v, v = famV (gi M 327 (13 + 4 * c)) := ⟨_, rfl⟩
          have hF01 : FV = 0 ∨ FV = 1 := by
            rw [hFV]; unfold famV
            by_cases q : gi M 327 (13 + 4 * c) < 4
            · rw [if_pos q]; exact Or.inl rfl
            · rw [if_neg q]; exact Or.inr rfl
          refine ⟨uI (uI (uI (uI Mk 12 nr (nI c)) 13 nr (gi M 327 12)) 14 nr FV) 3 2 (nI (nr + 1)), fu (fu (fu (fu (rowM M 327 0) (65 + 3 * nr) (nI c)) (65 + 3 * nr + 1) (gi M 327 12)) (65 + 3 * nr + 2) FV) 6 (nI (nr + 1)), nr + 1, ?_, ?_, dr_addroll ⟨d2.1.1, d2.1.2.1, hlt8⟩ hDk, iv_addroll (by omega) hlt8 hF01 d2, ?_, trivial, fun N hN => ?_⟩
          · have p1 : gi Mk 3 4 = gi M 327 12 := by rw [kk 3 4 (by omega) (by omega)]; exact hroll
            have p2 : gi Mk 3 2 = nI nr := by rw [kk 3 2 (by omega) (by omega)]; exact hc2
            have p3 : gi (uI Mk 12 nr (nI c)) 3 2 = nI nr := by rw [gi_uIa _ _ _ _ _ _ (by omega)]; exact p2
            have p4 : gi (uI Mk 12 nr (nI c)) 3 4 = gi M 327 12 := by rw [gi_uIa _ _ _ _ _ _ (by omega)]; exact p1
            have p5 : gi (uI (uI Mk 12 nr (nI c)) 13 nr (gi M 327 12)) 5 c = gi M 327 (13 + 4 * c) := by rw [gi_uIa _ _ _ _ _ _ (by omega), gi_uIa _ _ _ _ _ _ (by omega), kk 5 c (by omega) (by omega)]; have := (d1.2.2.2.2.1 c hc).1; rw [row_at] at this; exact this
            have p6 : gi (uI (uI Mk 12 nr (nI c)) 13 nr (gi M 327 12)) 3 2 = nI nr := by rw [gi_uIa _ _ _ _ _ _ (by omega)]; exact p3
            have p7 : gi (uI (uI (uI Mk 12 nr (nI c)) 13 nr (gi M 327 12)) 14 nr FV) 3 2 = nI nr := by rw [gi_uIa _ _ _ _ _ _ (by omega)]; exact p6
            simp only [j_Day_takeOut, p1, hf, if_true, p2, e8, hlt, gd_t (inb_nI hlt8 (by omega)), ix_nI (show nr < 2 ^ 31 by omega), Nat.reduceAdd, sq_eq, p3, p4, gd_t hin, hix, p5, kinds_fam hI.1, ← hFV, bd_some, p6, p7, nI_1]
          · intro a i ha
            rw [gi_uIa _ _ _ _ _ _ (by omega), gi_uIa _ _ _ _ _ _ (by omega), gi_uIa _ _ _ _ _ _ (by omega), gi_uIa _ _ _ _ _ _ (by omega)]
          · rw [fu_ne (by omega), fu_ne (by omega), fu_ne (by omega), fu_ne (by omega), row_at]; exact cam2
          · refine ⟨uI (uI (uI (uI N 327 (65 + 3 * nr) (nI c)) 327 (65 + 3 * nr + 1) (gi M 327 12)) 327 (65 + 3 * nr + 2) FV) 327 6 (nI (nr + 1)), ?_, row_u (row_u (row_u (row_u (row_0 hN)))), ?_⟩
            · intro a i ha
              rw [gi_uIa _ _ _ _ _ _ (by omega), gi_uIa _ _ _ _ _ _ (by omega), gi_uIa _ _ _ _ _ _ (by omega), gi_uIa _ _ _ _ _ _ (by omega)]
            · have p1 : gi (uI N 327 (65 + 3 * nr) (nI c)) 327 12 = gi M 327 12 := by rw [gi_uIi _ _ _ _ _ _ (by omega)]; exact hN 12
              have p2 : gi (uI (uI N 327 (65 + 3 * nr) (nI c)) 327 (65 + 3 * nr + 1) (gi M 327 12)) 327 (13 + 4 * c) = gi M 327 (13 + 4 * c) := by rw [gi_uIi _ _ _ _ _ _ (by omega), gi_uIi _ _ _ _ _ _ (by omega)]; exact hN _
              have p3 : gi (uI (uI (uI N 327 (65 + 3 * nr) (nI c)) 327 (65 + 3 * nr + 1) (gi M 327 12)) 327 (65 + 3 * nr + 2) FV) 327 6 = nI nr := by rw [gi_uIi _ _ _ _ _ _ (by omega), gi_uIi _ _ _ _ _ _ (by omega), gi_uIi _ _ _ _ _ _ (by omega), hN]; exact hm2
              have hgo : ∀ v : Int32, v = FV → Md_unload_b113 (nI c) v (nI (65 + 3 * nr + 2)) (uI (uI N 327 (65 + 3 * nr) (nI c)) 327 (65 + 3 * nr + 1) (gi M 327 12)) = Md_unload_b125 (nI c) (uI (uI (uI (uI N 327 (65 + 3 * nr) (nI c)) 327 (65 + 3 * nr + 1) (gi M 327 12)) 327 (65 + 3 * nr + 2) FV) 327 6 (nI (nr + 1))) := fun v hv => by
                subst hv
                simp only [Md_unload_b113, gd_t (inb_nI (show 65 + 3 * nr + 2 < 89 by omega) (by omega)), ix_nI (show 65 + 3 * nr + 2 < 2 ^ 31 by omega), sq_eq, p3, nI_1]
              simp only [hN, hf, if_true, hm2, i65, lq_eq, nI_1, nI_p2, gd_t (inb_nI (show 65 + 3 * nr < 89 by omega) (by omega)), ix_nI (show 65 + 3 * nr < 2 ^ 31 by omega), gd_t (inb_nI (show 65 + 3 * nr + 1 < 89 by omega) (by omega)), ix_nI (show 65 + 3 * nr + 1 < 2 ^ 31 by omega), sq_eq, p1, md_kind (show c < 7 by omega), bd_some, p2]
              by_cases q : gi M 327 (13 + 4 * c) < 4
              · rw [if_pos q]; exact hgo 0 (by rw [hFV]; unfold famV; rw [if_pos q])
              · rw [if_neg q]; exact hgo 1 (by rw [hFV]; unfold famV; rw [if_neg q])
        · refine ⟨Mk, rowM M 327 0, nr, ?_, fun _ _ _ => rfl, hDk, d2, by rw [row_at]; exact cam2, trivial, fun N hN => ⟨N, fun _ _ _ => rfl, row_0 hN, ?_⟩⟩
          · have p1 : gi Mk 3 4 = gi M 327 12 := by rw [kk 3 4 (by omega) (by omega)]; exact hroll
            simp only [j_Day_takeOut, p1, hf, if_false]
          · simp only [hN, hf, if_false]
      obtain ⟨A1, o1, o2, o3, o4, o5⟩ := out_c hc hA3 hA4 hA5
      have fr1 : ∀ a i, (a < 3 ∨ 14 < a) → gi A1 a i = gi Mk a i := fun a i ha => by rw [o2 a i ha, hA2 a i ha]
      obtain ⟨Mn, m1, m2⟩ := notes_row (M1 := A1) hR (by rw [fr1 326 3 (by omega)]; exact k2 326 3 (by omega))
      have r0' : ∀ i, gi A1 327 i = gi M 327 i := fun i => by rw [fr1 327 i (by omega), k2 327 i (by omega)]
      have r0 : ∀ i, gi Mn 327 i = gi M 327 i := fun i => by rw [m2 327 i (by omega) (by omega), r0']
      obtain ⟨N1, v1, v2, v3⟩ := hA7 Mn r0
      obtain ⟨N2, w1, w2, w3, w4⟩ := out_m (c := c) (by omega) v2
      refine ⟨(if keptV (g (13 + 4 * c)) (g 1) (g (13 + 4 * c + 1)) = true then g (13 + 4 * c + 1) else 0), A1, N2, ?_, ?_, ?_⟩
      rotate_right
      · by_cases hkp : keptV (g (13 + 4 * c)) (g 1) (g (13 + 4 * c + 1)) = true
        · exact act_rel hR ⟨Mk, k1, fun a i ha => fr1 a i (by omega)⟩ (o4 hkp) ⟨Mn, m1, fun a i ha => by rw [w2 a i (by omega), v1 a i (by omega)]⟩ (fun i _ => w3 hkp i) (iv_out1 hc hA5 hA4)
        · exact act_rel hR ⟨Mk, k1, fun a i ha => fr1 a i (by omega)⟩ (o5 hkp) ⟨Mn, m1, fun a i ha => by rw [w2 a i (by omega), v1 a i (by omega)]⟩ (fun i _ => w4 hkp i) (iv_out2 hc hA5 hA4)
      · rw [hcgo]
        simp only [Fc_unload_b47, k1, bd_some, hA1, o1, gd_t hin, hix, o3]
      · rw [hmgo A1 r0']
        simp only [Md_unload_b40, m1, bd_some]
        rw [v3]
        exact w1
