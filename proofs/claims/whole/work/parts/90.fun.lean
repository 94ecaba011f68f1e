def Good (o : Option (Int32 × Mem)) : Prop := ∃ M', o = some (1, M')
theorem good_if {c : Prop} [Decidable c] {a b : Option (Int32 × Mem)} (h1 : c → Good a) (h2 : ¬ c → Good b) : Good (if c then a else b) := by
  by_cases h : c
  · rw [if_pos h]; exact h1 h
  · rw [if_neg h]; exact h2 h
theorem good_gd {b : Bool} {o : Option (Int32 × Mem)} (h : b = true) (g : Good o) : Good (gd b o) := by rw [gd_t h]; exact g
theorem good_c0 {A B : Mem → Option (Int32 × Mem)} {K : Mem → Option (Int32 × Mem)} {M : Mem} (hs : Sim A B) (hR : Rel M) (hK : ∀ M2, Rel M2 → Good (K M2)) : Good (bd (A M) (fun r M4 => bd (B M4) (fun r6 M7 => if r = r6 then K M7 else none))) := by
  obtain ⟨r, M1, M2, e1, e2, h⟩ := hs M hR
  obtain ⟨M', h'⟩ := hK M2 h
  refine ⟨M', ?_⟩
  rw [e1, bd_some, e2, bd_some, if_pos rfl]; exact h'
theorem good_c1 {A B : Mem → Option (Int32 × Mem)} {K : Mem → Option (Int32 × Mem)} {M : Mem} {b1 : Bool} (hs : Sim A B) (hR : Rel M) (h1 : b1 = true) (hK : ∀ M2, Rel M2 → Good (K M2)) : Good (bd (A M) (fun r M4 => gd b1 (bd (B M4) (fun r6 M7 => if r = r6 then K M7 else none)))) := by
  obtain ⟨r, M1, M2, e1, e2, h⟩ := hs M hR
  obtain ⟨M', h'⟩ := hK M2 h
  refine ⟨M', ?_⟩
  rw [e1, bd_some, gd_t h1, e2, bd_some, if_pos rfl]; exact h'
theorem good_c2 {A B : Mem → Option (Int32 × Mem)} {K : Mem → Option (Int32 × Mem)} {M : Mem} {b1 b2 : Bool} (hs : Sim A B) (hR : Rel M) (h1 : b1 = true) (h2 : b2 = true) (hK : ∀ M2, Rel M2 → Good (K M2)) : Good (bd (A M) (fun r M4 => gd b1 (gd b2 (bd (B M4) (fun r6 M7 => if r = r6 then K M7 else none))))) := by
  obtain ⟨r, M1, M2, e1, e2, h⟩ := hs M hR
  obtain ⟨M', h'⟩ := hK M2 h
  refine ⟨M', ?_⟩
  rw [e1, bd_some, gd_t h1, gd_t h2, e2, bd_some, if_pos rfl]; exact h'
theorem good_c2L {A B : Mem → Option (Int64 × Mem)} {K : Mem → Option (Int32 × Mem)} {M : Mem} {b1 b2 : Bool} (hs : SimL A B) (hR : Rel M) (h1 : b1 = true) (h2 : b2 = true) (hK : ∀ M2, Rel M2 → Good (K M2)) : Good (bd (A M) (fun r M4 => gd b1 (gd b2 (bd (B M4) (fun r6 M7 => if r = r6 then K M7 else none))))) := by
  obtain ⟨r, M1, M2, e1, e2, h⟩ := hs M hR
  obtain ⟨M', h'⟩ := hK M2 h
  refine ⟨M', ?_⟩
  rw [e1, bd_some, gd_t h1, gd_t h2, e2, bd_some, if_pos rfl]; exact h'
theorem good_c3 {A B : Mem → Option (Int32 × Mem)} {K : Mem → Option (Int32 × Mem)} {M : Mem} {b1 b2 b3 : Bool} (hs : Sim A B) (hR : Rel M) (h1 : b1 = true) (h2 : b2 = true) (h3 : b3 = true) (hK : ∀ M2, Rel M2 → Good (K M2)) : Good (bd (A M) (fun r M4 => gd b1 (gd b2 (gd b3 (bd (B M4) (fun r6 M7 => if r = r6 then K M7 else none)))))) := by
  obtain ⟨r, M1, M2, e1, e2, h⟩ := hs M hR
  obtain ⟨M', h'⟩ := hK M2 h
  refine ⟨M', ?_⟩
  rw [e1, bd_some, gd_t h1, gd_t h2, gd_t h3, e2, bd_some, if_pos rfl]; exact h'
theorem law_in {xs : Nat → Int32} {L : Nat} (hL : L ≤ 2048) : ∀ m i q M, L < i + 4 + 4 * m → i ≤ 4096 → m < q → Rel M → Good (Law_law_h18 xs L q (nI i) M) := by
  have eL : Int32.ofNat L = nI L := rfl
  have t4 : (4 : Int32).toInt = 4 := by decide
  have hcmp : ∀ i, i ≤ 4096 → (nI L - 4 < nI i ↔ L < i + 4) := fun i hi => by
    rw [i32_lt, i32_sub (by rw [nI_toInt (by omega)]; omega) (by rw [t4]; omega), t4, nI_toInt (by omega), nI_toInt (by omega)]
    omega
  intro m
  induction m with
  | zero =>
    intro i q M hm hi hq hR
    obtain ⟨q, rfl⟩ : ∃ z, q = z + 1 := ⟨q - 1, by omega⟩
    rw [Law_law_h18]
    refine good_if (fun _ => ⟨M, rfl⟩) (fun h => ?_)
    rw [eL, hcmp i hi] at h
    omega
  | succ m ih =>
    intro i q M hm hi hq hR
    obtain ⟨q, rfl⟩ : ∃ z, q = z + 1 := ⟨q - 1, by omega⟩
    rw [Law_law_h18]
    refine good_if (fun _ => ⟨M, rfl⟩) (fun h => ?_)
    rw [eL, hcmp i hi] at h
    have h0 : inb (nI i) L = true := inb_nI (by omega) (by omega)
    have h1 : inb (nI i + 1) L = true := by rw [nI_1]; exact inb_nI (by omega) (by omega)
    have h2 : inb (nI i + 2) L = true := by rw [nI_p2]; exact inb_nI (by omega) (by omega)
    have h3 : inb (nI i + 3) L = true := by rw [nI_p3]; exact inb_nI (by omega) (by omega)
    have hK : ∀ M2, Rel M2 → Good (Law_law_b1040 xs L (fun x3 M => Law_law_h18 xs L q x3 M) (nI i) M2) := fun M2 hR2 => by
      unfold Law_law_b1040
      rw [lq_e, show nI i + 4 = nI (i + 4) from nI_add i 4]
      exact ih (i + 4) q M2 (by omega) (by omega) (by omega) hR2
    refine good_gd h0 ?_
    refine good_if (fun _ => good_gd h1 (good_c1 (s_feed _) hR h1 hK)) (fun _ => ?_)
    refine good_if (fun _ => good_c0 s_book hR hK) (fun _ => ?_)
    refine good_if (fun _ => good_c0 s_fault hR hK) (fun _ => ?_)
    refine good_if (fun _ => good_c0 s_undo hR hK) (fun _ => ?_)
    refine good_if (fun _ => good_gd h1 (good_c1 (s_load _) hR h1 hK)) (fun _ => ?_)
    refine good_if (fun _ => good_gd h1 (good_c1 (s_shoot _) hR h1 hK)) (fun _ => ?_)
    refine good_if (fun _ => good_c0 s_unload hR hK) (fun _ => ?_)
    refine good_if (fun _ => good_c0 s_lab hR hK) (fun _ => ?_)
    refine good_if (fun _ => good_gd h1 (good_c1 (s_again _) hR h1 hK)) (fun _ => ?_)
    refine good_if (fun _ => good_gd h1 (good_gd h2 (good_c2 (s_buy _ _) hR h1 h2 hK))) (fun _ => ?_)
    refine good_if (fun _ => good_gd h1 (good_gd h2 (good_c2 (s_ask _ _) hR h1 h2 hK))) (fun _ => ?_)
    refine good_if (fun _ => good_gd h1 (good_gd h2 (good_c2 (s_become _ _) hR h1 h2 hK))) (fun _ => ?_)
    refine good_if (fun _ => good_gd h1 (good_gd h2 (good_gd h3 (good_c3 (s_demand _ _ _) hR h1 h2 h3 hK)))) (fun _ => ?_)
    refine good_if (fun _ => good_gd h1 (good_gd h2 (good_c2 (s_law _ _) hR h1 h2 hK))) (fun _ => ?_)
    refine good_if (fun _ => good_gd h1 (good_gd h2 (good_c2 (s_can _ _) hR h1 h2 hK))) (fun _ => ?_)
    refine good_if (fun _ => good_gd h1 (good_gd h2 (good_c2 (s_take _ _) hR h1 h2 hK))) (fun _ => ?_)
    refine good_if (fun _ => good_gd h1 (good_gd h2 (good_c2 (s_roll _ _) hR h1 h2 hK))) (fun _ => ?_)
    refine good_if (fun _ => good_gd h1 (good_c1 (s_sums _) hR h1 hK)) (fun _ => ?_)
    refine good_if (fun _ => good_gd h1 (good_c1 (s_batches _) hR h1 hK)) (fun _ => ?_)
    refine good_if (fun _ => good_gd h1 (good_gd h2 (good_c2 (s_as _ _) hR h1 h2 hK))) (fun _ => ?_)
    refine good_if (fun _ => good_gd h1 (good_gd h2 (good_c2 (s_fits _ _) hR h1 h2 hK))) (fun _ => ?_)
    refine good_if (fun _ => good_gd h1 (good_c1 (s_plan _) hR h1 hK)) (fun _ => ?_)
    refine good_if (fun _ => good_gd h1 (good_c1 (s_planOf _) hR h1 hK)) (fun _ => ?_)
    refine good_if (fun _ => good_gd h1 (good_gd h2 (good_c2 (s_rule _ _) hR h1 h2 hK))) (fun _ => ?_)
    refine good_if (fun _ => good_gd h1 (good_gd h2 (good_c2 (s_ruleOf _ _) hR h1 h2 hK))) (fun _ => ?_)
    refine good_if (fun _ => good_gd h1 (good_c1 (s_longer _) hR h1 hK)) (fun _ => ?_)
    refine good_if (fun _ => good_gd h1 (good_c1 (s_more _) hR h1 hK)) (fun _ => ?_)
    refine good_if (fun _ => good_c0 s_needed hR hK) (fun _ => ?_)
    refine good_if (fun _ => good_gd h1 (good_gd h2 (good_c2L (s_fogged _ _) hR h1 h2 hK))) (fun _ => ?_)
    refine good_if (fun _ => good_gd h1 (good_gd h2 (good_gd h3 (good_c3 (s_drawn _ _ _) hR h1 h2 h3 hK)))) (fun _ => ?_)
    refine good_if (fun _ => good_gd h1 (good_c1 (s_image _) hR h1 hK)) (fun _ => ?_)
    refine good_if (fun _ => good_gd h1 (good_c1 (s_restore _) hR h1 hK)) (fun _ => ?_)
    refine good_if (fun _ => good_gd h1 (good_c1 (s_count _) hR h1 hK)) (fun _ => ?_)
    exact hK M hR
theorem rel_MSt : Rel MSt := by
  refine ⟨⟨0, 0, 0, ⟨⟨?_, ?_, ?_⟩, Or.inl ⟨?_, ?_⟩, ⟨?_, ?_, ?_, ?_, ?_⟩, fun i hi => ?_, fun c hc => absurd hc (by omega), fun t ht => absurd ht (by omega), fun r hr => absurd hr (by omega)⟩, ⟨⟨by omega, by omega, by omega⟩, ⟨?_, ?_, ?_⟩, ?_, Or.inl ?_, fun c hc => absurd hc (by omega), fun t ht => absurd ht (by omega), fun r hr => absurd hr (by omega), fun _ => ⟨rfl, rfl⟩⟩⟩, ⟨⟨0, by omega, ?_, ?_, fun i hi => absurd hi (by omega)⟩, ?_⟩, ⟨0, 0, by omega, by omega, ?_, ?_, ?_, fun j hj => absurd hj (by omega)⟩, fun k hk => Or.inl ⟨?_, ?_⟩⟩
  · decide +kernel
  · decide +kernel
  · decide +kernel
  · decide +kernel
  · decide +kernel
  · decide +kernel
  · decide +kernel
  · decide +kernel
  · decide +kernel
  · decide +kernel
  · revert i; decide +kernel
  · decide +kernel
  · decide +kernel
  · decide +kernel
  · decide +kernel
  · decide +kernel
  · decide +kernel
  · decide +kernel
  · decide +kernel
  · decide +kernel
  · decide +kernel
  · decide +kernel
  · revert k; decide +kernel
  · revert k; decide +kernel
theorem law_ok (xs : Nat → Int32) (L : Nat) (hL : L ≤ 2048) : ∃ M' : Mem, Law_law_h18 xs L FU 0 MSt = some (1, M') := law_in hL 1024 0 FU MSt (by omega) (by omega) (by unfold FU; omega) rel_MSt
