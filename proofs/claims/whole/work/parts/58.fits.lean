theorem rm_look {M : Mem} {nc nt nr : Nat} (hD : DR M 3 (rowM M 327 0) nc nt nr) (hI : Iv (rowM M 327 0) nc nt nr) : ∃ M', j_Rooms_lookAt 3 M = some ((), M') ∧ (∀ a i, (a < 299 ∨ a = 307 ∨ 313 < a) → gi M' a i = gi M a i) ∧ RM M' (fun i => gi M 327 i) nc nt (openN M 327 nt) := by
  have er : ∀ i, rowM M 327 0 i = gi M 327 i := row_at M
  obtain ⟨⟨n6, n8, _⟩, ⟨a1, a2, a3⟩, a4, a5, b1, b2, b3, b4⟩ := hI
  obtain ⟨⟨d0, d1, d2⟩, d3, _, d5, d6, d7, _⟩ := hD
  obtain ⟨f, hf⟩ : ∃ f : Nat → Int32, f = fun i => gi M 327 i := ⟨_, rfl⟩
  have ef : ∀ i, rowM M 327 0 i = f i := fun i => by rw [er, hf]
  simp only [ef] at a1 a2 a3 a4 a5 b1 b2 b3 b4 d3 d5 d6 d7
  obtain ⟨M', l1, l2, l3, l4, l5, l6, l7, l8⟩ := lookAt_c n6 n8 d0 d1 (fun t ht => by rw [(d7 t ht).1]; exact (b2 t ht).1) (fun c hc => by rw [(d6 c hc).1]; exact (b1 c hc).1)
  have eR : roomsC M nc = Rf f nc := setN_cong nc (fun c hc => by rw [(d6 c hc).2.2.1])
  have eO : openC M nt = openN M 327 nt := setN_cong nt (fun t ht => by
    have h1 := nn_open (d7 t ht).2.2
    have e : gi M 327 (41 + 3 * t + 2) = f (41 + 3 * t + 2) := by rw [hf]
    rw [e]
    exact decide_eq_decide.mpr h1)
  obtain ⟨O, hO⟩ : ∃ O, O = openN M 327 nt := ⟨_, rfl⟩
  have hO2 : O < 2 ^ nt := by rw [hO]; exact setN_lt _ nt
  rw [eR, eO, ← hO] at l8
  rw [eR] at l3
  rw [eO, ← hO] at l4
  rw [eR, eO, ← hO] at l5
  rw [eO, ← hO] at l6 l7
  have eS : ∀ c, (Rf f nc).testBit c = true → servC M nt O c = O &&& setN (fun t => isOfV (f (13 + 4 * c)) (f (41 + 3 * t))) nt := fun c hc => by
    have hc2 := (rf_bit.mp hc).1
    unfold servC
    rw [setN_cong nt (fun t ht => by rw [(d6 c hc2).1, (d7 t ht).1])]
  have eSf : ∀ c, (if (Rf f nc).testBit c = true then servC M nt O c else 0) = Sf f nc nt O c := fun c => by
    unfold Sf
    by_cases h : (Rf f nc).testBit c = true
    · rw [if_pos h, if_pos h, eS c h]
    · rw [if_neg h, if_neg h]
  have eg : ∀ w, sb w O → ∀ t, w.testBit t = true → tfC M O t = f (41 + 3 * t + 1) := fun w hw t ht => by
    unfold tfC
    rw [if_pos (sb_bit.mp hw t ht), (d7 t (bitO hO2 hw ht)).2.1]
  have eL : ∀ c, (Rf f nc).testBit c = true → leadC M c = lead0 f c := fun c hc => by
    obtain ⟨hc2, hc3⟩ := rf_bit.mp hc
    obtain ⟨_, _, q3, q4⟩ := b1 c hc2
    unfold leadC lead0
    rw [(d6 c hc2).1, d5 0 (by omega)]
    by_cases h : nI c = gi M 3 3
    · have h11 : f 11 = nI c := by
        rcases d3 with ⟨z1, z2⟩ | ⟨z1, z2⟩
        · rw [z1] at h
          have := congrArg Int32.toInt h
          rw [nI_toInt (by omega)] at this
          have e2 : (-1000000 : Int32).toInt = -1000000 := by decide
          omega
        · rw [← z1, h]
      have hw := q4.mpr h11
      rw [if_pos h, if_neg (by rw [hw]; decide)]
    · have hw : ¬ f (13 + 4 * c + 2) = 1 := fun q => by
        have h11 := q4.mp q
        rcases d3 with ⟨z1, z2⟩ | ⟨z1, z2⟩
        · rw [z2] at h11
          have := congrArg Int32.toInt h11
          rw [nI_toInt (by omega)] at this
          have e2 : (-1 : Int32).toInt = -1 := by decide
          omega
        · exact h (by rw [z1, h11])
      have hw0 : f (13 + 4 * c + 2) = 0 := by
        apply Int32.toInt_inj.mp
        rw [t0]
        have w1 : (f (13 + 4 * c + 2)).toInt ≠ 1 := fun q => hw (by apply Int32.toInt_inj.mp; rw [q, t1])
        have w2 : (f (13 + 4 * c + 2)).toInt ≠ 2 := fun q => hc3 (by apply Int32.toInt_inj.mp; rw [q, t2])
        omega
      rw [if_neg h, if_pos hw0]
  refine ⟨M', l1, l2, ?_⟩
  rw [← hf, ← hO]
  refine ⟨⟨l3, l4⟩, fun c hc => ?_, fun t ht => ?_, fun w hw hs => ?_, fun c hc v hv => ?_⟩
  · obtain ⟨s1, s2⟩ := l5 c hc
    rw [eSf] at s1
    refine ⟨s1, fun hb => ?_⟩
    have hc2 := (rf_bit.mp hb).1
    obtain ⟨q1, q2, q3, q4⟩ := s2 hb
    refine ⟨?_, ?_, ?_, ?_⟩
    · rw [q1, (d6 c hc2).2.1]
    · rw [q2, eL c hb]
    · rw [q3, (d6 c hc2).1]
    · rw [q4]; unfold keptC keptN; rw [(d6 c hc2).1, d5 1 (by omega)]
  · rw [l6 t ht]
    unfold tfC
    by_cases hb : O.testBit t = true
    · rw [if_pos hb, if_pos hb, (d7 t (bit_lt hO2 hb)).2.1]
    · rw [if_neg hb, if_neg hb]
  · rw [l7 w hw]
    exact sumS_cong 8 (fun i _ => ⟨rfl, fun hi => eg w hs i hi⟩)
  · obtain ⟨s1, s2⟩ := l8 c hc v hv
    rw [eSf] at s1 s2
    refine ⟨fun q1 q2 => ?_, s2⟩
    rw [s1 q1 q2]
    obtain ⟨p1, p2, p3, p4⟩ := (sf_iff n8 hO2 q2).mp q1
    have hb : (Rf f nc).testBit c = true := rf_bit.mpr ⟨p1, p3⟩
    obtain ⟨q1, q2, q3, q4⟩ := (l5 c hc).2 hb
    rw [q1, q2, q3, eL c hb, (d6 c p1).2.1, (d6 c p1).1]
    exact (ends_left (c := c) (fun t _ ht => eg v p2 t ht) 8 (Nat.le_refl 8)).symm
