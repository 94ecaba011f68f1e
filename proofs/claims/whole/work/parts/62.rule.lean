def putS (rule : Bool) (f : Nat → Int32) (nc O : Nat) : Nat → Option (Nat → Nat)
  | 0 => some (fun _ => 0)
  | t + 1 => match putS rule f nc O t with
    | none => none
    | some P => if O.testBit t = true then (match bst rule (fun c => hB f nc O c (P c ||| 2 ^ t)) (fun c => leftS f c (P c ||| 2 ^ t) 8) 6 with
      | none => none
      | some k => some (fun c => if c = k then P k ||| 2 ^ t else P c)) else some P
theorem put_none {rule : Bool} {f : Nat → Int32} {nc O t : Nat} (h : putS rule f nc O t = none) : ∀ m, putS rule f nc O (t + m) = none
  | 0 => h
  | m + 1 => by
    have ih := put_none h m
    show putS rule f nc O (t + m + 1) = none
    simp only [putS, ih]
theorem put_skip {rule : Bool} {f : Nat → Int32} {nc O t : Nat} (h : ¬ O.testBit t = true) : putS rule f nc O (t + 1) = putS rule f nc O t := by
  simp only [putS, h]
  cases putS rule f nc O t <;> simp
theorem put_end {rule : Bool} {f : Nat → Int32} {nc O nt : Nat} (hO : O < 2 ^ nt) : ∀ m, putS rule f nc O (nt + m) = putS rule f nc O nt
  | 0 => rfl
  | m + 1 => by
    have hb : ¬ O.testBit (nt + m) = true := fun q => by have := bit_lt hO q; omega
    show putS rule f nc O (nt + m + 1) = _
    rw [put_skip hb]
    exact put_end hO m
theorem put_inv {rule : Bool} {f : Nat → Int32} {nc O : Nat} : ∀ t P, putS rule f nc O t = some P → (∀ c, P c < 2 ^ t) ∧ Plan f nc O P
  | 0, P, h => by
    simp only [putS, Option.some.injEq] at h
    subst h
    exact ⟨fun c => by simp, fun c => Or.inl rfl⟩
  | t + 1, P, h => by
    have hp : ∀ n : Nat, n < 2 ^ t → n < 2 ^ (t + 1) := fun n hn => by rw [Nat.pow_succ]; omega
    cases hq : putS rule f nc O t with
    | none => simp [putS, hq] at h
    | some Q =>
      obtain ⟨q1, q2⟩ := put_inv t Q hq
      by_cases hb : O.testBit t = true
      · cases hk : bst rule (fun c => hB f nc O c (Q c ||| 2 ^ t)) (fun c => leftS f c (Q c ||| 2 ^ t) 8) 6 with
        | none => simp [putS, hq, hb, hk] at h
        | some k =>
          simp only [putS, hq, hb, hk, if_true, Option.some.injEq] at h
          subst h
          refine ⟨fun c => ?_, fun c => ?_⟩
          · show (if c = k then Q k ||| 2 ^ t else Q c) < 2 ^ (t + 1)
            by_cases hc : c = k
            · rw [if_pos hc]
              exact Nat.or_lt_two_pow (hp _ (q1 k)) (by rw [Nat.pow_succ]; have := Nat.two_pow_pos t; omega)
            · rw [if_neg hc]; exact hp _ (q1 c)
          · show (if c = k then Q k ||| 2 ^ t else Q c) = 0 ∨ Hf f nc O c (if c = k then Q k ||| 2 ^ t else Q c)
            by_cases hc : c = k
            · rw [if_pos hc]
              right
              have := hB_iff.mp (bst_h 6 k hk).2
              rw [hc]; exact this
            · rw [if_neg hc]; exact q2 c
      · rw [put_skip hb, hq] at h
        simp only [Option.some.injEq] at h
        subst h
        exact ⟨fun c => hp _ (q1 c), q2⟩
theorem or_two {v t : Nat} (ht : t < 8) (h : v < 2 ^ t) : v ||| 2 ^ t < 256 := by
  have h1 : v ||| 2 ^ t < 2 ^ (t + 1) := Nat.or_lt_two_pow (by rw [Nat.pow_succ]; omega) (by rw [Nat.pow_succ]; have := Nat.two_pow_pos t; omega)
  exact Nat.lt_of_lt_of_le h1 (two8 (by omega))
theorem plan_sb {f : Nat → Int32} {nc O : Nat} {P : Nat → Nat} (hP : Plan f nc O P) (c : Nat) : sb (P c) O := by
  rcases hP c with h | h
  · rw [h]; exact sb_zero O
  · exact h.2.2.1
theorem or_sb {v t O : Nat} (h : sb v O) (hb : O.testBit t = true) : sb (v ||| 2 ^ t) O := sb_bit.mpr (fun i hi => by
  rw [Nat.testBit_or, Bool.or_eq_true] at hi
  rcases hi with hi | hi
  · exact sb_bit.mp h i hi
  · rw [Nat.testBit_two_pow] at hi
    have : t = i := by simpa using hi
    rw [← this]; exact hb)
theorem rise_in {M0 : Mem} {f : Nat → Int32} {nc nt O : Nat} {rule : Bool} (h : RM M0 f nc nt O) (hR : RowOk f nc nt) (hO : O < 2 ^ nt) : ∀ m t q M P, t + m = 8 → m < q → putS rule f nc O t = some P → (∀ a i, a ≠ 314 → gi M a i = gi M0 a i) → (∀ c, c < 6 → gi M 314 c = nI (P c)) → ∃ M', Rooms_placeRising_h10 q (if rule = true then 1 else 0) (nI t) M = some (if (putS rule f nc O 8).isSome = true then 1 else 0, M') ∧ (∀ a i, a ≠ 314 → gi M' a i = gi M0 a i) ∧ ∀ P', putS rule f nc O 8 = some P' → ∀ c, c < 6 → gi M' 314 c = nI (P' c) := by
  have e8 : (8 : Int32) = nI 8 := rfl
  have n8 := hR.1.2.1
  have hO256 : O < 256 := Nat.lt_of_lt_of_le hO (two8 n8)
  intro m
  induction m with
  | zero =>
    intro t q M P ht hq hP hM h4
    obtain ⟨q, rfl⟩ : ∃ z, q = z + 1 := ⟨q - 1, by omega⟩
    have hge : ¬ nI t < nI 8 := nI_nlt (by omega) (by omega)
    have ht8 : t = 8 := by omega
    subst ht8
    refine ⟨M, ?_, hM, fun P' hP' c hc => ?_⟩
    · simp only [Rooms_placeRising_h10, e8, hge, if_false, hP, Option.isSome_some, if_true]
    · rw [hP] at hP'
      simp only [Option.some.injEq] at hP'
      rw [← hP']; exact h4 c hc
  | succ m ih =>
    intro t q M P ht hq hP hM h4
    obtain ⟨q, rfl⟩ : ∃ z, q = z + 1 := ⟨q - 1, by omega⟩
    have hlt : nI t < nI 8 := nI_lt (by omega) (by omega)
    have hRM : RM M f nc nt O := h.cong (fun a i h1 h2 => hM a i (by omega))
    have hio := rooms_isOpen hO256 (show t < 8 by omega) hRM.1.2
    obtain ⟨q1, q2⟩ := put_inv t P hP
    by_cases hb : O.testBit t = true
    · have hv : ∀ c, P c ||| 2 ^ t < 256 := fun c => or_two (by omega) (q1 c)
      have hsel : (if (if rule = true then (1 : Int32) else 0) = 0 then bd (j_Rooms_firstFor (nI (2 ^ t)) M) (fun r7 M8 => Rooms_placeRising_b45 (fun x1 x2 M => Rooms_placeRising_h10 q x1 x2 M) (if rule = true then 1 else 0) (nI t) r7 M8) else bd (j_Rooms_tightestFor (nI (2 ^ t)) M) (fun r12 M13 => Rooms_placeRising_b45 (fun x1 x2 M => Rooms_placeRising_h10 q x1 x2 M) (if rule = true then 1 else 0) (nI t) r12 M13)) = Rooms_placeRising_b45 (fun x1 x2 M => Rooms_placeRising_h10 q x1 x2 M) (if rule = true then 1 else 0) (nI t) (ec (bst rule (fun c => hB f nc O c (P c ||| 2 ^ t)) (fun c => leftS f c (P c ||| 2 ^ t) 8) 6) (-1000000)) M := by
        cases rule with
        | false =>
          have hf := first_in (e := fun c => leftS f c (P c ||| 2 ^ t) 8) hRM n8 hO h4 hv 6 0 FU (by omega) (by unfold FU; omega) rfl
          have hj : j_Rooms_firstFor (nI (2 ^ t)) M = some (ec (bst false (fun c => hB f nc O c (P c ||| 2 ^ t)) (fun c => leftS f c (P c ||| 2 ^ t) 8) 6) (-1000000), M) := hf
          simp only [Bool.false_eq_true, if_false, if_true, hj, bd_some]
        | true =>
          have hf := tight_in hRM hR hO h4 hv 6 0 FU (by omega) (by unfold FU; omega)
          have hj : j_Rooms_tightestFor (nI (2 ^ t)) M = some (ec (bst true (fun c => hB f nc O c (P c ||| 2 ^ t)) (fun c => leftS f c (P c ||| 2 ^ t) 8) 6) (-1000000), M) := hf
          simp only [if_true, z1, if_false, hj, bd_some]
      have hstep : Rooms_placeRising_h10 (q + 1) (if rule = true then 1 else 0) (nI t) M = Rooms_placeRising_b45 (fun x1 x2 M => Rooms_placeRising_h10 q x1 x2 M) (if rule = true then 1 else 0) (nI t) (ec (bst rule (fun c => hB f nc O c (P c ||| 2 ^ t)) (fun c => leftS f c (P c ||| 2 ^ t) 8) 6) (-1000000)) M := by
        rw [← hsel]
        simp only [Rooms_placeRising_h10, e8, hlt, if_true, hio, hb, bd_some, z1, if_false, shl_bit t (show t < 8 by omega)]
      cases hk : bst rule (fun c => hB f nc O c (P c ||| 2 ^ t)) (fun c => leftS f c (P c ||| 2 ^ t) 8) 6 with
      | none =>
        have hn : putS rule f nc O (t + 1) = none := by simp only [putS, hP, hb, hk, if_true]
        have hn8 := put_none hn m
        rw [show t + 1 + m = 8 by omega] at hn8
        refine ⟨M, ?_, hM, fun P' hP' => ?_⟩
        · rw [hstep, hk]
          simp only [ec, Rooms_placeRising_b45, if_true, hn8, Option.isSome_none, Bool.false_eq_true, if_false]
        · rw [hn8] at hP'
          cases hP'
      | some k =>
        have hk6 := (bst_h 6 k hk).1
        obtain ⟨P1, hP1⟩ : ∃ P1 : Nat → Nat, P1 = fun c => if c = k then P k ||| 2 ^ t else P c := ⟨_, rfl⟩
        have hn : putS rule f nc O (t + 1) = some P1 := by simp only [putS, hP, hb, hk, if_true, hP1]
        obtain ⟨M1, hM1⟩ : ∃ M1, M1 = uI M 314 k (nI (P k ||| 2 ^ t)) := ⟨_, rfl⟩
        obtain ⟨M', r1, r2, r3⟩ := ih (t + 1) q M1 P1 (by omega) (by omega) hn (fun a i ha => by rw [hM1, gi_uIa _ _ _ _ _ _ ha]; exact hM a i ha) (fun c hc => by
          rw [hM1, hP1]
          show _ = nI (if c = k then P k ||| 2 ^ t else P c)
          by_cases hck : c = k
          · rw [hck, gi_uIs, if_pos rfl]
          · rw [gi_uIi _ _ _ _ _ _ hck, if_neg hck]; exact h4 c hc)
        refine ⟨M', ?_, r2, r3⟩
        have hne : ¬ nI k = -1000000 := fun z => by
          have := congrArg Int32.toInt z
          rw [nI_toInt (by omega), tN] at this
          omega
        rw [hstep, hk, ← r1]
        simp only [ec, Rooms_placeRising_b45, Rooms_placeRising_b66, hne, if_false, gd_t (inb_nI hk6 (show 6 < 2 ^ 31 by omega)), ix_nI (show k < 2 ^ 31 by omega), h4 k hk6, shl_bit t (show t < 8 by omega), nI_or, sq_eq, lq_eq, nI_1, ← hM1]
    · have hn : putS rule f nc O (t + 1) = some P := by rw [put_skip hb]; exact hP
      obtain ⟨M', r1, r2, r3⟩ := ih (t + 1) q M P (by omega) (by omega) hn hM h4
      refine ⟨M', ?_, r2, r3⟩
      rw [← r1]
      simp only [Rooms_placeRising_h10, Rooms_placeRising_b66, e8, hlt, if_true, hio, hb, if_false, bd_some, lq_eq, nI_1, Bool.false_eq_true]
theorem ln_314 : ln 314 = 6 := by decide +kernel
theorem rising_c {M : Mem} {f : Nat → Int32} {nc nt O : Nat} {rule : Bool} (h : RM M f nc nt O) (hR : RowOk f nc nt) (hO : O < 2 ^ nt) : ∃ M', j_Rooms_placeRising (if rule = true then 1 else 0) M = some (if (putS rule f nc O 8).isSome = true then 1 else 0, M') ∧ (∀ a i, a ≠ 314 → gi M' a i = gi M a i) ∧ ∀ P', putS rule f nc O 8 = some P' → ∀ c, c < 6 → gi M' 314 c = nI (P' c) := by
  obtain ⟨M1, f1, f2, f3⟩ := fill_c (x := 0) (M := M) ln_314 (by omega)
  obtain ⟨M', r1, r2, r3⟩ := rise_in (rule := rule) (M0 := M1) (h.cong (fun a i h1 h2 => f2 a i (by omega))) hR hO 8 0 FU M1 (fun _ => 0) (by omega) (by unfold FU; omega) rfl (fun _ _ _ => rfl) (fun c hc => f3 c hc)
  refine ⟨M', ?_, fun a i ha => (r2 a i ha).trans (f2 a i ha), r3⟩
  unfold j_Rooms_placeRising
  rw [f1, bd_some, lq_e]
  exact r1
