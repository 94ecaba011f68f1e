theorem puts_in {M0 : Mem} {nc nt O : Nat} {rule : Bool} (hR : RowOk (fun i => gi M0 327 i) nc nt) (hn6 : nc ≤ 6) (hOe : O = openN M0 327 nt) : ∀ m t q M P, t + m = nt → m < q → putS rule (fun i => gi M0 327 i) nc O t = some P → (∀ a i, a ≠ 335 → gi M a i = gi M0 a i) → (∀ c, c < 6 → gi M 335 c = nI (P c)) → ∃ M', Md_puts_h23 q (if rule = true then 1 else 0) (nI t) M = some (if (putS rule (fun i => gi M0 327 i) nc O 8).isSome = true then 1 else 0, M') ∧ (∀ a i, a ≠ 335 → gi M' a i = gi M0 a i) ∧ ∀ P', putS rule (fun i => gi M0 327 i) nc O 8 = some P' → ∀ c, c < 6 → gi M' 335 c = nI (P' c) := by
  have n8 := hR.1.2.1
  have hO : O < 2 ^ nt := by rw [hOe]; exact setN_lt _ nt
  have e5 : gi M0 327 5 = nI nt := hR.1.2.2.2
  have hend := put_end (rule := rule) (f := fun i => gi M0 327 i) (nc := nc) hO (8 - nt)
  rw [show nt + (8 - nt) = 8 by omega] at hend
  have hm1 : (-1 : Int32) < 0 := by decide
  intro m
  induction m with
  | zero =>
    intro t q M P ht hq hP hM h4
    obtain ⟨q, rfl⟩ : ∃ z, q = z + 1 := ⟨q - 1, by omega⟩
    have hge : ¬ nI t < nI nt := nI_nlt (by omega) (by omega)
    have ht8 : t = nt := by omega
    subst ht8
    refine ⟨M, ?_, hM, fun P' hP' c hc => ?_⟩
    · simp only [Md_puts_h23, hM 327 5 (by omega), e5, hge, if_false, hend, hP, Option.isSome_some, if_true]
    · rw [hend, hP] at hP'
      simp only [Option.some.injEq] at hP'
      rw [← hP']; exact h4 c hc
  | succ m ih =>
    intro t q M P ht hq hP hM h4
    obtain ⟨q, rfl⟩ : ∃ z, q = z + 1 := ⟨q - 1, by omega⟩
    have hlt : nI t < nI nt := nI_lt (by omega) (by omega)
    have ef : (fun i => gi M 327 i) = (fun i => gi M0 327 i) := funext (fun i => hM 327 i (by omega))
    have hio := md_isOpen (a := 327) (M := M) (show t < 8 by omega)
    rw [hM 327 _ (by omega)] at hio
    obtain ⟨q1, q2⟩ := put_inv t P hP
    have hbit : O.testBit t = true ↔ (gi M0 327 (41 + 3 * t + 2)).toInt < 0 := by
      rw [hOe]
      unfold openN
      rw [setN_bit]
      simp [show t < nt by omega]
    by_cases hb : O.testBit t = true
    · rw [if_pos (hbit.mp hb)] at hio
      have hv : ∀ c, P c ||| 2 ^ t < 256 := fun c => or_two (by omega) (q1 c)
      have hrf := roomFor_in (M := M) (rule := rule) (P := P) (O := O) (t := t) (by rw [ef]; exact hR) hn6 hO h4 (by omega) hv (fun c => or_sb (plan_sb q2 c) hb) nc 0 FU (by omega) (by unfold FU; omega)
      rw [ef] at hrf
      have hext := bst_ext (rule := rule) (h := fun c => hB (fun i => gi M0 327 i) nc O c (P c ||| 2 ^ t)) (e := fun c => leftS (fun i => gi M0 327 i) c (P c ||| 2 ^ t) 8) (n := nc) (fun c hc => by
        apply Bool.eq_false_iff.mpr
        intro z
        have := (hB_iff.mp z).1
        omega) (6 - nc)
      rw [show nc + (6 - nc) = 6 by omega] at hext
      rw [← hext] at hrf
      have hj : j_Md_roomFor (if rule = true then 1 else 0) (nI t) M = some (ec (bst rule (fun c => hB (fun i => gi M0 327 i) nc O c (P c ||| 2 ^ t)) (fun c => leftS (fun i => gi M0 327 i) c (P c ||| 2 ^ t) 8) 6) (-1), M) := hrf
      cases hk : bst rule (fun c => hB (fun i => gi M0 327 i) nc O c (P c ||| 2 ^ t)) (fun c => leftS (fun i => gi M0 327 i) c (P c ||| 2 ^ t) 8) 6 with
      | none =>
        have hn : putS rule (fun i => gi M0 327 i) nc O (t + 1) = none := by simp only [putS, hP, hb, hk, if_true]
        have hn8 := put_none hn (8 - (t + 1))
        rw [show t + 1 + (8 - (t + 1)) = 8 by omega] at hn8
        rw [hk] at hj
        refine ⟨M, ?_, hM, fun P' hP' => ?_⟩
        · simp only [Md_puts_h23, Md_puts_b54, hM 327 5 (by omega), e5, hlt, if_true, hio, bd_some, z1, if_false, hj, ec, hm1, hn8, Option.isSome_none, Bool.false_eq_true]
        · rw [hn8] at hP'
          cases hP'
      | some k =>
        have hk6 := (bst_h 6 k hk).1
        obtain ⟨P1, hP1⟩ : ∃ P1 : Nat → Nat, P1 = fun c => if c = k then P k ||| 2 ^ t else P c := ⟨_, rfl⟩
        have hn : putS rule (fun i => gi M0 327 i) nc O (t + 1) = some P1 := by simp only [putS, hP, hb, hk, if_true, hP1]
        obtain ⟨M1, hM1⟩ : ∃ M1, M1 = uI M 335 k (nI (P k ||| 2 ^ t)) := ⟨_, rfl⟩
        rw [hk] at hj
        obtain ⟨M', r1, r2, r3⟩ := ih (t + 1) q M1 P1 (by omega) (by omega) hn (fun a i ha => by rw [hM1, gi_uIa _ _ _ _ _ _ ha]; exact hM a i ha) (fun c hc => by
          rw [hM1, hP1]
          show _ = nI (if c = k then P k ||| 2 ^ t else P c)
          by_cases hck : c = k
          · rw [hck, gi_uIs, if_pos rfl]
          · rw [gi_uIi _ _ _ _ _ _ hck, if_neg hck]; exact h4 c hc)
        refine ⟨M', ?_, r2, r3⟩
        have hkn : ¬ nI k < 0 := by rw [i32_lt, t0, nI_toInt (by omega)]; omega
        rw [← r1]
        simp only [Md_puts_h23, Md_puts_b54, Md_puts_b72, Md_puts_b88, hM 327 5 (by omega), e5, hlt, if_true, hio, bd_some, z1, if_false, hj, ec, hkn, gd_t (inb_nI (show k < 7 by omega) (show 7 < 2 ^ 31 by omega)), ix_nI (show k < 2 ^ 31 by omega), h4 k hk6, shl_bit t (show t < 8 by omega), nI_or, sq_eq, lq_eq, nI_1, ← hM1]
    · rw [if_neg (fun z => hb (hbit.mpr z))] at hio
      have hn : putS rule (fun i => gi M0 327 i) nc O (t + 1) = some P := by rw [put_skip hb]; exact hP
      obtain ⟨M', r1, r2, r3⟩ := ih (t + 1) q M P (by omega) (by omega) hn hM h4
      refine ⟨M', ?_, r2, r3⟩
      rw [← r1]
      simp only [Md_puts_h23, Md_puts_b54, Md_puts_b72, Md_puts_b88, hM 327 5 (by omega), e5, hlt, if_true, hio, bd_some, z0, hm1, lq_eq, nI_1]
theorem puts0_in {x : Int32} {M0 : Mem} : ∀ m k q M, k + m = 7 → m < q → (∀ a i, a ≠ 335 → gi M a i = gi M0 a i) → (∀ c, c < k → gi M 335 c = 0) → ∃ M', Md_puts_h2 q x (nI k) M = Md_puts_h23 FU x 0 M' ∧ (∀ a i, a ≠ 335 → gi M' a i = gi M0 a i) ∧ ∀ c, c < 7 → gi M' 335 c = 0 := by
  have e7 : (7 : Int32) = nI 7 := rfl
  intro m
  induction m with
  | zero =>
    intro k q M hk hq hM h4
    obtain ⟨q, rfl⟩ : ∃ z, q = z + 1 := ⟨q - 1, by omega⟩
    have hge : ¬ nI k < nI 7 := nI_nlt (by omega) (by omega)
    refine ⟨M, ?_, hM, fun c hc => h4 c (by omega)⟩
    rw [Md_puts_h2, e7, if_neg hge, lq_e]
  | succ m ih =>
    intro k q M hk hq hM h4
    obtain ⟨q, rfl⟩ : ∃ z, q = z + 1 := ⟨q - 1, by omega⟩
    have hlt : nI k < nI 7 := nI_lt (by omega) (by omega)
    obtain ⟨M', r1, r2, r3⟩ := ih (k + 1) q (uI M 335 k 0) (by omega) (by omega) (fun a i ha => by rw [gi_uIa _ _ _ _ _ _ ha]; exact hM a i ha) (fun c hc => by
      by_cases hck : c = k
      · rw [hck, gi_uIs]
      · rw [gi_uIi _ _ _ _ _ _ hck]; exact h4 c (by omega))
    refine ⟨M', ?_, r2, r3⟩
    rw [← r1, Md_puts_h2, e7, if_pos hlt, gd_t (inb_nI (show k < 7 by omega) (show 7 < 2 ^ 31 by omega)), sq_e, lq_e, nI_1, ix_nI (show k < 2 ^ 31 by omega)]
theorem puts_m {M : Mem} {nc nt O : Nat} {rule : Bool} (hR : RowOk (fun i => gi M 327 i) nc nt) (hn6 : nc ≤ 6) (hOe : O = openN M 327 nt) : ∃ M', j_Md_puts (if rule = true then 1 else 0) M = some (if (putS rule (fun i => gi M 327 i) nc O 8).isSome = true then 1 else 0, M') ∧ (∀ a i, a ≠ 335 → gi M' a i = gi M a i) ∧ ∀ P', putS rule (fun i => gi M 327 i) nc O 8 = some P' → ∀ c, c < 6 → gi M' 335 c = nI (P' c) := by
  have n8 := hR.1.2.1
  obtain ⟨M1, f1, f2, f3⟩ := puts0_in (x := if rule = true then 1 else 0) (M0 := M) 7 0 FU M (by omega) (by unfold FU; omega) (fun _ _ _ => rfl) (fun c hc => absurd hc (by omega))
  have ef : (fun i => gi M1 327 i) = (fun i => gi M 327 i) := funext (fun i => f2 327 i (by omega))
  have eo : O = openN M1 327 nt := by
    rw [hOe]
    unfold openN
    exact setN_cong nt (fun i _ => by rw [f2 327 _ (by omega)])
  obtain ⟨M', r1, r2, r3⟩ := puts_in (rule := rule) (M0 := M1) (by rw [ef]; exact hR) hn6 eo nt 0 FU M1 (fun _ => 0) (by omega) (by unfold FU; omega) rfl (fun _ _ _ => rfl) (fun c hc => f3 c (by omega))
  rw [ef] at r1 r3
  refine ⟨M', ?_, fun a i ha => (r2 a i ha).trans (f2 a i ha), r3⟩
  unfold j_Md_puts
  rw [lq_e]
  exact f1.trans r1
theorem keep_model {M M' : Mem} (h : ∀ a i, a ≠ 328 → (a < 333 ∨ 338 < a) → gi M' a i = gi M a i) : Keep M M' := ⟨fun a i q => h a i (by omega) (by omega), fun a i q => h a i (by omega) (by omega), fun i _ => h 326 i (by omega) (by omega)⟩
/-- both sides place by a rule: what they leave -/
theorem rule_both {M : Mem} (h : Rel M) (rule : Bool) : ∃ nc nt O M1 M2, nc ≤ 6 ∧ RowOk (fun i => gi M 327 i) nc nt ∧ O < 2 ^ nt ∧ j_Fc_placeByRule (if rule = true then 1 else 0) M = some (if (putS rule (fun i => gi M 327 i) nc O 8).isSome = true then 1 else 0, M1) ∧ (∀ a i, (a < 299 ∨ 314 < a) → gi M1 a i = gi M a i) ∧ j_Md_puts (if rule = true then 1 else 0) M1 = some (if (putS rule (fun i => gi M 327 i) nc O 8).isSome = true then 1 else 0, M2) ∧ (∀ a i, a ≠ 335 → gi M2 a i = gi M1 a i) ∧ RM M1 (fun i => gi M 327 i) nc nt O ∧ (gi M 3 0 = nI nc ∧ gi M 327 4 = nI nc) ∧ ∀ P, putS rule (fun i => gi M 327 i) nc O 8 = some P → ∀ c, c < 6 → gi M1 314 c = nI (P c) ∧ gi M2 335 c = nI (P c) := by
  obtain ⟨nc, nt, nr, hD, hI⟩ := h.1
  have hR := iv_rowOk hI
  have hf : rowM M 327 0 = (fun i => gi M 327 i) := funext (row_at M)
  rw [hf] at hR
  have n6 := hI.1.1
  obtain ⟨O, hOe⟩ : ∃ O, O = openN M 327 nt := ⟨_, rfl⟩
  have hO : O < 2 ^ nt := by rw [hOe]; exact setN_lt _ nt
  obtain ⟨Ma, l1, l2, l3⟩ := rm_look hD hI
  rw [← hOe] at l3
  obtain ⟨M1, r1, r2, r3⟩ := rising_c (rule := rule) l3 hR hO
  have ef : (fun i => gi M1 327 i) = (fun i => gi M 327 i) := funext (fun i => (r2 327 i (by omega)).trans (l2 327 i (by omega)))
  have eo : O = openN M1 327 nt := by
    rw [hOe]
    unfold openN
    exact setN_cong nt (fun i _ => by rw [r2 327 _ (by omega), l2 327 _ (by omega)])
  obtain ⟨M2, p1, p2, p3⟩ := puts_m (rule := rule) (M := M1) (by rw [ef]; exact hR) n6 eo
  rw [ef] at p1 p3
  refine ⟨nc, nt, O, M1, M2, n6, hR, hO, ?_, fun a i ha => (r2 a i (by omega)).trans (l2 a i (by omega)), p1, p2, l3.cong (fun a i h1 h2 => r2 a i (by omega)), ⟨hD.1.1, hR.1.2.2.1⟩, fun P hP c hc => ⟨r3 P hP c hc, p3 P hP c hc⟩⟩
  have hg : isB (if (putS rule (fun i => gi M 327 i) nc O 8).isSome = true then (1 : Int32) else 0) = true := isB_01
  cases rule with
  | false =>
    have h01 : ¬ (0 : Int32) = 1 := by decide
    simp only [Bool.false_eq_true, if_false] at r1
    simp only [j_Fc_placeByRule, Fc_placeByRule_b25, l1, bd_some, Bool.false_eq_true, if_false, h01, r1, gd_t hg]
  | true =>
    simp only [if_true] at r1
    simp only [j_Fc_placeByRule, Fc_placeByRule_b25, l1, bd_some, if_true, r1, gd_t hg]
