theorem nI_mn {a b : Nat} (ha : a < 2 ^ 31) (hb : b < 2 ^ 31) : mn (nI a) (nI b) = nI (min a b) := by
  simp only [mn, nI_ltI hb ha]
  by_cases h : b < a
  · rw [if_pos h, Nat.min_eq_right (by omega)]
  · rw [if_neg h, Nat.min_eq_left (by omega)]
set_option maxRecDepth 20000 in
theorem low_val : ∀ s, s < 256 → s ≠ 0 → (nI s &&& (-(nI s))) = nI (2 ^ (fst1 (fun i => s.testBit i) 8 0)) ∧ s.testBit (fst1 (fun i => s.testBit i) 8 0) = true ∧ fst1 (fun i => s.testBit i) 8 0 < 8 := by decide +kernel
theorem or_low {s e v : Nat} (he : s.testBit e = true) (hv : sb v (s ^^^ 2 ^ e)) : sb (2 ^ e) s ∧ sb (v ||| 2 ^ e) s ∧ (v ||| 2 ^ e).testBit e = true ∧ v.testBit e = false := by
  have h1 : sb (2 ^ e) s := sb_bit.mpr (fun i hi => by
    rw [Nat.testBit_two_pow] at hi
    have : e = i := by simpa using hi
    rw [← this]; exact he)
  have h2 : sb v s := sb_trans hv (sb_xor h1)
  refine ⟨h1, sb_bit.mpr (fun i hi => ?_), ?_, ?_⟩
  · rw [Nat.testBit_or, Bool.or_eq_true] at hi
    rcases hi with hi | hi
    · exact sb_bit.mp h2 i hi
    · exact sb_bit.mp h1 i hi
  · rw [Nat.testBit_or, Nat.testBit_two_pow]; simp
  · cases hv2 : v.testBit e
    · rfl
    · have := sb_bit.mp hv e hv2
      rw [xor_bit h1, Nat.testBit_two_pow] at this
      simp at this
/-- which sets that hold the lowest roll and another are batches -/
theorem bt_low {law : Int32} {f g : Nat → Int32} {nr s e v : Nat} (hn : nr ≤ 8) (hs : s < 2 ^ nr) (hg : ∀ i, i < nr → g i = 0 ∨ g i = 1) (he : s.testBit e = true) (hv : sb v (s ^^^ 2 ^ e)) (hv0 : v ≠ 0) : Bt law f g (v ||| 2 ^ e) ↔ (((v ||| 2 ^ e) &&& setN (fun i => decide (g i = 1)) nr = 0 ∨ (v ||| 2 ^ e) &&& setN (fun i => decide (g i = 1)) nr = v ||| 2 ^ e) ∧ ¬ law < sumS f (v ||| 2 ^ e) 8) := by
  obtain ⟨h1, h2, h3, h4⟩ := or_low he hv
  have hxl : v ||| 2 ^ e < 2 ^ nr := Nat.lt_of_le_of_lt (sb_le h2) hs
  have hbit : ∀ i, (v ||| 2 ^ e).testBit i = true → i < nr := fun i hi => bit_lt hxl hi
  obtain ⟨j, hj⟩ : ∃ j, v.testBit j = true := by
    apply Classical.byContradiction
    intro hno
    apply hv0
    apply Nat.eq_of_testBit_eq
    intro i
    rw [Nat.zero_testBit]
    cases hvi : v.testBit i
    · rfl
    · exact absurd ⟨i, hvi⟩ hno
  have hnot : ¬ ∃ k, v ||| 2 ^ e = 2 ^ k := by
    rintro ⟨k, hk⟩
    have q1 : (2 ^ k).testBit e = true := by rw [← hk]; exact h3
    have q2 : (2 ^ k).testBit j = true := by rw [← hk, Nat.testBit_or, hj]; rfl
    rw [Nat.testBit_two_pow] at q1 q2
    have a1 : k = e := by simpa using q1
    have a2 : k = j := by simpa using q2
    rw [← a2, a1, h4] at hj
    cases hj
  have u0 : ((v ||| 2 ^ e) &&& setN (fun i => decide (g i = 1)) nr = 0) ↔ ¬ famS g 1 (v ||| 2 ^ e) := by
    constructor
    · rintro hz ⟨i, i1, i2, i3⟩
      have : ((v ||| 2 ^ e) &&& setN (fun i => decide (g i = 1)) nr).testBit i = true := by
        rw [Nat.testBit_and, setN_bit, i2]; simp [hbit i i2, i3]
      rw [hz, Nat.zero_testBit] at this
      cases this
    · intro hno
      apply Nat.eq_of_testBit_eq
      intro i
      rw [Nat.zero_testBit, Nat.testBit_and, setN_bit]
      cases hx : (v ||| 2 ^ e).testBit i
      · rfl
      · by_cases hgi : g i = 1
        · exact absurd ⟨i, Nat.lt_of_lt_of_le (hbit i hx) hn, hx, hgi⟩ hno
        · simp [hgi]
  have u1 : ((v ||| 2 ^ e) &&& setN (fun i => decide (g i = 1)) nr = v ||| 2 ^ e) ↔ ¬ famS g 0 (v ||| 2 ^ e) := by
    constructor
    · rintro hz ⟨i, i1, i2, i3⟩
      have : ((v ||| 2 ^ e) &&& setN (fun i => decide (g i = 1)) nr).testBit i = true := by rw [hz]; exact i2
      rw [Nat.testBit_and, setN_bit, i3] at this
      simp at this
    · intro hno
      apply Nat.eq_of_testBit_eq
      intro i
      rw [Nat.testBit_and, setN_bit]
      cases hx : (v ||| 2 ^ e).testBit i
      · rfl
      · rcases hg i (hbit i hx) with hgi | hgi
        · exact absurd ⟨i, Nat.lt_of_lt_of_le (hbit i hx) hn, hx, hgi⟩ hno
        · simp [hgi, hbit i hx]
  rw [u0, u1]
  unfold Bt
  constructor
  · rintro (q | ⟨q1, q2⟩)
    · exact absurd q hnot
    · refine ⟨?_, q2⟩
      by_cases c : famS g 1 (v ||| 2 ^ e)
      · exact Or.inr (fun c0 => q1 ⟨c0, c⟩)
      · exact Or.inl c
  · rintro ⟨q1, q2⟩
    right
    refine ⟨fun ⟨c0, c1⟩ => ?_, q2⟩
    rcases q1 with q | q
    · exact q c1
    · exact q c0
/-- the class's search over the sets that hold the lowest roll -/
theorem low_in {s e nr : Nat} {law : Int32} {f g : Nat → Int32} {M : Mem} {B : Nat → Prop} (hBdef : B = Bt law f g) (hn : nr ≤ 8) (hs : s < 2 ^ nr) (he : s.testBit e = true) (hg : ∀ i, i < nr → g i = 0 ∨ g i = 1) (hS : ∀ w, w < 2 ^ nr → gi M 297 w = sumS f w 8) (hW : ∀ v, v < s → gi M 298 v = nI (Wf B v) ∧ Wf B v ≤ 8) : ∀ u q b, u < q → sb u (s ^^^ 2 ^ e) → b ≤ 9 → ∃ b', Lab_leastOf_h27 q (nI s) (nI (setN (fun i => decide (g i = 1)) nr)) law (nI (2 ^ e)) (nI (s ^^^ 2 ^ e)) (nI b) (nI u) M = some (nI b', M) ∧ b' ≤ b ∧ (∀ v, sb v (s ^^^ 2 ^ e) → v ≠ 0 → v ≤ u → B (v ||| 2 ^ e) → b' ≤ Wf B (s ^^^ (v ||| 2 ^ e)) + 1) ∧ (b' = b ∨ ∃ v, sb v (s ^^^ 2 ^ e) ∧ v ≠ 0 ∧ B (v ||| 2 ^ e) ∧ b' = Wf B (s ^^^ (v ||| 2 ^ e)) + 1) := by
  have h256 := two8 hn
  intro u
  induction u using Nat.strongRecOn with
  | ind u ih =>
    intro q b hq hu hb
    obtain ⟨q, rfl⟩ : ∃ z, q = z + 1 := ⟨q - 1, by omega⟩
    by_cases hu0 : u = 0
    · subst hu0
      have c0 : ¬ (0 : Int32) < nI 0 := by decide
      refine ⟨b, ?_, Nat.le_refl _, fun v _ h1 h2 _ => absurd (Nat.le_zero.mp h2) h1, Or.inl rfl⟩
      simp only [Lab_leastOf_h27, c0, if_false]
    · obtain ⟨o1, o2, o3, o4⟩ := or_low he hu
      have hle := sb_le hu
      have hle2 := sb_le (sb_xor o1)
      have hX0 : u ||| 2 ^ e ≠ 0 := fun c => by rw [c] at o3; simp at o3
      have hXs := sb_le o2
      have hXX := xor_lt o2 hX0
      have c0 : (0 : Int32) < nI u := nI_lt (a := 0) (by omega) (by omega)
      have hnx : (u - 1) &&& (s ^^^ 2 ^ e) < u := by have := Nat.and_le_left (n := u - 1) (m := s ^^^ 2 ^ e); omega
      have hpred : (nI u - 1) &&& nI (s ^^^ 2 ^ e) = nI ((u - 1) &&& (s ^^^ 2 ^ e)) := by rw [nI_pred1 (by omega), nI_and]
      have hbt := bt_low (law := law) (f := f) hn hs hg he hu hu0
      rw [← hBdef] at hbt
      have go : ∀ b2, b2 ≤ b → (B (u ||| 2 ^ e) → b2 ≤ Wf B (s ^^^ (u ||| 2 ^ e)) + 1) → (b2 = b ∨ (B (u ||| 2 ^ e) ∧ b2 = Wf B (s ^^^ (u ||| 2 ^ e)) + 1)) → ∃ b', Lab_leastOf_h27 q (nI s) (nI (setN (fun i => decide (g i = 1)) nr)) law (nI (2 ^ e)) (nI (s ^^^ 2 ^ e)) (nI b2) (nI ((u - 1) &&& (s ^^^ 2 ^ e))) M = some (nI b', M) ∧ b' ≤ b ∧ (∀ v, sb v (s ^^^ 2 ^ e) → v ≠ 0 → v ≤ u → B (v ||| 2 ^ e) → b' ≤ Wf B (s ^^^ (v ||| 2 ^ e)) + 1) ∧ (b' = b ∨ ∃ v, sb v (s ^^^ 2 ^ e) ∧ v ≠ 0 ∧ B (v ||| 2 ^ e) ∧ b' = Wf B (s ^^^ (v ||| 2 ^ e)) + 1) := by
        intro b2 g1 g4 g5
        obtain ⟨b', k1, k4, k5, k6⟩ := ih _ hnx q b2 (by omega) (sb_and _ _) (by omega)
        refine ⟨b', k1, by omega, fun v v1 v2 v3 v4 => ?_, ?_⟩
        · by_cases hvu : v = u
          · subst hvu; have := g4 v4; omega
          · exact k5 v v1 v2 (sb_next u _ v hu v1 (by omega)) v4
        · rcases k6 with k6 | k6
          · rcases g5 with g5 | ⟨g5, g6⟩
            · left; omega
            · right; exact ⟨u, hu, hu0, g5, by omega⟩
          · exact Or.inr k6
      have x1 := inb_nI (show u ||| 2 ^ e < 256 by omega) (show 256 < 2 ^ 31 by omega)
      have x2 := ix_nI (show u ||| 2 ^ e < 2 ^ 31 by omega)
      have x3 := inb_nI (show s ^^^ (u ||| 2 ^ e) < 256 by omega) (show 256 < 2 ^ 31 by omega)
      have x4 := ix_nI (show s ^^^ (u ||| 2 ^ e) < 2 ^ 31 by omega)
      have hS1 := hS (u ||| 2 ^ e) (by omega)
      have hW1 := hW _ hXX
      have i1 : (1 : Int32) + nI (Wf B (s ^^^ (u ||| 2 ^ e))) = nI (Wf B (s ^^^ (u ||| 2 ^ e)) + 1) := by rw [Int32.add_comm, nI_1]
      have e0 : ∀ w, (nI w = (0 : Int32)) = (nI w = nI 0) := fun _ => rfl
      have hand := Nat.and_le_left (n := u ||| 2 ^ e) (m := setN (fun i => decide (g i = 1)) nr)
      have q0 : (nI ((u ||| 2 ^ e) &&& setN (fun i => decide (g i = 1)) nr) = 0) = ((u ||| 2 ^ e) &&& setN (fun i => decide (g i = 1)) nr = 0) := by rw [e0, nI_eq (by omega) (by omega)]
      have q1 : (nI ((u ||| 2 ^ e) &&& setN (fun i => decide (g i = 1)) nr) = nI (u ||| 2 ^ e)) = ((u ||| 2 ^ e) &&& setN (fun i => decide (g i = 1)) nr = u ||| 2 ^ e) := by rw [nI_eq (by omega) (by omega)]
      -- one step
      have step0 : ∀ R, (((u ||| 2 ^ e) &&& setN (fun i => decide (g i = 1)) nr = 0 ∨ (u ||| 2 ^ e) &&& setN (fun i => decide (g i = 1)) nr = u ||| 2 ^ e) → Lab_leastOf_b57 (fun x1 x2 x3 x4 x5 x6 x7 M => Lab_leastOf_h27 q x1 x2 x3 x4 x5 x6 x7 M) (nI s) (nI (setN (fun i => decide (g i = 1)) nr)) law (nI (2 ^ e)) (nI (s ^^^ 2 ^ e)) (nI b) (nI u) (nI (u ||| 2 ^ e)) M = R) → (¬ ((u ||| 2 ^ e) &&& setN (fun i => decide (g i = 1)) nr = 0 ∨ (u ||| 2 ^ e) &&& setN (fun i => decide (g i = 1)) nr = u ||| 2 ^ e) → Lab_leastOf_b62 (fun x1 x2 x3 x4 x5 x6 x7 M => Lab_leastOf_h27 q x1 x2 x3 x4 x5 x6 x7 M) (nI s) (nI (setN (fun i => decide (g i = 1)) nr)) law (nI (2 ^ e)) (nI (s ^^^ 2 ^ e)) (nI b) (nI u) (nI (u ||| 2 ^ e)) 0 M = R) → Lab_leastOf_h27 (q + 1) (nI s) (nI (setN (fun i => decide (g i = 1)) nr)) law (nI (2 ^ e)) (nI (s ^^^ 2 ^ e)) (nI b) (nI u) M = R := by
        intro R hy hno
        simp only [Lab_leastOf_h27, c0, if_true, nI_or, lq_eq, nI_and, q0, q1]
        by_cases c1 : (u ||| 2 ^ e) &&& setN (fun i => decide (g i = 1)) nr = 0
        · rw [if_pos c1]; exact hy (Or.inl c1)
        · rw [if_neg c1]
          by_cases c2 : (u ||| 2 ^ e) &&& setN (fun i => decide (g i = 1)) nr = u ||| 2 ^ e
          · rw [if_pos c2]; exact hy (Or.inr c2)
          · rw [if_neg c2]; exact hno (fun c => c.elim c1 c2)
      have keepB : ¬ B (u ||| 2 ^ e) → ∃ b', Lab_leastOf_h27 q (nI s) (nI (setN (fun i => decide (g i = 1)) nr)) law (nI (2 ^ e)) (nI (s ^^^ 2 ^ e)) (nI b) (nI ((u - 1) &&& (s ^^^ 2 ^ e))) M = some (nI b', M) ∧ b' ≤ b ∧ (∀ v, sb v (s ^^^ 2 ^ e) → v ≠ 0 → v ≤ u → B (v ||| 2 ^ e) → b' ≤ Wf B (s ^^^ (v ||| 2 ^ e)) + 1) ∧ (b' = b ∨ ∃ v, sb v (s ^^^ 2 ^ e) ∧ v ≠ 0 ∧ B (v ||| 2 ^ e) ∧ b' = Wf B (s ^^^ (v ||| 2 ^ e)) + 1) := fun hBu => go b (Nat.le_refl _) (fun c => absurd c hBu) (Or.inl rfl)
      by_cases hU : (u ||| 2 ^ e) &&& setN (fun i => decide (g i = 1)) nr = 0 ∨ (u ||| 2 ^ e) &&& setN (fun i => decide (g i = 1)) nr = u ||| 2 ^ e
      · by_cases hL : law < sumS f (u ||| 2 ^ e) 8
        · obtain ⟨b', r1, r2⟩ := keepB (fun c => (hbt.mp c).2 hL)
          refine ⟨b', ?_, r2⟩
          refine step0 _ (fun _ => ?_) (fun c => absurd hU c)
          rw [← r1]
          simp only [Lab_leastOf_b57, Lab_leastOf_b62, Lab_leastOf_b98, z1, if_false, gd_t x1, x2, hS1, hL, if_true, lq_eq, hpred]
        · have hBu : B (u ||| 2 ^ e) := hbt.mpr ⟨hU, hL⟩
          obtain ⟨b', r1, r2⟩ := go (min b (Wf B (s ^^^ (u ||| 2 ^ e)) + 1)) (by omega) (fun _ => by omega) (by
            by_cases c : b ≤ Wf B (s ^^^ (u ||| 2 ^ e)) + 1
            · left; omega
            · right; exact ⟨hBu, by omega⟩)
          refine ⟨b', ?_, r2⟩
          refine step0 _ (fun _ => ?_) (fun c => absurd hU c)
          rw [← r1]
          simp only [Lab_leastOf_b57, Lab_leastOf_b62, Lab_leastOf_b98, z1, if_false, gd_t x1, x2, hS1, hL, nI_xor, gd_t x3, x4, hW1.1, i1, nI_mn (show b < 2 ^ 31 by omega) (show Wf B (s ^^^ (u ||| 2 ^ e)) + 1 < 2 ^ 31 by omega), lq_eq, hpred]
      · obtain ⟨b', r1, r2⟩ := keepB (fun c => hU (hbt.mp c).1)
        refine ⟨b', ?_, r2⟩
        refine step0 _ (fun c => absurd c hU) (fun _ => ?_)
        rw [← r1]
        simp only [Lab_leastOf_b62, Lab_leastOf_b98, z0, if_true, lq_eq, hpred]
