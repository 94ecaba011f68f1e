/-- a row with nc cans and nt takes, as the reference's planning takes it -/
def RowOk (f : Nat → Int32) (nc nt : Nat) : Prop := (nc ≤ 7 ∧ nt ≤ 8 ∧ f 4 = nI nc ∧ f 5 = nI nt) ∧ (0 ≤ (f 0).toInt ∧ (f 0).toInt ≤ 9) ∧ (∀ c, c < nc → (1 ≤ (f (13 + 4 * c)).toInt ∧ (f (13 + 4 * c)).toInt ≤ 5) ∧ (0 ≤ (f (13 + 4 * c + 1)).toInt ∧ (f (13 + 4 * c + 1)).toInt ≤ 99)) ∧ (∀ t, t < nt → (0 ≤ (f (41 + 3 * t)).toInt ∧ (f (41 + 3 * t)).toInt ≤ 5) ∧ (1 ≤ (f (41 + 3 * t + 1)).toInt ∧ (f (41 + 3 * t + 1)).toInt ≤ 60))
theorem iv_rowOk {f : Nat → Int32} {nc nt nr : Nat} (h : Iv f nc nt nr) : RowOk f nc nt := by
  obtain ⟨⟨n1, n2, n3⟩, ⟨a1, a2, a3⟩, a4, a5, b1, b2, b3, b4⟩ := h
  exact ⟨⟨by omega, n2, a1, a2⟩, ⟨a4.1, a4.2.1⟩, fun c hc => ⟨(b1 c hc).1, (b1 c hc).2.1⟩, fun t ht => ⟨(b2 t ht).1, (b2 t ht).2.1⟩⟩
theorem i32_sub {a b : Int32} (ha : -1000000 ≤ a.toInt ∧ a.toInt ≤ 1000000) (hb : -1000000 ≤ b.toInt ∧ b.toInt ≤ 1000000) : (a - b).toInt = a.toInt - b.toInt := by
  rw [Int32.toInt_sub]
  simp only [Int.bmod]
  omega
theorem i32_add {a b : Int32} (ha : -1000000 ≤ a.toInt ∧ a.toInt ≤ 1000000) (hb : -1000000 ≤ b.toInt ∧ b.toInt ≤ 1000000) : (a + b).toInt = a.toInt + b.toInt := by
  rw [Int32.toInt_add]
  simp only [Int.bmod]
  omega
def lead0 (f : Nat → Int32) (c : Nat) : Int32 := if f (13 + 4 * c + 2) = 0 then leadV (f (13 + 4 * c)) (f 0) else 0
theorem lead0_bound {f : Nat → Int32} {c : Nat} (h0 : 0 ≤ (f 0).toInt ∧ (f 0).toInt ≤ 9) : 0 ≤ (lead0 f c).toInt ∧ (lead0 f c).toInt ≤ 18 := by
  unfold lead0
  by_cases h : f (13 + 4 * c + 2) = 0
  · rw [if_pos h]; exact lead_bound h0
  · rw [if_neg h, t0]; omega
theorem slate_01 (k : Int32) : slateV k = 0 ∨ slateV k = 1 := by
  unfold slateV
  by_cases h : k = 3
  · rw [if_pos h]; exact Or.inr rfl
  · rw [if_neg h]; exact Or.inl rfl
theorem left_val {f : Nat → Int32} {c s : Nat} (h0 : 0 ≤ (f 0).toInt ∧ (f 0).toInt ≤ 9) (hF : 0 ≤ (f (13 + 4 * c + 1)).toInt ∧ (f (13 + 4 * c + 1)).toInt ≤ 99) (ht : ∀ t, s.testBit t = true → 1 ≤ (f (41 + 3 * t + 1)).toInt ∧ (f (41 + 3 * t + 1)).toInt ≤ 60) : ∀ k, k ≤ 8 → ∃ A : Nat, A ≤ 61 * k ∧ (slateV (f (13 + 4 * c)) = 1 → cnt (fun i => s.testBit i) k ≤ A) ∧ (leftS f c s k).toInt = (f (13 + 4 * c + 1)).toInt - (lead0 f c).toInt - (A : Int)
  | 0, _ => by
    have hl := lead0_bound (c := c) h0
    refine ⟨0, by omega, fun _ => Nat.le_refl 0, ?_⟩
    have e : leftS f c s 0 = f (13 + 4 * c + 1) - lead0 f c := rfl
    rw [e, i32_sub (by omega) (by omega)]
    omega
  | k + 1, hk => by
    have hl := lead0_bound (c := c) h0
    have hsl := slate_bound (f (13 + 4 * c))
    obtain ⟨A, h1, h2, h3⟩ := left_val h0 hF ht k (by omega)
    by_cases hb : s.testBit k = true
    · have htk := ht k hb
      have ha : (f (41 + 3 * k + 1) + slateV (f (13 + 4 * c))).toInt = (f (41 + 3 * k + 1)).toInt + (slateV (f (13 + 4 * c))).toInt := i32_add (by omega) (by omega)
      refine ⟨A + ((f (41 + 3 * k + 1)).toInt + (slateV (f (13 + 4 * c))).toInt).toNat, by omega, fun q => ?_, ?_⟩
      · have := h2 q
        rw [q, t1]
        simp only [cnt, hb, if_true]
        omega
      · simp only [leftS, hb, if_true]
        rw [i32_sub (by omega) (by omega), h3, ha]
        omega
    · refine ⟨A, by omega, fun q => ?_, ?_⟩
      · have := h2 q
        simp only [cnt, hb]
        exact this
      · simp only [leftS, hb]
        exact h3
def lossV (f : Nat → Int32) (c s : Nat) : Int32 := (lead0 f c + nI (cnt (fun i => s.testBit i) 8) * slateV (f (13 + 4 * c))) + (if keptV (f (13 + 4 * c)) (f 1) (leftS f c s 8) = true then 0 else leftS f c s 8)
theorem loss_val {f : Nat → Int32} {c s : Nat} (h0 : 0 ≤ (f 0).toInt ∧ (f 0).toInt ≤ 9) (hF : 0 ≤ (f (13 + 4 * c + 1)).toInt ∧ (f (13 + 4 * c + 1)).toInt ≤ 99) (ht : ∀ t, s.testBit t = true → 1 ≤ (f (41 + 3 * t + 1)).toInt ∧ (f (41 + 3 * t + 1)).toInt ≤ 60) (hp : 0 ≤ (leftS f c s 8).toInt) : (0 ≤ (lossV f c s).toInt ∧ (lossV f c s).toInt ≤ 99) ∧ (leftS f c s 8).toInt ≤ 99 := by
  have hl := lead0_bound (c := c) h0
  obtain ⟨A, h1, h2, h3⟩ := left_val h0 hF ht 8 (by omega)
  have hc8 := cnt_le (fun i => s.testBit i) 8
  have hn : (nI (cnt (fun i => s.testBit i) 8) * slateV (f (13 + 4 * c))).toInt ≤ A ∧ 0 ≤ (nI (cnt (fun i => s.testBit i) 8) * slateV (f (13 + 4 * c))).toInt := by
    rcases slate_01 (f (13 + 4 * c)) with hs | hs
    · rw [hs, Int32.mul_zero, t0]; omega
    · rw [hs, Int32.mul_one, nI_toInt (by omega)]
      have := h2 hs
      omega
  have hm : (lead0 f c + nI (cnt (fun i => s.testBit i) 8) * slateV (f (13 + 4 * c))).toInt = (lead0 f c).toInt + (nI (cnt (fun i => s.testBit i) 8) * slateV (f (13 + 4 * c))).toInt := i32_add (by omega) (by omega)
  refine ⟨?_, by omega⟩
  unfold lossV
  by_cases hk : keptV (f (13 + 4 * c)) (f 1) (leftS f c s 8) = true
  · rw [if_pos hk, i32_add (by omega) (by rw [t0]; omega), t0, hm]
    omega
  · rw [if_neg hk, i32_add (by omega) (by omega), hm]
    omega
def lf (f : Nat → Int32) (c s : Nat) : Nat := (lossV f c s).toInt.toNat
theorem i32_nat {x : Int32} (h : 0 ≤ x.toInt) : x = nI x.toInt.toNat := by
  have := Int32.toInt_lt x
  apply Int32.toInt_inj.mp
  rw [nI_toInt (by omega)]
  omega
/-- can c (one of nc, not used up) holds the takes of v, all of them in O -/
def Hf (f : Nat → Int32) (nc O c v : Nat) : Prop := c < nc ∧ v ≠ 0 ∧ sb v O ∧ ¬ f (13 + 4 * c + 2) = 2 ∧ okS f c v 8 = true ∧ 0 ≤ (leftS f c v 8).toInt
def wf (f : Nat → Int32) (c s : Nat) : Nat := 16 * lf f c s + 1
theorem bitO {O nt v t : Nat} (hO : O < 2 ^ nt) (hv : sb v O) (ht : v.testBit t = true) : t < nt := bit_lt hO (sb_bit.mp hv t ht)
theorem hf_w {f : Nat → Int32} {nc nt O : Nat} (hR : RowOk f nc nt) (hO : O < 2 ^ nt) (c v : Nat) (h : Hf f nc O c v) : wf f c v ≤ 1585 ∧ wf f c v % 16 = 1 ∧ lossV f c v = nI (lf f c v) ∧ lf f c v ≤ 99 := by
  obtain ⟨h1, h2, h3, h4, h5, h6⟩ := h
  have := (loss_val hR.2.1 (hR.2.2.1 c h1).2 (fun t ht => (hR.2.2.2 t (bitO hO h3 ht)).2) h6).1
  unfold wf
  have e := i32_nat this.1
  have hb : lf f c v ≤ 99 := by unfold lf; omega
  exact ⟨by omega, by omega, e, hb⟩
theorem leftV_neg {f : Nat → Int32} {nc O c v : Nat} (h1 : c < nc) (h2 : v ≠ 0) (h3 : sb v O) (h4 : ¬ f (13 + 4 * c + 2) = 2) : (leftV f c v < 0) ↔ ¬ Hf f nc O c v := by
  unfold leftV Hf
  by_cases ho : okS f c v 8 = true
  · rw [if_pos ho, i32_lt, t0]
    constructor
    · rintro q ⟨_, _, _, _, _, q6⟩; omega
    · intro q
      apply Classical.byContradiction
      intro z
      exact q ⟨h1, h2, h3, h4, ho, by omega⟩
  · rw [if_neg ho]
    constructor
    · rintro _ ⟨_, _, _, _, q5, _⟩; exact ho q5
    · intro _; decide
theorem lossOf_m {a c s : Nat} {M : Mem} (hc : c < 7) (hs : s < 256) (h0 : s ≠ 0) (hk : 1 ≤ (gi M a (13 + 4 * c)).toInt ∧ (gi M a (13 + 4 * c)).toInt ≤ 5) (ht : ∀ t, s.testBit t = true → 0 ≤ (gi M a (41 + 3 * t)).toInt ∧ (gi M a (41 + 3 * t)).toInt ≤ 5) (ho : okS (fun i => gi M a i) c s 8 = true) : j_Md_lossOf a (nI c) (nI s) M = some (lossV (fun i => gi M a i) c s, M) := by
  have hl := left_m hc hs h0 hk ht
  have hn0 : ¬ nI s = 0 := by rw [nI_eq0 (by omega)]; exact h0
  have e : leftV (fun i => gi M a i) c s = leftS (fun i => gi M a i) c s 8 := if_pos ho
  rw [e] at hl
  unfold lossV lead0
  by_cases hw : gi M a (13 + 4 * c + 2) = 0
  · by_cases hkp : keptV (gi M a (13 + 4 * c)) (gi M a 1) (leftS (fun i => gi M a i) c s 8) = true
    · simp only [j_Md_lossOf, Md_lossOf_b30, hn0, if_false, hl, bd_some, md_where hc, hw, if_true, md_lead hc, ones_eq hs, md_slate hc, md_isKept hc, hkp, z1]
    · simp only [j_Md_lossOf, Md_lossOf_b30, hn0, if_false, hl, bd_some, md_where hc, hw, if_true, md_lead hc, ones_eq hs, md_slate hc, md_isKept hc, hkp, z0, Bool.false_eq_true]
  · by_cases hkp : keptV (gi M a (13 + 4 * c)) (gi M a 1) (leftS (fun i => gi M a i) c s 8) = true
    · simp only [j_Md_lossOf, Md_lossOf_b30, hn0, if_false, hl, bd_some, md_where hc, hw, if_true, md_lead hc, ones_eq hs, md_slate hc, md_isKept hc, hkp, z1]
    · simp only [j_Md_lossOf, Md_lossOf_b30, hn0, if_false, hl, bd_some, md_where hc, hw, if_true, md_lead hc, ones_eq hs, md_slate hc, md_isKept hc, hkp, z0, Bool.false_eq_true]
