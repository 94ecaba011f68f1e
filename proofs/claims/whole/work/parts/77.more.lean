theorem mn_le {a b : Int32} {x : Int} : (mn a b).toInt ≤ x ↔ (a.toInt ≤ x ∨ b.toInt ≤ x) := by
  unfold mn
  by_cases h : b < a
  · rw [if_pos h]
    rw [i32_lt] at h
    omega
  · rw [if_neg h]
    rw [i32_lt] at h
    omega
def needV (M : Mem) (ld sl : Int32) (v : Nat) : Int := (ld + sl * nI (cnt (fun i => v.testBit i) 8) + gi M 306 v).toInt
theorem rest_in {f : Nat → Int32} {nc nt O Sv : Nat} {ld sl : Int32} {M : Mem} (h : RM M f nc nt O) (hT : RT M f nc O (O + 1)) (hO : O < 256) : ∀ m u q y, u + m = O + 1 → m < q → 1 ≤ u → ∃ y', Reach_leastRest_h7 q (nI Sv) ld sl y (nI u) M = some (y', M) ∧ ∀ x : Int, y'.toInt ≤ x ↔ (y.toInt ≤ x ∨ ∃ v, u ≤ v ∧ sb v (O &&& Sv) ∧ Pf (Hr f nc O 63) 6 0 (O ^^^ v) ∧ needV M ld sl v ≤ x) := by
  have e63 : (63 : Int32) = nI 63 := rfl
  have hO1 : gi M 299 1 = nI O := h.1.2
  intro m
  induction m with
  | zero =>
    intro u q y hu hq h1
    obtain ⟨q, rfl⟩ : ∃ z, q = z + 1 := ⟨q - 1, by omega⟩
    have hlt : nI O < nI u := nI_lt (by omega) (by omega)
    refine ⟨y, by simp only [Reach_leastRest_h7, hO1, hlt, if_true], fun x => ⟨Or.inl, ?_⟩⟩
    rintro (g | ⟨v, g1, g2, _⟩)
    · exact g
    · have := Nat.le_trans (sb_le g2) Nat.and_le_left; omega
  | succ m ih =>
    intro u q y hu hq h1
    obtain ⟨q, rfl⟩ : ∃ z, q = z + 1 := ⟨q - 1, by omega⟩
    have hlt : ¬ nI O < nI u := nI_nlt (by omega) (by omega)
    have hskip : ¬ (sb u (O &&& Sv) ∧ Pf (Hr f nc O 63) 6 0 (O ^^^ u)) → ∀ y' : Int32, (∀ x : Int, y'.toInt ≤ x ↔ (y.toInt ≤ x ∨ ∃ v, u + 1 ≤ v ∧ sb v (O &&& Sv) ∧ Pf (Hr f nc O 63) 6 0 (O ^^^ v) ∧ needV M ld sl v ≤ x)) → ∀ x : Int, y'.toInt ≤ x ↔ (y.toInt ≤ x ∨ ∃ v, u ≤ v ∧ sb v (O &&& Sv) ∧ Pf (Hr f nc O 63) 6 0 (O ^^^ v) ∧ needV M ld sl v ≤ x) := by
      intro hn y' hy x
      rw [hy x]
      constructor
      · rintro (g | ⟨v, g1, g2⟩)
        · exact Or.inl g
        · exact Or.inr ⟨v, by omega, g2⟩
      · rintro (g | ⟨v, g1, g2, g3, g4⟩)
        · exact Or.inl g
        · by_cases hv : v = u
          · subst hv; exact absurd ⟨g2, g3⟩ hn
          · exact Or.inr ⟨v, by omega, g2, g3, g4⟩
    by_cases hsb : sb u (O &&& Sv)
    · have ha : (nI u &&& (nI (O &&& Sv) ^^^ (-1))) = 0 := (and_not0 (show u < 2 ^ 32 by omega)).mpr hsb
      have hsO : sb u O := sb_trans hsb (by rw [Nat.and_comm]; exact sb_and _ _)
      have hxs := sb_le (sb_xor hsO)
      have hpl := placed_c hT (sb_xor hsO) (show O ^^^ u < O + 1 by omega) (show O ^^^ u < 256 by omega) (show 63 < 64 by omega)
      by_cases hp : Pf (Hr f nc O 63) 6 0 (O ^^^ u)
      · obtain ⟨y', r1, r2⟩ := ih (u + 1) q (mn y (ld + sl * nI (cnt (fun i => u.testBit i) 8) + gi M 306 u)) (by omega) (by omega) (by omega)
        refine ⟨y', ?_, fun x => ?_⟩
        · rw [← r1]
          simp only [Reach_leastRest_h7, Reach_leastRest_b75, hO1, hlt, if_false, nI_and, ha, if_true, e63, nI_xor, hpl.1 hp, bd_some, z1, bc_eq, bc_val u (show u < 256 by omega), gd_t (inb_nI (show u < 256 by omega) (show 256 < 2 ^ 31 by omega)), ix_nI (show u < 2 ^ 31 by omega), lq_eq, nI_1]
        · rw [r2 x, mn_le]
          constructor
          · rintro ((g | g) | ⟨v, g1, g2⟩)
            · exact Or.inl g
            · exact Or.inr ⟨u, Nat.le_refl u, hsb, hp, g⟩
            · exact Or.inr ⟨v, by omega, g2⟩
          · rintro (g | ⟨v, g1, g2, g3, g4⟩)
            · exact Or.inl (Or.inl g)
            · by_cases hv : v = u
              · subst hv; exact Or.inl (Or.inr g4)
              · exact Or.inr ⟨v, by omega, g2, g3, g4⟩
      · obtain ⟨y', r1, r2⟩ := ih (u + 1) q y (by omega) (by omega) (by omega)
        refine ⟨y', ?_, hskip (fun z => hp z.2) y' r2⟩
        rw [← r1]
        simp only [Reach_leastRest_h7, Reach_leastRest_b75, hO1, hlt, if_false, nI_and, ha, if_true, e63, nI_xor, hpl.2 hp, bd_some, lq_eq, nI_1]
    · have ha : ¬ (nI u &&& (nI (O &&& Sv) ^^^ (-1))) = 0 := fun z => hsb ((and_not0 (show u < 2 ^ 32 by omega)).mp z)
      obtain ⟨y', r1, r2⟩ := ih (u + 1) q y (by omega) (by omega) (by omega)
      refine ⟨y', ?_, hskip (fun z => hsb z.1) y' r2⟩
      rw [← r1]
      simp only [Reach_leastRest_h7, Reach_leastRest_b75, hO1, hlt, if_false, nI_and, ha, lq_eq, nI_1]
theorem leftS_cong {f g : Nat → Int32} {c T : Nat} (h : ∀ i, (i = 0 ∨ (13 + 4 * c ≤ i ∧ i ≤ 13 + 4 * c + 2) ∨ (41 ≤ i ∧ i < 65)) → g i = f i) : ∀ k, k ≤ 8 → leftS g c T k = leftS f c T k ∧ okS g c T k = okS f c T k
  | 0, _ => by
    refine ⟨?_, rfl⟩
    simp only [leftS]
    rw [h _ (by omega), h _ (by omega), h _ (by omega), h _ (by omega)]
  | k + 1, hk => by
    have ih := leftS_cong (T := T) h k (by omega)
    refine ⟨?_, ?_⟩
    · simp only [leftS]
      rw [ih.1, h (41 + 3 * k + 1) (by omega), h (13 + 4 * c) (by omega)]
    · simp only [okS]
      rw [ih.2, h (41 + 3 * k) (by omega), h (13 + 4 * c) (by omega)]
theorem pf_congc {H G : Nat → Nat → Prop} : ∀ m c s, (∀ d t, c ≤ d → d < c + m → (H d t ↔ G d t)) → (Pf H m c s ↔ Pf G m c s)
  | 0, _, _, _ => Iff.rfl
  | m + 1, c, s, h => by
    constructor
    · rintro ⟨t, h1, h2, h3⟩
      exact ⟨t, h1, h2.imp id (h c t (Nat.le_refl c) (by omega)).mp, (pf_congc m (c + 1) _ (fun d t h1 h2 => h d t (by omega) (by omega))).mp h3⟩
    · rintro ⟨t, h1, h2, h3⟩
      exact ⟨t, h1, h2.imp id (h c t (Nat.le_refl c) (by omega)).mpr, (pf_congc m (c + 1) _ (fun d t h1 h2 => h d t (by omega) (by omega))).mpr h3⟩
theorem sumS_val {g : Nat → Int32} {s : Nat} (hg : ∀ t, s.testBit t = true → 1 ≤ (g t).toInt ∧ (g t).toInt ≤ 60) : ∀ k, k ≤ 8 → ∃ A : Nat, A ≤ 60 * k ∧ (sumS g s k).toInt = A ∧ ∀ t, t < k → s.testBit t = true → 1 ≤ A
  | 0, _ => ⟨0, by omega, by simp only [sumS]; exact t0, fun t ht => by omega⟩
  | k + 1, hk => by
    obtain ⟨A, h1, h2, h3⟩ := sumS_val hg k (by omega)
    by_cases hb : s.testBit k = true
    · have := hg k hb
      refine ⟨A + (g k).toInt.toNat, by omega, ?_, fun t _ _ => by omega⟩
      simp only [sumS, hb, if_true]
      rw [i32_add (by omega) (by omega), h2]
      omega
    · refine ⟨A, by omega, ?_, fun t ht hbt => ?_⟩
      · simp only [sumS, hb]
        first
          | exact h2
          | (rw [if_neg (by simp)]; first | exact h2 | (rw [Int32.add_zero]; exact h2))
      · by_cases htk : t = k
        · rw [htk] at hbt; exact absurd hbt hb
        · exact h3 t (by omega) hbt
theorem slate_mul (k : Int32) {n : Nat} (hn : n ≤ 8) : 0 ≤ (slateV k * nI n).toInt ∧ (slateV k * nI n).toInt ≤ 8 := by
  rcases slate_01 k with h | h
  · rw [h, Int32.zero_mul, t0]; omega
  · rw [h, Int32.one_mul, nI_toInt (by omega)]; omega
/-- a row with one can more, of kind k with x feet -/
def Add (f g : Nat → Int32) (nc : Nat) (k : Int32) (x : Nat) : Prop := (∀ i, i < 89 → i ≠ 4 → i ≠ 7 → (i < 13 + 4 * nc ∨ 13 + 4 * nc + 3 < i) → g i = f i) ∧ g 4 = nI (nc + 1) ∧ g (13 + 4 * nc) = k ∧ g (13 + 4 * nc + 1) = nI x ∧ g (13 + 4 * nc + 2) = 0
theorem add_row {f g : Nat → Int32} {nc nt x : Nat} {k : Int32} (hR : RowOk f nc nt) (n6 : nc ≤ 6) (hk : 1 ≤ k.toInt ∧ k.toInt ≤ 5) (hx : x ≤ 99) (h : Add f g nc k x) : RowOk g (nc + 1) nt ∧ Of g nt = Of f nt := by
  obtain ⟨a1, a2, a3, a4, a5⟩ := h
  obtain ⟨⟨n1, n2, n3, n4⟩, a, b, c⟩ := hR
  refine ⟨⟨⟨by omega, n2, a2, ?_⟩, ?_, fun j hj => ?_, fun j hj => ?_⟩, ?_⟩
  · rw [a1 5 (by omega) (by omega) (by omega) (by omega)]; exact n4
  · rw [a1 0 (by omega) (by omega) (by omega) (by omega)]; exact a
  · by_cases hjn : j = nc
    · rw [hjn, a3, a4, nI_toInt (by omega)]; omega
    · rw [a1 _ (by omega) (by omega) (by omega) (by omega), a1 _ (by omega) (by omega) (by omega) (by omega)]; exact b j (by omega)
  · rw [a1 _ (by omega) (by omega) (by omega) (by omega), a1 _ (by omega) (by omega) (by omega) (by omega)]; exact c j hj
  · exact setN_cong nt (fun i hi => by rw [a1 _ (by omega) (by omega) (by omega) (by omega)])
theorem more_iff {M : Mem} {f g : Nat → Int32} {nc nt O x T : Nat} {k : Int32} (h : RM M f nc nt O) (hR : RowOk f nc nt) (n6 : nc ≤ 6) (hO : O < 2 ^ nt) (hk : 1 ≤ k.toInt ∧ k.toInt ≤ 5) (hx : x ≤ 99) (hA : Add f g nc k x) (hT : sb T O) (hT0 : T ≠ 0) : Hf g (nc + 1) O nc T ↔ (sb T (O &&& setN (fun t => isOfV k (f (41 + 3 * t))) nt) ∧ needV M (leadV k (f 0)) (slateV k) T ≤ x) := by
  have n8 := hR.1.2.1
  obtain ⟨a1, a2, a3, a4, a5⟩ := hA
  have hT256 : T < 256 := Nat.lt_of_le_of_lt (sb_le hT) (Nat.lt_of_lt_of_le hO (two8 n8))
  have hl : leftS g nc T 8 = nI x - leadV k (f 0) - slateV k * nI (cnt (fun i => T.testBit i) 8) - sumS (fun t => f (41 + 3 * t + 1)) T 8 := by
    have := ends_left (f := g) (g := fun t => f (41 + 3 * t + 1)) (c := nc) (s := T) (fun t ht _ => (a1 _ (by omega) (by omega) (by omega) (by omega)).symm) 8 (Nat.le_refl 8)
    rw [this, a3, a4, a5, if_pos rfl, a1 0 (by omega) (by omega) (by omega) (by omega)]
  obtain ⟨A, s1, s2, _⟩ := sumS_val (g := fun t => f (41 + 3 * t + 1)) (s := T) (fun t ht => (hR.2.2.2 t (bitO hO hT ht)).2) 8 (Nat.le_refl 8)
  have hlead := lead_bound (k := k) hR.2.1
  have hsl := slate_mul k (cnt_le (fun i => T.testBit i) 8)
  have hnx : (nI x).toInt = x := nI_toInt (by omega)
  have e1 : (nI x - leadV k (f 0)).toInt = x - (leadV k (f 0)).toInt := by rw [i32_sub (by omega) (by omega), hnx]
  have e2 : (nI x - leadV k (f 0) - slateV k * nI (cnt (fun i => T.testBit i) 8)).toInt = x - (leadV k (f 0)).toInt - (slateV k * nI (cnt (fun i => T.testBit i) 8)).toInt := by rw [i32_sub (by omega) (by omega), e1]
  have e3 : (leftS g nc T 8).toInt = x - (leadV k (f 0)).toInt - (slateV k * nI (cnt (fun i => T.testBit i) 8)).toInt - A := by rw [hl, i32_sub (by omega) (by omega), e2, s2]
  have e4 : needV M (leadV k (f 0)) (slateV k) T = (leadV k (f 0)).toInt + (slateV k * nI (cnt (fun i => T.testBit i) 8)).toInt + A := by
    unfold needV
    rw [h.2.2.2.1 T hT256 hT, i32_add (by rw [i32_add (by omega) (by omega)]; omega) (by omega), i32_add (by omega) (by omega), s2]
  have hok : okS g nc T 8 = true ↔ sb T (O &&& setN (fun t => isOfV k (f (41 + 3 * t))) nt) := by
    rw [okS_iff]
    constructor
    · intro z
      apply sb_bit.mpr
      intro i hi
      have hn := bitO hO hT hi
      rw [Nat.testBit_and, setN_bit, Bool.and_eq_true, Bool.and_eq_true]
      refine ⟨sb_bit.mp hT i hi, by simpa using hn, ?_⟩
      have := z i (by omega) hi
      rw [a3, a1 _ (by omega) (by omega) (by omega) (by omega)] at this
      exact this
    · intro z t ht hb
      have := sb_bit.mp z t hb
      rw [Nat.testBit_and, setN_bit, Bool.and_eq_true, Bool.and_eq_true] at this
      rw [a3, a1 _ (by omega) (by omega) (by omega) (by omega)]
      exact this.2.2
  unfold Hf
  rw [e3, e4, hok]
  constructor
  · rintro ⟨_, _, _, _, z5, z6⟩
    exact ⟨z5, by omega⟩
  · rintro ⟨z1, z2⟩
    exact ⟨by omega, hT0, hT, by rw [a5]; decide, z1, by omega⟩
theorem more_pf {M : Mem} {f g : Nat → Int32} {nc nt O x : Nat} {k : Int32} (h : RM M f nc nt O) (hR : RowOk f nc nt) (n6 : nc ≤ 6) (hO : O < 2 ^ nt) (hk : 1 ≤ k.toInt ∧ k.toInt ≤ 5) (hx : x ≤ 99) (hA : Add f g nc k x) (hF : ¬ Pf (Ho f nc O 0) nc 0 O) : Pf (Ho g (nc + 1) O 0) (nc + 1) 0 O ↔ ∃ v, 1 ≤ v ∧ sb v (O &&& setN (fun t => isOfV k (f (41 + 3 * t))) nt) ∧ Pf (Hr f nc O 63) 6 0 (O ^^^ v) ∧ needV M (leadV k (f 0)) (slateV k) v ≤ x := by
  have hc : ∀ s, Pf (Hf g (nc + 1) O) nc 0 s ↔ Pf (Ho f nc O 0) nc 0 s := fun s => by
    rw [ho_0]
    refine pf_congc nc 0 s (fun d t _ hd => ?_)
    have hlc := leftS_cong (f := f) (g := g) (c := d) (T := t) (fun i hi => hA.1 i (by omega) (by omega) (by omega) (by omega)) 8 (Nat.le_refl 8)
    unfold Hf
    rw [hlc.1, hlc.2, hA.1 (13 + 4 * d + 2) (by omega) (by omega) (by omega) (by omega)]
    constructor
    · rintro ⟨z1, z⟩; exact ⟨by omega, z⟩
    · rintro ⟨z1, z⟩; exact ⟨by omega, z⟩
  rw [ho_0, pf_last]
  constructor
  · rintro ⟨T, h1, h2, h3⟩
    rw [Nat.zero_add] at h2
    rw [hc] at h3
    rcases h2 with h2 | h2
    · rw [h2, Nat.xor_zero] at h3
      exact absurd h3 hF
    · have hT0 := h2.2.1
      have z := (more_iff h hR n6 hO hk hx hA h1 hT0).mp h2
      exact ⟨T, by omega, z.1, (pf_63 n6).mpr h3, z.2⟩
  · rintro ⟨T, h0, h1, h2, h3⟩
    have hTO : sb T O := sb_trans h1 (by rw [Nat.and_comm]; exact sb_and _ _)
    refine ⟨T, hTO, Or.inr ?_, (hc _).mpr ((pf_63 n6).mp h2)⟩
    rw [Nat.zero_add]
    exact (more_iff h hR n6 hO hk hx hA hTO (by omega)).mpr ⟨h1, h3⟩
