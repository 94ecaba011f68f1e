theorem mx_le {a b : Int32} {x : Int} : x ≤ (mx a b).toInt ↔ (x ≤ a.toInt ∨ x ≤ b.toInt) := by
  unfold mx
  by_cases h : a < b
  · rw [if_pos h]
    rw [i32_lt] at h
    omega
  · rw [if_neg h]
    rw [i32_lt] at h
    omega
def longV (M : Mem) (t k v : Nat) : Int := (gi M (308 + k) (v ||| 2 ^ t) + gi M 306 (2 ^ t)).toInt
theorem lon_in {f : Nat → Int32} {nc O k t rest : Nat} {M : Mem} (hT : RT M f nc O (O + 1)) (hO : O < 256) (hk : k < 6) (ht : t < 8) (hr : sb rest O) (hr2 : ∀ v, sb v rest → v ||| 2 ^ t < 256) : ∀ m u q y, u + m = rest + 1 → m < q → ∃ y', Reach_longestOn_h6 q (nI k) (nI (2 ^ t)) (nI rest) y (nI u) M = some (y', M) ∧ ∀ x : Int, x ≤ y'.toInt ↔ (x ≤ y.toInt ∨ ∃ v, u ≤ v ∧ sb v rest ∧ Pf (Hr f nc O (63 ^^^ 2 ^ k)) 6 0 (rest ^^^ v) ∧ x ≤ longV M t k v) := by
  have e63 : (63 : Int32) = nI 63 := rfl
  have h2t : 2 ^ t < 256 := Nat.lt_of_lt_of_le (Nat.pow_lt_pow_right (by omega) ht) (by decide)
  have hrl := sb_le hr
  intro m
  induction m with
  | zero =>
    intro u q y hu hq
    obtain ⟨q, rfl⟩ : ∃ z, q = z + 1 := ⟨q - 1, by omega⟩
    have hlt : nI rest < nI u := nI_lt (by omega) (by omega)
    refine ⟨y, by simp only [Reach_longestOn_h6, hlt, if_true], fun x => ⟨Or.inl, ?_⟩⟩
    rintro (g | ⟨v, g1, g2, _⟩)
    · exact g
    · have := sb_le g2; omega
  | succ m ih =>
    intro u q y hu hq
    obtain ⟨q, rfl⟩ : ∃ z, q = z + 1 := ⟨q - 1, by omega⟩
    have hlt : ¬ nI rest < nI u := nI_nlt (by omega) (by omega)
    have hskip : ¬ (sb u rest ∧ Pf (Hr f nc O (63 ^^^ 2 ^ k)) 6 0 (rest ^^^ u)) → ∀ y' : Int32, (∀ x : Int, x ≤ y'.toInt ↔ (x ≤ y.toInt ∨ ∃ v, u + 1 ≤ v ∧ sb v rest ∧ Pf (Hr f nc O (63 ^^^ 2 ^ k)) 6 0 (rest ^^^ v) ∧ x ≤ longV M t k v)) → ∀ x : Int, x ≤ y'.toInt ↔ (x ≤ y.toInt ∨ ∃ v, u ≤ v ∧ sb v rest ∧ Pf (Hr f nc O (63 ^^^ 2 ^ k)) 6 0 (rest ^^^ v) ∧ x ≤ longV M t k v) := by
      intro hn y' hy x
      rw [hy x]
      constructor
      · rintro (g | ⟨v, g1, g2⟩)
        · exact Or.inl g
        · exact Or.inr ⟨v, by omega, g2⟩
      · rintro (g | ⟨v, g1, g2, g3, g4⟩)
        · exact Or.inl g
        · by_cases hv : v = u
          · subst hv; exact absurd ⟨g2, g3⟩ hn
          · exact Or.inr ⟨v, by omega, g2, g3, g4⟩
    by_cases hsb : sb u rest
    · have ha : (nI u &&& (nI rest ^^^ (-1))) = 0 := (and_not0 (show u < 2 ^ 32 by omega)).mpr hsb
      have hxs := sb_le (sb_xor hsb)
      have hpl := placed_c hT (sb_trans (sb_xor hsb) hr) (show rest ^^^ u < O + 1 by omega) (show rest ^^^ u < 256 by omega) (x64 (show 63 < 64 by omega) hk)
      by_cases hp : Pf (Hr f nc O (63 ^^^ 2 ^ k)) 6 0 (rest ^^^ u)
      · obtain ⟨y', r1, r2⟩ := ih (u + 1) q (mx y (gi M (308 + k) (u ||| 2 ^ t) + gi M 306 (2 ^ t))) (by omega) (by omega)
        refine ⟨y', ?_, fun x => ?_⟩
        · rw [← r1]
          simp only [Reach_longestOn_h6, Reach_longestOn_b65, hlt, if_false, ha, if_true, e63, shl_bit k (show k < 8 by omega), nI_xor, hpl.1 hp, bd_some, z1, nI_or, gd_t (inb_nI hk (show 6 < 2 ^ 31 by omega)), gd_t (inb_nI (hr2 u hsb) (show 256 < 2 ^ 31 by omega)), gd_t (inb_nI h2t (show 256 < 2 ^ 31 by omega)), ix_nI (show k < 2 ^ 31 by omega), ix_nI (show u ||| 2 ^ t < 2 ^ 31 by have := hr2 u hsb; omega), ix_nI (show 2 ^ t < 2 ^ 31 by omega), lq_eq, nI_1]
        · rw [r2 x, mx_le]
          constructor
          · rintro ((g | g) | ⟨v, g1, g2⟩)
            · exact Or.inl g
            · exact Or.inr ⟨u, Nat.le_refl u, hsb, hp, g⟩
            · exact Or.inr ⟨v, by omega, g2⟩
          · rintro (g | ⟨v, g1, g2, g3, g4⟩)
            · exact Or.inl (Or.inl g)
            · by_cases hv : v = u
              · subst hv; exact Or.inl (Or.inr g4)
              · exact Or.inr ⟨v, by omega, g2, g3, g4⟩
      · obtain ⟨y', r1, r2⟩ := ih (u + 1) q y (by omega) (by omega)
        refine ⟨y', ?_, hskip (fun z => hp z.2) y' r2⟩
        rw [← r1]
        simp only [Reach_longestOn_h6, Reach_longestOn_b65, hlt, if_false, ha, if_true, e63, shl_bit k (show k < 8 by omega), nI_xor, hpl.2 hp, bd_some, lq_eq, nI_1]
    · have ha : ¬ (nI u &&& (nI rest ^^^ (-1))) = 0 := fun z => hsb ((and_not0 (show u < 2 ^ 32 by omega)).mp z)
      obtain ⟨y', r1, r2⟩ := ih (u + 1) q y (by omega) (by omega)
      refine ⟨y', ?_, hskip (fun z => hsb z.1) y' r2⟩
      rw [← r1]
      simp only [Reach_longestOn_h6, Reach_longestOn_b65, hlt, if_false, ha, lq_eq, nI_1]
theorem lof_in {f : Nat → Int32} {nc O t rest : Nat} {M : Mem} (hT : RT M f nc O (O + 1)) (hO : O < 256) (ht : t < 8) (hr : sb rest O) (hr2 : ∀ v, sb v rest → v ||| 2 ^ t < 256) : ∀ m k q y, k + m = 6 → m < q → ∃ y', Reach_longestOf_h20 q (nI (2 ^ t)) (nI rest) y (nI k) M = some (y', M) ∧ ∀ x : Int, 1 ≤ x → (x ≤ y'.toInt ↔ (x ≤ y.toInt ∨ ∃ j v, k ≤ j ∧ j < 6 ∧ sb v rest ∧ Pf (Hr f nc O (63 ^^^ 2 ^ j)) 6 0 (rest ^^^ v) ∧ x ≤ longV M t j v)) := by
  have e6 : (6 : Int32) = nI 6 := rfl
  have hrl := sb_le hr
  intro m
  induction m with
  | zero =>
    intro k q y hk hq
    obtain ⟨q, rfl⟩ : ∃ z, q = z + 1 := ⟨q - 1, by omega⟩
    have hge : ¬ nI k < nI 6 := nI_nlt (by omega) (by omega)
    refine ⟨y, by simp only [Reach_longestOf_h20, e6, hge, if_false], fun x _ => ⟨Or.inl, ?_⟩⟩
    rintro (g | ⟨j, v, g1, g2, _⟩)
    · exact g
    · omega
  | succ m ih =>
    intro k q y hk hq
    obtain ⟨q, rfl⟩ : ∃ z, q = z + 1 := ⟨q - 1, by omega⟩
    have hlt : nI k < nI 6 := nI_lt (by omega) (by omega)
    obtain ⟨z, s1, s2⟩ := lon_in hT hO (show k < 6 by omega) ht hr hr2 (rest + 1) 0 FU 0 (by omega) (by unfold FU; omega)
    have hj : j_Reach_longestOn (nI k) (nI (2 ^ t)) (nI rest) M = some (z, M) := s1
    obtain ⟨y', r1, r2⟩ := ih (k + 1) q (mx y z) (by omega) (by omega)
    refine ⟨y', ?_, fun x hx => ?_⟩
    · rw [← r1]
      simp only [Reach_longestOf_h20, e6, hlt, if_true, hj, bd_some, lq_eq, nI_1]
    · rw [r2 x hx, mx_le, s2 x, t0]
      constructor
      · rintro ((g | g | ⟨v, g1, g2⟩) | ⟨j, v, g1, g2⟩)
        · exact Or.inl g
        · omega
        · exact Or.inr ⟨k, v, Nat.le_refl k, by omega, g2⟩
        · exact Or.inr ⟨j, v, by omega, g2⟩
      · rintro (g | ⟨j, v, g1, g2, g3⟩)
        · exact Or.inl (Or.inl g)
        · by_cases hjk : j = k
          · subst hjk
            exact Or.inl (Or.inr (Or.inr ⟨v, Nat.zero_le v, g3⟩))
          · exact Or.inr ⟨j, v, by omega, g2, g3⟩
theorem left_fx {f g : Nat → Int32} {c T t : Nat} {x : Int32} (hc : c < 7) (ht : t < 8) (hg : ∀ i, i < 89 → i ≠ 41 + 3 * t + 1 → g i = f i) (hgx : g (41 + 3 * t + 1) = x) : ∀ k, k ≤ 8 → leftS g c T k = leftS f c T k + (if T.testBit t = true ∧ t < k then f (41 + 3 * t + 1) - x else 0)
  | 0, _ => by
    rw [if_neg (by omega), Int32.add_zero]
    simp only [leftS]
    rw [hg _ (by omega) (by omega), hg _ (by omega) (by omega), hg _ (by omega) (by omega), hg _ (by omega) (by omega)]
  | k + 1, hk => by
    have ih := left_fx (T := T) hc ht hg hgx k (by omega)
    simp only [leftS]
    by_cases hb : T.testBit k = true
    · rw [if_pos hb, if_pos hb, ih, hg (13 + 4 * c) (by omega) (by omega)]
      by_cases hkt : k = t
      · subst hkt
        rw [if_neg (by omega), if_pos ⟨hb, by omega⟩, hgx]
        grind
      · rw [hg _ (by omega) (by omega)]
        by_cases hq : T.testBit t = true ∧ t < k
        · rw [if_pos hq, if_pos ⟨hq.1, by omega⟩]
          grind
        · rw [if_neg hq, if_neg (fun z => hq ⟨z.1, by omega⟩)]
          grind
    · rw [if_neg hb, if_neg hb, ih]
      by_cases hq : T.testBit t = true ∧ t < k
      · rw [if_pos hq, if_pos ⟨hq.1, by omega⟩]
      · rw [if_neg hq, if_neg (fun z => hq ⟨z.1, by
          rcases Nat.lt_or_ge t k with z2 | z2
          · exact z2
          · have : t = k := by omega
            rw [this] at z; exact absurd z.1 hb⟩)]
theorem okS_fx {f g : Nat → Int32} {c T t : Nat} (hc : c < 7) (ht : t < 8) (hg : ∀ i, i < 89 → i ≠ 41 + 3 * t + 1 → g i = f i) : ∀ k, k ≤ 8 → okS g c T k = okS f c T k
  | 0, _ => rfl
  | k + 1, hk => by
    simp only [okS]
    rw [okS_fx hc ht hg k (by omega), hg (13 + 4 * c) (by omega) (by omega), hg (41 + 3 * k) (by omega) (by omega)]
theorem hf_fx {f g : Nat → Int32} {nc O c T t : Nat} {x : Int32} (n7 : nc ≤ 7) (ht : t < 8) (hg : ∀ i, i < 89 → i ≠ 41 + 3 * t + 1 → g i = f i) (hgx : g (41 + 3 * t + 1) = x) : Hf g nc O c T ↔ (c < nc ∧ T ≠ 0 ∧ sb T O ∧ ¬ f (13 + 4 * c + 2) = 2 ∧ okS f c T 8 = true ∧ 0 ≤ (leftS f c T 8 + (if T.testBit t = true ∧ t < 8 then f (41 + 3 * t + 1) - x else 0)).toInt) := by
  unfold Hf
  constructor
  · rintro ⟨h1, h2, h3, h4, h5, h6⟩
    rw [hg _ (by omega) (by omega)] at h4
    rw [okS_fx (by omega) ht hg 8 (by omega)] at h5
    rw [left_fx (by omega) ht hg hgx 8 (by omega)] at h6
    exact ⟨h1, h2, h3, h4, h5, h6⟩
  · rintro ⟨h1, h2, h3, h4, h5, h6⟩
    rw [← hg _ (by omega) (by omega)] at h4
    rw [← okS_fx (by omega) ht hg 8 (by omega)] at h5
    rw [← left_fx (by omega) ht hg hgx 8 (by omega)] at h6
    exact ⟨h1, h2, h3, h4, h5, h6⟩
theorem hf_fx_no {f g : Nat → Int32} {nc O c T t : Nat} (n7 : nc ≤ 7) (ht : t < 8) (hg : ∀ i, i < 89 → i ≠ 41 + 3 * t + 1 → g i = f i) (hb : ¬ T.testBit t = true) : Hf g nc O c T ↔ Hf f nc O c T := by
  rw [hf_fx n7 ht hg rfl, if_neg (fun z => hb z.1), Int32.add_zero]
  exact Iff.rfl
theorem sumS_one {g : Nat → Int32} {t : Nat} (ht : t < 8) : sumS g (2 ^ t) 8 = g t := by
  have h := sumS_top (f := g) (s := 0) (r := t) (Nat.two_pow_pos t) ht
  rw [Nat.add_zero] at h
  have h0 : ∀ k, sumS g 0 k = 0 := by
    intro k
    induction k with
    | zero => rfl
    | succ k ih => simp only [sumS, Nat.zero_testBit, Bool.false_eq_true, if_false, ih]; rfl
  rw [h, h0, Int32.zero_add]
theorem long_iff {M : Mem} {f g : Nat → Int32} {nc nt O j T t x : Nat} (h : RM M f nc nt O) (hR : RowOk f nc nt) (hO : O < 2 ^ nt) (hj : j < 6) (hb : O.testBit t = true) (hT : sb T O) (hTt : T.testBit t = true) (h1 : 1 ≤ x) (h60 : x ≤ 60) (hg : ∀ i, i < 89 → i ≠ 41 + 3 * t + 1 → g i = f i) (hgx : g (41 + 3 * t + 1) = nI x) : (x : Int) ≤ (gi M (308 + j) T + gi M 306 (2 ^ t)).toInt ↔ Hf g nc O j T := by
  have n7 := hR.1.1
  have n8 := hR.1.2.1
  have hO256 : O < 256 := Nat.lt_of_lt_of_le hO (two8 n8)
  have htn := bit_lt hO hb
  have hT256 : T < 256 := Nat.lt_of_le_of_lt (sb_le hT) hO256
  have hT0 : T ≠ 0 := fun z => by rw [z] at hTt; simp at hTt
  have h2t : 2 ^ t < 256 := Nat.lt_of_lt_of_le (Nat.pow_lt_pow_right (by omega) (show t < 8 by omega)) (by decide)
  have hsb2 : sb (2 ^ t) O := sb_bit.mpr (fun i hi => by
    rw [Nat.testBit_two_pow] at hi
    have : t = i := by simpa using hi
    rw [← this]; exact hb)
  have h6 : gi M 306 (2 ^ t) = f (41 + 3 * t + 1) := by rw [h.2.2.2.1 _ h2t hsb2, sumS_one (by omega)]
  have hft := (hR.2.2.2 t htn).2
  rw [h6, hf_fx n7 (by omega) hg hgx, if_pos ⟨hTt, by omega⟩]
  by_cases hs : sb T (Sf f nc nt O j)
  · obtain ⟨p1, p2, p3, p4⟩ := (sf_iff n8 hO hT0).mp hs
    rw [(h.2.2.2.2 j hj T hT256).1 hs hT0]
    obtain ⟨A, a1, a2, a3⟩ := left_val hR.2.1 (hR.2.2.1 j p1).2 (fun i hi => (hR.2.2.2 i (bitO hO hT hi)).2) 8 (Nat.le_refl 8)
    have hl := lead0_bound (c := j) hR.2.1
    have hF := (hR.2.2.1 j p1).2
    have hx : (nI x).toInt = x := nI_toInt (by omega)
    have e1 : (leftS f j T 8 + f (41 + 3 * t + 1)).toInt = (leftS f j T 8).toInt + (f (41 + 3 * t + 1)).toInt := i32_add (by omega) (by omega)
    have e2 : (f (41 + 3 * t + 1) - nI x).toInt = (f (41 + 3 * t + 1)).toInt - x := by rw [i32_sub (by omega) (by omega), hx]
    have e3 : (leftS f j T 8 + (f (41 + 3 * t + 1) - nI x)).toInt = (leftS f j T 8).toInt + ((f (41 + 3 * t + 1)).toInt - x) := by rw [i32_add (by omega) (by omega), e2]
    rw [e1, e3]
    constructor
    · intro z
      exact ⟨p1, hT0, hT, p3, p4, by omega⟩
    · rintro ⟨_, _, _, _, _, z⟩
      omega
  · rw [(h.2.2.2.2 j hj T hT256).2 (fun z => hs z.1)]
    have e1 : ((-1000000 : Int32) + f (41 + 3 * t + 1)).toInt = -1000000 + (f (41 + 3 * t + 1)).toInt := by rw [i32_add (by rw [tN]; omega) (by omega), tN]
    rw [e1]
    constructor
    · intro z; omega
    · rintro ⟨z1, _, z3, z4, z5, _⟩
      exact absurd ((sf_iff n8 hO hT0).mpr ⟨z1, z3, z4, z5⟩) hs
/-- take t of x feet: all can be placed just if x is at most what the class finds -/
theorem long_pf {M : Mem} {f g : Nat → Int32} {nc nt O t x : Nat} (h : RM M f nc nt O) (hR : RowOk f nc nt) (n6 : nc ≤ 6) (hO : O < 2 ^ nt) (hb : O.testBit t = true) (h1 : 1 ≤ x) (h60 : x ≤ 60) (hg : ∀ i, i < 89 → i ≠ 41 + 3 * t + 1 → g i = f i) (hgx : g (41 + 3 * t + 1) = nI x) : Pf (Ho g nc O 0) nc 0 O ↔ ∃ j v, j < 6 ∧ sb v (O ^^^ 2 ^ t) ∧ Pf (Hr f nc O (63 ^^^ 2 ^ j)) 6 0 (O ^^^ 2 ^ t ^^^ v) ∧ (x : Int) ≤ longV M t j v := by
  have n7 := hR.1.1
  have n8 := hR.1.2.1
  have ht : t < 8 := Nat.lt_of_lt_of_le (bit_lt hO hb) n8
  have hsb2 : sb (2 ^ t) O := (or_low (v := 0) hb (sb_zero _)).1
  rw [ho_0]
  have hext := pf_ext (H := Hf g nc O) (n := nc) hf_out (6 - nc) (m := nc) (c := 0) (s := O) (by omega)
  rw [show nc + (6 - nc) = 6 by omega] at hext
  rw [← hext]
  have hxor : ∀ v, sb v (O ^^^ 2 ^ t) → O ^^^ 2 ^ t ^^^ v = O ^^^ (v ||| 2 ^ t) := fun v hv => by
    obtain ⟨o1, o2, _, _⟩ := or_low hb hv
    apply Nat.eq_of_testBit_eq
    intro i
    rw [xor_bit hv, xor_bit o1, xor_bit o2, Nat.testBit_or]
    cases O.testBit i <;> cases v.testBit i <;> cases (2 ^ t).testBit i <;> rfl
  have hcong : ∀ k T, k < 6 → sb T O → T.testBit t = true → (Pf (Wo (Hf g nc O) k) 6 0 (O ^^^ T) ↔ Pf (Hr f nc O (63 ^^^ 2 ^ k)) 6 0 (O ^^^ T)) := fun k T hk hT hTt => pf_cong (N := O ^^^ T) (fun c s hs => by
    have hbs : ¬ s.testBit t = true := fun z => by
      have := sb_bit.mp hs t z
      rw [xor_bit hT, hTt] at this
      simp at this
    unfold Wo Hr
    rw [hf_fx_no n7 ht hg hbs]
    constructor
    · rintro ⟨z1, z2⟩
      refine ⟨z2, (bit63x k hk c (by have := z2.1; omega)).mpr ?_⟩
      rw [Nat.testBit_two_pow]
      simp; omega
    · rintro ⟨z1, z2⟩
      refine ⟨fun z => ?_, z1⟩
      have := (bit63x k hk c (by have := z1.1; omega)).mp z2
      rw [Nat.testBit_two_pow, z] at this
      simp at this) (sb_refl _)
  constructor
  · intro z
    obtain ⟨k, T, g1, g2, g3, g4, g5, g6⟩ := pf_pull 6 0 O z hb
    have hbt : sb (2 ^ t) T := (or_low (v := 0) g4 (sb_zero _)).1
    have hsv : sb (T ^^^ 2 ^ t) (O ^^^ 2 ^ t) := sb_bit.mpr (fun i hi => by
      rw [xor_bit hbt, Bool.and_eq_true] at hi
      rw [xor_bit hsb2, sb_bit.mp g5 i hi.1, hi.2]; rfl)
    have hor : T ^^^ 2 ^ t ||| 2 ^ t = T := by
      rw [Nat.or_comm]; exact (sb_or hbt).symm
    refine ⟨k, T ^^^ 2 ^ t, by omega, hsv, ?_, ?_⟩
    · rw [hxor _ hsv, hor]
      exact (hcong k T (by omega) g5 g4).mp g6
    · unfold longV
      rw [hor]
      exact (long_iff h hR hO (by omega) hb g5 g4 h1 h60 hg hgx).mpr g3
  · rintro ⟨j, v, g1, g2, g3, g4⟩
    obtain ⟨o1, o2, o3, _⟩ := or_low hb g2
    rw [hxor v g2] at g3
    exact pf_push ((long_iff h hR hO g1 hb o2 o3 h1 h60 hg hgx).mp g4) 6 0 O (by omega) (by omega) o2 ((hcong j _ g1 o2 o3).mpr g3)
