theorem dr15_take {M : Mem} {f : Nat → Int32} {nc nt nr : Nat} {k v : Int32} (hn : nc ≤ 6 ∧ nt < 8 ∧ nr ≤ 8) (hD : DR M 15 f nc nt nr) : DR (uI (uI (uI (uI M 21 nt k) 22 nt v) 23 nt (-1000000)) 15 1 (nI (nt + 1))) 15 (fu (fu (fu (fu f (41 + 3 * nt) k) (41 + 3 * nt + 1) v) (41 + 3 * nt + 2) (-1)) 5 (nI (nt + 1))) nc (nt + 1) nr := by
  obtain ⟨⟨a1, a2, a3⟩, a4, ⟨a5, a6, a7, a8, a9⟩, b1, b2, b3, b4⟩ := hD
  obtain ⟨n1, n2, n3⟩ := hn
  have hnn : nn (-1000000) (-1) := Or.inl ⟨rfl, rfl⟩
  refine ⟨⟨?_, ?_, ?_⟩, ?_, ⟨?_, ?_, ?_, ?_, ?_⟩, fun i hi => ?_, fun c' hc' => ?_, fun t' ht' => ?_, fun r' hr' => ?_⟩
  · grind [gi_uI, fu]
  · grind [gi_uI, fu]
  · grind [gi_uI, fu]
  · grind [gi_uI, fu]
  · grind [gi_uI, fu]
  · grind [gi_uI, fu]
  · grind [gi_uI, fu]
  · grind [gi_uI, fu]
  · grind [gi_uI, fu]
  · have := b1 i hi; clear b1 b2 b3 b4; grind [gi_uI, fu]
  · have := b2 c' hc'; clear b1 b2 b3 b4; refine ⟨?_, ?_, ?_, ?_⟩ <;> grind [gi_uI, fu]
  · by_cases h : t' = nt
    · subst h; clear b1 b2 b3 b4; refine ⟨?_, ?_, ?_⟩ <;> grind [gi_uI, fu]
    · have := b3 t' (by omega); clear b1 b2 b3 b4; refine ⟨?_, ?_, ?_⟩ <;> grind [gi_uI, fu]
  · have := b4 r' hr'; clear b1 b2 b3 b4; refine ⟨?_, ?_, ?_⟩ <;> grind [gi_uI, fu]
theorem dr15_can {M : Mem} {f : Nat → Int32} {nc nt nr : Nat} {k v w : Int32} (hn : nc < 6 ∧ nt ≤ 8 ∧ nr ≤ 8) (hD : DR M 15 f nc nt nr) : DR (uI (uI (uI (uI (uI (uI M 17 nc k) 18 nc v) 19 nc 0) 20 nc 0) 15 5 w) 15 0 (nI (nc + 1))) 15 (fu (fu (fu (fu (fu (fu f (13 + 4 * nc) k) (13 + 4 * nc + 1) v) (13 + 4 * nc + 2) 0) (13 + 4 * nc + 3) 0) 4 (nI (nc + 1))) 7 w) (nc + 1) nt nr := by
  obtain ⟨⟨a1, a2, a3⟩, a4, ⟨a5, a6, a7, a8, a9⟩, b1, b2, b3, b4⟩ := hD
  obtain ⟨n1, n2, n3⟩ := hn
  refine ⟨⟨?_, ?_, ?_⟩, ?_, ⟨?_, ?_, ?_, ?_, ?_⟩, fun i hi => ?_, fun c' hc' => ?_, fun t' ht' => ?_, fun r' hr' => ?_⟩
  · grind [gi_uI, fu]
  · grind [gi_uI, fu]
  · grind [gi_uI, fu]
  · grind [gi_uI, fu]
  · grind [gi_uI, fu]
  · grind [gi_uI, fu]
  · grind [gi_uI, fu]
  · grind [gi_uI, fu]
  · grind [gi_uI, fu]
  · have := b1 i hi; clear b1 b2 b3 b4; grind [gi_uI, fu]
  · by_cases h : c' = nc
    · subst h; clear b1 b2 b3 b4; refine ⟨?_, ?_, ?_, ?_⟩ <;> grind [gi_uI, fu]
    · have := b2 c' (by omega); clear b1 b2 b3 b4; refine ⟨?_, ?_, ?_, ?_⟩ <;> grind [gi_uI, fu]
  · have := b3 t' ht'; clear b1 b2 b3 b4; refine ⟨?_, ?_, ?_⟩ <;> grind [gi_uI, fu]
  · have := b4 r' hr'; clear b1 b2 b3 b4; refine ⟨?_, ?_, ?_⟩ <;> grind [gi_uI, fu]
theorem iv15_can {f : Nat → Int32} {nc nt nr : Nat} {k v w : Int32} (hn : nc < 6) (h11 : f 11 = -1) (hk : 1 ≤ k.toInt ∧ k.toInt ≤ 5) (hv : 0 ≤ v.toInt ∧ v.toInt ≤ 99) (hI : Iv f nc nt nr) : Iv (fu (fu (fu (fu (fu (fu f (13 + 4 * nc) k) (13 + 4 * nc + 1) v) (13 + 4 * nc + 2) 0) (13 + 4 * nc + 3) 0) 4 (nI (nc + 1))) 7 w) (nc + 1) nt nr := by
  obtain ⟨⟨n1, n2, n3⟩, ⟨a1, a2, a3⟩, a4, a5, b1, b2, b3, b4⟩ := hI
  have e : ∀ i, i ≠ 13 + 4 * nc → i ≠ 13 + 4 * nc + 1 → i ≠ 13 + 4 * nc + 2 → i ≠ 13 + 4 * nc + 3 → i ≠ 4 → i ≠ 7 → fu (fu (fu (fu (fu (fu f (13 + 4 * nc) k) (13 + 4 * nc + 1) v) (13 + 4 * nc + 2) 0) (13 + 4 * nc + 3) 0) 4 (nI (nc + 1))) 7 w i = f i := fun i h1 h2 h3 h4 h5 h6 => by
    rw [fu_ne h6, fu_ne h5, fu_ne h4, fu_ne h3, fu_ne h2, fu_ne h1]
  obtain ⟨g, hg⟩ : ∃ g, g = fu (fu (fu (fu (fu (fu f (13 + 4 * nc) k) (13 + 4 * nc + 1) v) (13 + 4 * nc + 2) 0) (13 + 4 * nc + 3) 0) 4 (nI (nc + 1))) 7 w := ⟨_, rfl⟩
  have g4 : g 4 = nI (nc + 1) := by rw [hg, fu_ne (by omega), fu_eq]
  have gk : g (13 + 4 * nc) = k := by rw [hg, fu_ne (by omega), fu_ne (by omega), fu_ne (by omega), fu_ne (by omega), fu_ne (by omega), fu_eq]
  have gv : g (13 + 4 * nc + 1) = v := by rw [hg, fu_ne (by omega), fu_ne (by omega), fu_ne (by omega), fu_ne (by omega), fu_eq]
  have gw : g (13 + 4 * nc + 2) = 0 := by rw [hg, fu_ne (by omega), fu_ne (by omega), fu_ne (by omega), fu_eq]
  rw [← hg] at e ⊢
  refine ⟨⟨by omega, n2, n3⟩, ⟨g4, ?_, ?_⟩, ?_, Or.inl ?_, fun c hc => ?_, fun t ht => ?_, fun r hr => ?_, by omega⟩
  · rw [e 5 (by omega) (by omega) (by omega) (by omega) (by omega) (by omega)]; exact a2
  · rw [e 6 (by omega) (by omega) (by omega) (by omega) (by omega) (by omega)]; exact a3
  · rw [e 0 (by omega) (by omega) (by omega) (by omega) (by omega) (by omega), e 1 (by omega) (by omega) (by omega) (by omega) (by omega) (by omega)]; exact a4
  · rw [e 11 (by omega) (by omega) (by omega) (by omega) (by omega) (by omega)]; exact h11
  · by_cases hcn : c = nc
    · subst hcn
      rw [gk, gv, gw, e 11 (by omega) (by omega) (by omega) (by omega) (by omega) (by omega), h11, t0]
      refine ⟨hk, hv, by omega, ⟨fun z => absurd z (by decide), fun z => ?_⟩⟩
      have := congrArg Int32.toInt z
      rw [tm1, nI_toInt (by omega)] at this
      omega
    · rw [e _ (by omega) (by omega) (by omega) (by omega) (by omega) (by omega), e _ (by omega) (by omega) (by omega) (by omega) (by omega) (by omega), e _ (by omega) (by omega) (by omega) (by omega) (by omega) (by omega), e 11 (by omega) (by omega) (by omega) (by omega) (by omega) (by omega)]
      exact b1 c (by omega)
  · rw [e _ (by omega) (by omega) (by omega) (by omega) (by omega) (by omega), e _ (by omega) (by omega) (by omega) (by omega) (by omega) (by omega), e _ (by omega) (by omega) (by omega) (by omega) (by omega) (by omega)]
    obtain ⟨q1, q2, q3⟩ := b2 t ht
    exact ⟨q1, q2, q3.1, by omega⟩
  · rw [e _ (by omega) (by omega) (by omega) (by omega) (by omega) (by omega)]; exact b3 r hr
theorem row_up (M : Mem) (j : Nat) (v : Int32) : (fun i => gi (uI M 328 j v) 328 i) = fu (fun i => gi M 328 i) j v := by
  funext i
  rw [gi_uI]
  unfold fu
  by_cases h : i = j
  · rw [if_pos ⟨rfl, h⟩, if_pos h]
  · rw [if_neg (fun z => h z.2), if_neg h]
/-- the kind that a letter names -/
def kl (b : Int32) : Int32 := if b = 110 then 1 else (if b = 102 then 2 else (if b = 103 then 3 else (if b = 114 then 4 else (if b = 115 then 5 else 0))))
theorem kl_m (b : Int32) (M : Mem) : j_Md_kindOf b M = some (kl b, M) := by
  unfold j_Md_kindOf kl
  by_cases h1 : b = 110
  · rw [if_pos h1, if_pos h1]
  · by_cases h2 : b = 102
    · rw [if_neg h1, if_pos h2, if_neg h1, if_pos h2]
    · by_cases h3 : b = 103
      · rw [if_neg h1, if_neg h2, if_pos h3, if_neg h1, if_neg h2, if_pos h3]
      · by_cases h4 : b = 114
        · rw [if_neg h1, if_neg h2, if_neg h3, if_pos h4, if_neg h1, if_neg h2, if_neg h3, if_pos h4]
        · by_cases h5 : b = 115
          · rw [if_neg h1, if_neg h2, if_neg h3, if_neg h4, if_pos h5, if_neg h1, if_neg h2, if_neg h3, if_neg h4, if_pos h5]
          · rw [if_neg h1, if_neg h2, if_neg h3, if_neg h4, if_neg h5, if_neg h1, if_neg h2, if_neg h3, if_neg h4, if_neg h5]
theorem kl_cases (b : Int32) : kl b = 0 ∨ ((b = 110 ∨ b = 102 ∨ b = 103 ∨ b = 114 ∨ b = 115) ∧ 1 ≤ (kl b).toInt ∧ (kl b).toInt ≤ 5) := by
  by_cases h1 : b = 110
  · right; subst h1; decide
  · by_cases h2 : b = 102
    · right; subst h2; decide
    · by_cases h3 : b = 103
      · right; subst h3; decide
      · by_cases h4 : b = 114
        · right; subst h4; decide
        · by_cases h5 : b = 115
          · right; subst h5; decide
          · left
            unfold kl
            rw [if_neg h1, if_neg h2, if_neg h3, if_neg h4, if_neg h5]
theorem kl_c (b : Int32) (M : Mem) : j_Kinds_ofLetter b M = some (if kl b = 0 then -1000000 else kl b, M) := by
  by_cases h1 : b = 110
  · subst h1; rfl
  · by_cases h2 : b = 102
    · subst h2; rfl
    · by_cases h3 : b = 103
      · subst h3; rfl
      · by_cases h4 : b = 114
        · subst h4; rfl
        · by_cases h5 : b = 115
          · subst h5; rfl
          · have e : kl b = 0 := by
              unfold kl
              rw [if_neg h1, if_neg h2, if_neg h3, if_neg h4, if_neg h5]
            simp only [j_Kinds_ofLetter, h1, h2, h3, h4, h5, if_false, ite_self, e, if_true]
theorem kl_let {b : Int32} (h : ¬ kl b = 0) : 97 ≤ b.toInt ∧ b.toInt ≤ 122 := by
  rcases (kl_cases b).resolve_left h with ⟨h1 | h1 | h1 | h1 | h1, _⟩ <;> subst h1 <;> decide
theorem told_m {M : Mem} {B : Nat → Int32} {n p : Nat} (hm : SM M B n p) : ((p < n ∧ ¬ kl (B p) = 0) → j_Md_isCanTold M = some (1, M) ∧ gi M 326 11 = B p ∧ gi M 326 8 = nI (p + 1)) ∧ (¬ (p < n ∧ ¬ kl (B p) = 0) → j_Md_isCanTold M = some (0, M)) := by
  obtain ⟨m1, ⟨k9, ka, kb, kc, kd, ke⟩, m3⟩ := hm
  constructor
  · rintro ⟨h1, h2⟩
    obtain ⟨d1, d2, d3⟩ := kb ⟨h1, kl_let h2⟩
    refine ⟨?_, d2, d3⟩
    have hpos : (0 : Int32) < kl (B p) := by
      rw [i32_lt, t0]
      have := ((kl_cases (B p)).resolve_left h2).2
      omega
    simp only [j_Md_isCanTold, m3, if_true, d1, d2, kl_m, bd_some, hpos]
  · intro hn
    by_cases h1 : gi M 326 10 = 1
    · have hp : p < n ∧ 97 ≤ (B p).toInt ∧ (B p).toInt ≤ 122 := by
        apply Classical.byContradiction
        intro z
        by_cases hpn : p < n
        · by_cases hs : B p = 44 ∨ B p = 59
          · rw [(kd ⟨hpn, hs⟩).1] at h1; exact absurd h1 (by decide)
          · by_cases hd : dgB B n p = true
            · rw [(kc hd).1] at h1
              by_cases h2 : 2 < fe B n p - p
              · rw [if_pos h2] at h1; exact absurd h1 (by decide)
              · rw [if_neg h2] at h1; exact absurd h1 (by decide)
            · rw [ke ⟨hpn, fun q => z ⟨hpn, q⟩, hd, hs⟩] at h1; exact absurd h1 (by decide)
        · rw [ka (by omega)] at h1; exact absurd h1 (by decide)
      have hz : kl (B p) = 0 := by
        apply Classical.byContradiction
        intro z
        exact hn ⟨hp.1, z⟩
      have hnp : ¬ (0 : Int32) < 0 := by decide
      simp only [j_Md_isCanTold, m3, if_true, h1, (kb hp).2.1, kl_m, hz, bd_some, hnp, if_false]
    · simp only [j_Md_isCanTold, m3, if_true, h1, if_false]
