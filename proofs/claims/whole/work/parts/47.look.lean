/-! the class's look at its rooms (day 3) -/
theorem served_c {k : Int32} {nt : Nat} {M : Mem} (hk : 1 ≤ k.toInt ∧ k.toInt ≤ 5) (hn : nt ≤ 8) (h1 : gi M 3 1 = nI nt) (ht : ∀ t, t < nt → 0 ≤ (gi M 9 t).toInt ∧ (gi M 9 t).toInt ≤ 5) : ∀ m j q, j + m = nt → m < q → Day_takesServedBy_h4 q 3 k (nI (setN (fun t => isOfV k (gi M 9 t)) j)) (nI j) M = some (nI (setN (fun t => isOfV k (gi M 9 t)) nt), M) := by
  intro m
  induction m with
  | zero =>
    intro j q hj hm
    obtain ⟨q, rfl⟩ : ∃ z, q = z + 1 := ⟨q - 1, by omega⟩
    have hge : ¬ nI j < nI nt := nI_nlt (by omega) (by omega)
    simp only [Day_takesServedBy_h4, h1, hge, if_false]
    rw [show j = nt by omega]
  | succ m ih =>
    intro j q hj hm
    obtain ⟨q, rfl⟩ : ∃ z, q = z + 1 := ⟨q - 1, by omega⟩
    have hlt : nI j < nI nt := nI_lt (by omega) (by omega)
    have ihj := ih (j + 1) q (by omega) (by omega)
    have hof := kinds_isOf (M := M) hk (ht j (by omega))
    have h9 : gi M (3 + 6) j = gi M 9 j := rfl
    by_cases hp : isOfV k (gi M 9 j) = true
    · simp only [Day_takesServedBy_h4, Day_takesServedBy_b31, h1, hlt, if_true, gd_t (inb_nI (show j < 8 by omega) (by omega)), ix_nI (show j < 2 ^ 31 by omega), h9, hof, bd_some, hp, z1, if_false, lq_eq, nI_1]
      rw [set_yes (p := fun t => isOfV k (gi M 9 t)) (by omega) hp]
      exact ihj
    · have hp' : isOfV k (gi M 9 j) = false := by simpa using hp
      simp only [Day_takesServedBy_h4, Day_takesServedBy_b31, h1, hlt, if_true, gd_t (inb_nI (show j < 8 by omega) (by omega)), ix_nI (show j < 2 ^ 31 by omega), h9, hof, bd_some, hp', Bool.false_eq_true, z0, if_false, lq_eq, nI_1]
      rw [set_no (p := fun t => isOfV k (gi M 9 t)) (k := j) hp']
      exact ihj
theorem servedBy_c {k : Int32} {nt : Nat} {M : Mem} (hk : 1 ≤ k.toInt ∧ k.toInt ≤ 5) (hn : nt ≤ 8) (h1 : gi M 3 1 = nI nt) (ht : ∀ t, t < nt → 0 ≤ (gi M 9 t).toInt ∧ (gi M 9 t).toInt ≤ 5) : j_Day_takesServedBy 3 k M = some (nI (setN (fun t => isOfV k (gi M 9 t)) nt), M) := by
  simp only [j_Day_takesServedBy, lq_eq]
  exact served_c hk hn h1 ht nt 0 FU (by omega) (by unfold FU; omega)
def leadC (M : Mem) (c : Nat) : Int32 := if nI c = gi M 3 3 then 0 else leadV (gi M 5 c) (gi M 4 0)
def keptC (M : Mem) (c : Nat) : Int32 := if leastV (gi M 5 c) (gi M 4 1) = -1000000 then 100 else leastV (gi M 5 c) (gi M 4 1)
def servC (M : Mem) (nt O c : Nat) : Nat := O &&& setN (fun t => isOfV (gi M 5 c) (gi M 9 t)) nt
theorem rooms_has {R c : Nat} {M : Mem} (hR : R < 256) (hc : c < 8) (h : gi M 299 0 = nI R) : j_Rooms_has (nI c) M = some (if R.testBit c = true then 1 else 0, M) := by
  have := md_has (M := M) hR hc
  simp only [j_Md_has] at this
  simp only [j_Rooms_has, h]
  exact this
theorem rooms_isOpen {O t : Nat} {M : Mem} (hO : O < 256) (ht : t < 8) (h : gi M 299 1 = nI O) : j_Rooms_isOpen (nI t) M = some (if O.testBit t = true then 1 else 0, M) := by
  have := md_has (M := M) hO ht
  simp only [j_Md_has] at this
  simp only [j_Rooms_isOpen, h]
  exact this
theorem lookCan_c {nt R O c : Nat} {M : Mem} (hc : c < 6) (hR : R < 256) (hn : nt ≤ 8) (h1 : gi M 3 1 = nI nt) (ht : ∀ t, t < nt → 0 ≤ (gi M 9 t).toInt ∧ (gi M 9 t).toInt ≤ 5) (hk : R.testBit c = true → 1 ≤ (gi M 5 c).toInt ∧ (gi M 5 c).toInt ≤ 5) (h9 : gi M 299 0 = nI R) (hO : gi M 299 1 = nI O) : ∃ M', j_Rooms_lookAtCan 3 (nI c) M = some ((), M') ∧ (∀ a i, (a < 300 ∨ 304 < a ∨ i ≠ c) → gi M' a i = gi M a i) ∧ gi M' 304 c = nI (if R.testBit c = true then servC M nt O c else 0) ∧ (R.testBit c = true → gi M' 300 c = gi M 6 c ∧ gi M' 301 c = leadC M c ∧ gi M' 302 c = slateV (gi M 5 c) ∧ gi M' 303 c = keptC M c) := by
  have hin := inb_nI hc (show 6 < 2 ^ 31 by omega)
  have hix := ix_nI (show c < 2 ^ 31 by omega)
  by_cases hb : R.testBit c = true
  · have hk5 := hk hb
    obtain ⟨L, hL⟩ : ∃ L, L = leadC M c := ⟨_, rfl⟩
    obtain ⟨K, hK⟩ : ∃ K, K = keptC M c := ⟨_, rfl⟩
    obtain ⟨M', hM'⟩ : ∃ M', M' = uI (uI (uI (uI (uI (uI M 304 c 0) 300 c (gi M 6 c)) 301 c L) 302 c (slateV (gi M 5 c))) 303 c K) 304 c (nI (servC M nt O c)) := ⟨_, rfl⟩
    refine ⟨M', ?_, ?_, ?_, fun _ => ⟨?_, ?_, ?_, ?_⟩⟩
    · have e299 : gi (uI M 304 c 0) 299 0 = nI R := by rw [gi_uIa _ _ _ _ _ _ (by omega)]; exact h9
      have hhas := rooms_has (M := uI M 304 c 0) hR (show c < 8 by omega) e299
      have hb73 : ∀ L', L' = L → Rooms_lookAtCan_b73 3 (nI c) (gi M 5 c) (leastV (gi M 5 c) (gi M 4 1)) L' (nI c) (uI (uI M 304 c 0) 300 c (gi M 6 c)) = some ((), M') := by
        intro L' hL'
        subst hL'
        have hb103 : ∀ K', K' = K → Rooms_lookAtCan_b103 3 (nI c) (gi M 5 c) K' (nI c) (uI (uI (uI (uI M 304 c 0) 300 c (gi M 6 c)) 301 c L') 302 c (slateV (gi M 5 c))) = some ((), M') := by
          intro K' hK'
          subst hK'
          obtain ⟨N, hN⟩ : ∃ N, N = uI (uI (uI (uI (uI M 304 c 0) 300 c (gi M 6 c)) 301 c L') 302 c (slateV (gi M 5 c))) 303 c K' := ⟨_, rfl⟩
          have fr : ∀ a i, (a < 300 ∨ 304 < a) → gi N a i = gi M a i := fun a i ha => by
            rw [hN, gi_uIa _ _ _ _ _ _ (by omega), gi_uIa _ _ _ _ _ _ (by omega), gi_uIa _ _ _ _ _ _ (by omega), gi_uIa _ _ _ _ _ _ (by omega), gi_uIa _ _ _ _ _ _ (by omega)]
          have hsv := servedBy_c (M := N) hk5 hn (by rw [fr 3 1 (by omega)]; exact h1) (fun t htn => by rw [fr 9 t (by omega)]; exact ht t htn)
          simp only [fr 9 _ (by omega)] at hsv
          have eO : gi N 299 1 = nI O := by rw [fr 299 1 (by omega)]; exact hO
          simp only [Rooms_lookAtCan_b103, gd_t hin, hix, sq_eq, ← hN, hsv, bd_some, eO, nI_and]
          rw [hM', ← hN]
          rfl
        simp only [Rooms_lookAtCan_b73, gd_t hin, hix, sq_eq, kinds_slate hk5, bd_some]
        by_cases q : leastV (gi M 5 c) (gi M 4 1) = -1000000
        · rw [if_pos q]; exact hb103 100 (by rw [hK]; unfold keptC; rw [if_pos q])
        · rw [if_neg q]; exact hb103 _ (by rw [hK]; unfold keptC; rw [if_neg q])
      have p5 : gi (uI M 304 c 0) (3 + 2) c = gi M 5 c := gi_uIa _ _ _ _ _ _ (by omega)
      have p4 : gi (uI M 304 c 0) (3 + 1) 1 = gi M 4 1 := gi_uIa _ _ _ _ _ _ (by omega)
      have p6 : gi (uI M 304 c 0) (3 + 3) c = gi M 6 c := gi_uIa _ _ _ _ _ _ (by omega)
      have p3 : gi (uI (uI M 304 c 0) 300 c (gi M 6 c)) 3 3 = gi M 3 3 := by rw [gi_uIa _ _ _ _ _ _ (by omega), gi_uIa _ _ _ _ _ _ (by omega)]
      have p40 : gi (uI (uI M 304 c 0) 300 c (gi M 6 c)) (3 + 1) 0 = gi M 4 0 := by rw [gi_uIa _ _ _ _ _ _ (by omega), gi_uIa _ _ _ _ _ _ (by omega)]
      simp only [j_Rooms_lookAtCan, gd_t hin, hix, sq_eq, hhas, hb, if_true, bd_some, z1, if_false, lq_eq, p5, p4, kinds_least hk5, p6, p3, p40, kinds_lead hk5]
      by_cases q : nI c = gi M 3 3
      · rw [if_pos q]; exact hb73 0 (by rw [hL]; unfold leadC; rw [if_pos q])
      · rw [if_neg q]; exact hb73 _ (by rw [hL]; unfold leadC; rw [if_neg q])
    · intro a i ha
      rw [hM']
      simp only [gi_uI]
      rw [if_neg (by omega), if_neg (by omega), if_neg (by omega), if_neg (by omega), if_neg (by omega), if_neg (by omega)]
    · rw [hM', gi_uIs, if_pos hb]
    · rw [hM', gi_uIa _ _ _ _ _ _ (by omega), gi_uIa _ _ _ _ _ _ (by omega), gi_uIa _ _ _ _ _ _ (by omega), gi_uIa _ _ _ _ _ _ (by omega), gi_uIs]
    · rw [hM', gi_uIa _ _ _ _ _ _ (by omega), gi_uIa _ _ _ _ _ _ (by omega), gi_uIa _ _ _ _ _ _ (by omega), gi_uIs, hL]
    · rw [hM', gi_uIa _ _ _ _ _ _ (by omega), gi_uIa _ _ _ _ _ _ (by omega), gi_uIs]
    · rw [hM', gi_uIa _ _ _ _ _ _ (by omega), gi_uIs, hK]
  · have hb' : R.testBit c = false := by simpa using hb
    refine ⟨uI M 304 c 0, ?_, fun a i ha => ?_, ?_, fun q => absurd q hb⟩
    · have e299 : gi (uI M 304 c 0) 299 0 = nI R := by rw [gi_uIa _ _ _ _ _ _ (by omega)]; exact h9
      have hhas := rooms_has (M := uI M 304 c 0) hR (show c < 8 by omega) e299
      simp only [j_Rooms_lookAtCan, gd_t hin, hix, sq_eq, hhas, hb', Bool.false_eq_true, if_false, bd_some, z0, if_true]
    · rw [gi_uI, if_neg (by omega)]
    · rw [gi_uIs, if_neg hb]; rfl
