def roomsC (M : Mem) (nc : Nat) : Nat := setN (fun c => !decide (gi M 7 c = 2)) nc
def openC (M : Mem) (nt : Nat) : Nat := setN (fun i => decide (gi M 11 i = -1000000)) nt
theorem lookAt_c {nc nt : Nat} {M : Mem} (n6 : nc ≤ 6) (n8 : nt ≤ 8) (h0 : gi M 3 0 = nI nc) (h1 : gi M 3 1 = nI nt) (ht : ∀ t, t < nt → 0 ≤ (gi M 9 t).toInt ∧ (gi M 9 t).toInt ≤ 5) (hk : ∀ c, c < nc → 1 ≤ (gi M 5 c).toInt ∧ (gi M 5 c).toInt ≤ 5) : ∃ M', j_Rooms_lookAt 3 M = some ((), M') ∧ (∀ a i, (a < 299 ∨ a = 307 ∨ 313 < a) → gi M' a i = gi M a i) ∧ gi M' 299 0 = nI (roomsC M nc) ∧ gi M' 299 1 = nI (openC M nt) ∧ (∀ j, j < 6 → seen M M' nt (roomsC M nc) (openC M nt) j) ∧ (∀ i, i < 8 → gi M' 305 i = tfC M (openC M nt) i) ∧ (∀ w, w < 256 → gi M' 306 w = sumS (tfC M (openC M nt)) w 8) ∧ ∀ j, j < 6 → ∀ v, v < 256 → (sb v (if (roomsC M nc).testBit j = true then servC M nt (openC M nt) j else 0) → v ≠ 0 → gi M' (308 + j) v = endC (gi M' 300 j) (gi M' 301 j) (gi M' 302 j) (tfC M (openC M nt)) v) ∧ (¬ (sb v (if (roomsC M nc).testBit j = true then servC M nt (openC M nt) j else 0) ∧ v ≠ 0) → gi M' (308 + j) v = -1000000) := by
  have hR : roomsC M nc < 256 := Nat.lt_of_lt_of_le (setN_lt _ nc) (two8 (by omega))
  have hO : openC M nt < 256 := Nat.lt_of_lt_of_le (setN_lt _ nt) (two8 n8)
  obtain ⟨M0, hM0⟩ : ∃ M0, M0 = uI (uI M 299 0 (nI (roomsC M nc))) 299 1 (nI (openC M nt)) := ⟨_, rfl⟩
  have fr : ∀ a i, a ≠ 299 → gi M0 a i = gi M a i := fun a i h => by rw [hM0, gi_uIa _ _ _ _ _ _ h, gi_uIa _ _ _ _ _ _ h]
  have q0 : gi M0 299 0 = nI (roomsC M nc) := by rw [hM0, gi_uIi _ _ _ _ _ _ (by omega), gi_uIs]
  have q1 : gi M0 299 1 = nI (openC M nt) := by rw [hM0, gi_uIs]
  have hkR : ∀ c, (roomsC M nc).testBit c = true → 1 ≤ (gi M0 5 c).toInt ∧ (gi M0 5 c).toInt ≤ 5 := fun c hc => by
    rw [fr 5 c (by omega)]
    exact hk c (bit_lt (setN_lt _ nc) hc)
  obtain ⟨M1, a1, a2, a3⟩ := look_in (M0 := M0) hR n8 (by rw [fr 3 1 (by omega)]; exact h1) (fun t htn => by rw [fr 9 t (by omega)]; exact ht t htn) hkR q0 q1 6 0 FU M0 (by omega) (by unfold FU; omega) (fun _ _ _ => rfl) (fun j hj => absurd hj (by omega))
  obtain ⟨M2, b1, b2, b3⟩ := feet_in (M0 := M1) hO (by rw [a2 299 1 (by omega)]; exact q1) 8 0 FU M1 (by omega) (by unfold FU; omega) (fun _ _ _ => rfl) (fun j hj => absurd hj (by omega))
  have eS : ∀ j, servC M0 nt (openC M nt) j = servC M nt (openC M nt) j := fun j => by
    unfold servC
    rw [setN_cong nt (fun t _ => by rw [fr 5 j (by omega), fr 9 t (by omega)])]
  have eL : ∀ j, leadC M0 j = leadC M j := fun j => by unfold leadC; rw [fr 3 3 (by omega), fr 5 j (by omega), fr 4 0 (by omega)]
  have eK : ∀ j, keptC M0 j = keptC M j := fun j => by unfold keptC; rw [fr 5 j (by omega), fr 4 1 (by omega)]
  have hsv : ∀ j, (if (roomsC M nc).testBit j = true then servC M nt (openC M nt) j else 0) < 256 := fun j => by
    split
    · exact Nat.lt_of_le_of_lt Nat.and_le_left hO
    · omega
  have eT : ∀ i, tfC M1 (openC M nt) i = tfC M (openC M nt) i := fun i => by unfold tfC; rw [a2 10 i (by omega), fr 10 i (by omega)]
  obtain ⟨M', c1, c2, c3, c4⟩ := measure_c (M := M2) (f := tfC M (openC M nt)) (S := fun j => if (roomsC M nc).testBit j = true then servC M nt (openC M nt) j else 0) (fun c hc => ⟨hsv c, by rw [b2 304 c (by omega), (a3 c hc).1, eS]⟩) (fun i hi => by rw [b3 i hi, eT])
  refine ⟨M', ?_, ?_, ?_, ?_, ?_, ?_, c3, ?_⟩
  · have hr := dayRooms (M := M) n6 h0
    have hs := shotOn_c (d := 3) (x := -1000000) (M := uI M 299 0 (nI (roomsC M nc))) n8 (by rw [gi_uIa _ _ _ _ _ _ (by omega)]; exact h1)
    rw [setN_cong nt (q := fun i => decide (gi M 11 i = -1000000)) (fun i _ => by rw [gi_uIa _ _ _ _ _ _ (by omega)])] at hs
    have z : (0 : Int32) = nI 0 := rfl
    have st : j_Rooms_lookAt 3 M = Rooms_lookAt_h18 FU 3 0 M0 := by
      unfold j_Rooms_lookAt j_Day_openTakes
      rw [hr, bd_some, sq_e]
      show bd (bd (j_Day_takesShotOn 3 (-1000000) (uI M 299 0 (nI (roomsC M nc)))) _) _ = _
      rw [hs, bd_some, bd_some, sq_e, lq_e, hM0]
      rfl
    have s2 : Rooms_lookAt_h18 FU 3 0 M0 = Rooms_lookAt_h38 FU 3 0 M1 := (congrArg (fun w => Rooms_lookAt_h18 FU 3 w M0) z).trans a1
    have s3 : Rooms_lookAt_h38 FU 3 0 M1 = bd (j_Rooms_measure M2) (fun _ M10 => some ((), M10)) := (congrArg (fun w => Rooms_lookAt_h38 FU 3 w M1) z).trans b1
    rw [st, s2, s3, c1, bd_some]
  · intro a i ha
    rw [c2 a i (by omega) (by omega), b2 a i (by omega), a2 a i (by omega), fr a i (by omega)]
  · rw [c2 299 0 (by omega) (by omega), b2 299 0 (by omega), a2 299 0 (by omega)]; exact q0
  · rw [c2 299 1 (by omega) (by omega), b2 299 1 (by omega), a2 299 1 (by omega)]; exact q1
  · intro j hj
    have hw := a3 j hj
    unfold seen at hw ⊢
    rw [eS, eL, eK, fr 6 j (by omega), fr 5 j (by omega)] at hw
    rw [c2 304 j (by omega) (by omega), c2 300 j (by omega) (by omega), c2 301 j (by omega) (by omega), c2 302 j (by omega) (by omega), c2 303 j (by omega) (by omega), b2 304 j (by omega), b2 300 j (by omega), b2 301 j (by omega), b2 302 j (by omega), b2 303 j (by omega)]
    exact hw
  · intro i hi
    rw [c2 305 i (by omega) (by omega), b3 i hi, eT]
  · intro j hj v hv
    have := c4 j hj v hv
    rw [c2 300 j (by omega) (by omega), c2 301 j (by omega) (by omega), c2 302 j (by omega) (by omega)]
    exact this
