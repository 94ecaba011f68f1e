theorem fu_ne {f : Nat → Int32} {i j : Nat} {v : Int32} (h : j ≠ i) : fu f i v j = f j := if_neg h
theorem fu_eq {f : Nat → Int32} {i : Nat} {v : Int32} : fu f i v i = v := if_pos rfl
theorem dr_kind {M : Mem} {f : Nat → Int32} {nc nt nr : Nat} {c : Nat} {v : Int32} (hc : c < nc) (hn : nc ≤ 6 ∧ nt ≤ 8 ∧ nr ≤ 8) (hD : DR M 3 f nc nt nr) : DR (uI M 5 c v) 3 (fu f (13 + 4 * c) v) nc nt nr := by
  obtain ⟨⟨a1, a2, a3⟩, a4, ⟨a5, a6, a7, a8, a9⟩, b1, b2, b3, b4⟩ := hD
  obtain ⟨n1, n2, n3⟩ := hn
  refine ⟨⟨?_, ?_, ?_⟩, ?_, ⟨?_, ?_, ?_, ?_, ?_⟩, fun i hi => ?_, fun c' hc' => ?_, fun t' ht' => ?_, fun r' hr' => ?_⟩
  · grind [gi_uI, fu]
  · grind [gi_uI, fu]
  · grind [gi_uI, fu]
  · grind [gi_uI, fu]
  · grind [gi_uI, fu]
  · grind [gi_uI, fu]
  · grind [gi_uI, fu]
  · grind [gi_uI, fu]
  · grind [gi_uI, fu]
  · have := b1 i hi; clear b1 b2 b3 b4; grind [gi_uI, fu]
  · have := b2 c' hc'; clear b1 b2 b3 b4; refine ⟨?_, ?_, ?_, ?_⟩ <;> grind [gi_uI, fu]
  · have := b3 t' ht'; clear b1 b2 b3 b4; refine ⟨?_, ?_, ?_⟩ <;> grind [gi_uI, fu]
  · have := b4 r' hr'; clear b1 b2 b3 b4; refine ⟨?_, ?_, ?_⟩ <;> grind [gi_uI, fu]
theorem dr_feet {M : Mem} {f : Nat → Int32} {nc nt nr : Nat} {c : Nat} {v : Int32} (hc : c < nc) (hn : nc ≤ 6 ∧ nt ≤ 8 ∧ nr ≤ 8) (hD : DR M 3 f nc nt nr) : DR (uI M 6 c v) 3 (fu f (13 + 4 * c + 1) v) nc nt nr := by
  obtain ⟨⟨a1, a2, a3⟩, a4, ⟨a5, a6, a7, a8, a9⟩, b1, b2, b3, b4⟩ := hD
  obtain ⟨n1, n2, n3⟩ := hn
  refine ⟨⟨?_, ?_, ?_⟩, ?_, ⟨?_, ?_, ?_, ?_, ?_⟩, fun i hi => ?_, fun c' hc' => ?_, fun t' ht' => ?_, fun r' hr' => ?_⟩
  · grind [gi_uI, fu]
  · grind [gi_uI, fu]
  · grind [gi_uI, fu]
  · grind [gi_uI, fu]
  · grind [gi_uI, fu]
  · grind [gi_uI, fu]
  · grind [gi_uI, fu]
  · grind [gi_uI, fu]
  · grind [gi_uI, fu]
  · have := b1 i hi; clear b1 b2 b3 b4; grind [gi_uI, fu]
  · have := b2 c' hc'; clear b1 b2 b3 b4; refine ⟨?_, ?_, ?_, ?_⟩ <;> grind [gi_uI, fu]
  · have := b3 t' ht'; clear b1 b2 b3 b4; refine ⟨?_, ?_, ?_⟩ <;> grind [gi_uI, fu]
  · have := b4 r' hr'; clear b1 b2 b3 b4; refine ⟨?_, ?_, ?_⟩ <;> grind [gi_uI, fu]
theorem dr_where {M : Mem} {f : Nat → Int32} {nc nt nr : Nat} {c : Nat} {v : Int32} (hc : c < nc) (hn : nc ≤ 6 ∧ nt ≤ 8 ∧ nr ≤ 8) (hD : DR M 3 f nc nt nr) : DR (uI M 7 c v) 3 (fu f (13 + 4 * c + 2) v) nc nt nr := by
  obtain ⟨⟨a1, a2, a3⟩, a4, ⟨a5, a6, a7, a8, a9⟩, b1, b2, b3, b4⟩ := hD
  obtain ⟨n1, n2, n3⟩ := hn
  refine ⟨⟨?_, ?_, ?_⟩, ?_, ⟨?_, ?_, ?_, ?_, ?_⟩, fun i hi => ?_, fun c' hc' => ?_, fun t' ht' => ?_, fun r' hr' => ?_⟩
  · grind [gi_uI, fu]
  · grind [gi_uI, fu]
  · grind [gi_uI, fu]
  · grind [gi_uI, fu]
  · grind [gi_uI, fu]
  · grind [gi_uI, fu]
  · grind [gi_uI, fu]
  · grind [gi_uI, fu]
  · grind [gi_uI, fu]
  · have := b1 i hi; clear b1 b2 b3 b4; grind [gi_uI, fu]
  · have := b2 c' hc'; clear b1 b2 b3 b4; refine ⟨?_, ?_, ?_, ?_⟩ <;> grind [gi_uI, fu]
  · have := b3 t' ht'; clear b1 b2 b3 b4; refine ⟨?_, ?_, ?_⟩ <;> grind [gi_uI, fu]
  · have := b4 r' hr'; clear b1 b2 b3 b4; refine ⟨?_, ?_, ?_⟩ <;> grind [gi_uI, fu]
theorem dr_short {M : Mem} {f : Nat → Int32} {nc nt nr : Nat} {c : Nat} {v : Int32} (hc : c < nc) (hn : nc ≤ 6 ∧ nt ≤ 8 ∧ nr ≤ 8) (hD : DR M 3 f nc nt nr) : DR (uI M 8 c v) 3 (fu f (13 + 4 * c + 3) v) nc nt nr := by
  obtain ⟨⟨a1, a2, a3⟩, a4, ⟨a5, a6, a7, a8, a9⟩, b1, b2, b3, b4⟩ := hD
  obtain ⟨n1, n2, n3⟩ := hn
  refine ⟨⟨?_, ?_, ?_⟩, ?_, ⟨?_, ?_, ?_, ?_, ?_⟩, fun i hi => ?_, fun c' hc' => ?_, fun t' ht' => ?_, fun r' hr' => ?_⟩
  · grind [gi_uI, fu]
  · grind [gi_uI, fu]
  · grind [gi_uI, fu]
  · grind [gi_uI, fu]
  · grind [gi_uI, fu]
  · grind [gi_uI, fu]
  · grind [gi_uI, fu]
  · grind [gi_uI, fu]
  · grind [gi_uI, fu]
  · have := b1 i hi; clear b1 b2 b3 b4; grind [gi_uI, fu]
  · have := b2 c' hc'; clear b1 b2 b3 b4; refine ⟨?_, ?_, ?_, ?_⟩ <;> grind [gi_uI, fu]
  · have := b3 t' ht'; clear b1 b2 b3 b4; refine ⟨?_, ?_, ?_⟩ <;> grind [gi_uI, fu]
  · have := b4 r' hr'; clear b1 b2 b3 b4; refine ⟨?_, ?_, ?_⟩ <;> grind [gi_uI, fu]
theorem dr_tkind {M : Mem} {f : Nat → Int32} {nc nt nr : Nat} {t : Nat} {v : Int32} (ht : t < nt) (hn : nc ≤ 6 ∧ nt ≤ 8 ∧ nr ≤ 8) (hD : DR M 3 f nc nt nr) : DR (uI M 9 t v) 3 (fu f (41 + 3 * t) v) nc nt nr := by
  obtain ⟨⟨a1, a2, a3⟩, a4, ⟨a5, a6, a7, a8, a9⟩, b1, b2, b3, b4⟩ := hD
  obtain ⟨n1, n2, n3⟩ := hn
  refine ⟨⟨?_, ?_, ?_⟩, ?_, ⟨?_, ?_, ?_, ?_, ?_⟩, fun i hi => ?_, fun c' hc' => ?_, fun t' ht' => ?_, fun r' hr' => ?_⟩
  · grind [gi_uI, fu]
  · grind [gi_uI, fu]
  · grind [gi_uI, fu]
  · grind [gi_uI, fu]
  · grind [gi_uI, fu]
  · grind [gi_uI, fu]
  · grind [gi_uI, fu]
  · grind [gi_uI, fu]
  · grind [gi_uI, fu]
  · have := b1 i hi; clear b1 b2 b3 b4; grind [gi_uI, fu]
  · have := b2 c' hc'; clear b1 b2 b3 b4; refine ⟨?_, ?_, ?_, ?_⟩ <;> grind [gi_uI, fu]
  · have := b3 t' ht'; clear b1 b2 b3 b4; refine ⟨?_, ?_, ?_⟩ <;> grind [gi_uI, fu]
  · have := b4 r' hr'; clear b1 b2 b3 b4; refine ⟨?_, ?_, ?_⟩ <;> grind [gi_uI, fu]
theorem dr_tfeet {M : Mem} {f : Nat → Int32} {nc nt nr : Nat} {t : Nat} {v : Int32} (ht : t < nt) (hn : nc ≤ 6 ∧ nt ≤ 8 ∧ nr ≤ 8) (hD : DR M 3 f nc nt nr) : DR (uI M 10 t v) 3 (fu f (41 + 3 * t + 1) v) nc nt nr := by
  obtain ⟨⟨a1, a2, a3⟩, a4, ⟨a5, a6, a7, a8, a9⟩, b1, b2, b3, b4⟩ := hD
  obtain ⟨n1, n2, n3⟩ := hn
  refine ⟨⟨?_, ?_, ?_⟩, ?_, ⟨?_, ?_, ?_, ?_, ?_⟩, fun i hi => ?_, fun c' hc' => ?_, fun t' ht' => ?_, fun r' hr' => ?_⟩
  · grind [gi_uI, fu]
  · grind [gi_uI, fu]
  · grind [gi_uI, fu]
  · grind [gi_uI, fu]
  · grind [gi_uI, fu]
  · grind [gi_uI, fu]
  · grind [gi_uI, fu]
  · grind [gi_uI, fu]
  · grind [gi_uI, fu]
  · have := b1 i hi; clear b1 b2 b3 b4; grind [gi_uI, fu]
  · have := b2 c' hc'; clear b1 b2 b3 b4; refine ⟨?_, ?_, ?_, ?_⟩ <;> grind [gi_uI, fu]
  · have := b3 t' ht'; clear b1 b2 b3 b4; refine ⟨?_, ?_, ?_⟩ <;> grind [gi_uI, fu]
  · have := b4 r' hr'; clear b1 b2 b3 b4; refine ⟨?_, ?_, ?_⟩ <;> grind [gi_uI, fu]
theorem dr_tcan {M : Mem} {f : Nat → Int32} {nc nt nr : Nat} {t : Nat} {v v2 : Int32} (ht : t < nt) (hv : nn v v2) (hn : nc ≤ 6 ∧ nt ≤ 8 ∧ nr ≤ 8) (hD : DR M 3 f nc nt nr) : DR (uI M 11 t v) 3 (fu f (41 + 3 * t + 2) v2) nc nt nr := by
  obtain ⟨⟨a1, a2, a3⟩, a4, ⟨a5, a6, a7, a8, a9⟩, b1, b2, b3, b4⟩ := hD
  obtain ⟨n1, n2, n3⟩ := hn
  refine ⟨⟨?_, ?_, ?_⟩, ?_, ⟨?_, ?_, ?_, ?_, ?_⟩, fun i hi => ?_, fun c' hc' => ?_, fun t' ht' => ?_, fun r' hr' => ?_⟩
  · grind [gi_uI, fu]
  · grind [gi_uI, fu]
  · grind [gi_uI, fu]
  · grind [gi_uI, fu]
  · grind [gi_uI, fu]
  · grind [gi_uI, fu]
  · grind [gi_uI, fu]
  · grind [gi_uI, fu]
  · grind [gi_uI, fu]
  · have := b1 i hi; clear b1 b2 b3 b4; grind [gi_uI, fu]
  · have := b2 c' hc'; clear b1 b2 b3 b4; refine ⟨?_, ?_, ?_, ?_⟩ <;> grind [gi_uI, fu]
  · have := b3 t' ht'; clear b1 b2 b3 b4; refine ⟨?_, ?_, ?_⟩ <;> grind [gi_uI, fu]
  · have := b4 r' hr'; clear b1 b2 b3 b4; refine ⟨?_, ?_, ?_⟩ <;> grind [gi_uI, fu]
theorem dr_law {M : Mem} {f : Nat → Int32} {nc nt nr : Nat} {k : Nat} {v : Int32} (hk : k < 4) (hn : nc ≤ 6 ∧ nt ≤ 8 ∧ nr ≤ 8) (hD : DR M 3 f nc nt nr) : DR (uI M 4 k v) 3 (fu f (k) v) nc nt nr := by
  obtain ⟨⟨a1, a2, a3⟩, a4, ⟨a5, a6, a7, a8, a9⟩, b1, b2, b3, b4⟩ := hD
  obtain ⟨n1, n2, n3⟩ := hn
  refine ⟨⟨?_, ?_, ?_⟩, ?_, ⟨?_, ?_, ?_, ?_, ?_⟩, fun i hi => ?_, fun c' hc' => ?_, fun t' ht' => ?_, fun r' hr' => ?_⟩
  · grind [gi_uI, fu]
  · grind [gi_uI, fu]
  · grind [gi_uI, fu]
  · grind [gi_uI, fu]
  · grind [gi_uI, fu]
  · grind [gi_uI, fu]
  · grind [gi_uI, fu]
  · grind [gi_uI, fu]
  · grind [gi_uI, fu]
  · have := b1 i hi; clear b1 b2 b3 b4; grind [gi_uI, fu]
  · have := b2 c' hc'; clear b1 b2 b3 b4; refine ⟨?_, ?_, ?_, ?_⟩ <;> grind [gi_uI, fu]
  · have := b3 t' ht'; clear b1 b2 b3 b4; refine ⟨?_, ?_, ?_⟩ <;> grind [gi_uI, fu]
  · have := b4 r' hr'; clear b1 b2 b3 b4; refine ⟨?_, ?_, ?_⟩ <;> grind [gi_uI, fu]
theorem dr_in {M : Mem} {f : Nat → Int32} {nc nt nr : Nat} {v v2 : Int32} (hv : nn v v2) (hn : nc ≤ 6 ∧ nt ≤ 8 ∧ nr ≤ 8) (hD : DR M 3 f nc nt nr) : DR (uI M 3 3 v) 3 (fu f (11) v2) nc nt nr := by
  obtain ⟨⟨a1, a2, a3⟩, a4, ⟨a5, a6, a7, a8, a9⟩, b1, b2, b3, b4⟩ := hD
  obtain ⟨n1, n2, n3⟩ := hn
  refine ⟨⟨?_, ?_, ?_⟩, ?_, ⟨?_, ?_, ?_, ?_, ?_⟩, fun i hi => ?_, fun c' hc' => ?_, fun t' ht' => ?_, fun r' hr' => ?_⟩
  · grind [gi_uI, fu]
  · grind [gi_uI, fu]
  · grind [gi_uI, fu]
  · grind [gi_uI, fu]
  · grind [gi_uI, fu]
  · grind [gi_uI, fu]
  · grind [gi_uI, fu]
  · grind [gi_uI, fu]
  · grind [gi_uI, fu]
  · have := b1 i hi; clear b1 b2 b3 b4; grind [gi_uI, fu]
  · have := b2 c' hc'; clear b1 b2 b3 b4; refine ⟨?_, ?_, ?_, ?_⟩ <;> grind [gi_uI, fu]
  · have := b3 t' ht'; clear b1 b2 b3 b4; refine ⟨?_, ?_, ?_⟩ <;> grind [gi_uI, fu]
  · have := b4 r' hr'; clear b1 b2 b3 b4; refine ⟨?_, ?_, ?_⟩ <;> grind [gi_uI, fu]
theorem dr_croll {M : Mem} {f : Nat → Int32} {nc nt nr : Nat} {v : Int32} (hn : nc ≤ 6 ∧ nt ≤ 8 ∧ nr ≤ 8) (hD : DR M 3 f nc nt nr) : DR (uI M 3 4 v) 3 (fu f (12) v) nc nt nr := by
  obtain ⟨⟨a1, a2, a3⟩, a4, ⟨a5, a6, a7, a8, a9⟩, b1, b2, b3, b4⟩ := hD
  obtain ⟨n1, n2, n3⟩ := hn
  refine ⟨⟨?_, ?_, ?_⟩, ?_, ⟨?_, ?_, ?_, ?_, ?_⟩, fun i hi => ?_, fun c' hc' => ?_, fun t' ht' => ?_, fun r' hr' => ?_⟩
  · grind [gi_uI, fu]
  · grind [gi_uI, fu]
  · grind [gi_uI, fu]
  · grind [gi_uI, fu]
  · grind [gi_uI, fu]
  · grind [gi_uI, fu]
  · grind [gi_uI, fu]
  · grind [gi_uI, fu]
  · grind [gi_uI, fu]
  · have := b1 i hi; clear b1 b2 b3 b4; grind [gi_uI, fu]
  · have := b2 c' hc'; clear b1 b2 b3 b4; refine ⟨?_, ?_, ?_, ?_⟩ <;> grind [gi_uI, fu]
  · have := b3 t' ht'; clear b1 b2 b3 b4; refine ⟨?_, ?_, ?_⟩ <;> grind [gi_uI, fu]
  · have := b4 r' hr'; clear b1 b2 b3 b4; refine ⟨?_, ?_, ?_⟩ <;> grind [gi_uI, fu]
theorem dr_bought {M : Mem} {f : Nat → Int32} {nc nt nr : Nat} {v : Int32} (hn : nc ≤ 6 ∧ nt ≤ 8 ∧ nr ≤ 8) (hD : DR M 3 f nc nt nr) : DR (uI M 3 5 v) 3 (fu f (7) v) nc nt nr := by
  obtain ⟨⟨a1, a2, a3⟩, a4, ⟨a5, a6, a7, a8, a9⟩, b1, b2, b3, b4⟩ := hD
  obtain ⟨n1, n2, n3⟩ := hn
  refine ⟨⟨?_, ?_, ?_⟩, ?_, ⟨?_, ?_, ?_, ?_, ?_⟩, fun i hi => ?_, fun c' hc' => ?_, fun t' ht' => ?_, fun r' hr' => ?_⟩
  · grind [gi_uI, fu]
  · grind [gi_uI, fu]
  · grind [gi_uI, fu]
  · grind [gi_uI, fu]
  · grind [gi_uI, fu]
  · grind [gi_uI, fu]
  · grind [gi_uI, fu]
  · grind [gi_uI, fu]
  · grind [gi_uI, fu]
  · have := b1 i hi; clear b1 b2 b3 b4; grind [gi_uI, fu]
  · have := b2 c' hc'; clear b1 b2 b3 b4; refine ⟨?_, ?_, ?_, ?_⟩ <;> grind [gi_uI, fu]
  · have := b3 t' ht'; clear b1 b2 b3 b4; refine ⟨?_, ?_, ?_⟩ <;> grind [gi_uI, fu]
  · have := b4 r' hr'; clear b1 b2 b3 b4; refine ⟨?_, ?_, ?_⟩ <;> grind [gi_uI, fu]
theorem dr_exposed {M : Mem} {f : Nat → Int32} {nc nt nr : Nat} {v : Int32} (hn : nc ≤ 6 ∧ nt ≤ 8 ∧ nr ≤ 8) (hD : DR M 3 f nc nt nr) : DR (uI M 3 6 v) 3 (fu f (8) v) nc nt nr := by
  obtain ⟨⟨a1, a2, a3⟩, a4, ⟨a5, a6, a7, a8, a9⟩, b1, b2, b3, b4⟩ := hD
  obtain ⟨n1, n2, n3⟩ := hn
  refine ⟨⟨?_, ?_, ?_⟩, ?_, ⟨?_, ?_, ?_, ?_, ?_⟩, fun i hi => ?_, fun c' hc' => ?_, fun t' ht' => ?_, fun r' hr' => ?_⟩
  · grind [gi_uI, fu]
  · grind [gi_uI, fu]
  · grind [gi_uI, fu]
  · grind [gi_uI, fu]
  · grind [gi_uI, fu]
  · grind [gi_uI, fu]
  · grind [gi_uI, fu]
  · grind [gi_uI, fu]
  · grind [gi_uI, fu]
  · have := b1 i hi; clear b1 b2 b3 b4; grind [gi_uI, fu]
  · have := b2 c' hc'; clear b1 b2 b3 b4; refine ⟨?_, ?_, ?_, ?_⟩ <;> grind [gi_uI, fu]
  · have := b3 t' ht'; clear b1 b2 b3 b4; refine ⟨?_, ?_, ?_⟩ <;> grind [gi_uI, fu]
  · have := b4 r' hr'; clear b1 b2 b3 b4; refine ⟨?_, ?_, ?_⟩ <;> grind [gi_uI, fu]
theorem dr_waste {M : Mem} {f : Nat → Int32} {nc nt nr : Nat} {v : Int32} (hn : nc ≤ 6 ∧ nt ≤ 8 ∧ nr ≤ 8) (hD : DR M 3 f nc nt nr) : DR (uI M 3 7 v) 3 (fu f (9) v) nc nt nr := by
  obtain ⟨⟨a1, a2, a3⟩, a4, ⟨a5, a6, a7, a8, a9⟩, b1, b2, b3, b4⟩ := hD
  obtain ⟨n1, n2, n3⟩ := hn
  refine ⟨⟨?_, ?_, ?_⟩, ?_, ⟨?_, ?_, ?_, ?_, ?_⟩, fun i hi => ?_, fun c' hc' => ?_, fun t' ht' => ?_, fun r' hr' => ?_⟩
  · grind [gi_uI, fu]
  · grind [gi_uI, fu]
  · grind [gi_uI, fu]
  · grind [gi_uI, fu]
  · grind [gi_uI, fu]
  · grind [gi_uI, fu]
  · grind [gi_uI, fu]
  · grind [gi_uI, fu]
  · grind [gi_uI, fu]
  · have := b1 i hi; clear b1 b2 b3 b4; grind [gi_uI, fu]
  · have := b2 c' hc'; clear b1 b2 b3 b4; refine ⟨?_, ?_, ?_, ?_⟩ <;> grind [gi_uI, fu]
  · have := b3 t' ht'; clear b1 b2 b3 b4; refine ⟨?_, ?_, ?_⟩ <;> grind [gi_uI, fu]
  · have := b4 r' hr'; clear b1 b2 b3 b4; refine ⟨?_, ?_, ?_⟩ <;> grind [gi_uI, fu]
theorem dr_paid {M : Mem} {f : Nat → Int32} {nc nt nr : Nat} {v : Int32} (hn : nc ≤ 6 ∧ nt ≤ 8 ∧ nr ≤ 8) (hD : DR M 3 f nc nt nr) : DR (uI M 3 8 v) 3 (fu f (10) v) nc nt nr := by
  obtain ⟨⟨a1, a2, a3⟩, a4, ⟨a5, a6, a7, a8, a9⟩, b1, b2, b3, b4⟩ := hD
  obtain ⟨n1, n2, n3⟩ := hn
  refine ⟨⟨?_, ?_, ?_⟩, ?_, ⟨?_, ?_, ?_, ?_, ?_⟩, fun i hi => ?_, fun c' hc' => ?_, fun t' ht' => ?_, fun r' hr' => ?_⟩
  · grind [gi_uI, fu]
  · grind [gi_uI, fu]
  · grind [gi_uI, fu]
  · grind [gi_uI, fu]
  · grind [gi_uI, fu]
  · grind [gi_uI, fu]
  · grind [gi_uI, fu]
  · grind [gi_uI, fu]
  · grind [gi_uI, fu]
  · have := b1 i hi; clear b1 b2 b3 b4; grind [gi_uI, fu]
  · have := b2 c' hc'; clear b1 b2 b3 b4; refine ⟨?_, ?_, ?_, ?_⟩ <;> grind [gi_uI, fu]
  · have := b3 t' ht'; clear b1 b2 b3 b4; refine ⟨?_, ?_, ?_⟩ <;> grind [gi_uI, fu]
  · have := b4 r' hr'; clear b1 b2 b3 b4; refine ⟨?_, ?_, ?_⟩ <;> grind [gi_uI, fu]
theorem iv_kind {f : Nat → Int32} {nc nt nr : Nat} {c : Nat} {v : Int32} (hc : c < nc) (hv : 1 ≤ v.toInt ∧ v.toInt ≤ 5) (hI : Iv f nc nt nr) : Iv (fu f (13 + 4 * c) v) nc nt nr := by
  obtain ⟨⟨n1, n2, n3⟩, ⟨a1, a2, a3⟩, a4, a5, b1, b2, b3, b4⟩ := hI
  refine ⟨⟨n1, n2, n3⟩, ⟨?_, ?_, ?_⟩, ?_, ?_, fun c' hc' => ?_, fun t' ht' => ?_, fun r' hr' => ?_, b4⟩
  · grind [fu]
  · grind [fu]
  · grind [fu]
  · clear b1 b2 b3 b4 a5; grind [fu]
  · rw [fu_ne (by omega)]; exact a5
  · have := b1 c' hc'; clear b1 b2 b3 b4 a5; refine ⟨?_, ?_, ?_, ?_⟩ <;> grind [fu]
  · have := b2 t' ht'; clear b1 b2 b3 b4 a5; refine ⟨?_, ?_, ?_⟩ <;> grind [fu]
  · have := b3 r' hr'; clear b1 b2 b3 b4 a5; grind [fu]
theorem iv_feet {f : Nat → Int32} {nc nt nr : Nat} {c : Nat} {v : Int32} (hc : c < nc) (hv : 0 ≤ v.toInt ∧ v.toInt ≤ 99) (hI : Iv f nc nt nr) : Iv (fu f (13 + 4 * c + 1) v) nc nt nr := by
  obtain ⟨⟨n1, n2, n3⟩, ⟨a1, a2, a3⟩, a4, a5, b1, b2, b3, b4⟩ := hI
  refine ⟨⟨n1, n2, n3⟩, ⟨?_, ?_, ?_⟩, ?_, ?_, fun c' hc' => ?_, fun t' ht' => ?_, fun r' hr' => ?_, b4⟩
  · grind [fu]
  · grind [fu]
  · grind [fu]
  · clear b1 b2 b3 b4 a5; grind [fu]
  · rw [fu_ne (by omega)]; exact a5
  · have := b1 c' hc'; clear b1 b2 b3 b4 a5; refine ⟨?_, ?_, ?_, ?_⟩ <;> grind [fu]
  · have := b2 t' ht'; clear b1 b2 b3 b4 a5; refine ⟨?_, ?_, ?_⟩ <;> grind [fu]
  · have := b3 r' hr'; clear b1 b2 b3 b4 a5; grind [fu]
theorem iv_short {f : Nat → Int32} {nc nt nr : Nat} {c : Nat} {v : Int32} (hc : c < nc) (hI : Iv f nc nt nr) : Iv (fu f (13 + 4 * c + 3) v) nc nt nr := by
  obtain ⟨⟨n1, n2, n3⟩, ⟨a1, a2, a3⟩, a4, a5, b1, b2, b3, b4⟩ := hI
  refine ⟨⟨n1, n2, n3⟩, ⟨?_, ?_, ?_⟩, ?_, ?_, fun c' hc' => ?_, fun t' ht' => ?_, fun r' hr' => ?_, b4⟩
  · grind [fu]
  · grind [fu]
  · grind [fu]
  · clear b1 b2 b3 b4 a5; grind [fu]
  · rw [fu_ne (by omega)]; exact a5
  · have := b1 c' hc'; clear b1 b2 b3 b4 a5; refine ⟨?_, ?_, ?_, ?_⟩ <;> grind [fu]
  · have := b2 t' ht'; clear b1 b2 b3 b4 a5; refine ⟨?_, ?_, ?_⟩ <;> grind [fu]
  · have := b3 r' hr'; clear b1 b2 b3 b4 a5; grind [fu]
theorem iv_tkind {f : Nat → Int32} {nc nt nr : Nat} {t : Nat} {v : Int32} (ht : t < nt) (hv : 0 ≤ v.toInt ∧ v.toInt ≤ 5) (hI : Iv f nc nt nr) : Iv (fu f (41 + 3 * t) v) nc nt nr := by
  obtain ⟨⟨n1, n2, n3⟩, ⟨a1, a2, a3⟩, a4, a5, b1, b2, b3, b4⟩ := hI
  refine ⟨⟨n1, n2, n3⟩, ⟨?_, ?_, ?_⟩, ?_, ?_, fun c' hc' => ?_, fun t' ht' => ?_, fun r' hr' => ?_, b4⟩
  · grind [fu]
  · grind [fu]
  · grind [fu]
  · clear b1 b2 b3 b4 a5; grind [fu]
  · rw [fu_ne (by omega)]; exact a5
  · have := b1 c' hc'; clear b1 b2 b3 b4 a5; refine ⟨?_, ?_, ?_, ?_⟩ <;> grind [fu]
  · have := b2 t' ht'; clear b1 b2 b3 b4 a5; refine ⟨?_, ?_, ?_⟩ <;> grind [fu]
  · have := b3 r' hr'; clear b1 b2 b3 b4 a5; grind [fu]
theorem iv_tfeet {f : Nat → Int32} {nc nt nr : Nat} {t : Nat} {v : Int32} (ht : t < nt) (hv : 1 ≤ v.toInt ∧ v.toInt ≤ 60) (hI : Iv f nc nt nr) : Iv (fu f (41 + 3 * t + 1) v) nc nt nr := by
  obtain ⟨⟨n1, n2, n3⟩, ⟨a1, a2, a3⟩, a4, a5, b1, b2, b3, b4⟩ := hI
  refine ⟨⟨n1, n2, n3⟩, ⟨?_, ?_, ?_⟩, ?_, ?_, fun c' hc' => ?_, fun t' ht' => ?_, fun r' hr' => ?_, b4⟩
  · grind [fu]
  · grind [fu]
  · grind [fu]
  · clear b1 b2 b3 b4 a5; grind [fu]
  · rw [fu_ne (by omega)]; exact a5
  · have := b1 c' hc'; clear b1 b2 b3 b4 a5; refine ⟨?_, ?_, ?_, ?_⟩ <;> grind [fu]
  · have := b2 t' ht'; clear b1 b2 b3 b4 a5; refine ⟨?_, ?_, ?_⟩ <;> grind [fu]
  · have := b3 r' hr'; clear b1 b2 b3 b4 a5; grind [fu]
theorem iv_tcan {f : Nat → Int32} {nc nt nr : Nat} {t : Nat} {v : Int32} (ht : t < nt) (hv : -1 ≤ v.toInt ∧ v.toInt < nc) (hI : Iv f nc nt nr) : Iv (fu f (41 + 3 * t + 2) v) nc nt nr := by
  obtain ⟨⟨n1, n2, n3⟩, ⟨a1, a2, a3⟩, a4, a5, b1, b2, b3, b4⟩ := hI
  refine ⟨⟨n1, n2, n3⟩, ⟨?_, ?_, ?_⟩, ?_, ?_, fun c' hc' => ?_, fun t' ht' => ?_, fun r' hr' => ?_, b4⟩
  · grind [fu]
  · grind [fu]
  · grind [fu]
  · clear b1 b2 b3 b4 a5; grind [fu]
  · rw [fu_ne (by omega)]; exact a5
  · have := b1 c' hc'; clear b1 b2 b3 b4 a5; refine ⟨?_, ?_, ?_, ?_⟩ <;> grind [fu]
  · have := b2 t' ht'; clear b1 b2 b3 b4 a5; refine ⟨?_, ?_, ?_⟩ <;> grind [fu]
  · have := b3 r' hr'; clear b1 b2 b3 b4 a5; grind [fu]
theorem iv_law {f : Nat → Int32} {nc nt nr : Nat} {k : Nat} {v : Int32} (hk : k < 4) (h0 : k = 0 → 0 ≤ v.toInt ∧ v.toInt ≤ 9) (h1 : k = 1 → 0 ≤ v.toInt ∧ v.toInt ≤ 40) (hI : Iv f nc nt nr) : Iv (fu f (k) v) nc nt nr := by
  obtain ⟨⟨n1, n2, n3⟩, ⟨a1, a2, a3⟩, a4, a5, b1, b2, b3, b4⟩ := hI
  refine ⟨⟨n1, n2, n3⟩, ⟨?_, ?_, ?_⟩, ?_, ?_, fun c' hc' => ?_, fun t' ht' => ?_, fun r' hr' => ?_, b4⟩
  · grind [fu]
  · grind [fu]
  · grind [fu]
  · clear b1 b2 b3 b4 a5; grind [fu]
  · rw [fu_ne (by omega)]; exact a5
  · have := b1 c' hc'; clear b1 b2 b3 b4 a5; refine ⟨?_, ?_, ?_, ?_⟩ <;> grind [fu]
  · have := b2 t' ht'; clear b1 b2 b3 b4 a5; refine ⟨?_, ?_, ?_⟩ <;> grind [fu]
  · have := b3 r' hr'; clear b1 b2 b3 b4 a5; grind [fu]
theorem iv_misc {f : Nat → Int32} {nc nt nr : Nat} {k : Nat} {v : Int32} (hk : k = 12 ∨ (7 ≤ k ∧ k ≤ 10)) (hI : Iv f nc nt nr) : Iv (fu f (k) v) nc nt nr := by
  obtain ⟨⟨n1, n2, n3⟩, ⟨a1, a2, a3⟩, a4, a5, b1, b2, b3, b4⟩ := hI
  refine ⟨⟨n1, n2, n3⟩, ⟨?_, ?_, ?_⟩, ?_, ?_, fun c' hc' => ?_, fun t' ht' => ?_, fun r' hr' => ?_, b4⟩
  · grind [fu]
  · grind [fu]
  · grind [fu]
  · clear b1 b2 b3 b4 a5; grind [fu]
  · rw [fu_ne (by omega)]; exact a5
  · have := b1 c' hc'; clear b1 b2 b3 b4 a5; refine ⟨?_, ?_, ?_, ?_⟩ <;> grind [fu]
  · have := b2 t' ht'; clear b1 b2 b3 b4 a5; refine ⟨?_, ?_, ?_⟩ <;> grind [fu]
  · have := b3 r' hr'; clear b1 b2 b3 b4 a5; grind [fu]
