/-! the class's day d against a row f of the reference (89 places) -/
def nn (v f : Int32) : Prop := (v = -1000000 ∧ f = -1) ∨ (v = f ∧ 0 ≤ f.toInt)
def rowM (M : Mem) (a o : Nat) : Nat → Int32 := fun i => gi M a (o + i)
def DR (M : Mem) (d : Nat) (f : Nat → Int32) (nc nt nr : Nat) : Prop :=
  (gi M d 0 = nI nc ∧ gi M d 1 = nI nt ∧ gi M d 2 = nI nr) ∧ nn (gi M d 3) (f 11) ∧ (gi M d 4 = f 12 ∧ gi M d 5 = f 7 ∧ gi M d 6 = f 8 ∧ gi M d 7 = f 9 ∧ gi M d 8 = f 10) ∧ (∀ i, i < 4 → gi M (d + 1) i = f i) ∧
  (∀ c, c < nc → gi M (d + 2) c = f (13 + 4 * c) ∧ gi M (d + 3) c = f (13 + 4 * c + 1) ∧ gi M (d + 4) c = f (13 + 4 * c + 2) ∧ gi M (d + 5) c = f (13 + 4 * c + 3)) ∧
  (∀ t, t < nt → gi M (d + 6) t = f (41 + 3 * t) ∧ gi M (d + 7) t = f (41 + 3 * t + 1) ∧ nn (gi M (d + 8) t) (f (41 + 3 * t + 2))) ∧
  (∀ r, r < nr → gi M (d + 9) r = f (65 + 3 * r) ∧ gi M (d + 10) r = f (65 + 3 * r + 1) ∧ gi M (d + 11) r = f (65 + 3 * r + 2))
def Iv (f : Nat → Int32) (nc nt nr : Nat) : Prop :=
  (nc ≤ 6 ∧ nt ≤ 8 ∧ nr ≤ 8) ∧ (f 4 = nI nc ∧ f 5 = nI nt ∧ f 6 = nI nr) ∧ (0 ≤ (f 0).toInt ∧ (f 0).toInt ≤ 9 ∧ 0 ≤ (f 1).toInt ∧ (f 1).toInt ≤ 40) ∧
  (f 11 = -1 ∨ ∃ c, c < nc ∧ f 11 = nI c) ∧
  (∀ c, c < nc → (1 ≤ (f (13 + 4 * c)).toInt ∧ (f (13 + 4 * c)).toInt ≤ 5) ∧ (0 ≤ (f (13 + 4 * c + 1)).toInt ∧ (f (13 + 4 * c + 1)).toInt ≤ 99) ∧ (0 ≤ (f (13 + 4 * c + 2)).toInt ∧ (f (13 + 4 * c + 2)).toInt ≤ 2) ∧ (f (13 + 4 * c + 2) = 1 ↔ f 11 = nI c)) ∧
  (∀ t, t < nt → (0 ≤ (f (41 + 3 * t)).toInt ∧ (f (41 + 3 * t)).toInt ≤ 5) ∧ (1 ≤ (f (41 + 3 * t + 1)).toInt ∧ (f (41 + 3 * t + 1)).toInt ≤ 60) ∧ (-1 ≤ (f (41 + 3 * t + 2)).toInt ∧ (f (41 + 3 * t + 2)).toInt < nc)) ∧
  (∀ r, r < nr → f (65 + 3 * r + 2) = 0 ∨ f (65 + 3 * r + 2) = 1) ∧ (nc = 0 → nt = 0 ∧ nr = 0)
def BR (M : Mem) (d a o : Nat) : Prop := ∃ nc nt nr, DR M d (rowM M a o) nc nt nr ∧ Iv (rowM M a o) nc nt nr
def BRp (M : Mem) (d a o : Nat) : Prop := ∃ nc nt nr, 0 < nc ∧ DR M d (rowM M a o) nc nt nr ∧ Iv (rowM M a o) nc nt nr
def TR (M : Mem) : Prop := (∃ n, n ≤ 110 ∧ gi M 1 1 = nI n ∧ gi M 326 7 = nI n ∧ ∀ i, i < n → gi M 2 i = gi M 332 i ∧ 0 ≤ (gi M 2 i).toInt ∧ (gi M 2 i).toInt ≤ 255) ∧ gi M 1 3 = gi M 326 14
def HR (M : Mem) : Prop := ∃ a q, a ≤ 20 ∧ q < 20 ∧ gi M 27 2 = nI a ∧ gi M 326 3 = nI a ∧ gi M 27 1 = nI q ∧ ∀ j, j < a → BR M (29 + 12 * ((q + 20 - a + j) % 20)) 329 (89 * j)
def GR (M : Mem) : Prop := ∀ k, k < 2 → (gi M 331 k = 0 ∧ gi M (270 + 12 * k) 0 = 0) ∨ (gi M 331 k = 1 ∧ BRp M (270 + 12 * k) 330 (89 * k))
def Rel (M : Mem) : Prop := BR M 3 327 0 ∧ TR M ∧ HR M ∧ GR M
theorem DR.cong {M M' : Mem} {d d' : Nat} {f g : Nat → Int32} {nc nt nr : Nat} (hn : nc ≤ 6 ∧ nt ≤ 8 ∧ nr ≤ 8) (h0 : ∀ i, i < 9 → gi M' d' i = gi M d i) (h1 : ∀ j, 1 ≤ j → j ≤ 11 → ∀ i, i < ln (3 + j) → gi M' (d' + j) i = gi M (d + j) i) (hf : ∀ i, i < 89 → g i = f i) (h : DR M d f nc nt nr) : DR M' d' g nc nt nr := by
  obtain ⟨⟨a1, a2, a3⟩, a4, ⟨a5, a6, a7, a8, a9⟩, b1, b2, b3, b4⟩ := h
  obtain ⟨n1, n2, n3⟩ := hn
  refine ⟨⟨?_, ?_, ?_⟩, ?_, ⟨?_, ?_, ?_, ?_, ?_⟩, fun i hi => ?_, fun c hc => ?_, fun t ht => ?_, fun r hr => ?_⟩
  · rw [h0 0 (by omega), a1]
  · rw [h0 1 (by omega), a2]
  · rw [h0 2 (by omega), a3]
  · rw [h0 3 (by omega), hf 11 (by omega)]; exact a4
  · rw [h0 4 (by omega), hf 12 (by omega)]; exact a5
  · rw [h0 5 (by omega), hf 7 (by omega)]; exact a6
  · rw [h0 6 (by omega), hf 8 (by omega)]; exact a7
  · rw [h0 7 (by omega), hf 9 (by omega)]; exact a8
  · rw [h0 8 (by omega), hf 10 (by omega)]; exact a9
  · rw [h1 1 (by omega) (by omega) i (by show i < 4; omega), hf i (by omega)]; exact b1 i hi
  · rw [h1 2 (by omega) (by omega) c (by show c < 6; omega), h1 3 (by omega) (by omega) c (by show c < 6; omega), h1 4 (by omega) (by omega) c (by show c < 6; omega), h1 5 (by omega) (by omega) c (by show c < 6; omega), hf _ (by omega), hf _ (by omega), hf _ (by omega), hf _ (by omega)]; exact b2 c hc
  · rw [h1 6 (by omega) (by omega) t (by show t < 8; omega), h1 7 (by omega) (by omega) t (by show t < 8; omega), h1 8 (by omega) (by omega) t (by show t < 8; omega), hf _ (by omega), hf _ (by omega), hf _ (by omega)]; exact b3 t ht
  · rw [h1 9 (by omega) (by omega) r (by show r < 8; omega), h1 10 (by omega) (by omega) r (by show r < 8; omega), h1 11 (by omega) (by omega) r (by show r < 8; omega), hf _ (by omega), hf _ (by omega), hf _ (by omega)]; exact b4 r hr
theorem Iv.cong {f g : Nat → Int32} {nc nt nr : Nat} (hf : ∀ i, i < 89 → g i = f i) (h : Iv f nc nt nr) : Iv g nc nt nr := by
  obtain ⟨⟨n1, n2, n3⟩, ⟨a1, a2, a3⟩, a4, a5, b1, b2, b3, b4⟩ := h
  refine ⟨⟨n1, n2, n3⟩, ?_, ?_, ?_, fun c hc => ?_, fun t ht => ?_, fun r hr => ?_, b4⟩
  · rw [hf 4 (by omega), hf 5 (by omega), hf 6 (by omega)]; exact ⟨a1, a2, a3⟩
  · rw [hf 0 (by omega), hf 1 (by omega)]; exact a4
  · rw [hf 11 (by omega)]; exact a5
  · rw [hf _ (by omega), hf _ (by omega), hf _ (by omega), hf 11 (by omega)]; exact b1 c hc
  · rw [hf _ (by omega), hf _ (by omega), hf _ (by omega)]; exact b2 t ht
  · rw [hf _ (by omega)]; exact b3 r hr
theorem BR.cong {M M' : Mem} {d a o o' : Nat} (h0 : ∀ j, j ≤ 11 → ∀ i, gi M' (d + j) i = gi M (d + j) i) (hf : ∀ i, i < 89 → gi M' a (o' + i) = gi M a (o + i)) (h : BR M d a o) : BR M' d a o' := by
  obtain ⟨nc, nt, nr, h1, h2⟩ := h
  exact ⟨nc, nt, nr, h1.cong h2.1 (fun i _ => h0 0 (by omega) i) (fun j _ hj i _ => h0 j hj i) hf, h2.cong hf⟩
theorem BRp.cong {M M' : Mem} {d a o : Nat} (h0 : ∀ j, j ≤ 11 → ∀ i, gi M' (d + j) i = gi M (d + j) i) (hf : ∀ i, i < 89 → gi M' a (o + i) = gi M a (o + i)) (h : BRp M d a o) : BRp M' d a o := by
  obtain ⟨nc, nt, nr, hp, h1, h2⟩ := h
  exact ⟨nc, nt, nr, hp, h1.cong h2.1 (fun i _ => h0 0 (by omega) i) (fun j _ hj i _ => h0 j hj i) hf, h2.cong hf⟩
/-- all that Rel looks at is as it was -/
def Keep (M M' : Mem) : Prop := (∀ a i, (a < 15 ∨ (27 ≤ a ∧ a < 294)) → gi M' a i = gi M a i) ∧ (∀ a i, (a = 327 ∨ (329 ≤ a ∧ a ≤ 332)) → gi M' a i = gi M a i) ∧ (∀ i, (i < 8 ∨ i = 14) → gi M' 326 i = gi M 326 i)
theorem Keep.rfl {M : Mem} : Keep M M := ⟨fun _ _ _ => Eq.refl _, fun _ _ _ => Eq.refl _, fun _ _ => Eq.refl _⟩
theorem Keep.trans {M M1 M2 : Mem} (h1 : Keep M M1) (h2 : Keep M1 M2) : Keep M M2 := ⟨fun a i h => (h2.1 a i h).trans (h1.1 a i h), fun a i h => (h2.2.1 a i h).trans (h1.2.1 a i h), fun i h => (h2.2.2 i h).trans (h1.2.2 i h)⟩
theorem TR.keep {M M' : Mem} (hk : Keep M M') (h : TR M) : TR M' := by
  obtain ⟨⟨n, h1, h2, h3, h4⟩, h5⟩ := h
  refine ⟨⟨n, h1, by rw [hk.1 1 1 (by omega)]; exact h2, by rw [hk.2.2 7 (by omega)]; exact h3, fun i hi => ?_⟩, ?_⟩
  · rw [hk.1 2 i (by omega), hk.2.1 332 i (by omega)]; exact h4 i hi
  · rw [hk.1 1 3 (by omega), hk.2.2 14 (by omega)]; exact h5
theorem GR.keep {M M' : Mem} (hk : Keep M M') (h : GR M) : GR M' := by
  intro k hk2
  rcases h k hk2 with ⟨h1, h2⟩ | ⟨h1, h2⟩
  · exact Or.inl ⟨by rw [hk.2.1 331 k (by omega)]; exact h1, by rw [hk.1 _ 0 (by omega)]; exact h2⟩
  · exact Or.inr ⟨by rw [hk.2.1 331 k (by omega)]; exact h1, h2.cong (fun j hj i => hk.1 _ i (by omega)) (fun i _ => hk.2.1 330 _ (by omega))⟩
theorem HR.keep {M M' : Mem} (hk : Keep M M') (h : HR M) : HR M' := by
  obtain ⟨a, q, h1, h2, h3, h4, h5, h6⟩ := h
  refine ⟨a, q, h1, h2, by rw [hk.1 27 2 (by omega)]; exact h3, by rw [hk.2.2 3 (by omega)]; exact h4, by rw [hk.1 27 1 (by omega)]; exact h5, fun j hj => ?_⟩
  have := Nat.mod_lt (q + 20 - a + j) (show 0 < 20 by omega)
  exact (h6 j hj).cong (fun j hj i => hk.1 _ i (by omega)) (fun i _ => hk.2.1 329 _ (by omega))
theorem Rel.keep {M M' : Mem} (hk : Keep M M') (h : Rel M) : Rel M' := ⟨h.1.cong (fun j hj i => hk.1 _ i (by omega)) (fun i _ => hk.2.1 327 _ (by omega)), h.2.1.keep hk, h.2.2.1.keep hk, h.2.2.2.keep hk⟩
