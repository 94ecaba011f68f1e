/-- least value of a set of numbers, 1000000 where there is none below -/
def Mn (S : Nat → Prop) (x : Nat) : Prop := x ≤ 1000000 ∧ (x < 1000000 → S x) ∧ ∀ v, S v → x ≤ v
theorem mn_uniq {S : Nat → Prop} {x y : Nat} (h : Mn S x) (g : Mn S y) : x = y := by
  obtain ⟨h1, h2, h3⟩ := h
  obtain ⟨g1, g2, g3⟩ := g
  by_cases hx : x < 1000000
  · have := g3 x (h2 hx)
    by_cases hy : y < 1000000
    · have := h3 y (g2 hy)
      omega
    · omega
  · by_cases hy : y < 1000000
    · have := h3 y (g2 hy)
      omega
    · omega
theorem mn_cong {S T : Nat → Prop} {x : Nat} (e : ∀ v, S v ↔ T v) (h : Mn S x) : Mn T x := ⟨h.1, fun q => (e x).mp (h.2.1 q), fun v hv => h.2.2 v ((e v).mpr hv)⟩
theorem mn_or {S T : Nat → Prop} {x y : Nat} (h : Mn S x) (g : Mn T y) : Mn (fun v => S v ∨ T v) (min x y) := by
  obtain ⟨h1, h2, h3⟩ := h
  obtain ⟨g1, g2, g3⟩ := g
  refine ⟨by omega, fun q => ?_, fun v hv => ?_⟩
  · by_cases hxy : x ≤ y
    · rw [Nat.min_eq_left hxy] at q ⊢
      exact Or.inl (h2 q)
    · rw [Nat.min_eq_right (by omega)] at q ⊢
      exact Or.inr (g2 q)
  · rcases hv with hv | hv
    · have := h3 v hv; omega
    · have := g3 v hv; omega
theorem mn_add {S : Nat → Prop} {x : Nat} (p : Nat) (h : Mn S x) : Mn (fun v => ∃ v', S v' ∧ v = p + v') (min 1000000 (p + x)) := by
  obtain ⟨h1, h2, h3⟩ := h
  refine ⟨by omega, fun q => ?_, fun v hv => ?_⟩
  · have : min 1000000 (p + x) = p + x := by omega
    rw [this] at q ⊢
    exact ⟨x, h2 (by omega), rfl⟩
  · obtain ⟨v', hv', rfl⟩ := hv
    have := h3 v' hv'
    omega
theorem mn_ex_in (S : Nat → Prop) : ∀ n, S n → ∃ x, S x ∧ ∀ v, S v → x ≤ v := by
  intro n
  induction n using Nat.strongRecOn with
  | ind n ih =>
    intro h
    by_cases hs : ∃ m, m < n ∧ S m
    · obtain ⟨m, h1, h2⟩ := hs
      exact ih m h1 h2
    · exact ⟨n, h, fun m hm => by
        apply Classical.byContradiction
        intro hn
        exact hs ⟨m, by omega, hm⟩⟩
theorem mn_ex (S : Nat → Prop) : ∃ x, Mn S x := by
  by_cases h : ∃ n, n < 1000000 ∧ S n
  · obtain ⟨n, h1, h2⟩ := h
    obtain ⟨x, g1, g2⟩ := mn_ex_in S n h2
    exact ⟨x, by have := g2 n h2; omega, fun _ => g1, g2⟩
  · refine ⟨1000000, Nat.le_refl _, fun q => absurd q (by omega), fun v hv => ?_⟩
    apply Classical.byContradiction
    intro hn
    exact h ⟨v, by omega, hv⟩
/-- v is a price at which the takes of s are put on the cans c .. c+m-1 -/
def Cs (H : Nat → Nat → Prop) (w : Nat → Nat → Nat) : Nat → Nat → Nat → Nat → Prop
  | 0, _, s, v => s = 0 ∧ v = 0
  | m + 1, c, s, v => ∃ t v', sb t s ∧ (t = 0 ∨ H c t) ∧ Cs H w m (c + 1) (s ^^^ t) v' ∧ v = (if t = 0 then 0 else w c t) + v'
noncomputable def Bv (H : Nat → Nat → Prop) (w : Nat → Nat → Nat) (m c s : Nat) : Nat := Classical.epsilon (fun x => Mn (Cs H w m c s) x)
theorem bv_mn (H : Nat → Nat → Prop) (w : Nat → Nat → Nat) (m c s : Nat) : Mn (Cs H w m c s) (Bv H w m c s) := Classical.epsilon_spec (mn_ex _)
theorem bv_eq {H : Nat → Nat → Prop} {w : Nat → Nat → Nat} {m c s x : Nat} (h : Mn (Cs H w m c s) x) : Bv H w m c s = x := mn_uniq (bv_mn H w m c s) h
theorem cs_0 (H : Nat → Nat → Prop) (w : Nat → Nat → Nat) : ∀ m c, Cs H w m c 0 0
  | 0, _ => ⟨rfl, rfl⟩
  | m + 1, c => ⟨0, 0, sb_zero 0, Or.inl rfl, cs_0 H w m (c + 1), rfl⟩
theorem bv_0 (H : Nat → Nat → Prop) (w : Nat → Nat → Nat) (m c : Nat) : Bv H w m c 0 = 0 := Nat.le_zero.mp ((bv_mn H w m c 0).2.2 0 (cs_0 H w m c))
theorem bv_last (H : Nat → Nat → Prop) (w : Nat → Nat → Nat) (c s : Nat) : Bv H w 0 c s = if s = 0 then 0 else 1000000 := by
  apply bv_eq
  by_cases h : s = 0
  · rw [if_pos h]
    exact ⟨by omega, fun _ => ⟨h, rfl⟩, fun v _ => Nat.zero_le v⟩
  · rw [if_neg h]
    exact ⟨by omega, fun q => absurd q (by omega), fun v hv => absurd hv.1 h⟩
/-- the prices found when the sets above u have been looked at -/
def Pu (H : Nat → Nat → Prop) (w : Nat → Nat → Nat) (m c s u v : Nat) : Prop := ∃ t v', sb t s ∧ (t = 0 ∨ (u < t ∧ H c t)) ∧ Cs H w m (c + 1) (s ^^^ t) v' ∧ v = (if t = 0 then 0 else w c t) + v'
theorem pu_start {H : Nat → Nat → Prop} {w : Nat → Nat → Nat} {m c s u : Nat} (h : ∀ t, H c t → sb t s → t ≤ u) (v : Nat) : Pu H w m c s u v ↔ Cs H w m (c + 1) s v := by
  constructor
  · rintro ⟨t, v', h1, h2, h3, h4⟩
    rcases h2 with h2 | ⟨h2, h5⟩
    · subst h2
      rw [Nat.xor_zero] at h3
      rw [if_pos rfl, Nat.zero_add] at h4
      rw [h4]; exact h3
    · have := h t h5 h1
      omega
  · intro hv
    exact ⟨0, v, sb_zero s, Or.inl rfl, by rw [Nat.xor_zero]; exact hv, by rw [if_pos rfl, Nat.zero_add]⟩
theorem pu_end {H : Nat → Nat → Prop} {w : Nat → Nat → Nat} {m c s : Nat} (v : Nat) : Pu H w m c s 0 v ↔ Cs H w (m + 1) c s v := by
  constructor
  · rintro ⟨t, v', h1, h2, h3, h4⟩
    exact ⟨t, v', h1, h2.imp id (fun q => q.2), h3, h4⟩
  · rintro ⟨t, v', h1, h2, h3, h4⟩
    refine ⟨t, v', h1, ?_, h3, h4⟩
    by_cases ht : t = 0
    · exact Or.inl ht
    · rcases h2 with h2 | h2
      · exact Or.inl h2
      · exact Or.inr ⟨by omega, h2⟩
theorem pu_no {H : Nat → Nat → Prop} {w : Nat → Nat → Nat} {m c s u u' x : Nat} (hu : u' < u) (hn : ∀ t, H c t → sb t s → t < u → t ≤ u') (hno : ¬ (H c u ∧ sb u s)) (h : Mn (Pu H w m c s u) x) : Mn (Pu H w m c s u') x := by
  refine mn_cong (fun v => ?_) h
  constructor
  · rintro ⟨t, v', h1, h2, h3, h4⟩
    exact ⟨t, v', h1, h2.imp id (fun q => ⟨by omega, q.2⟩), h3, h4⟩
  · rintro ⟨t, v', h1, h2, h3, h4⟩
    refine ⟨t, v', h1, h2.imp id (fun q => ⟨?_, q.2⟩), h3, h4⟩
    rcases Nat.lt_trichotomy t u with g | g | g
    · have := hn t q.2 h1 g; omega
    · exact absurd ⟨g ▸ q.2, g ▸ h1⟩ hno
    · exact g
theorem pu_yes {H : Nat → Nat → Prop} {w : Nat → Nat → Nat} {m c s u u' x : Nat} (h0 : u ≠ 0) (hu : u' < u) (hn : ∀ t, H c t → sb t s → t < u → t ≤ u') (hH : H c u) (hs : sb u s) (h : Mn (Pu H w m c s u) x) : Mn (Pu H w m c s u') (min x (w c u + Bv H w m (c + 1) (s ^^^ u))) := by
  have g := mn_or h (mn_add (w c u) (bv_mn H w m (c + 1) (s ^^^ u)))
  have e : min x (min 1000000 (w c u + Bv H w m (c + 1) (s ^^^ u))) = min x (w c u + Bv H w m (c + 1) (s ^^^ u)) := by
    have := h.1; omega
  rw [e] at g
  refine mn_cong (fun v => ?_) g
  constructor
  · rintro (⟨t, v', h1, h2, h3, h4⟩ | ⟨v', h3, h4⟩)
    · exact ⟨t, v', h1, h2.imp id (fun q => ⟨by omega, q.2⟩), h3, h4⟩
    · exact ⟨u, v', hs, Or.inr ⟨hu, hH⟩, h3, by rw [if_neg h0]; exact h4⟩
  · rintro ⟨t, v', h1, h2, h3, h4⟩
    rcases h2 with h2 | ⟨h2, h5⟩
    · exact Or.inl ⟨t, v', h1, Or.inl h2, h3, h4⟩
    · rcases Nat.lt_trichotomy t u with g | g | g
      · have := hn t h5 h1 g; omega
      · subst g
        rw [if_neg h0] at h4
        exact Or.inr ⟨v', h3, h4⟩
      · exact Or.inl ⟨t, v', h1, Or.inr ⟨g, h5⟩, h3, h4⟩
/-- what is known of every price -/
theorem cs_bound {H : Nat → Nat → Prop} {w : Nat → Nat → Nat} (hw : ∀ c t, H c t → w c t ≤ 1585 ∧ w c t % 16 = 1) : ∀ m c s v, m ≤ 15 → Cs H w m c s v → v ≤ 1585 * m ∧ v % 16 ≤ m
  | 0, c, s, v, _, h => by obtain ⟨_, h2⟩ := h; omega
  | m + 1, c, s, v, hm, h => by
    obtain ⟨t, v', h1, h2, h3, h4⟩ := h
    have ih := cs_bound hw m (c + 1) (s ^^^ t) v' (by omega) h3
    by_cases ht : t = 0
    · rw [if_pos ht] at h4; omega
    · rw [if_neg ht] at h4
      have := hw c t (h2.resolve_left ht)
      omega
theorem bv_bound {H : Nat → Nat → Prop} {w : Nat → Nat → Nat} (hw : ∀ c t, H c t → w c t ≤ 1585 ∧ w c t % 16 = 1) {m c s : Nat} (hm : m ≤ 15) : Bv H w m c s = 1000000 ∨ (Bv H w m c s ≤ 1585 * m ∧ Bv H w m c s % 16 ≤ m ∧ Cs H w m c s (Bv H w m c s)) := by
  obtain ⟨h1, h2, _⟩ := bv_mn H w m c s
  by_cases h : Bv H w m c s < 1000000
  · have := cs_bound hw m c s _ hm (h2 h)
    exact Or.inr ⟨this.1, this.2, h2 h⟩
  · left; omega
theorem bv_le (H : Nat → Nat → Prop) (w : Nat → Nat → Nat) (m c s : Nat) : Bv H w m c s ≤ 1000000 := (bv_mn H w m c s).1
theorem cs_more {H : Nat → Nat → Prop} {w : Nat → Nat → Nat} {n : Nat} (hn : ∀ c t, n ≤ c → ¬ H c t) : ∀ m c s v, n ≤ c → (Cs H w m c s v ↔ (s = 0 ∧ v = 0))
  | 0, c, s, v, _ => Iff.rfl
  | m + 1, c, s, v, h => by
    constructor
    · rintro ⟨t, v', h1, h2, h3, h4⟩
      rcases h2 with h2 | h2
      · subst h2
        rw [Nat.xor_zero] at h3
        rw [if_pos rfl, Nat.zero_add] at h4
        rw [h4]
        exact (cs_more hn m (c + 1) s v' (by omega)).mp h3
      · exact absurd h2 (hn c t h)
    · rintro ⟨h1, h2⟩
      subst h1; subst h2
      exact cs_0 H w (m + 1) c
theorem cs_ext {H : Nat → Nat → Prop} {w : Nat → Nat → Nat} {n : Nat} (hn : ∀ c t, n ≤ c → ¬ H c t) (j : Nat) : ∀ m c s v, c + m = n → (Cs H w (m + j) c s v ↔ Cs H w m c s v)
  | 0, c, s, v, h => cs_more hn _ c s v (by omega)
  | m + 1, c, s, v, h => by
    rw [show m + 1 + j = (m + j) + 1 by omega]
    constructor
    · rintro ⟨t, v', h1, h2, h3, h4⟩
      exact ⟨t, v', h1, h2, (cs_ext hn j m (c + 1) _ _ (by omega)).mp h3, h4⟩
    · rintro ⟨t, v', h1, h2, h3, h4⟩
      exact ⟨t, v', h1, h2, (cs_ext hn j m (c + 1) _ _ (by omega)).mpr h3, h4⟩
theorem bv_ext {H : Nat → Nat → Prop} {w : Nat → Nat → Nat} {n : Nat} (hn : ∀ c t, n ≤ c → ¬ H c t) {m c s : Nat} (j : Nat) (h : c + m = n) : Bv H w (m + j) c s = Bv H w m c s := bv_eq (mn_cong (fun v => (cs_ext hn j m c s v h).symm) (bv_mn H w m c s))
theorem bv_more {H : Nat → Nat → Prop} {w : Nat → Nat → Nat} {n : Nat} (hn : ∀ c t, n ≤ c → ¬ H c t) {m c s : Nat} (h : n ≤ c) : Bv H w m c s = Bv H w 0 c s := bv_eq (mn_cong (fun v => (cs_more hn m c s v h).symm) (bv_mn H w 0 c s))
