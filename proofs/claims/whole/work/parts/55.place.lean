/-- the takes of s can be put on the cans c .. c+m-1 -/
def Pf (H : Nat → Nat → Prop) : Nat → Nat → Nat → Prop
  | 0, _, s => s = 0
  | m + 1, c, s => ∃ t, sb t s ∧ (t = 0 ∨ H c t) ∧ Pf H m (c + 1) (s ^^^ t)
theorem pf_cs {H : Nat → Nat → Prop} {w : Nat → Nat → Nat} : ∀ m c s, Pf H m c s ↔ ∃ v, Cs H w m c s v
  | 0, c, s => ⟨fun h => ⟨0, h, rfl⟩, fun ⟨v, h⟩ => h.1⟩
  | m + 1, c, s => by
    constructor
    · rintro ⟨t, h1, h2, h3⟩
      obtain ⟨v', h4⟩ := (pf_cs m (c + 1) (s ^^^ t)).mp h3
      exact ⟨_, t, v', h1, h2, h4, rfl⟩
    · rintro ⟨v, t, v', h1, h2, h3, h4⟩
      exact ⟨t, h1, h2, (pf_cs m (c + 1) (s ^^^ t)).mpr ⟨v', h3⟩⟩
theorem pf_bv {H : Nat → Nat → Prop} {w : Nat → Nat → Nat} (hw : ∀ c t, H c t → w c t ≤ 1585 ∧ w c t % 16 = 1) {m c s : Nat} (hm : m ≤ 15) : Pf H m c s ↔ Bv H w m c s ≠ 1000000 := by
  rw [pf_cs (w := w)]
  constructor
  · rintro ⟨v, h⟩ q
    have h1 := (bv_mn H w m c s).2.2 v h
    have h2 := cs_bound hw m c s v hm h
    omega
  · intro h
    rcases bv_bound hw (c := c) (s := s) hm with g | g
    · exact absurd g h
    · exact ⟨_, g.2.2⟩
theorem pf_mono {H G : Nat → Nat → Prop} {N : Nat} (h : ∀ c t, sb t N → H c t → G c t) : ∀ m c s, sb s N → Pf H m c s → Pf G m c s
  | 0, _, _, _, q => q
  | m + 1, c, s, hs, q => by
    obtain ⟨t, h1, h2, h3⟩ := q
    exact ⟨t, h1, h2.imp id (h c t (sb_trans h1 hs)), pf_mono h m (c + 1) _ (sb_trans (sb_xor h1) hs) h3⟩
theorem pf_cong {H G : Nat → Nat → Prop} {N : Nat} (h : ∀ c t, sb t N → (H c t ↔ G c t)) {m c s : Nat} (hs : sb s N) : Pf H m c s ↔ Pf G m c s := ⟨pf_mono (fun c t q => (h c t q).mp) m c s hs, pf_mono (fun c t q => (h c t q).mpr) m c s hs⟩
theorem pf_none {H : Nat → Nat → Prop} : ∀ m c, Pf H m c 0
  | 0, _ => rfl
  | m + 1, c => ⟨0, sb_zero 0, Or.inl rfl, pf_none m (c + 1)⟩
theorem xor_swap (s u v : Nat) : s ^^^ v ^^^ u = s ^^^ u ^^^ v := by rw [Nat.xor_assoc, Nat.xor_comm v u, ← Nat.xor_assoc]
theorem xor_twice (s u : Nat) : s ^^^ u ^^^ u = s := by rw [Nat.xor_assoc, Nat.xor_self, Nat.xor_zero]
/-- v lies in what is left of s without u: then u lies in what is left without v -/
theorem sb_other {s u v : Nat} (hu : sb u s) (hv : sb v (s ^^^ u)) : sb v s ∧ sb u (s ^^^ v) := by
  have h1 := sb_trans hv (sb_xor hu)
  refine ⟨h1, sb_bit.mpr (fun i hi => ?_)⟩
  rw [xor_bit h1, sb_bit.mp hu i hi]
  cases hvi : v.testBit i
  · rfl
  · have := sb_bit.mp hv i hvi
    rw [xor_bit hu, hi] at this
    simp at this
def Wo (H : Nat → Nat → Prop) (k : Nat) : Nat → Nat → Prop := fun c t => c ≠ k ∧ H c t
/-- one take more: the can that it is put on -/
theorem pf_pull {H : Nat → Nat → Prop} {e : Nat} : ∀ m c s, Pf H m c s → s.testBit e = true → ∃ k t, c ≤ k ∧ k < c + m ∧ H k t ∧ t.testBit e = true ∧ sb t s ∧ Pf (Wo H k) m c (s ^^^ t)
  | 0, c, s, h, he => by
    have : s = 0 := h
    rw [this] at he; simp at he
  | m + 1, c, s, h, he => by
    obtain ⟨u, h1, h2, h3⟩ := h
    by_cases hu : u.testBit e = true
    · have hu0 : u ≠ 0 := fun q => by rw [q] at hu; simp at hu
      refine ⟨c, u, Nat.le_refl c, by omega, h2.resolve_left hu0, hu, h1, 0, sb_zero _, Or.inl rfl, ?_⟩
      rw [Nat.xor_zero]
      have : ∀ m d s, c < d → Pf H m d s → Pf (Wo H c) m d s := by
        intro m
        induction m with
        | zero => intro d s _ q; exact q
        | succ m ih =>
          intro d s hd q
          obtain ⟨t, q1, q2, q3⟩ := q
          exact ⟨t, q1, q2.imp id (fun z => ⟨by omega, z⟩), ih (d + 1) _ (by omega) q3⟩
      exact this m (c + 1) _ (by omega) h3
    · have he2 : (s ^^^ u).testBit e = true := by rw [xor_bit h1, he]; simpa using hu
      obtain ⟨k, t, g1, g2, g3, g4, g5, g6⟩ := pf_pull m (c + 1) (s ^^^ u) h3 he2
      obtain ⟨o1, o2⟩ := sb_other h1 g5
      refine ⟨k, t, by omega, by omega, g3, g4, o1, u, o2, h2.imp id (fun z => ⟨by omega, z⟩), ?_⟩
      rw [xor_swap]; exact g6
theorem pf_push {H : Nat → Nat → Prop} {k t : Nat} (hH : H k t) : ∀ m c s, c ≤ k → k < c + m → sb t s → Pf (Wo H k) m c (s ^^^ t) → Pf H m c s
  | 0, c, s, h1, h2, _, _ => absurd h2 (by omega)
  | m + 1, c, s, h1, h2, h3, h4 => by
    obtain ⟨u, g1, g2, g3⟩ := h4
    by_cases hk : c = k
    · subst hk
      have hu : u = 0 := by
        rcases g2 with g2 | g2
        · exact g2
        · exact absurd rfl g2.1
      subst hu
      rw [Nat.xor_zero] at g3
      refine ⟨t, h3, Or.inr hH, ?_⟩
      have hm : ∀ m d s, Pf (Wo H c) m d s → Pf H m d s := by
        intro m
        induction m with
        | zero => intro d s q; exact q
        | succ m ih =>
          intro d s q
          obtain ⟨t, q1, q2, q3⟩ := q
          exact ⟨t, q1, q2.imp id (fun z => z.2), ih (d + 1) _ q3⟩
      exact hm m (c + 1) _ g3
    · obtain ⟨o1, o2⟩ := sb_other h3 g1
      refine ⟨u, o1, g2.imp id (fun z => z.2), pf_push hH m (c + 1) (s ^^^ u) (by omega) (by omega) o2 ?_⟩
      rw [xor_swap]; exact g3
/-- the last can first -/
theorem pf_last {H : Nat → Nat → Prop} : ∀ m c s, Pf H (m + 1) c s ↔ ∃ t, sb t s ∧ (t = 0 ∨ H (c + m) t) ∧ Pf H m c (s ^^^ t)
  | 0, c, s => Iff.rfl
  | m + 1, c, s => by
    constructor
    · rintro ⟨u, h1, h2, h3⟩
      obtain ⟨t, g1, g2, g3⟩ := (pf_last m (c + 1) (s ^^^ u)).mp h3
      obtain ⟨o1, o2⟩ := sb_other h1 g1
      refine ⟨t, o1, ?_, u, o2, h2, ?_⟩
      · rw [show c + (m + 1) = c + 1 + m by omega]; exact g2
      · rw [xor_swap]; exact g3
    · rintro ⟨t, h1, h2, u, g1, g2, g3⟩
      obtain ⟨o1, o2⟩ := sb_other h1 g1
      refine ⟨u, o1, g2, (pf_last m (c + 1) (s ^^^ u)).mpr ⟨t, o2, ?_, ?_⟩⟩
      · rw [show c + 1 + m = c + (m + 1) by omega]; exact h2
      · rw [xor_swap]; exact g3
theorem pf_ext {H : Nat → Nat → Prop} {n : Nat} (hn : ∀ c t, n ≤ c → ¬ H c t) (j : Nat) {m c s : Nat} (h : c + m = n) : Pf H (m + j) c s ↔ Pf H m c s := by
  rw [pf_cs (w := fun _ _ => 0), pf_cs (w := fun _ _ => 0)]
  exact ⟨fun ⟨v, q⟩ => ⟨v, (cs_ext hn j m c s v h).mp q⟩, fun ⟨v, q⟩ => ⟨v, (cs_ext hn j m c s v h).mpr q⟩⟩
