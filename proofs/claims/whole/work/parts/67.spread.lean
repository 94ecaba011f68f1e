theorem disj_or {u D x : Nat} (hd : ∀ i, D.testBit i = true → u.testBit i = false) (hx : sb x D) : (u ||| x) ^^^ u = x ∧ sb u (u ||| x) := by
  have h2 : sb u (u ||| x) := sb_bit.mpr (fun i hi => by rw [Nat.testBit_or, hi]; rfl)
  refine ⟨?_, h2⟩
  apply Nat.eq_of_testBit_eq
  intro i
  rw [xor_bit h2, Nat.testBit_or]
  cases hu : u.testBit i
  · simp
  · cases hx2 : x.testBit i
    · rfl
    · have := hd i (sb_bit.mp hx i hx2)
      rw [hu] at this; cases this
theorem sb_or {u s : Nat} (h : sb u s) : s = u ||| (s ^^^ u) := by
  apply Nat.eq_of_testBit_eq
  intro i
  rw [Nat.testBit_or, xor_bit h]
  cases hu : u.testBit i
  · simp
  · rw [sb_bit.mp h i hu]; rfl
theorem xor_z {u s : Nat} (h : s ^^^ u = 0) : s = u := by
  have : s ^^^ u ^^^ u = 0 ^^^ u := by rw [h]
  rw [xor_twice, Nat.zero_xor] at this
  exact this
/-- the row after the sets with u in them have been looked at, down to x -/
def spr (r B : Nat → Nat) (p u D x s : Nat) : Nat := if u &&& s = u ∧ (s ^^^ u) &&& D = s ^^^ u ∧ (x < s ^^^ u ∨ s ^^^ u = 0) then min (r s) (p + B (s ^^^ u)) else r s
theorem spread_in {c u D p : Nat} {r B : Nat → Nat} {M0 : Mem} (hc : c < 5) (hu : u < 256) (hD : D < 256) (hd : ∀ i, D.testBit i = true → u.testBit i = false) (hp : p ≤ 2000) (hr : ∀ s, r s ≤ 1000000) (hB : ∀ x, x < 256 → gi M0 (317 + (c + 1)) x = nI (B x) ∧ B x ≤ 1000000) : ∀ x q M, x < q → sb x D → (∀ b i, b ≠ 317 + c → gi M b i = gi M0 b i) → (∀ s, s < 256 → gi M (317 + c) s = nI (spr r B p u D x s)) → ∃ M', Best_spread_h34 q (nI u) (nI p) (nI D) (317 + (c + 1)) (317 + c) (nI x) M = some ((), M') ∧ (∀ b i, b ≠ 317 + c → gi M' b i = gi M0 b i) ∧ (∀ s, s < 256 → gi M' (317 + c) s = nI (spr r B p u D 0 s)) := by
  intro x
  induction x using Nat.strongRecOn with
  | ind x ih =>
    intro q M hq hx hM hS
    obtain ⟨q, rfl⟩ : ∃ z, q = z + 1 := ⟨q - 1, by omega⟩
    by_cases hx0 : x = 0
    · subst hx0
      have c0 : ¬ (0 : Int32) < nI 0 := by decide
      exact ⟨M, by simp only [Best_spread_h34, c0, if_false], hM, hS⟩
    · have hle := sb_le hx
      have hpos : (0 : Int32) < nI x := by rw [i32_lt, t0, nI_toInt (by omega)]; omega
      have hand : (x - 1) &&& D < x := Nat.lt_of_le_of_lt Nat.and_le_left (by omega)
      have hpred := pred_and D hx0
      obtain ⟨e1, e2⟩ := disj_or hd hx
      have hux : u ||| x < 256 := Nat.or_lt_two_pow (n := 8) hu (by omega)
      have hi1 := inb_nI (show x < 256 by omega) (show 256 < 2 ^ 31 by omega)
      have hi2 := inb_nI hux (show 256 < 2 ^ 31 by omega)
      have hx1 := ix_nI (show x < 2 ^ 31 by omega)
      have hx2 := ix_nI (show u ||| x < 2 ^ 31 by omega)
      have hBx := hB x (by omega)
      have hBM : gi M (317 + (c + 1)) x = nI (B x) := by rw [hM _ _ (by omega)]; exact hBx.1
      have hold : spr r B p u D x (u ||| x) = r (u ||| x) := by
        unfold spr
        rw [if_neg]
        rintro ⟨_, _, z⟩
        rw [e1] at z
        omega
      have hnew : spr r B p u D ((x - 1) &&& D) (u ||| x) = min (r (u ||| x)) (p + B x) := by
        unfold spr
        rw [e1, if_pos ⟨e2, hx, Or.inl hand⟩]
      have hoth : ∀ s, s ≠ u ||| x → spr r B p u D ((x - 1) &&& D) s = spr r B p u D x s := fun s hs => by
        have : (u &&& s = u ∧ (s ^^^ u) &&& D = s ^^^ u ∧ ((x - 1) &&& D < s ^^^ u ∨ s ^^^ u = 0)) ↔ (u &&& s = u ∧ (s ^^^ u) &&& D = s ^^^ u ∧ (x < s ^^^ u ∨ s ^^^ u = 0)) := by
          constructor
          · rintro ⟨z1, z2, z3⟩
            refine ⟨z1, z2, ?_⟩
            rcases z3 with z3 | z3
            · rcases Nat.lt_trichotomy (s ^^^ u) x with g | g | g
              · have := sb_next x D (s ^^^ u) hx z2 g
                omega
              · exfalso
                apply hs
                rw [← g]
                exact sb_or z1
              · exact Or.inl g
            · exact Or.inr z3
          · rintro ⟨z1, z2, z3⟩
            exact ⟨z1, z2, z3.imp (fun g => by omega) id⟩
        unfold spr
        by_cases hq : u &&& s = u ∧ (s ^^^ u) &&& D = s ^^^ u ∧ (x < s ^^^ u ∨ s ^^^ u = 0)
        · rw [if_pos hq, if_pos (this.mpr hq)]
        · rw [if_neg hq, if_neg (fun z => hq (this.mp z))]
      have hr1 := hr (u ||| x)
      have hcur : gi M (317 + c) (u ||| x) = nI (r (u ||| x)) := by rw [hS _ hux, hold]
      by_cases hlt : p + B x < r (u ||| x)
      · have hlt' : nI (p + B x) < nI (r (u ||| x)) := nI_lt hlt (by omega)
        obtain ⟨M1, hM1⟩ : ∃ M1, M1 = uI M (317 + c) (u ||| x) (nI (p + B x)) := ⟨_, rfl⟩
        obtain ⟨M', r1, r2, r3⟩ := ih _ hand q M1 (by omega) (sb_and _ _) (fun b i hb => by rw [hM1, gi_uIa _ _ _ _ _ _ hb]; exact hM b i hb) (fun s hs => by
          by_cases hsx : s = u ||| x
          · rw [hsx, hM1, gi_uIs, hnew, Nat.min_eq_right (by omega)]
          · rw [hM1, gi_uIi _ _ _ _ _ _ hsx, hS s hs, hoth s hsx])
        refine ⟨M', ?_, r2, r3⟩
        rw [← r1]
        simp only [Best_spread_h34, Best_spread_b69, hpos, if_true, gd_t hi1, hx1, hBM, nI_add, nI_or, gd_t hi2, hx2, lq_eq, hcur, hlt', sq_eq, hpred, ← hM1]
      · have hlt' : ¬ nI (p + B x) < nI (r (u ||| x)) := nI_nlt (by omega) (by omega)
        obtain ⟨M', r1, r2, r3⟩ := ih _ hand q M (by omega) (sb_and _ _) hM (fun s hs => by
          by_cases hsx : s = u ||| x
          · rw [hsx, hcur, hnew, Nat.min_eq_left (by omega)]
          · rw [hS s hs, hoth s hsx])
        refine ⟨M', ?_, r2, r3⟩
        rw [← r1]
        simp only [Best_spread_h34, Best_spread_b69, hpos, if_true, gd_t hi1, hx1, hBM, nI_add, nI_or, gd_t hi2, hx2, lq_eq, hcur, hlt', if_false, hpred]
theorem spread_c {c u D p : Nat} {r B : Nat → Nat} {M : Mem} (hc : c < 5) (hu : u < 256) (hD : D < 256) (hd : ∀ i, D.testBit i = true → u.testBit i = false) (hp : p ≤ 2000) (hr : ∀ s, r s ≤ 1000000) (hB0 : B 0 = 0) (hB : ∀ x, x < 256 → gi M (317 + (c + 1)) x = nI (B x) ∧ B x ≤ 1000000) (hS : ∀ s, s < 256 → gi M (317 + c) s = nI (r s)) : ∃ M', j_Best_spread (nI (c + 1)) (nI u) (nI p) (nI D) M = some ((), M') ∧ (∀ b i, b ≠ 317 + c → gi M' b i = gi M b i) ∧ (∀ s, s < 256 → gi M' (317 + c) s = nI (spr r B p u D 0 s)) := by
  have hr1 := hr u
  obtain ⟨M1, hM1⟩ : ∃ M1, M1 = uI M (317 + c) u (nI (min (r u) p)) := ⟨_, rfl⟩
  obtain ⟨M', r1, r2, r3⟩ := spread_in (M0 := M1) (r := r) hc hu hD hd hp hr (fun x hx => by rw [hM1, gi_uIa _ _ _ _ _ _ (by omega)]; exact hB x hx) D FU M1 (by unfold FU; omega) (sb_refl D) (fun _ _ _ => rfl) (fun s hs => by
    by_cases hsu : s = u
    · rw [hsu, hM1, gi_uIs]
      unfold spr
      rw [Nat.xor_self, if_pos ⟨sb_refl u, sb_zero D, Or.inr rfl⟩, hB0, Nat.add_zero]
    · rw [hM1, gi_uIi _ _ _ _ _ _ hsu, hS s hs]
      unfold spr
      rw [if_neg]
      rintro ⟨z1, z2, z3⟩
      rcases z3 with z3 | z3
      · have := sb_le z2; omega
      · exact hsu (xor_z z3))
  refine ⟨M', ?_, fun b i hb => by rw [r2 b i hb, hM1, gi_uIa _ _ _ _ _ _ hb], r3⟩
  unfold j_Best_spread
  rw [gd_t (inb_nI (show c + 1 < 6 by omega) (by omega)), nI_s1, gd_t (inb_nI (show c < 6 by omega) (by omega)), gd_t (inb_nI hu (by omega)), gd_t (inb_nI hu (by omega)), ix_nI (show c + 1 < 2 ^ 31 by omega), ix_nI (show c < 2 ^ 31 by omega), ix_nI (show u < 2 ^ 31 by omega), hS u hu, nI_mn (by omega) (by omega), sq_e, ← hM1]
  exact r1
