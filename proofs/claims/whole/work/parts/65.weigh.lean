theorem i256 (c s : Nat) : (256 : Int32) * nI c + nI s = nI (256 * c + s) := by
  rw [show (256 : Int32) = nI 256 from rfl, pk_mul, nI_add]
theorem pred_and {u : Nat} (s : Nat) (h : u ≠ 0) : (nI u - 1) &&& nI s = nI ((u - 1) &&& s) := by
  obtain ⟨k, rfl⟩ : ∃ k, u = k + 1 := ⟨u - 1, by omega⟩
  rw [nI_s1, nI_and, Nat.add_sub_cancel]
/-- an entry of the reference's tables of least loss and rooms -/
def Ent (M : Mem) (i x : Nat) : Prop := (x = 1000000 ∧ gi M 333 i = -1000000) ∨ (x < 1000000 ∧ gi M 333 i = nI (x / 16) ∧ gi M 334 i = nI (x % 16))
theorem nI_neM {a : Nat} (h : a < 2 ^ 31) : ¬ nI a = -1000000 := fun z => by
  have := congrArg Int32.toInt z
  rw [nI_toInt h, tN] at this
  omega
theorem ent_cong {M M' : Mem} {i x : Nat} (h3 : gi M' 333 i = gi M 333 i) (h4 : gi M' 334 i = gi M 334 i) (h : Ent M i x) : Ent M' i x := by
  unfold Ent at *
  rw [h3, h4]; exact h
theorem ent_new {M : Mem} {i x : Nat} (h : x < 1000000) : Ent (uI (uI M 333 i (nI (x / 16))) 334 i (nI (x % 16))) i x := by
  right
  exact ⟨h, by rw [gi_uIa _ _ _ _ _ _ (by omega), gi_uIs], gi_uIs _ _ _ _⟩
theorem weigh_in {a nc nt O c s m : Nat} {M0 : Mem} {f : Nat → Int32} {H : Nat → Nat → Prop} (ha : a < 333) (hfd : f = fun i => gi M0 a i) (hR : RowOk f nc nt) (hO : O < 2 ^ nt) (hc : c < nc) (hm : m ≤ 8) (hr : ¬ f (13 + 4 * c + 2) = 2) (hs : sb s O) (hH : ∀ c t, H c t → Hf f nc O c t) (hHc : ∀ t, sb t s → Hf f nc O c t → H c t) (hE : ∀ v, sb v s → Ent M0 (256 * (c + 1) + v) (Bv H (wf f) m (c + 1) v)) : ∀ u q M x, u < q → sb u s → (∀ b i, ((b ≠ 333 ∧ b ≠ 334) ∨ i ≠ 256 * c + s) → gi M b i = gi M0 b i) → Ent M (256 * c + s) x → Mn (Pu H (wf f) m c s u) x → ∃ M' x', Md_weighs_h48 q a (nI c) (nI s) 1 (nI (256 * c + s)) (nI u) M = some ((), M') ∧ (∀ b i, ((b ≠ 333 ∧ b ≠ 334) ∨ i ≠ 256 * c + s) → gi M' b i = gi M0 b i) ∧ Ent M' (256 * c + s) x' ∧ Mn (Pu H (wf f) m c s 0) x' := by
  have n7 := hR.1.1
  have n8 := hR.1.2.1
  have hO256 : O < 256 := Nat.lt_of_lt_of_le hO (two8 n8)
  have hs256 : s < 256 := Nat.lt_of_le_of_lt (sb_le hs) hO256
  have hw : ∀ c t, H c t → wf f c t ≤ 1585 ∧ wf f c t % 16 = 1 := fun c t q => by
    have := hf_w hR hO c t (hH c t q)
    exact ⟨this.1, this.2.1⟩
  intro u
  induction u using Nat.strongRecOn with
  | ind u ih =>
    intro q M x hq hu hM hEx hx
    obtain ⟨q, rfl⟩ : ∃ z, q = z + 1 := ⟨q - 1, by omega⟩
    by_cases hu0 : u = 0
    · subst hu0
      have c0 : ¬ (0 : Int32) < nI 0 := by decide
      exact ⟨M, x, by simp only [Md_weighs_h48, c0, if_false], hM, hEx, hx⟩
    · have hle := sb_le hu
      have hpos : (0 : Int32) < nI u := by rw [i32_lt, t0, nI_toInt (by omega)]; omega
      have hand : (u - 1) &&& s < u := Nat.lt_of_le_of_lt Nat.and_le_left (by omega)
      have hpred := pred_and s hu0
      have hn : ∀ t, H c t → sb t s → t < u → t ≤ (u - 1) &&& s := fun t _ h1 h2 => sb_next u s t hu h1 h2
      have hxs := sb_le (sb_xor hu)
      have hi8 : inb (nI (256 * (c + 1) + (s ^^^ u))) 2048 = true := inb_nI (by omega) (by omega)
      have hx8 : ix (nI (256 * (c + 1) + (s ^^^ u))) = 256 * (c + 1) + (s ^^^ u) := ix_nI (by omega)
      have hi5 : inb (nI (256 * c + s)) 2048 = true := inb_nI (by omega) (by omega)
      have hx5 : ix (nI (256 * c + s)) = 256 * c + s := ix_nI (by omega)
      have hE8 : Ent M (256 * (c + 1) + (s ^^^ u)) (Bv H (wf f) m (c + 1) (s ^^^ u)) := ent_cong (hM 333 _ (by omega)) (hM 334 _ (by omega)) (hE _ (sb_xor hu))
      have hfM : (fun i => gi M a i) = f := by rw [hfd]; exact funext (fun i => hM a i (by omega))
      have ef : ∀ i, gi M a i = f i := fun i => congrFun hfM i
      rcases hE8 with ⟨b1, b2⟩ | ⟨b1, b2, b3⟩
      · have hnew : Mn (Pu H (wf f) m c s ((u - 1) &&& s)) x := by
          by_cases hHu : H c u
          · have := pu_yes hu0 hand hn hHu hu hx
            rw [b1, Nat.min_eq_left (by have := hx.1; omega)] at this
            exact this
          · exact pu_no hand hn (fun z => hHu z.1) hx
        obtain ⟨M', x', r1, r2, r3, r4⟩ := ih _ hand q M x (by omega) (sb_and _ _) hM hEx hnew
        refine ⟨M', x', ?_, r2, r3, r4⟩
        rw [← r1]
        simp only [Md_weighs_h48, Md_weighs_b225, hpos, if_true, z1, if_false, lq_eq, nI_1, nI_xor, i256, gd_t hi8, hx8, b2, hpred]
      · have hBn : ¬ nI (Bv H (wf f) m (c + 1) (s ^^^ u) / 16) = -1000000 := nI_neM (by omega)
        have hl := left_m (a := a) (M := M) (show c < 7 by omega) (show u < 256 by omega) hu0 (by rw [ef]; exact (hR.2.2.1 c hc).1) (fun t ht => by rw [ef]; exact (hR.2.2.2 t (bitO hO (sb_trans hu hs) ht)).1)
        rw [hfM] at hl
        have hneg := leftV_neg (f := f) (nc := nc) (O := O) hc hu0 (sb_trans hu hs) hr
        by_cases hHu : Hf f nc O c u
        · have hp : ¬ leftV f c u < 0 := fun z => hneg.mp z hHu
          have hlo := lossOf_m (a := a) (M := M) (show c < 7 by omega) (show u < 256 by omega) hu0 (by rw [ef]; exact (hR.2.2.1 c hc).1) (fun t ht => by rw [ef]; exact (hR.2.2.2 t (bitO hO (sb_trans hu hs) ht)).1) (by rw [hfM]; exact hHu.2.2.2.2.1)
          rw [hfM] at hlo
          obtain ⟨w1, w2, w3, w4⟩ := hf_w hR hO c u hHu
          rw [w3] at hlo
          have hmin := pu_yes hu0 hand hn (hHc u hu hHu) hu hx
          obtain ⟨B, hB⟩ : ∃ B, B = Bv H (wf f) m (c + 1) (s ^^^ u) := ⟨_, rfl⟩
          have hBb : B ≤ 1585 * m ∧ B % 16 ≤ m := by
            rcases bv_bound hw (m := m) (c := c + 1) (s := s ^^^ u) (by omega) with z | z
            · omega
            · rw [hB]; exact ⟨z.1, z.2.1⟩
          rw [← hB] at b1 b2 b3 hBn hmin
          have hwe : wf f c u = 16 * lf f c u + 1 := rfl
          have hd : (wf f c u + B) / 16 = B / 16 + lf f c u ∧ (wf f c u + B) % 16 = B % 16 + 1 := by rw [hwe]; omega
          have hsum : nI (B / 16) + nI (lf f c u) = nI ((wf f c u + B) / 16) := by rw [nI_add, hd.1]
          have hone : nI (B % 16) + 1 = nI ((wf f c u + B) % 16) := by rw [nI_1, hd.2]
          have hV : wf f c u + B < 1000000 := by omega
          obtain ⟨V, hVd⟩ : ∃ V, V = wf f c u + B := ⟨_, rfl⟩
          rw [← hVd] at hsum hone hV hmin
          have htake : ∀ M1, M1 = uI (uI M 333 (256 * c + s) (nI (V / 16))) 334 (256 * c + s) (nI (V % 16)) → V ≤ x → ∃ M' x', Md_weighs_h48 q a (nI c) (nI s) 1 (nI (256 * c + s)) (nI ((u - 1) &&& s)) M1 = some ((), M') ∧ (∀ b i, ((b ≠ 333 ∧ b ≠ 334) ∨ i ≠ 256 * c + s) → gi M' b i = gi M0 b i) ∧ Ent M' (256 * c + s) x' ∧ Mn (Pu H (wf f) m c s 0) x' := by
            intro M1 hM1 hVx
            rw [Nat.min_eq_right hVx] at hmin
            exact ih _ hand q M1 V (by omega) (sb_and _ _) (fun b i hbi => by
              rw [hM1, gi_uI, if_neg (by omega), gi_uI, if_neg (by omega)]
              exact hM b i hbi) (by rw [hM1]; exact ent_new hV) hmin
          have hkeep : ∀ M1, M1 = uI (uI M 333 (256 * c + s) (gi M 333 (256 * c + s))) 334 (256 * c + s) (gi (uI M 333 (256 * c + s) (gi M 333 (256 * c + s))) 334 (256 * c + s)) → x ≤ V → ∃ M' x', Md_weighs_h48 q a (nI c) (nI s) 1 (nI (256 * c + s)) (nI ((u - 1) &&& s)) M1 = some ((), M') ∧ (∀ b i, ((b ≠ 333 ∧ b ≠ 334) ∨ i ≠ 256 * c + s) → gi M' b i = gi M0 b i) ∧ Ent M' (256 * c + s) x' ∧ Mn (Pu H (wf f) m c s 0) x' := by
            intro M1 hM1 hVx
            rw [Nat.min_eq_left hVx] at hmin
            exact ih _ hand q M1 x (by omega) (sb_and _ _) (fun b i hbi => by
              rw [hM1, gi_uI, if_neg (by omega), gi_uI, if_neg (by omega)]
              exact hM b i hbi) (by
              refine ent_cong ?_ ?_ hEx
              · rw [hM1, gi_uIa _ _ _ _ _ _ (by omega), gi_uIs]
              · rw [hM1, gi_uIs, gi_uIa _ _ _ _ _ _ (by omega)]) hmin
          rcases hEx with ⟨x1, x2⟩ | ⟨x1, x2, x3⟩
          · obtain ⟨M', x', r1, r2, r3, r4⟩ := htake _ rfl (by omega)
            refine ⟨M', x', ?_, r2, r3, r4⟩
            rw [← r1]
            simp only [Md_weighs_h48, Md_weighs_b225, Md_weighs_b224, Md_weighs_b200, Md_weighs_b175, Md_weighs_b170, hpos, if_true, z1, if_false, lq_eq, nI_1, nI_xor, i256, gd_t hi8, hx8, b2, hBn, hl, bd_some, hp, hlo, hsum, b3, hd.2, hVd, gd_t hi5, hx5, x2, sq_eq, hpred]
          · have hxn : ¬ nI (x / 16) = -1000000 := nI_neM (by omega)
            by_cases g1 : V / 16 < x / 16
            · have g1' : nI (V / 16) < nI (x / 16) := nI_lt g1 (by omega)
              obtain ⟨M', x', r1, r2, r3, r4⟩ := htake _ rfl (by omega)
              refine ⟨M', x', ?_, r2, r3, r4⟩
              rw [← r1]
              rw [hVd] at g1'
              simp only [Md_weighs_h48, Md_weighs_b225, Md_weighs_b224, Md_weighs_b200, Md_weighs_b175, Md_weighs_b170, hpos, if_true, z1, if_false, lq_eq, nI_1, nI_xor, i256, gd_t hi8, hx8, b2, hBn, hl, bd_some, hp, hlo, hsum, b3, hd.2, hVd, gd_t hi5, hx5, x2, hxn, g1', sq_eq, hpred]
            · have g1' : ¬ nI (V / 16) < nI (x / 16) := nI_nlt (by omega) (by omega)
              by_cases g2 : V / 16 = x / 16
              · by_cases g3 : V % 16 < x % 16
                · have g3' : nI (V % 16) < nI (x % 16) := nI_lt g3 (by omega)
                  obtain ⟨M', x', r1, r2, r3, r4⟩ := htake _ rfl (by omega)
                  refine ⟨M', x', ?_, r2, r3, r4⟩
                  rw [← r1]
                  rw [hVd] at g3' g2
                  rw [hd.2] at g3'
                  simp only [Md_weighs_h48, Md_weighs_b225, Md_weighs_b224, Md_weighs_b200, Md_weighs_b175, Md_weighs_b170, hpos, if_true, z1, if_false, lq_eq, nI_1, nI_xor, i256, gd_t hi8, hx8, b2, hBn, hl, bd_some, hp, hlo, hsum, b3, hd.2, hVd, gd_t hi5, hx5, x2, hxn, g2, Int32.lt_irrefl, x3, g3', sq_eq, hpred]
                · have g3' : ¬ nI (V % 16) < nI (x % 16) := nI_nlt (by omega) (by omega)
                  obtain ⟨M', x', r1, r2, r3, r4⟩ := hkeep _ rfl (by omega)
                  refine ⟨M', x', ?_, r2, r3, r4⟩
                  rw [← r1]
                  rw [hVd] at g3' g2
                  rw [hd.2] at g3'
                  simp only [Md_weighs_h48, Md_weighs_b225, Md_weighs_b224, Md_weighs_b200, Md_weighs_b175, Md_weighs_b170, Md_weighs_b174, hpos, if_true, z1, if_false, lq_eq, nI_1, nI_xor, i256, gd_t hi8, hx8, b2, hBn, hl, bd_some, hp, hlo, hsum, b3, hd.2, hVd, gd_t hi5, hx5, x2, hxn, g2, Int32.lt_irrefl, x3, g3', sq_eq, hpred]
              · have g2' : ¬ nI (V / 16) = nI (x / 16) := by rw [nI_eq (by omega) (by omega)]; exact g2
                obtain ⟨M', x', r1, r2, r3, r4⟩ := hkeep _ rfl (by omega)
                refine ⟨M', x', ?_, r2, r3, r4⟩
                rw [← r1]
                rw [hVd] at g1' g2'
                simp only [Md_weighs_h48, Md_weighs_b225, Md_weighs_b224, Md_weighs_b200, Md_weighs_b175, Md_weighs_b170, Md_weighs_b174, hpos, if_true, z1, if_false, lq_eq, nI_1, nI_xor, i256, gd_t hi8, hx8, b2, hBn, hl, bd_some, hp, hlo, hsum, b3, hd.2, hVd, gd_t hi5, hx5, x2, hxn, g1', g2', sq_eq, hpred]
        · have hp : leftV f c u < 0 := hneg.mpr hHu
          have hnew := pu_no hand hn (fun z => hHu (hH c u z.1)) hx
          obtain ⟨M', x', r1, r2, r3, r4⟩ := ih _ hand q M x (by omega) (sb_and _ _) hM hEx hnew
          refine ⟨M', x', ?_, r2, r3, r4⟩
          rw [← r1]
          simp only [Md_weighs_h48, Md_weighs_b225, hpos, if_true, z1, if_false, lq_eq, nI_1, nI_xor, i256, gd_t hi8, hx8, b2, hBn, hl, bd_some, hp, hpred]
