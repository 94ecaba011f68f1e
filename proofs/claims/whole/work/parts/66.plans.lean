theorem bv_skip {H : Nat → Nat → Prop} {w : Nat → Nat → Nat} {m c s : Nat} (h : ∀ t, ¬ H c t) : Bv H w (m + 1) c s = Bv H w m (c + 1) s := bv_eq (mn_cong (fun v => ((pu_start (u := 0) (fun t q _ => absurd q (h t)) v).symm.trans (pu_end v))) (bv_mn H w m (c + 1) s))
theorem weighs_m {a nc nt O c s m : Nat} {M : Mem} {f : Nat → Int32} {H : Nat → Nat → Prop} (x4 : Int32) (ha : a < 333) (hfd : f = fun i => gi M a i) (hR : RowOk f nc nt) (hO : O < 2 ^ nt) (hc : c < nc) (hm : m ≤ 8) (hs : sb s O) (hH : ∀ c t, H c t → Hf f nc O c t) (hx : (x4 = 0 ∧ ∀ t, ¬ H c t) ∨ (x4 = 1 ∧ ¬ f (13 + 4 * c + 2) = 2 ∧ ∀ t, Hf f nc O c t → H c t)) (hE : ∀ v, sb v s → Ent M (256 * (c + 1) + v) (Bv H (wf f) m (c + 1) v)) : ∃ M', j_Md_weighs a (nI c) (nI s) x4 M = some ((), M') ∧ (∀ b i, ((b ≠ 333 ∧ b ≠ 334) ∨ i ≠ 256 * c + s) → gi M' b i = gi M b i) ∧ Ent M' (256 * c + s) (Bv H (wf f) (m + 1) c s) := by
  have n7 := hR.1.1
  have hO256 : O < 256 := Nat.lt_of_lt_of_le hO (two8 hR.1.2.1)
  have hs256 : s < 256 := Nat.lt_of_le_of_lt (sb_le hs) hO256
  have hi : inb (nI (256 * c + s)) 2048 = true := inb_nI (by omega) (by omega)
  have hx5 : ix (nI (256 * c + s)) = 256 * c + s := ix_nI (by omega)
  have e256 : nI (256 * c + s) + 256 = nI (256 * (c + 1) + s) := by
    rw [show (256 : Int32) = nI 256 from rfl, nI_add]
    congr 1; omega
  have hi2 : inb (nI (256 * (c + 1) + s)) 2048 = true := inb_nI (by omega) (by omega)
  have hx2 : ix (nI (256 * (c + 1) + s)) = 256 * (c + 1) + s := ix_nI (by omega)
  obtain ⟨Ma, hMa⟩ : ∃ Ma, Ma = uI M 333 (256 * c + s) (gi M 333 (256 * (c + 1) + s)) := ⟨_, rfl⟩
  obtain ⟨M1, hM1⟩ : ∃ M1, M1 = uI Ma 334 (256 * c + s) (gi Ma 334 (256 * (c + 1) + s)) := ⟨_, rfl⟩
  have fr : ∀ b i, ((b ≠ 333 ∧ b ≠ 334) ∨ i ≠ 256 * c + s) → gi M1 b i = gi M b i := fun b i h => by
    rw [hM1, gi_uI, if_neg (by omega), hMa, gi_uI, if_neg (by omega)]
  have hstart : j_Md_weighs a (nI c) (nI s) x4 M = Md_weighs_h48 FU a (nI c) (nI s) x4 (nI (256 * c + s)) (nI s) M1 := by
    unfold j_Md_weighs
    rw [lq_e, i256, e256, gd_t hi2, gd_t hi, sq_e, gd_t hi2, gd_t hi, sq_e, hx5, hx2, ← hMa, ← hM1]
  have hEnt : Ent M1 (256 * c + s) (Bv H (wf f) m (c + 1) s) := by
    have h0 := hE s (sb_refl s)
    have g3 : gi M1 333 (256 * c + s) = gi M 333 (256 * (c + 1) + s) := by rw [hM1, gi_uIa _ _ _ _ _ _ (by omega), hMa, gi_uIs]
    have g4 : gi M1 334 (256 * c + s) = gi M 334 (256 * (c + 1) + s) := by rw [hM1, gi_uIs, hMa, gi_uIa _ _ _ _ _ _ (by omega)]
    unfold Ent at *
    rw [g3, g4]; exact h0
  rcases hx with ⟨h1, h2⟩ | ⟨h1, h2, h3⟩
  · refine ⟨M1, ?_, fr, ?_⟩
    · rw [hstart, h1]
      have : FU = (FU - 1) + 1 := by unfold FU; omega
      rw [this, Md_weighs_h48]
      by_cases hp : (0 : Int32) < nI s
      · rw [if_pos hp, if_pos rfl]
      · rw [if_neg hp]
    · rw [bv_skip h2]; exact hEnt
  · have hmn : Mn (Pu H (wf f) m c s s) (Bv H (wf f) m (c + 1) s) := mn_cong (fun v => (pu_start (fun t _ q => sb_le q) v).symm) (bv_mn H (wf f) m (c + 1) s)
    have hf1 : f = fun i => gi M1 a i := by rw [hfd]; exact funext (fun i => (fr a i (by omega)).symm)
    obtain ⟨M', x', r1, r2, r3, r4⟩ := weigh_in (M0 := M1) ha hf1 hR hO hc hm h2 hs hH (fun t _ q => h3 t q) (fun v hv => ent_cong (fr 333 _ (by omega)) (fr 334 _ (by omega)) (hE v hv)) s FU M1 (Bv H (wf f) m (c + 1) s) (by unfold FU; omega) (sb_refl s) (fun _ _ _ => rfl) hEnt hmn
    refine ⟨M', by rw [hstart, h1]; exact r1, fun b i h => (r2 b i h).trans (fr b i h), ?_⟩
    rw [bv_eq (mn_cong pu_end r4)]
    exact r3
def Ho (f : Nat → Int32) (nc O out : Nat) : Nat → Nat → Prop := fun c t => Hf f nc O c t ∧ ¬ out.testBit c = true
theorem plan_in {K : Nat → Int32 → Int32 → Int32 → Mem → Option (Unit × Mem)} {a nc nt O out c m : Nat} {f : Nat → Int32} (ha : a < 333) (hR : RowOk f nc nt) (hO : O < 2 ^ nt) (ho : out < 256) (hc : c < nc) (hm : m ≤ 8) : ∀ u q M, u + 1 < q → sb u O → (f = fun i => gi M a i) → (∀ v, sb v O → Ent M (256 * (c + 1) + v) (Bv (Ho f nc O out) (wf f) m (c + 1) v)) → ∃ M', Md_plans_h74 K q a (nI O) (nI out) (nI c) (nI u) M = K a (nI O) (nI out) (nI c + (-1)) M' ∧ (∀ b i, ((b ≠ 333 ∧ b ≠ 334) ∨ i < 256 * c ∨ 256 * c + u < i) → gi M' b i = gi M b i) ∧ ∀ v, sb v O → v ≤ u → Ent M' (256 * c + v) (Bv (Ho f nc O out) (wf f) (m + 1) c v) := by
  have n7 := hR.1.1
  have hO256 : O < 256 := Nat.lt_of_lt_of_le hO (two8 hR.1.2.1)
  have hm1 : (-1 : Int32) < 0 := by decide
  intro u
  induction u using Nat.strongRecOn with
  | ind u ih =>
    intro q M hq hu hfd hE
    obtain ⟨q, rfl⟩ : ∃ z, q = z + 1 := ⟨q - 1, by omega⟩
    have hle := sb_le hu
    have hnn : ¬ nI u < 0 := by rw [i32_lt, t0, nI_toInt (by omega)]; omega
    have hc7 : c < 7 := by omega
    have ef : ∀ i, gi M a i = f i := fun i => by rw [hfd]
    -- the step
    have hstep : ∃ M1, (∀ b i, ((b ≠ 333 ∧ b ≠ 334) ∨ i ≠ 256 * c + u) → gi M1 b i = gi M b i) ∧ Ent M1 (256 * c + u) (Bv (Ho f nc O out) (wf f) (m + 1) c u) ∧ Md_plans_h74 K (q + 1) a (nI O) (nI out) (nI c) (nI u) M = (if nI u = 0 then Md_plans_h74 K q a (nI O) (nI out) (nI c) (-1) M1 else Md_plans_h74 K q a (nI O) (nI out) (nI c) ((nI u - 1) &&& nI O) M1) := by
      by_cases hr : f (13 + 4 * c + 2) = 2
      · obtain ⟨M1, w1, w2, w3⟩ := weighs_m (m := m) 0 ha hfd hR hO hc hm hu (fun c t (h : Ho f nc O out c t) => h.1) (Or.inl ⟨rfl, fun t h => h.1.2.2.2.1 hr⟩) (fun v hv => hE v (sb_trans hv hu))
        refine ⟨M1, w2, w3, ?_⟩
        have hr' : gi M a (13 + 4 * c + 2) = 2 := by rw [ef]; exact hr
        simp only [Md_plans_h74, Md_plans_b107, Md_plans_b108, Md_plans_b126, hnn, if_false, md_isRoom hc7, hr', decide_true, Bool.not_true, Bool.false_eq_true, bd_some, if_true, w1]
      · have hr' : ¬ gi M a (13 + 4 * c + 2) = 2 := by rw [ef]; exact hr
        by_cases hb : out.testBit c = true
        · obtain ⟨M1, w1, w2, w3⟩ := weighs_m (m := m) 0 ha hfd hR hO hc hm hu (fun c t (h : Ho f nc O out c t) => h.1) (Or.inl ⟨rfl, fun t h => h.2 hb⟩) (fun v hv => hE v (sb_trans hv hu))
          refine ⟨M1, w2, w3, ?_⟩
          simp only [Md_plans_h74, Md_plans_b107, Md_plans_b108, Md_plans_b126, hnn, if_false, md_isRoom hc7, hr', decide_false, Bool.not_false, bd_some, if_true, z1, md_has ho (show c < 8 by omega), hb, w1]
        · obtain ⟨M1, w1, w2, w3⟩ := weighs_m (m := m) 1 ha hfd hR hO hc hm hu (fun c t (h : Ho f nc O out c t) => h.1) (Or.inr ⟨rfl, hr, fun t h => ⟨h, hb⟩⟩) (fun v hv => hE v (sb_trans hv hu))
          refine ⟨M1, w2, w3, ?_⟩
          simp only [Md_plans_h74, Md_plans_b107, Md_plans_b108, Md_plans_b126, hnn, if_false, md_isRoom hc7, hr', decide_false, Bool.not_false, bd_some, if_true, z1, md_has ho (show c < 8 by omega), hb, Bool.false_eq_true, w1]
    obtain ⟨M1, w2, w3, w1⟩ := hstep
    by_cases hu0 : u = 0
    · subst hu0
      obtain ⟨q, rfl⟩ : ∃ z, q = z + 1 := ⟨q - 1, by omega⟩
      refine ⟨M1, ?_, fun b i h => w2 b i (by omega), fun v hv hv0 => ?_⟩
      · rw [w1, if_pos (show nI 0 = 0 from rfl), Md_plans_h74, if_pos hm1, lq_e]
      · rw [Nat.le_zero.mp hv0]; exact w3
    · have hn0 : ¬ nI u = 0 := by rw [nI_eq0 (by omega)]; exact hu0
      have hand : (u - 1) &&& O < u := Nat.lt_of_le_of_lt Nat.and_le_left (by omega)
      obtain ⟨M', r1, r2, r3⟩ := ih _ hand q M1 (by omega) (sb_and _ _) (by rw [hfd]; exact funext (fun i => (w2 a i (by omega)).symm)) (fun v hv => by
        have := Nat.lt_of_le_of_lt (sb_le hv) hO256
        exact ent_cong (w2 333 _ (by omega)) (w2 334 _ (by omega)) (hE v hv))
      refine ⟨M', ?_, fun b i h => (r2 b i (by omega)).trans (w2 b i (by omega)), fun v hv hvu => ?_⟩
      · rw [w1, if_neg hn0, pred_and O hu0]
        exact r1
      · by_cases hvu2 : v = u
        · rw [hvu2]
          exact ent_cong (r2 333 _ (by omega)) (r2 334 _ (by omega)) w3
        · exact r3 v hv (sb_next u O v hu hv (by omega))
theorem plan_out_in {a nc nt O out : Nat} {f : Nat → Int32} (ha : a < 333) (hR : RowOk f nc nt) (hO : O < 2 ^ nt) (ho : out < 256) : ∀ k q M, k < q → k ≤ nc → (f = fun i => gi M a i) → (∀ c, k ≤ c → c ≤ nc → ∀ v, sb v O → Ent M (256 * c + v) (Bv (Ho f nc O out) (wf f) (nc - c) c v)) → ∃ M', Md_plans_h66 q a (nI O) (nI out) (nI k - 1) M = some ((), M') ∧ (∀ b i, b ≠ 333 → b ≠ 334 → gi M' b i = gi M b i) ∧ ∀ c, c ≤ nc → ∀ v, sb v O → Ent M' (256 * c + v) (Bv (Ho f nc O out) (wf f) (nc - c) c v) := by
  have n7 := hR.1.1
  have hO256 : O < 256 := Nat.lt_of_lt_of_le hO (two8 hR.1.2.1)
  intro k
  induction k with
  | zero =>
    intro q M hq hk hfd hE
    obtain ⟨q, rfl⟩ : ∃ z, q = z + 1 := ⟨q - 1, by omega⟩
    refine ⟨M, ?_, fun _ _ _ _ => rfl, fun c hc v hv => hE c (by omega) hc v hv⟩
    rw [Md_plans_h66, if_pos nI_0m1]
  | succ k ih =>
    intro q M hq hk hfd hE
    obtain ⟨q, rfl⟩ : ∃ z, q = z + 1 := ⟨q - 1, by omega⟩
    have hnn : ¬ nI k < 0 := by rw [i32_lt, t0, nI_toInt (by omega)]; omega
    have e1 : nc - k = (nc - (k + 1)) + 1 := by omega
    obtain ⟨M1, r1, r2, r3⟩ := plan_in (K := fun a1 x2 x3 x4 M => Md_plans_h66 q a1 x2 x3 x4 M) (c := k) (m := nc - (k + 1)) ha hR hO ho (by omega) (by omega) O FU M (by unfold FU; omega) (sb_refl O) hfd (fun v hv => hE (k + 1) (Nat.le_refl _) hk v hv)
    obtain ⟨M', p1, p2, p3⟩ := ih q M1 (by omega) (by omega) (by rw [hfd]; exact funext (fun i => (r2 a i (by omega)).symm)) (fun c hc1 hc2 v hv => by
      by_cases hck : c = k
      · rw [hck, e1]
        exact r3 v hv (sb_le hv)
      · have := Nat.lt_of_le_of_lt (sb_le hv) hO256
        exact ent_cong (r2 333 _ (by omega)) (r2 334 _ (by omega)) (hE c (by omega) hc2 v hv))
    refine ⟨M', ?_, fun b i h1 h2 => (p2 b i h1 h2).trans (r2 b i (by omega)), p3⟩
    rw [nI_s1, Md_plans_h66, if_neg hnn, r1, nI_addm1]
    exact p1
theorem plan0_in {a nc nt O out : Nat} {f : Nat → Int32} {M0 : Mem} (ha : a < 333) (hR : RowOk f nc nt) (hfd : f = fun i => gi M0 a i) : ∀ m k q M, k + m = 256 → m < q → (∀ b i, b ≠ 333 → b ≠ 334 → gi M b i = gi M0 b i) → (∀ v, v < k → Ent M (256 * nc + v) (if v = 0 then 0 else 1000000)) → ∃ M', Md_plans_h3 q a (nI O) (nI out) (nI k) M = Md_plans_h66 FU a (nI O) (nI out) (nI nc - 1) M' ∧ (∀ b i, b ≠ 333 → b ≠ 334 → gi M' b i = gi M0 b i) ∧ ∀ v, v < 256 → Ent M' (256 * nc + v) (if v = 0 then 0 else 1000000) := by
  have n7 := hR.1.1
  have e256 : (256 : Int32) = nI 256 := rfl
  have e4 : ∀ M : Mem, (∀ b i, b ≠ 333 → b ≠ 334 → gi M b i = gi M0 b i) → gi M a 4 = nI nc := fun M hM => by
    rw [hM a 4 (by omega) (by omega)]
    have := hR.1.2.2.1
    rw [hfd] at this
    exact this
  intro m
  induction m with
  | zero =>
    intro k q M hk hq hM h4
    obtain ⟨q, rfl⟩ : ∃ z, q = z + 1 := ⟨q - 1, by omega⟩
    have hge : ¬ nI k < nI 256 := nI_nlt (by omega) (by omega)
    refine ⟨M, ?_, hM, fun v hv => h4 v (by omega)⟩
    rw [Md_plans_h3, e256, if_neg hge, lq_e, e4 M hM]
  | succ m ih =>
    intro k q M hk hq hM h4
    obtain ⟨q, rfl⟩ : ∃ z, q = z + 1 := ⟨q - 1, by omega⟩
    have hlt : nI k < nI 256 := nI_lt (by omega) (by omega)
    have hi : inb (nI (256 * nc + k)) 2048 = true := inb_nI (by omega) (by omega)
    have hx : ix (nI (256 * nc + k)) = 256 * nc + k := ix_nI (by omega)
    obtain ⟨x, hxd⟩ : ∃ x : Int32, x = if k = 0 then 0 else -1000000 := ⟨_, rfl⟩
    obtain ⟨Ma, hMa⟩ : ∃ Ma, Ma = uI M 333 (256 * nc + k) x := ⟨_, rfl⟩
    obtain ⟨M1, hM1⟩ : ∃ M1, M1 = uI Ma 334 (256 * nc + k) 0 := ⟨_, rfl⟩
    have e4a : gi Ma a 4 = nI nc := by rw [hMa, gi_uIa _ _ _ _ _ _ (by omega)]; exact e4 M hM
    obtain ⟨M', r1, r2, r3⟩ := ih (k + 1) q M1 (by omega) (by omega) (fun b i h1 h2 => by rw [hM1, gi_uIa _ _ _ _ _ _ h2, hMa, gi_uIa _ _ _ _ _ _ h1]; exact hM b i h1 h2) (fun v hv => by
      by_cases hvk : v = k
      · rw [hvk]
        by_cases hk0 : k = 0
        · right
          rw [if_pos hk0]
          refine ⟨by omega, ?_, ?_⟩
          · rw [hM1, gi_uIa _ _ _ _ _ _ (by omega), hMa, gi_uIs, hxd, if_pos hk0]; rfl
          · rw [hM1, gi_uIs]; rfl
        · left
          rw [if_neg hk0]
          refine ⟨rfl, ?_⟩
          rw [hM1, gi_uIa _ _ _ _ _ _ (by omega), hMa, gi_uIs, hxd, if_neg hk0]
      · refine ent_cong ?_ ?_ (h4 v (by omega))
        · rw [hM1, gi_uIi _ _ _ _ _ _ (by omega), hMa, gi_uIi _ _ _ _ _ _ (by omega)]
        · rw [hM1, gi_uIi _ _ _ _ _ _ (by omega), hMa, gi_uIi _ _ _ _ _ _ (by omega)])
    refine ⟨M', ?_, r2, r3⟩
    have hb : Md_plans_b36 (fun a1 x2 x3 x4 M => Md_plans_h3 q a1 x2 x3 x4 M) a (nI O) (nI out) (nI k) x (nI (256 * nc + k)) M = Md_plans_h3 q a (nI O) (nI out) (nI (k + 1)) M1 := by
      unfold Md_plans_b36
      rw [gd_t hi, sq_e, hx, ← hMa, e4a, i256, gd_t hi, sq_e, hx, ← hM1, lq_e, nI_1]
    rw [← r1, ← hb, Md_plans_h3, e256, if_pos hlt, e4 M hM, ← e256, i256]
    by_cases hk0 : k = 0
    · rw [if_pos (by rw [hk0]; rfl), hxd, if_pos hk0]
    · rw [if_neg (by rw [nI_eq0 (by omega)]; exact hk0), hxd, if_neg hk0]
theorem plans_m {a nc nt O out : Nat} {f : Nat → Int32} {M : Mem} (ha : a < 333) (hR : RowOk f nc nt) (hfd : f = fun i => gi M a i) (hO : O < 2 ^ nt) (ho : out < 256) : ∃ M', j_Md_plans a (nI O) (nI out) M = some ((), M') ∧ (∀ b i, b ≠ 333 → b ≠ 334 → gi M' b i = gi M b i) ∧ ∀ c, c ≤ nc → ∀ v, sb v O → Ent M' (256 * c + v) (Bv (Ho f nc O out) (wf f) (nc - c) c v) := by
  have n7 := hR.1.1
  have hO256 : O < 256 := Nat.lt_of_lt_of_le hO (two8 hR.1.2.1)
  obtain ⟨M1, r1, r2, r3⟩ := plan0_in (O := O) (out := out) (M0 := M) ha hR hfd 256 0 FU M (by omega) (by unfold FU; omega) (fun _ _ _ _ => rfl) (fun v hv => absurd hv (by omega))
  obtain ⟨M', p1, p2, p3⟩ := plan_out_in (out := out) ha hR hO ho nc FU M1 (by unfold FU; omega) (Nat.le_refl nc) (by rw [hfd]; exact funext (fun i => (r2 a i (by omega) (by omega)).symm)) (fun c h1 h2 v hv => by
    have hcn : c = nc := by omega
    rw [hcn, Nat.sub_self, bv_last]
    exact r3 v (Nat.lt_of_le_of_lt (sb_le hv) hO256))
  refine ⟨M', ?_, fun b i h1 h2 => (p2 b i h1 h2).trans (r2 b i h1 h2), p3⟩
  unfold j_Md_plans
  rw [lq_e]
  exact r1.trans p1
/-- canBePlaced: what it says and leaves -/
theorem placed_m {a nc nt O out : Nat} {f : Nat → Int32} {M : Mem} (ha : a < 333) (hR : RowOk f nc nt) (hfd : f = fun i => gi M a i) (hOe : O = openN M a nt) (ho : out < 256) : ∃ M', (Pf (Ho f nc O out) nc 0 O → j_Md_canBePlaced a (nI out) M = some (1, M')) ∧ (¬ Pf (Ho f nc O out) nc 0 O → j_Md_canBePlaced a (nI out) M = some (0, M')) ∧ (∀ b i, b ≠ 333 → b ≠ 334 → gi M' b i = gi M b i) ∧ ∀ c, c ≤ nc → ∀ v, sb v O → Ent M' (256 * c + v) (Bv (Ho f nc O out) (wf f) (nc - c) c v) := by
  have n7 := hR.1.1
  have n8 := hR.1.2.1
  have hO : O < 2 ^ nt := by rw [hOe]; exact setN_lt _ nt
  have hO256 : O < 256 := Nat.lt_of_lt_of_le hO (two8 n8)
  have e5 : gi M a 5 = nI nt := by have := hR.1.2.2.2; rw [hfd] at this; exact this
  obtain ⟨M', r1, r2, r3⟩ := plans_m (out := out) ha hR hfd hO ho
  have o1 : j_Md_openOnes a M = some (nI O, M) := by rw [hOe]; exact openOnes_m n8 e5
  have o2 : j_Md_openOnes a M' = some (nI O, M') := by
    have := openOnes_m (a := a) (M := M') n8 (by rw [r2 a 5 (by omega) (by omega)]; exact e5)
    rw [this, hOe]
    unfold openN
    rw [setN_cong nt (fun i _ => by rw [r2 a _ (by omega) (by omega)])]
  have hent := r3 0 (by omega) O (sb_refl O)
  rw [Nat.mul_zero, Nat.zero_add, Nat.sub_zero] at hent
  have hpf := pf_bv (H := Ho f nc O out) (w := wf f) (fun c t q => by have := hf_w hR hO c t q.1; exact ⟨this.1, this.2.1⟩) (m := nc) (c := 0) (s := O) (by omega)
  refine ⟨M', fun hp => ?_, fun hp => ?_, r2, r3⟩
  · have hne : ¬ gi M' 333 O = -1000000 := by
      rcases hent with ⟨q1, _⟩ | ⟨q1, q2, _⟩
      · exact absurd q1 (hpf.mp hp)
      · rw [q2]; exact nI_neM (by omega)
    unfold j_Md_canBePlaced
    rw [o1, bd_some, r1, bd_some, o2, bd_some, gd_t (inb_nI (show O < 2048 by omega) (by omega)), ix_nI (by omega), if_neg hne]
  · have hne : gi M' 333 O = -1000000 := by
      rcases hent with ⟨_, q2⟩ | ⟨q1, _, _⟩
      · exact q2
      · exact absurd (hpf.mpr (by omega)) hp
    unfold j_Md_canBePlaced
    rw [o1, bd_some, r1, bd_some, o2, bd_some, gd_t (inb_nI (show O < 2048 by omega) (by omega)), ix_nI (by omega), if_pos hne]
