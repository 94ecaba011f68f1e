def hfDec (f : Nat → Int32) (nc O c v : Nat) : Decidable (Hf f nc O c v) := by unfold Hf sb; exact inferInstance
def hB (f : Nat → Int32) (nc O c v : Nat) : Bool := @decide _ (hfDec f nc O c v)
theorem hB_iff {f : Nat → Int32} {nc O c v : Nat} : hB f nc O c v = true ↔ Hf f nc O c v := @decide_eq_true_iff _ (hfDec f nc O c v)
def lossP (f : Nat → Int32) (P : Nat → Nat) : Nat → Int32 := fun c => if P c = 0 then 0 else lossV f c (P c)
/-- a plan: on each can nothing, or takes that it holds -/
def Plan (f : Nat → Int32) (nc O : Nat) (P : Nat → Nat) : Prop := ∀ c, P c = 0 ∨ Hf f nc O c (P c)
theorem sumN_zero {f : Nat → Int32} {n : Nat} (h : ∀ i, n ≤ i → f i = 0) : ∀ m, sumN f (n + m) = sumN f n
  | 0 => rfl
  | m + 1 => by
    show sumN f (n + m) + f (n + m) = sumN f n
    rw [h (n + m) (by omega), Int32.add_zero, sumN_zero h m]
theorem cnt_zero {p : Nat → Bool} {n : Nat} (h : ∀ i, n ≤ i → p i = false) : ∀ m, cnt p (n + m) = cnt p n
  | 0 => rfl
  | m + 1 => by
    have := cnt_zero h m
    show cnt p (n + m + 1) = _
    simp only [cnt, h (n + m) (by omega), Bool.false_eq_true, if_false, Nat.add_zero]
    exact this
theorem plan_lt {f : Nat → Int32} {nc nt O : Nat} {P : Nat → Nat} (hO : O < 256) (hP : Plan f nc O P) (c : Nat) : P c < 256 := by
  rcases hP c with h | h
  · omega
  · exact Nat.lt_of_le_of_lt (sb_le h.2.2.1) hO
theorem plan_out {f : Nat → Int32} {nc O : Nat} {P : Nat → Nat} (hP : Plan f nc O P) (c : Nat) (h : nc ≤ c) : P c = 0 := by
  rcases hP c with q | q
  · exact q
  · exact absurd q.1 (by omega)
theorem losses_in {M : Mem} {f : Nat → Int32} {nc nt O : Nat} {P : Nat → Nat} (h : RM M f nc nt O) (hR : RowOk f nc nt) (hO : O < 2 ^ nt) (hP : Plan f nc O P) (h4 : ∀ c, c < 6 → gi M 314 c = nI (P c)) : ∀ m k q, k + m = 6 → m < q → Rooms_losses_h4 q (sumN (lossP f P) k) (nI k) M = some (sumN (lossP f P) 6, M) := by
  have e6 : (6 : Int32) = nI 6 := rfl
  have hO256 : O < 256 := Nat.lt_of_lt_of_le hO (two8 hR.1.2.1)
  intro m
  induction m with
  | zero =>
    intro k q hk hm
    obtain ⟨q, rfl⟩ : ∃ z, q = z + 1 := ⟨q - 1, by omega⟩
    have hge : ¬ nI k < nI 6 := nI_nlt (by omega) (by omega)
    simp only [Rooms_losses_h4, e6, hge, if_false]
    rw [show k = 6 by omega]
  | succ m ih =>
    intro k q hk hm
    obtain ⟨q, rfl⟩ : ∃ z, q = z + 1 := ⟨q - 1, by omega⟩
    have hlt : nI k < nI 6 := nI_lt (by omega) (by omega)
    have ihk := ih (k + 1) q (by omega) (by omega)
    have es : sumN (lossP f P) (k + 1) = sumN (lossP f P) k + lossP f P k := rfl
    have hv := plan_lt (nt := nt) hO256 hP k
    rw [es] at ihk
    unfold lossP at ihk ⊢
    by_cases h0 : P k = 0
    · have hn : gi M 314 k = 0 := by rw [h4 k (by omega), h0]; rfl
      rw [if_pos h0, Int32.add_zero] at ihk
      simp only [Rooms_losses_h4, Rooms_losses_b33, e6, hlt, if_true, gd_t (inb_nI (show k < 6 by omega) (show 6 < 2 ^ 31 by omega)), ix_nI (show k < 2 ^ 31 by omega), hn, lq_eq, nI_1]
      exact ihk
    · have hn : ¬ nI (P k) = 0 := by rw [nI_eq0 (by omega)]; exact h0
      have hl := rm_loss h hR hO (show k < 6 by omega) hv ((hP k).resolve_left h0)
      rw [if_neg h0] at ihk
      simp only [Rooms_losses_h4, Rooms_losses_b33, e6, hlt, if_true, gd_t (inb_nI (show k < 6 by omega) (show 6 < 2 ^ 31 by omega)), ix_nI (show k < 2 ^ 31 by omega), h4 k (by omega), hn, if_false, hl, bd_some, lq_eq, nI_1]
      exact ihk
theorem losses_c {M : Mem} {f : Nat → Int32} {nc nt O : Nat} {P : Nat → Nat} (h : RM M f nc nt O) (hR : RowOk f nc nt) (hO : O < 2 ^ nt) (hP : Plan f nc O P) (h4 : ∀ c, c < 6 → gi M 314 c = nI (P c)) : j_Rooms_losses M = some (sumN (lossP f P) 6, M) := losses_in h hR hO hP h4 6 0 FU (by omega) (by unfold FU; omega)
theorem used_in {M : Mem} {P : Nat → Nat} (hP : ∀ c, P c < 256) (h4 : ∀ c, c < 6 → gi M 314 c = nI (P c)) : ∀ m k q, k + m = 6 → m < q → Rooms_used_h4 q (nI (cnt (fun c => decide (P c ≠ 0)) k)) (nI k) M = some (nI (cnt (fun c => decide (P c ≠ 0)) 6), M) := by
  have e6 : (6 : Int32) = nI 6 := rfl
  intro m
  induction m with
  | zero =>
    intro k q hk hm
    obtain ⟨q, rfl⟩ : ∃ z, q = z + 1 := ⟨q - 1, by omega⟩
    have hge : ¬ nI k < nI 6 := nI_nlt (by omega) (by omega)
    simp only [Rooms_used_h4, e6, hge, if_false]
    rw [show k = 6 by omega]
  | succ m ih =>
    intro k q hk hm
    obtain ⟨q, rfl⟩ : ∃ z, q = z + 1 := ⟨q - 1, by omega⟩
    have hlt : nI k < nI 6 := nI_lt (by omega) (by omega)
    have ihk := ih (k + 1) q (by omega) (by omega)
    have hv := hP k
    by_cases h0 : P k = 0
    · have hn : gi M 314 k = 0 := by rw [h4 k (by omega), h0]; rfl
      have ec : cnt (fun c => decide (P c ≠ 0)) (k + 1) = cnt (fun c => decide (P c ≠ 0)) k := by simp only [cnt, h0]; rfl
      rw [ec] at ihk
      simp only [Rooms_used_h4, Rooms_used_b22, e6, hlt, if_true, gd_t (inb_nI (show k < 6 by omega) (show 6 < 2 ^ 31 by omega)), ix_nI (show k < 2 ^ 31 by omega), hn, lq_eq, nI_1]
      exact ihk
    · have hn : ¬ nI (P k) = 0 := by rw [nI_eq0 (by omega)]; exact h0
      have ec : cnt (fun c => decide (P c ≠ 0)) (k + 1) = cnt (fun c => decide (P c ≠ 0)) k + 1 := by simp [cnt, h0]
      rw [ec] at ihk
      simp only [Rooms_used_h4, Rooms_used_b22, e6, hlt, if_true, gd_t (inb_nI (show k < 6 by omega) (show 6 < 2 ^ 31 by omega)), ix_nI (show k < 2 ^ 31 by omega), h4 k (by omega), hn, if_false, lq_eq, nI_1]
      exact ihk
theorem used_c {M : Mem} {P : Nat → Nat} (hP : ∀ c, P c < 256) (h4 : ∀ c, c < 6 → gi M 314 c = nI (P c)) : j_Rooms_used M = some (nI (cnt (fun c => decide (P c ≠ 0)) 6), M) := used_in hP h4 6 0 FU (by omega) (by unfold FU; omega)
theorem lossP_in {M : Mem} {nc nt O : Nat} {P : Nat → Nat} (hR : RowOk (fun i => gi M 327 i) nc nt) (hn6 : nc ≤ 6) (hO : O < 2 ^ nt) (hP : Plan (fun i => gi M 327 i) nc O P) (h4 : ∀ c, c < nc → gi M 335 c = nI (P c)) : ∀ m k q, k + m = nc → m < q → Md_lossOfPlan_h4 q (sumN (lossP (fun i => gi M 327 i) P) k) (nI k) M = some (sumN (lossP (fun i => gi M 327 i) P) nc, M) := by
  have hO256 : O < 256 := Nat.lt_of_lt_of_le hO (two8 hR.1.2.1)
  have e4 : gi M 327 4 = nI nc := hR.1.2.2.1
  intro m
  induction m with
  | zero =>
    intro k q hk hm
    obtain ⟨q, rfl⟩ : ∃ z, q = z + 1 := ⟨q - 1, by omega⟩
    have hge : ¬ nI k < nI nc := nI_nlt (by omega) (by omega)
    simp only [Md_lossOfPlan_h4, e4, hge, if_false]
    rw [show k = nc by omega]
  | succ m ih =>
    intro k q hk hm
    obtain ⟨q, rfl⟩ : ∃ z, q = z + 1 := ⟨q - 1, by omega⟩
    have hlt : nI k < nI nc := nI_lt (by omega) (by omega)
    have ihk := ih (k + 1) q (by omega) (by omega)
    have es : sumN (lossP (fun i => gi M 327 i) P) (k + 1) = sumN (lossP (fun i => gi M 327 i) P) k + lossP (fun i => gi M 327 i) P k := rfl
    have hv := plan_lt (nt := nt) hO256 hP k
    rw [es] at ihk
    have hl : j_Md_lossOf 327 (nI k) (nI (P k)) M = some (lossP (fun i => gi M 327 i) P k, M) := by
      unfold lossP
      by_cases h0 : P k = 0
      · have hn : nI (P k) = 0 := by rw [h0]; rfl
        rw [if_pos h0]
        simp only [j_Md_lossOf, hn, if_true]
      · rw [if_neg h0]
        have hH := (hP k).resolve_left h0
        exact lossOf_m (show k < 7 by omega) hv h0 (hR.2.2.1 k (by omega)).1 (fun t hb => (hR.2.2.2 t (bitO hO hH.2.2.1 hb)).1) hH.2.2.2.2.1
    simp only [Md_lossOfPlan_h4, e4, hlt, if_true, gd_t (inb_nI (show k < 7 by omega) (show 7 < 2 ^ 31 by omega)), ix_nI (show k < 2 ^ 31 by omega), h4 k (by omega), hl, bd_some, lq_eq, nI_1]
    exact ihk
theorem lossP_m {M : Mem} {nc nt O : Nat} {P : Nat → Nat} (hR : RowOk (fun i => gi M 327 i) nc nt) (hn6 : nc ≤ 6) (hO : O < 2 ^ nt) (hP : Plan (fun i => gi M 327 i) nc O P) (h4 : ∀ c, c < nc → gi M 335 c = nI (P c)) : j_Md_lossOfPlan M = some (sumN (lossP (fun i => gi M 327 i) P) 6, M) := by
  have h := lossP_in hR hn6 hO hP h4 nc 0 FU (by omega) (by unfold FU; omega)
  have e : sumN (lossP (fun i => gi M 327 i) P) 6 = sumN (lossP (fun i => gi M 327 i) P) nc := by
    have := sumN_zero (f := lossP (fun i => gi M 327 i) P) (n := nc) (fun i hi => if_pos (plan_out hP i hi)) (6 - nc)
    rw [show nc + (6 - nc) = 6 by omega] at this
    exact this
  rw [e]
  exact h
theorem roomsP_in {M : Mem} {nc : Nat} {P : Nat → Nat} (e4 : gi M 327 4 = nI nc) (hn6 : nc ≤ 6) (hP : ∀ c, P c < 256) (h4 : ∀ c, c < nc → gi M 335 c = nI (P c)) : ∀ m k q, k + m = nc → m < q → Md_roomsOfPlan_h4 q (nI (cnt (fun c => decide (P c ≠ 0)) k)) (nI k) M = some (nI (cnt (fun c => decide (P c ≠ 0)) nc), M) := by
  intro m
  induction m with
  | zero =>
    intro k q hk hm
    obtain ⟨q, rfl⟩ : ∃ z, q = z + 1 := ⟨q - 1, by omega⟩
    have hge : ¬ nI k < nI nc := nI_nlt (by omega) (by omega)
    simp only [Md_roomsOfPlan_h4, e4, hge, if_false]
    rw [show k = nc by omega]
  | succ m ih =>
    intro k q hk hm
    obtain ⟨q, rfl⟩ : ∃ z, q = z + 1 := ⟨q - 1, by omega⟩
    have hlt : nI k < nI nc := nI_lt (by omega) (by omega)
    have ihk := ih (k + 1) q (by omega) (by omega)
    have hv := hP k
    by_cases h0 : P k = 0
    · have hn : gi M 335 k = 0 := by rw [h4 k (by omega), h0]; rfl
      have ec : cnt (fun c => decide (P c ≠ 0)) (k + 1) = cnt (fun c => decide (P c ≠ 0)) k := by simp only [cnt, h0]; rfl
      rw [ec] at ihk
      simp only [Md_roomsOfPlan_h4, Md_roomsOfPlan_b29, e4, hlt, if_true, gd_t (inb_nI (show k < 7 by omega) (show 7 < 2 ^ 31 by omega)), ix_nI (show k < 2 ^ 31 by omega), hn, lq_eq, nI_1, Int32.add_zero]
      exact ihk
    · have hn : ¬ nI (P k) = 0 := by rw [nI_eq0 (by omega)]; exact h0
      have ec : cnt (fun c => decide (P c ≠ 0)) (k + 1) = cnt (fun c => decide (P c ≠ 0)) k + 1 := by simp [cnt, h0]
      rw [ec] at ihk
      simp only [Md_roomsOfPlan_h4, Md_roomsOfPlan_b29, e4, hlt, if_true, gd_t (inb_nI (show k < 7 by omega) (show 7 < 2 ^ 31 by omega)), ix_nI (show k < 2 ^ 31 by omega), h4 k (by omega), hn, if_false, lq_eq, nI_1]
      exact ihk
theorem roomsP_m {M : Mem} {nc : Nat} {P : Nat → Nat} (e4 : gi M 327 4 = nI nc) (hn6 : nc ≤ 6) (hP : ∀ c, P c < 256) (hz : ∀ c, nc ≤ c → P c = 0) (h4 : ∀ c, c < nc → gi M 335 c = nI (P c)) : j_Md_roomsOfPlan M = some (nI (cnt (fun c => decide (P c ≠ 0)) 6), M) := by
  have h := roomsP_in e4 hn6 hP h4 nc 0 FU (by omega) (by unfold FU; omega)
  have e : cnt (fun c => decide (P c ≠ 0)) 6 = cnt (fun c => decide (P c ≠ 0)) nc := by
    have := cnt_zero (p := fun c => decide (P c ≠ 0)) (n := nc) (fun i hi => by simp [hz i hi]) (6 - nc)
    rw [show nc + (6 - nc) = 6 by omega] at this
    exact this
  rw [e]
  exact h
