def Of (f : Nat → Int32) (nt : Nat) : Nat := setN (fun i => decide ((f (41 + 3 * i + 2)).toInt < 0)) nt
theorem can_m {M : Mem} {a nc nt out : Nat} {f : Nat → Int32} (ha : a < 333) (hR : RowOk f nc nt) (hf : ∀ i, gi M a i = f i) (ho : out < 256) : ∃ M', (Pf (Ho f nc (Of f nt) out) nc 0 (Of f nt) → j_Md_canBePlaced a (nI out) M = some (1, M')) ∧ (¬ Pf (Ho f nc (Of f nt) out) nc 0 (Of f nt) → j_Md_canBePlaced a (nI out) M = some (0, M')) ∧ (∀ b i, b ≠ 333 → b ≠ 334 → gi M' b i = gi M b i) ∧ ∀ c, c ≤ nc → ∀ v, sb v (Of f nt) → Ent M' (256 * c + v) (Bv (Ho f nc (Of f nt) out) (wf f) (nc - c) c v) := by
  have hfd : f = fun i => gi M a i := funext (fun i => (hf i).symm)
  have hO : Of f nt = openN M a nt := by unfold Of openN; rw [hfd]
  exact placed_m ha hR hfd hO ho
theorem pf_hr_ho {f : Nat → Int32} {nc O R out s : Nat} (n6 : nc ≤ 6) (h : ∀ c, c < nc → ¬ f (13 + 4 * c + 2) = 2 → (R.testBit c = true ↔ ¬ out.testBit c = true)) : Pf (Hr f nc O R) 6 0 s ↔ Pf (Ho f nc O out) nc 0 s := by
  have e : Hr f nc O R = Ho f nc O out := by
    funext c t
    apply propext
    unfold Hr Ho
    constructor
    · rintro ⟨h1, h2⟩; exact ⟨h1, (h c h1.1 h1.2.2.2.1).mp h2⟩
    · rintro ⟨h1, h2⟩; exact ⟨h1, (h c h1.1 h1.2.2.2.1).mpr h2⟩
  rw [e]
  have := pf_ext (H := Ho f nc O out) (n := nc) (fun c t hc q => by have := q.1.1; omega) (6 - nc) (m := nc) (c := 0) (s := s) (by omega)
  rw [show nc + (6 - nc) = 6 by omega] at this
  exact this
theorem bit63 : ∀ c, c < 6 → (63 : Nat).testBit c = true := by decide
theorem bit63x : ∀ k, k < 6 → ∀ c, c < 6 → ((63 ^^^ 2 ^ k).testBit c = true ↔ ¬ (2 ^ k).testBit c = true) := by decide
theorem pf_63 {f : Nat → Int32} {nc O s : Nat} (n6 : nc ≤ 6) : Pf (Hr f nc O 63) 6 0 s ↔ Pf (Ho f nc O 0) nc 0 s := pf_hr_ho n6 (fun c hc _ => ⟨fun _ => by rw [Nat.zero_testBit]; decide, fun _ => bit63 c (by omega)⟩)
theorem pf_63x {f : Nat → Int32} {nc O s k : Nat} (n6 : nc ≤ 6) (hk : k < 6) : Pf (Hr f nc O (63 ^^^ 2 ^ k)) 6 0 s ↔ Pf (Ho f nc O (2 ^ k)) nc 0 s := pf_hr_ho n6 (fun c hc _ => bit63x k hk c (by omega))
noncomputable def dB (P : Prop) : Bool := @decide P (Classical.propDecidable P)
theorem dB_iff {P : Prop} : dB P = true ↔ P := @decide_eq_true_iff P (Classical.propDecidable P)
theorem setN_end {p : Nat → Bool} {n : Nat} (h : ∀ c, n ≤ c → p c = false) : ∀ m, setN p (n + m) = setN p n
  | 0 => rfl
  | m + 1 => by
    show setN p (n + m + 1) = _
    rw [← set_no (h (n + m) (by omega))]
    exact setN_end h m
/-- the cans without which not all can be placed -/
noncomputable def needB (f : Nat → Int32) (nc O : Nat) : Nat → Bool := fun c => dB ((c < nc ∧ ¬ f (13 + 4 * c + 2) = 2) ∧ ¬ Pf (Ho f nc O (2 ^ c)) nc 0 O)
theorem needed_c {f : Nat → Int32} {nc nt O : Nat} {M : Mem} (h : RM M f nc nt O) (hT : RT M f nc O (O + 1)) (n6 : nc ≤ 6) (hO : O < 256) : ∀ m k q, k + m = 6 → m < q → Reach_roomsNeeded_h4 q (nI (setN (needB f nc O) k)) (nI k) M = some (nI (setN (needB f nc O) 6), M) := by
  have e6 : (6 : Int32) = nI 6 := rfl
  have e63 : (63 : Int32) = nI 63 := rfl
  have hR : Rf f nc < 256 := Nat.lt_of_lt_of_le (setN_lt _ nc) (two8 (by omega))
  intro m
  induction m with
  | zero =>
    intro k q hk hq
    obtain ⟨q, rfl⟩ : ∃ z, q = z + 1 := ⟨q - 1, by omega⟩
    have hge : ¬ nI k < nI 6 := nI_nlt (by omega) (by omega)
    have hk6 : k = 6 := by omega
    subst hk6
    simp only [Reach_roomsNeeded_h4, e6, hge, if_false]
  | succ m ih =>
    intro k q hk hq
    obtain ⟨q, rfl⟩ : ∃ z, q = z + 1 := ⟨q - 1, by omega⟩
    have hlt : nI k < nI 6 := nI_lt (by omega) (by omega)
    have ihk := ih (k + 1) q (by omega) (by omega)
    have hhas := rooms_has (M := M) hR (show k < 8 by omega) h.1.1
    by_cases hb : (Rf f nc).testBit k = true
    · have hpl := placed_c hT (sb_refl O) (show O < O + 1 by omega) hO (x64 (show 63 < 64 by omega) (show k < 6 by omega))
      have hiff := pf_63x (f := f) (O := O) (s := O) n6 (show k < 6 by omega)
      by_cases hp : Pf (Ho f nc O (2 ^ k)) nc 0 O
      · have hn : needB f nc O k = false := by
          apply Bool.eq_false_iff.mpr
          intro z
          exact (dB_iff.mp z).2 hp
        rw [← set_no hn] at ihk
        simp only [Reach_roomsNeeded_h4, Reach_roomsNeeded_b41, e6, hlt, if_true, hhas, hb, bd_some, z1, if_false, h.1.2, e63, shl_bit k (show k < 8 by omega), nI_xor, hpl.1 (hiff.mpr hp), lq_eq, nI_1]
        exact ihk
      · have hn : needB f nc O k = true := dB_iff.mpr ⟨rf_bit.mp hb, hp⟩
        rw [← set_yes (show k < 8 by omega) hn, shl_bit k (show k < 8 by omega)] at ihk
        simp only [Reach_roomsNeeded_h4, Reach_roomsNeeded_b41, e6, hlt, if_true, hhas, hb, bd_some, z1, if_false, h.1.2, e63, shl_bit k (show k < 8 by omega), nI_xor, hpl.2 (fun z => hp (hiff.mp z)), lq_eq, nI_1]
        rw [nI_or] at ihk
        simp only [nI_or]
        exact ihk
    · have hn : needB f nc O k = false := by
        apply Bool.eq_false_iff.mpr
        intro z
        exact hb (rf_bit.mpr (dB_iff.mp z).1)
      rw [← set_no hn] at ihk
      simp only [Reach_roomsNeeded_h4, Reach_roomsNeeded_b41, e6, hlt, if_true, hhas, hb, Bool.false_eq_true, if_false, bd_some, lq_eq, nI_1]
      exact ihk
theorem needed_m {f : Nat → Int32} {nc nt : Nat} (hR : RowOk f nc nt) (n6 : nc ≤ 6) {M0 : Mem} (hf : ∀ i, gi M0 327 i = f i) : ∀ m k q M, k + m = nc → m < q → (∀ b i, b ≠ 333 → b ≠ 334 → gi M b i = gi M0 b i) → ∃ M', Md_needed_h29 q (nI (setN (needB f nc (Of f nt)) k)) (nI k) M = some (nI (setN (needB f nc (Of f nt)) nc), M') ∧ (∀ b i, b ≠ 333 → b ≠ 334 → gi M' b i = gi M0 b i) := by
  intro m
  induction m with
  | zero =>
    intro k q M hk hq hM
    obtain ⟨q, rfl⟩ : ∃ z, q = z + 1 := ⟨q - 1, by omega⟩
    have hge : ¬ nI k < nI nc := nI_nlt (by omega) (by omega)
    have hk6 : k = nc := by omega
    have e4 : gi M 327 4 = nI nc := by rw [hM 327 4 (by omega) (by omega), hf]; exact hR.1.2.2.1
    subst hk6
    exact ⟨M, by simp only [Md_needed_h29, e4, hge, if_false], hM⟩
  | succ m ih =>
    intro k q M hk hq hM
    obtain ⟨q, rfl⟩ : ∃ z, q = z + 1 := ⟨q - 1, by omega⟩
    have hlt : nI k < nI nc := nI_lt (by omega) (by omega)
    have ef : ∀ i, gi M 327 i = f i := fun i => by rw [hM 327 i (by omega) (by omega), hf]
    have e4 : gi M 327 4 = nI nc := by rw [ef]; exact hR.1.2.2.1
    have hc7 : k < 7 := by omega
    by_cases hr : f (13 + 4 * k + 2) = 2
    · have hr' : gi M 327 (13 + 4 * k + 2) = 2 := by rw [ef]; exact hr
      have hn : needB f nc (Of f nt) k = false := by
        apply Bool.eq_false_iff.mpr
        intro z
        exact (dB_iff.mp z).1.2 hr
      obtain ⟨M', r1, r2⟩ := ih (k + 1) q M (by omega) (by omega) hM
      rw [← set_no hn] at r1
      refine ⟨M', ?_, r2⟩
      rw [← r1]
      simp only [Md_needed_h29, Md_needed_b71, Md_needed_b72, e4, hlt, if_true, md_isRoom hc7, hr', decide_true, Bool.not_true, Bool.false_eq_true, if_false, bd_some, or_0, lq_eq, nI_1]
    · have hr' : ¬ gi M 327 (13 + 4 * k + 2) = 2 := by rw [ef]; exact hr
      have h2k : 2 ^ k < 256 := Nat.lt_of_lt_of_le (Nat.pow_lt_pow_right (by omega) (show k < 8 by omega)) (by decide)
      obtain ⟨M1, c1, c2, c3, _⟩ := can_m (a := 327) (M := M) (by omega) hR ef h2k
      obtain ⟨M', r1, r2⟩ := ih (k + 1) q M1 (by omega) (by omega) (fun b i h1 h2 => (c3 b i h1 h2).trans (hM b i h1 h2))
      refine ⟨M', ?_, r2⟩
      by_cases hp : Pf (Ho f nc (Of f nt) (2 ^ k)) nc 0 (Of f nt)
      · have hn : needB f nc (Of f nt) k = false := by
          apply Bool.eq_false_iff.mpr
          intro z
          exact (dB_iff.mp z).2 hp
        rw [← set_no hn] at r1
        rw [← r1]
        simp only [Md_needed_h29, Md_needed_b71, Md_needed_b72, e4, hlt, if_true, md_isRoom hc7, hr', decide_false, Bool.not_false, bd_some, z1, if_false, shl_bit k (show k < 8 by omega), c1 hp, or_0, lq_eq, nI_1]
      · have hn : needB f nc (Of f nt) k = true := dB_iff.mpr ⟨⟨by omega, hr⟩, hp⟩
        rw [← set_yes (show k < 8 by omega) hn, shl_bit k (show k < 8 by omega)] at r1
        rw [← r1]
        simp only [Md_needed_h29, Md_needed_b71, Md_needed_b72, e4, hlt, if_true, md_isRoom hc7, hr', decide_false, Bool.not_false, bd_some, z1, if_false, shl_bit k (show k < 8 by omega), c2 hp, lq_eq, nI_1]
theorem all_c {f : Nat → Int32} {nc nt O : Nat} {M : Mem} (h : RM M f nc nt O) (hT : RT M f nc O (O + 1)) (n6 : nc ≤ 6) (hO : O < 256) : (Pf (Ho f nc O 0) nc 0 O → j_Reach_canPlaceAll M = some (1, M)) ∧ (¬ Pf (Ho f nc O 0) nc 0 O → j_Reach_canPlaceAll M = some (0, M)) := by
  have hpl := placed_c hT (sb_refl O) (show O < O + 1 by omega) hO (show 63 < 64 by omega)
  have hiff := pf_63 (f := f) (O := O) (s := O) n6
  have e63 : (63 : Int32) = nI 63 := rfl
  have hg0 : isB (0 : Int32) = true := by decide
  have hg1 : isB (1 : Int32) = true := by decide
  constructor
  · intro z
    simp only [j_Reach_canPlaceAll, h.1.2, e63, hpl.1 (hiff.mpr z), bd_some, gd_t hg1]
  · intro z
    simp only [j_Reach_canPlaceAll, h.1.2, e63, hpl.2 (fun q => z (hiff.mp q)), bd_some, gd_t hg0]
theorem keep_ahead {M M' : Mem} (h : ∀ a i, (a < 299 ∨ a = 307 ∨ (313 < a ∧ a ≠ 325)) → gi M' a i = gi M a i) : Keep M M' := ⟨fun a i q => h a i (by omega), fun a i q => h a i (by omega), fun i _ => h 326 i (by omega)⟩
theorem s_needed : Sim j_Fc_needed j_Md_needed := by
  intro M h
  obtain ⟨nc, nt, nr, hD, hI⟩ := h.1
  have hR := iv_rowOk hI
  rw [show rowM M 327 0 = (fun i => gi M 327 i) from funext (row_at M)] at hR
  have n6 := hI.1.1
  have n8 := hI.1.2.1
  have d0 : gi M 3 0 = nI nc := hD.1.1
  have e4 : gi M 327 4 = nI nc := hR.1.2.2.1
  by_cases hp : nc = 0
  · refine ⟨-1000002, M, M, ?_, ?_, h⟩
    · have q : gi M 3 0 = 0 := by rw [d0, hp]; rfl
      simp only [j_Fc_needed, hasNoBook_eq, q, if_true, bd_some, z1, if_false]
    · simp only [j_Md_needed, isBook_eq e4 (show nc < 2 ^ 31 by omega), hp, if_true, bd_some]
  · have q : ¬ gi M 3 0 = 0 := by rw [d0, nI_eq0 (by omega)]; exact hp
    obtain ⟨M1, l1, l2, l3, l4⟩ := ahead_c hD hI
    have hO : openN M 327 nt < 256 := Nat.lt_of_lt_of_le (setN_lt _ nt) (two8 n8)
    have eO : openN M 327 nt = Of (fun i => gi M 327 i) nt := rfl
    rw [eO] at l3 l4 hO
    obtain ⟨a1, a2⟩ := all_c l3 l4 n6 hO
    have ef1 : ∀ i, gi M1 327 i = gi M 327 i := fun i => l2 327 i (by omega)
    obtain ⟨M2, c1, c2, c3, _⟩ := can_m (a := 327) (M := M1) (f := fun i => gi M 327 i) (out := 0) (by omega) hR ef1 (by omega)
    have z0' : nI 0 = 0 := rfl
    rw [z0'] at c1 c2
    have e4' : gi M1 327 4 = nI nc := by rw [ef1]; exact e4
    by_cases hF : Pf (Ho (fun i => gi M 327 i) nc (Of (fun i => gi M 327 i) nt) 0) nc 0 (Of (fun i => gi M 327 i) nt)
    · obtain ⟨M3, p1, p2⟩ := needed_m (f := fun i => gi M 327 i) hR n6 (M0 := M2) (fun i => (c3 327 i (by omega) (by omega)).trans (ef1 i)) nc 0 FU M2 (by omega) (by unfold FU; omega) (fun _ _ _ _ => rfl)
      have hend := setN_end (p := needB (fun i => gi M 327 i) nc (Of (fun i => gi M 327 i) nt)) (n := nc) (fun c hc => by
        apply Bool.eq_false_iff.mpr
        intro z
        have := (dB_iff.mp z).1.1
        omega) (6 - nc)
      rw [show nc + (6 - nc) = 6 by omega] at hend
      have hc := needed_c l3 l4 n6 hO 6 0 FU (by omega) (by unfold FU; omega)
      have hj : j_Reach_roomsNeeded M1 = some (nI (setN (needB (fun i => gi M 327 i) nc (Of (fun i => gi M 327 i) nt)) 6), M1) := hc
      rw [hend] at hj
      refine ⟨nI (setN (needB (fun i => gi M 327 i) nc (Of (fun i => gi M 327 i) nt)) nc), M1, M3, ?_, ?_, ?_⟩
      · simp only [j_Fc_needed, hasNoBook_eq, q, if_false, bd_some, if_true, l1, a1 hF, z1, hj]
      · unfold j_Md_needed
        rw [isBook_eq e4' (show nc < 2 ^ 31 by omega), bd_some, if_neg hp, if_neg (by decide), c1 hF, bd_some, if_neg (by decide), lq_e, lq_e]
        exact p1
      · exact h.keep ((keep_ahead l2).trans (keep_model (fun a i h1 h2 => (p2 a i (by omega) (by omega)).trans (c3 a i (by omega) (by omega)))))
    · refine ⟨-1000000, M1, M2, ?_, ?_, ?_⟩
      · simp only [j_Fc_needed, hasNoBook_eq, q, if_false, bd_some, if_true, l1, a2 hF]
      · unfold j_Md_needed
        rw [isBook_eq e4' (show nc < 2 ^ 31 by omega), bd_some, if_neg hp, if_neg (by decide), c2 hF, bd_some, if_pos rfl]
      · exact h.keep ((keep_ahead l2).trans (keep_model (fun a i h1 h2 => c3 a i (by omega) (by omega))))
