/-- the can that a rule takes among the first c: the first that holds, or the one with the least left -/
def bst (rule : Bool) (h : Nat → Bool) (e : Nat → Int32) : Nat → Option Nat
  | 0 => none
  | c + 1 => match bst rule h e c with
    | none => if h c = true then some c else none
    | some k => if (rule && h c && decide (e c < e k)) = true then some c else some k
theorem bst_h {rule : Bool} {h : Nat → Bool} {e : Nat → Int32} : ∀ n k, bst rule h e n = some k → k < n ∧ h k = true
  | 0, k, q => by simp [bst] at q
  | n + 1, k, q => by
    simp only [bst] at q
    cases hb : bst rule h e n with
    | none =>
      rw [hb] at q
      by_cases hh : h n = true
      · simp only [hh, if_true, Option.some.injEq] at q
        subst q
        exact ⟨by omega, hh⟩
      · simp only [hh, if_false] at q
        simp at q
    | some j =>
      rw [hb] at q
      obtain ⟨g1, g2⟩ := bst_h n j hb
      by_cases hh : (rule && h n && decide (e n < e j)) = true
      · simp only [hh, if_true, Option.some.injEq] at q
        subst q
        simp only [Bool.and_eq_true] at hh
        exact ⟨by omega, hh.1.2⟩
      · simp only [hh] at q
        simp at q
        subst q
        exact ⟨by omega, g2⟩
theorem bst_ext {rule : Bool} {h : Nat → Bool} {e : Nat → Int32} {n : Nat} (hn : ∀ c, n ≤ c → h c = false) : ∀ m, bst rule h e (n + m) = bst rule h e n
  | 0 => rfl
  | m + 1 => by
    have ih := bst_ext (rule := rule) (e := e) hn m
    show bst rule h e (n + m + 1) = _
    simp only [bst, ih, hn (n + m) (by omega)]
    cases bst rule h e n <;> simp
theorem bst_stay {h : Nat → Bool} {e : Nat → Int32} {n k : Nat} (q : bst false h e n = some k) : ∀ m, bst false h e (n + m) = some k
  | 0 => q
  | m + 1 => by
    have ih := bst_stay q m
    show bst false h e (n + m + 1) = _
    simp [bst, ih]
theorem bst_cong {rule : Bool} {h g : Nat → Bool} {e e' : Nat → Int32} : ∀ n, (∀ c, c < n → h c = g c ∧ e c = e' c) → bst rule h e n = bst rule g e' n
  | 0, _ => rfl
  | n + 1, q => by
    have ih := bst_cong (rule := rule) n (fun c hc => q c (by omega))
    simp only [bst, ih]
    cases hb : bst rule g e' n with
    | none => simp only [(q n (by omega)).1]
    | some k =>
      have hk := (bst_h n k hb).1
      simp only [(q n (by omega)).1, (q n (by omega)).2, (q k (by omega)).2]
def ec (o : Option Nat) (d : Int32) : Int32 := match o with | none => d | some k => nI k
def el (o : Option Nat) (e : Nat → Int32) (d : Int32) : Int32 := match o with | none => d | some k => e k
theorem first_in {M : Mem} {f : Nat → Int32} {nc nt O b : Nat} {P : Nat → Nat} {e : Nat → Int32} (h : RM M f nc nt O) (n8 : nt ≤ 8) (hO : O < 2 ^ nt) (h4 : ∀ c, c < 6 → gi M 314 c = nI (P c)) (hv : ∀ c, P c ||| b < 256) : ∀ m k q, k + m = 6 → m < q → bst false (fun c => hB f nc O c (P c ||| b)) e k = none → Rooms_firstFor_h2 q (nI b) (nI k) M = some (ec (bst false (fun c => hB f nc O c (P c ||| b)) e 6) (-1000000), M) := by
  have e6 : (6 : Int32) = nI 6 := rfl
  intro m
  induction m with
  | zero =>
    intro k q hk hm hb
    obtain ⟨q, rfl⟩ : ∃ z, q = z + 1 := ⟨q - 1, by omega⟩
    have hge : ¬ nI k < nI 6 := nI_nlt (by omega) (by omega)
    have hk6 : k = 6 := by omega
    subst hk6
    simp only [Rooms_firstFor_h2, e6, hge, if_false, hb, ec]
  | succ m ih =>
    intro k q hk hm hb
    obtain ⟨q, rfl⟩ : ∃ z, q = z + 1 := ⟨q - 1, by omega⟩
    have hlt : nI k < nI 6 := nI_lt (by omega) (by omega)
    by_cases hh : hB f nc O k (P k ||| b) = true
    · have hs : bst false (fun c => hB f nc O c (P c ||| b)) e (k + 1) = some k := by simp [bst, hb, hh]
      have hs6 := bst_stay hs m
      rw [show k + 1 + m = 6 by omega] at hs6
      simp only [Rooms_firstFor_h2, e6, hlt, if_true, gd_t (inb_nI (show k < 6 by omega) (show 6 < 2 ^ 31 by omega)), ix_nI (show k < 2 ^ 31 by omega), h4 k (by omega), nI_or, holds_yes h n8 hO (show k < 6 by omega) (hv k) (hB_iff.mp hh), bd_some, z1, if_false, hs6, ec]
    · have hs : bst false (fun c => hB f nc O c (P c ||| b)) e (k + 1) = none := by simp [bst, hb, hh]
      have ihk := ih (k + 1) q (by omega) (by omega) hs
      simp only [Rooms_firstFor_h2, e6, hlt, if_true, gd_t (inb_nI (show k < 6 by omega) (show 6 < 2 ^ 31 by omega)), ix_nI (show k < 2 ^ 31 by omega), h4 k (by omega), nI_or, holds_no h n8 hO (show k < 6 by omega) (hv k) (fun z => hh (hB_iff.mpr z)), bd_some, z0, lq_eq, nI_1]
      exact ihk
theorem tight_in {M : Mem} {f : Nat → Int32} {nc nt O b : Nat} {P : Nat → Nat} (h : RM M f nc nt O) (hR : RowOk f nc nt) (hO : O < 2 ^ nt) (h4 : ∀ c, c < 6 → gi M 314 c = nI (P c)) (hv : ∀ c, P c ||| b < 256) : ∀ m k q, k + m = 6 → m < q → Rooms_tightestFor_h9 q (nI b) (ec (bst true (fun c => hB f nc O c (P c ||| b)) (fun c => leftS f c (P c ||| b) 8) k) (-1000000)) (el (bst true (fun c => hB f nc O c (P c ||| b)) (fun c => leftS f c (P c ||| b) 8) k) (fun c => leftS f c (P c ||| b) 8) 100) (nI k) M = some (ec (bst true (fun c => hB f nc O c (P c ||| b)) (fun c => leftS f c (P c ||| b) 8) 6) (-1000000), M) := by
  have e6 : (6 : Int32) = nI 6 := rfl
  have n8 := hR.1.2.1
  intro m
  induction m with
  | zero =>
    intro k q hk hm
    obtain ⟨q, rfl⟩ : ∃ z, q = z + 1 := ⟨q - 1, by omega⟩
    have hge : ¬ nI k < nI 6 := nI_nlt (by omega) (by omega)
    have hk6 : k = 6 := by omega
    subst hk6
    simp only [Rooms_tightestFor_h9, e6, hge, if_false]
  | succ m ih =>
    intro k q hk hm
    obtain ⟨q, rfl⟩ : ∃ z, q = z + 1 := ⟨q - 1, by omega⟩
    have hlt : nI k < nI 6 := nI_lt (by omega) (by omega)
    have ihk := ih (k + 1) q (by omega) (by omega)
    have hi1 := inb_nI (show k < 6 by omega) (show 6 < 2 ^ 31 by omega)
    have hi2 := inb_nI (hv k) (show 256 < 2 ^ 31 by omega)
    have hx1 := ix_nI (show k < 2 ^ 31 by omega)
    have hx2 := ix_nI (show P k ||| b < 2 ^ 31 by have := hv k; omega)
    by_cases hh : hB f nc O k (P k ||| b) = true
    · have hH := hB_iff.mp hh
      have he := rm_end h n8 hO (show k < 6 by omega) (hv k) hH
      have hp : ¬ leftS f k (P k ||| b) 8 < 0 := by rw [i32_lt, t0]; have := hH.2.2.2.2.2; omega
      cases hb : bst true (fun c => hB f nc O c (P c ||| b)) (fun c => leftS f c (P c ||| b) 8) k with
      | none =>
        have hs : bst true (fun c => hB f nc O c (P c ||| b)) (fun c => leftS f c (P c ||| b) 8) (k + 1) = some k := by simp [bst, hb, hh]
        have h100 : leftS f k (P k ||| b) 8 < 100 := by
          have h99 := (loss_val hR.2.1 (hR.2.2.1 k hH.1).2 (fun t ht => (hR.2.2.2 t (bitO hO hH.2.2.1 ht)).2) hH.2.2.2.2.2).2
          rw [i32_lt]
          have : (100 : Int32).toInt = 100 := by decide
          omega
        rw [hs] at ihk
        simp only [ec, el] at ihk
        simp only [Rooms_tightestFor_h9, Rooms_tightestFor_b52, e6, hlt, if_true, gd_t hi1, hx1, h4 k (by omega), nI_or, gd_t hi2, hx2, lq_eq, he, hp, if_false, ec, el, h100, nI_1]
        exact ihk
      | some j =>
        by_cases hl : leftS f k (P k ||| b) 8 < leftS f j (P j ||| b) 8
        · have hs : bst true (fun c => hB f nc O c (P c ||| b)) (fun c => leftS f c (P c ||| b) 8) (k + 1) = some k := by simp [bst, hb, hh, hl]
          rw [hs] at ihk
          simp only [ec, el] at ihk
          simp only [Rooms_tightestFor_h9, Rooms_tightestFor_b52, e6, hlt, if_true, gd_t hi1, hx1, h4 k (by omega), nI_or, gd_t hi2, hx2, lq_eq, he, hp, if_false, ec, el, hl, nI_1]
          exact ihk
        · have hs : bst true (fun c => hB f nc O c (P c ||| b)) (fun c => leftS f c (P c ||| b) 8) (k + 1) = some j := by simp [bst, hb, hh, hl]
          rw [hs] at ihk
          simp only [ec, el] at ihk
          simp only [Rooms_tightestFor_h9, Rooms_tightestFor_b52, e6, hlt, if_true, gd_t hi1, hx1, h4 k (by omega), nI_or, gd_t hi2, hx2, lq_eq, he, hp, if_false, ec, el, hl, nI_1]
          exact ihk
    · have hp := rm_end_no h n8 hO (show k < 6 by omega) (hv k) (fun z => hh (hB_iff.mpr z))
      have hs : bst true (fun c => hB f nc O c (P c ||| b)) (fun c => leftS f c (P c ||| b) 8) (k + 1) = bst true (fun c => hB f nc O c (P c ||| b)) (fun c => leftS f c (P c ||| b) 8) k := by
        have hh' : hB f nc O k (P k ||| b) = false := by simpa using hh
        simp only [bst, hh']
        cases bst true (fun c => hB f nc O c (P c ||| b)) (fun c => leftS f c (P c ||| b) 8) k <;> simp
      rw [hs] at ihk
      simp only [Rooms_tightestFor_h9, Rooms_tightestFor_b52, e6, hlt, if_true, gd_t hi1, hx1, h4 k (by omega), nI_or, gd_t hi2, hx2, lq_eq, hp, nI_1]
      exact ihk
theorem roomFor_in {M : Mem} {nc nt O t : Nat} {rule : Bool} {P : Nat → Nat} (hR : RowOk (fun i => gi M 327 i) nc nt) (hn6 : nc ≤ 6) (hO : O < 2 ^ nt) (h4 : ∀ c, c < 6 → gi M 335 c = nI (P c)) (ht : t < 8) (hv : ∀ c, P c ||| 2 ^ t < 256) (hs : ∀ c, sb (P c ||| 2 ^ t) O) : ∀ m k q, k + m = nc → m < q → Md_roomFor_h8 q (if rule = true then 1 else 0) (nI t) (ec (bst rule (fun c => hB (fun i => gi M 327 i) nc O c (P c ||| 2 ^ t)) (fun c => leftS (fun i => gi M 327 i) c (P c ||| 2 ^ t) 8) k) (-1)) (el (bst rule (fun c => hB (fun i => gi M 327 i) nc O c (P c ||| 2 ^ t)) (fun c => leftS (fun i => gi M 327 i) c (P c ||| 2 ^ t) 8) k) (fun c => leftS (fun i => gi M 327 i) c (P c ||| 2 ^ t) 8) 0) (nI k) M = some (ec (bst rule (fun c => hB (fun i => gi M 327 i) nc O c (P c ||| 2 ^ t)) (fun c => leftS (fun i => gi M 327 i) c (P c ||| 2 ^ t) 8) nc) (-1), M) := by
  have e4 : gi M 327 4 = nI nc := hR.1.2.2.1
  intro m
  induction m with
  | zero =>
    intro k q hk hm
    obtain ⟨q, rfl⟩ : ∃ z, q = z + 1 := ⟨q - 1, by omega⟩
    have hge : ¬ nI k < nI nc := nI_nlt (by omega) (by omega)
    have hk6 : k = nc := by omega
    subst hk6
    simp only [Md_roomFor_h8, e4, hge, if_false]
  | succ m ih =>
    intro k q hk hm
    obtain ⟨q, rfl⟩ : ∃ z, q = z + 1 := ⟨q - 1, by omega⟩
    have hlt : nI k < nI nc := nI_lt (by omega) (by omega)
    have ihk := ih (k + 1) q (by omega) (by omega)
    have hc7 : k < 7 := by omega
    have hm1 : (-1 : Int32) < 0 := by decide
    have hno : hB (fun i => gi M 327 i) nc O k (P k ||| 2 ^ t) = false → bst rule (fun c => hB (fun i => gi M 327 i) nc O c (P c ||| 2 ^ t)) (fun c => leftS (fun i => gi M 327 i) c (P c ||| 2 ^ t) 8) (k + 1) = bst rule (fun c => hB (fun i => gi M 327 i) nc O c (P c ||| 2 ^ t)) (fun c => leftS (fun i => gi M 327 i) c (P c ||| 2 ^ t) 8) k := by
      intro hh'
      simp only [bst, hh']
      cases bst rule (fun c => hB (fun i => gi M 327 i) nc O c (P c ||| 2 ^ t)) (fun c => leftS (fun i => gi M 327 i) c (P c ||| 2 ^ t) 8) k <;> simp
    by_cases hr : gi M 327 (13 + 4 * k + 2) = 2
    · have hh' : hB (fun i => gi M 327 i) nc O k (P k ||| 2 ^ t) = false := by
        apply Bool.eq_false_iff.mpr
        intro z
        exact (hB_iff.mp z).2.2.2.1 hr
      rw [hno hh'] at ihk
      simp only [Md_roomFor_h8, Md_roomFor_b55, Md_roomFor_b85, e4, hlt, if_true, md_isRoom hc7, hr, decide_true, Bool.not_true, Bool.false_eq_true, if_false, bd_some, z0, hm1, lq_eq, nI_1]
      exact ihk
    · have h0 : P k ||| 2 ^ t ≠ 0 := fun z => by
        have h1 : (P k ||| 2 ^ t).testBit t = false := by rw [z]; exact Nat.zero_testBit t
        rw [Nat.testBit_or, Nat.testBit_two_pow_self] at h1
        simp at h1
      have hl := left_m (a := 327) (M := M) hc7 (hv k) h0 (hR.2.2.1 k (by omega)).1 (fun j hb => (hR.2.2.2 j (bitO hO (hs k) hb)).1)
      have hneg := leftV_neg (f := fun i => gi M 327 i) (show k < nc by omega) h0 (hs k) hr
      have hgd := inb_nI hc7 (show 7 < 2 ^ 31 by omega)
      have hix := ix_nI (show k < 2 ^ 31 by omega)
      by_cases hh : hB (fun i => gi M 327 i) nc O k (P k ||| 2 ^ t) = true
      · have hH := hB_iff.mp hh
        have hp : ¬ leftV (fun i => gi M 327 i) k (P k ||| 2 ^ t) < 0 := fun q => hneg.mp q hH
        have eV : leftV (fun i => gi M 327 i) k (P k ||| 2 ^ t) = leftS (fun i => gi M 327 i) k (P k ||| 2 ^ t) 8 := if_pos hH.2.2.2.2.1
        rw [eV] at hl hp
        cases hb : bst rule (fun c => hB (fun i => gi M 327 i) nc O c (P c ||| 2 ^ t)) (fun c => leftS (fun i => gi M 327 i) c (P c ||| 2 ^ t) 8) k with
        | none =>
          have hst : bst rule (fun c => hB (fun i => gi M 327 i) nc O c (P c ||| 2 ^ t)) (fun c => leftS (fun i => gi M 327 i) c (P c ||| 2 ^ t) 8) (k + 1) = some k := by simp [bst, hb, hh]
          rw [hst] at ihk
          simp only [ec, el] at ihk
          simp only [Md_roomFor_h8, Md_roomFor_b55, Md_roomFor_b85, Md_roomFor_b78, e4, hlt, if_true, md_isRoom hc7, hr, decide_false, Bool.not_false, bd_some, z1, if_false, gd_t hgd, hix, h4 k (by omega), shl_bit t ht, nI_or, hl, hp, ec, el, hm1, lq_eq, nI_1]
          exact ihk
        | some j =>
          have hj := bst_h k j hb
          have hjn : ¬ nI j < 0 := by rw [i32_lt, t0, nI_toInt (by omega)]; omega
          cases rule with
          | false =>
            have hst : bst false (fun c => hB (fun i => gi M 327 i) nc O c (P c ||| 2 ^ t)) (fun c => leftS (fun i => gi M 327 i) c (P c ||| 2 ^ t) 8) (k + 1) = some j := by simp [bst, hb]
            have h01 : ¬ (0 : Int32) = 1 := by decide
            rw [hst] at ihk
            simp only [ec, el, Bool.false_eq_true, if_false] at ihk
            simp only [Md_roomFor_h8, Md_roomFor_b55, Md_roomFor_b85, Md_roomFor_b78, e4, hlt, if_true, md_isRoom hc7, hr, decide_false, Bool.not_false, bd_some, z1, if_false, gd_t hgd, hix, h4 k (by omega), shl_bit t ht, nI_or, hl, hp, ec, el, hjn, h01, lq_eq, nI_1, Bool.false_eq_true]
            exact ihk
          | true =>
            by_cases hll : leftS (fun i => gi M 327 i) k (P k ||| 2 ^ t) 8 < leftS (fun i => gi M 327 i) j (P j ||| 2 ^ t) 8
            · have hst : bst true (fun c => hB (fun i => gi M 327 i) nc O c (P c ||| 2 ^ t)) (fun c => leftS (fun i => gi M 327 i) c (P c ||| 2 ^ t) 8) (k + 1) = some k := by simp [bst, hb, hh, hll]
              rw [hst] at ihk
              simp only [ec, el, if_true] at ihk
              simp only [Md_roomFor_h8, Md_roomFor_b55, Md_roomFor_b85, Md_roomFor_b78, e4, hlt, if_true, md_isRoom hc7, hr, decide_false, Bool.not_false, bd_some, z1, if_false, gd_t hgd, hix, h4 k (by omega), shl_bit t ht, nI_or, hl, hp, ec, el, hjn, hll, lq_eq, nI_1]
              exact ihk
            · have hst : bst true (fun c => hB (fun i => gi M 327 i) nc O c (P c ||| 2 ^ t)) (fun c => leftS (fun i => gi M 327 i) c (P c ||| 2 ^ t) 8) (k + 1) = some j := by simp [bst, hb, hh, hll]
              rw [hst] at ihk
              simp only [ec, el, if_true] at ihk
              simp only [Md_roomFor_h8, Md_roomFor_b55, Md_roomFor_b85, Md_roomFor_b78, e4, hlt, if_true, md_isRoom hc7, hr, decide_false, Bool.not_false, bd_some, z1, if_false, gd_t hgd, hix, h4 k (by omega), shl_bit t ht, nI_or, hl, hp, ec, el, hjn, hll, lq_eq, nI_1]
              exact ihk
      · have hp : leftV (fun i => gi M 327 i) k (P k ||| 2 ^ t) < 0 := hneg.mpr (fun z => hh (hB_iff.mpr z))
        rw [hno (by simpa using hh)] at ihk
        simp only [Md_roomFor_h8, Md_roomFor_b55, Md_roomFor_b85, e4, hlt, if_true, md_isRoom hc7, hr, decide_false, Bool.not_false, bd_some, z1, if_false, gd_t hgd, hix, h4 k (by omega), shl_bit t ht, nI_or, hl, hp, lq_eq, nI_1]
        exact ihk
