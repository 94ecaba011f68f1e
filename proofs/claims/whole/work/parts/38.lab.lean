/-- the first place from k on, among m, where p holds; or the end -/
def fst1 (p : Nat → Bool) : Nat → Nat → Nat
  | 0, k => k
  | m + 1, k => if p k = true then k else fst1 p m (k + 1)
theorem fst1_le (p : Nat → Bool) : ∀ m k, k ≤ fst1 p m k ∧ fst1 p m k ≤ k + m
  | 0, k => by simp [fst1]
  | m + 1, k => by
    have := fst1_le p m (k + 1)
    simp only [fst1]
    split <;> omega
theorem fst1_p (p : Nat → Bool) : ∀ m k, fst1 p m k < k + m → p (fst1 p m k) = true
  | 0, k => by simp [fst1]
  | m + 1, k => by
    have := fst1_p p m (k + 1)
    simp only [fst1]
    split
    · intro _; assumption
    · intro h; exact this (by omega)
theorem fst1_cong {p q : Nat → Bool} : ∀ m k, (∀ i, k ≤ i → i < k + m → p i = q i) → fst1 p m k = fst1 q m k
  | 0, k, _ => rfl
  | m + 1, k, h => by
    simp only [fst1]
    rw [h k (by omega) (by omega), fst1_cong m (k + 1) (fun i h1 h2 => h i (by omega) (by omega))]
/-- the lab's own way: batches (how many, their feet, their families) after r rolls -/
def fitP (law : Int32) (F G : Nat → Int32) (f g : Int32) : Nat → Bool := fun b => decide (G b = g) && !decide (law < F b + f)
def lbN (law : Int32) (n : Nat) (F G : Nat → Int32) (f g : Int32) : Nat := fst1 (fitP law F G f g) n 0
def lb (law : Int32) (rf rm : Nat → Int32) : Nat → Nat × (Nat → Int32) × (Nat → Int32)
  | 0 => (0, fun _ => 0, fun _ => 0)
  | r + 1 =>
    let n := (lb law rf rm r).1
    let F := (lb law rf rm r).2.1
    let G := (lb law rf rm r).2.2
    let b := lbN law n F G (rf r) (rm r)
    (if b = n then n + 1 else n, fu F b ((if b = n then 0 else F b) + rf r), fu G b (rm r))
theorem lb_cong {law : Int32} {rf rm rf' rm' : Nat → Int32} : ∀ r, (∀ i, i < r → rf i = rf' i ∧ rm i = rm' i) → lb law rf rm r = lb law rf' rm' r
  | 0, _ => rfl
  | r + 1, h => by
    simp only [lb]
    rw [lb_cong r (fun i hi => h i (by omega)), (h r (by omega)).1, (h r (by omega)).2]
theorem lb_le (law : Int32) (rf rm : Nat → Int32) : ∀ r, (lb law rf rm r).1 ≤ r
  | 0 => Nat.le_refl 0
  | r + 1 => by
    have := lb_le law rf rm r
    simp only [lb]
    split <;> omega
theorem fwr_c {d r n : Nat} {M : Mem} {F G : Nat → Int32} (hr : r < 8) (hn : n ≤ 8) (hF : ∀ b, b < n → gi M 295 b = F b ∧ gi M 296 b = G b) : ∀ m k q, k + m = n → m < q → Lab_firstWithRoom_h3 q d (nI r) (nI n) (nI k) M = some (nI (fst1 (fitP (gi M (d + 1) 2) F G (gi M (d + 10) r) (gi M (d + 11) r)) m k), M) := by
  intro m
  induction m with
  | zero =>
    intro k q hk hm
    obtain ⟨q, rfl⟩ : ∃ z, q = z + 1 := ⟨q - 1, by omega⟩
    have hge : ¬ nI k < nI n := nI_nlt (by omega) (by omega)
    simp only [Lab_firstWithRoom_h3, hge, if_false, fst1]
    rw [show k = n by omega]
  | succ m ih =>
    intro k q hk hm
    obtain ⟨q, rfl⟩ : ∃ z, q = z + 1 := ⟨q - 1, by omega⟩
    have hlt : nI k < nI n := nI_lt (by omega) (by omega)
    have ihk := ih (k + 1) q (by omega) (by omega)
    have hk8 := gd_t (α := Int32 × Mem) (o := none) (inb_nI (show k < 8 by omega) (by omega))
    have a1 := (hF k (by omega)).1
    have a2 := (hF k (by omega)).2
    by_cases g1 : G k = gi M (d + 11) r
    · by_cases g2 : gi M (d + 1) 2 < F k + gi M (d + 10) r
      · have hp : fitP (gi M (d + 1) 2) F G (gi M (d + 10) r) (gi M (d + 11) r) k = false := by simp [fitP, g2]
        simp only [Lab_firstWithRoom_h3, Lab_firstWithRoom_b51, hlt, if_true, gd_t (inb_nI (show k < 8 by omega) (by omega)), gd_t (inb_nI (show r < 8 by omega) (by omega)), ix_nI (show k < 2 ^ 31 by omega), ix_nI (show r < 2 ^ 31 by omega), a1, a2, g1, g2, lq_eq, nI_1, fst1, hp, Bool.false_eq_true, if_false]
        exact ihk
      · have hp : fitP (gi M (d + 1) 2) F G (gi M (d + 10) r) (gi M (d + 11) r) k = true := by simp [fitP, g1, g2]
        simp only [Lab_firstWithRoom_h3, Lab_firstWithRoom_b51, hlt, if_true, gd_t (inb_nI (show k < 8 by omega) (by omega)), gd_t (inb_nI (show r < 8 by omega) (by omega)), ix_nI (show k < 2 ^ 31 by omega), ix_nI (show r < 2 ^ 31 by omega), a1, a2, g1, g2, if_false, fst1, hp]
    · have hp : fitP (gi M (d + 1) 2) F G (gi M (d + 10) r) (gi M (d + 11) r) k = false := by simp [fitP, g1]
      simp only [Lab_firstWithRoom_h3, Lab_firstWithRoom_b51, hlt, if_true, gd_t (inb_nI (show k < 8 by omega) (by omega)), gd_t (inb_nI (show r < 8 by omega) (by omega)), ix_nI (show k < 2 ^ 31 by omega), ix_nI (show r < 2 ^ 31 by omega), a2, g1, lq_eq, nI_1, fst1, hp, Bool.false_eq_true, if_false]
      exact ihk
/-- the class's laboratory -/
theorem lab_c {d nr : Nat} {M0 : Mem} (hd : d + 11 < 295) (hn : nr ≤ 8) (h0 : gi M0 d 2 = nI nr) : ∀ m r q M, r + m = nr → m < q → (∀ a i, a ≠ 295 → a ≠ 296 → gi M a i = gi M0 a i) → (∀ b, b < (lb (gi M0 (d + 1) 2) (fun i => gi M0 (d + 10) i) (fun i => gi M0 (d + 11) i) r).1 → gi M 295 b = (lb (gi M0 (d + 1) 2) (fun i => gi M0 (d + 10) i) (fun i => gi M0 (d + 11) i) r).2.1 b ∧ gi M 296 b = (lb (gi M0 (d + 1) 2) (fun i => gi M0 (d + 10) i) (fun i => gi M0 (d + 11) i) r).2.2 b) → ∃ M', Lab_byLab_h4 q d (nI (lb (gi M0 (d + 1) 2) (fun i => gi M0 (d + 10) i) (fun i => gi M0 (d + 11) i) r).1) (nI r) M = some (nI (lb (gi M0 (d + 1) 2) (fun i => gi M0 (d + 10) i) (fun i => gi M0 (d + 11) i) nr).1, M') ∧ ∀ a i, a ≠ 295 → a ≠ 296 → gi M' a i = gi M0 a i := by
  intro m
  induction m with
  | zero =>
    intro r q M hr hq hk hb
    obtain ⟨q, rfl⟩ : ∃ z, q = z + 1 := ⟨q - 1, by omega⟩
    have hge : ¬ nI r < nI nr := nI_nlt (by omega) (by omega)
    have e2 : gi M d 2 = nI nr := by rw [hk d 2 (by omega) (by omega)]; exact h0
    refine ⟨M, ?_, hk⟩
    simp only [Lab_byLab_h4, e2, hge, if_false]
    rw [show r = nr by omega]
  | succ m ih =>
    intro r q M hr hq hk hb
    obtain ⟨q, rfl⟩ : ∃ z, q = z + 1 := ⟨q - 1, by omega⟩
    have hlt : nI r < nI nr := nI_lt (by omega) (by omega)
    have e2 : gi M d 2 = nI nr := by rw [hk d 2 (by omega) (by omega)]; exact h0
    have e3 : gi M (d + 1) 2 = gi M0 (d + 1) 2 := hk _ _ (by omega) (by omega)
    have e4 : gi M (d + 10) r = gi M0 (d + 10) r := hk _ _ (by omega) (by omega)
    have e5 : gi M (d + 11) r = gi M0 (d + 11) r := hk _ _ (by omega) (by omega)
    have hle := lb_le (gi M0 (d + 1) 2) (fun i => gi M0 (d + 10) i) (fun i => gi M0 (d + 11) i) r
    have IH := ih (r + 1) q
    simp only [lb] at IH
    revert IH hb hle
    generalize lb (gi M0 (d + 1) 2) (fun i => gi M0 (d + 10) i) (fun i => gi M0 (d + 11) i) r = S
    obtain ⟨n, F, G⟩ := S
    intro hb hle IH
    simp only at hb hle IH ⊢
    have hfw := fwr_c (d := d) (r := r) (n := n) (M := M) (F := F) (G := G) (by omega) (by omega) hb n 0 FU (by omega) (by unfold FU; omega)
    rw [e3, e4, e5] at hfw
    have hbl := fst1_le (fitP (gi M0 (d + 1) 2) F G (gi M0 (d + 10) r) (gi M0 (d + 11) r)) n 0
    have hbp := fst1_p (fitP (gi M0 (d + 1) 2) F G (gi M0 (d + 10) r) (gi M0 (d + 11) r)) n 0
    have hfw' : j_Lab_firstWithRoom d (nI r) (nI n) M = some (nI (lbN (gi M0 (d + 1) 2) n F G (gi M0 (d + 10) r) (gi M0 (d + 11) r)), M) := hfw
    change 0 ≤ lbN (gi M0 (d + 1) 2) n F G (gi M0 (d + 10) r) (gi M0 (d + 11) r) ∧ lbN (gi M0 (d + 1) 2) n F G (gi M0 (d + 10) r) (gi M0 (d + 11) r) ≤ 0 + n at hbl
    change lbN (gi M0 (d + 1) 2) n F G (gi M0 (d + 10) r) (gi M0 (d + 11) r) < 0 + n → fitP (gi M0 (d + 1) 2) F G (gi M0 (d + 10) r) (gi M0 (d + 11) r) (lbN (gi M0 (d + 1) 2) n F G (gi M0 (d + 10) r) (gi M0 (d + 11) r)) = true at hbp
    revert hbl hbp hfw' IH
    generalize lbN (gi M0 (d + 1) 2) n F G (gi M0 (d + 10) r) (gi M0 (d + 11) r) = b
    intro IH hfw' hbl hbp
    have hr8 := inb_nI (show r < 8 by omega) (show 8 < 2 ^ 31 by omega)
    have hrx := ix_nI (show r < 2 ^ 31 by omega)
    have hb8 := inb_nI (show b < 8 by omega) (show 8 < 2 ^ 31 by omega)
    have hbx := ix_nI (show b < 2 ^ 31 by omega)
    by_cases hbn : b = n
    · subst hbn
      simp only [if_true] at IH
      have go := IH (uI (uI (uI M 295 b 0) 296 b (gi M0 (d + 11) r)) 295 b (0 + gi M0 (d + 10) r)) (by omega) (by omega) (fun a i h1 h2 => by rw [gi_uIa _ _ _ _ _ _ h1, gi_uIa _ _ _ _ _ _ h2, gi_uIa _ _ _ _ _ _ h1]; exact hk a i h1 h2) (fun j hj => by
        by_cases hjb : j = b
        · subst hjb
          rw [gi_uIs, gi_uIa _ _ _ _ _ _ (by omega), gi_uIs]
          simp [fu]
        · rw [gi_uIi _ _ _ _ _ _ hjb, gi_uIi _ _ _ _ _ _ hjb, gi_uIi _ _ _ _ _ _ hjb, gi_uIi _ _ _ _ _ _ hjb, gi_uIi _ _ _ _ _ _ hjb, gi_uIi _ _ _ _ _ _ hjb]
          simp only [fu, hjb, if_false]
          exact hb j (by omega))
      obtain ⟨M', g1, g2⟩ := go
      refine ⟨M', ?_, g2⟩
      rw [← g1]
      have p1 : gi (uI M 295 b 0) (d + 11) r = gi M0 (d + 11) r := by rw [gi_uIa _ _ _ _ _ _ (by omega)]; exact e5
      have p2 : gi (uI (uI M 295 b 0) 296 b (gi M0 (d + 11) r)) 295 b = 0 := by rw [gi_uIa _ _ _ _ _ _ (by omega), gi_uIs]
      have p3 : gi (uI (uI M 295 b 0) 296 b (gi M0 (d + 11) r)) (d + 10) r = gi M0 (d + 10) r := by rw [gi_uIa _ _ _ _ _ _ (by omega), gi_uIa _ _ _ _ _ _ (by omega)]; exact e4
      simp only [Lab_byLab_h4, Lab_byLab_b51, e2, hlt, if_true, hfw', bd_some, gd_t hb8, gd_t hr8, hbx, hrx, sq_eq, p1, p2, p3, lq_eq, nI_1]
    · simp only [hbn, if_false] at IH
      have hG : G b = gi M0 (d + 11) r := by
        have := hbp (by omega)
        simp only [fitP, Bool.and_eq_true, decide_eq_true_eq] at this
        exact this.1
      have hFb := hb b (by omega)
      have go := IH (uI M 295 b (F b + gi M0 (d + 10) r)) (by omega) (by omega) (fun a i h1 h2 => by rw [gi_uIa _ _ _ _ _ _ h1]; exact hk a i h1 h2) (fun j hj => by
        by_cases hjb : j = b
        · subst hjb
          rw [gi_uIs, gi_uIa _ _ _ _ _ _ (by omega), hFb.2, hG]
          simp [fu]
        · rw [gi_uIi _ _ _ _ _ _ hjb, gi_uIi _ _ _ _ _ _ hjb]
          simp only [fu, hjb, if_false]
          exact hb j (by omega))
      obtain ⟨M', g1, g2⟩ := go
      refine ⟨M', ?_, g2⟩
      rw [← g1]
      have hne : ¬ nI b = nI n := by rw [nI_eq (by omega) (by omega)]; exact hbn
      simp only [Lab_byLab_h4, Lab_byLab_b51, e2, hlt, if_true, hfw', bd_some, hne, if_false, gd_t hb8, gd_t hr8, hbx, hrx, hFb.1, e4, sq_eq, lq_eq, nI_1]
theorem byLab_c {d nr : Nat} {M : Mem} (hd : d + 11 < 295) (hn : nr ≤ 8) (h0 : gi M d 2 = nI nr) : ∃ M', j_Lab_byLab d M = some (nI (lb (gi M (d + 1) 2) (fun i => gi M (d + 10) i) (fun i => gi M (d + 11) i) nr).1, M') ∧ ∀ a i, a ≠ 295 → a ≠ 296 → gi M' a i = gi M a i := by
  simp only [j_Lab_byLab, lq_eq]
  exact lab_c hd hn h0 nr 0 FU M (by omega) (by unfold FU; omega) (fun _ _ _ _ => rfl) (fun b hb => absurd hb (by simp [lb]))
