theorem nm_in : ∀ q ∈ nmL, Cond.methodLinkNest q.1 q.2.1 q.2.2.1 q.2.2.2 ∈ lw_tbl := by
  intro q hq
  simp only [nmL, List.mem_cons, List.not_mem_nil, or_false] at hq
  rcases hq with rfl | rfl | rfl | rfl | rfl | rfl | rfl | rfl
  · exact List.mem_of_getElem? (i := 90) (by decide +kernel)
  · exact List.mem_of_getElem? (i := 113) (by decide +kernel)
  · exact List.mem_of_getElem? (i := 219) (by decide +kernel)
  · exact List.mem_of_getElem? (i := 233) (by decide +kernel)
  · exact List.mem_of_getElem? (i := 252) (by decide +kernel)
  · exact List.mem_of_getElem? (i := 304) (by decide +kernel)
  · exact List.mem_of_getElem? (i := 315) (by decide +kernel)
  · exact List.mem_of_getElem? (i := 903) (by decide +kernel)
theorem nf_in : ∀ q ∈ nfL, Cond.fieldLinkNest q.1 q.2.1 q.2.2.1 q.2.2.2.1 q.2.2.2.2.1 q.2.2.2.2.2 ∈ lw_tbl := by
  intro q hq
  simp only [nfL, List.mem_cons, List.not_mem_nil, or_false] at hq
  rcases hq with rfl | rfl
  · exact List.mem_of_getElem? (i := 398) (by decide +kernel)
  · exact List.mem_of_getElem? (i := 400) (by decide +kernel)
theorem ao1_in : Cond.arrayOver (.object "FilmCans$Day") ∈ lw_tbl := List.mem_of_getElem? (i := 218) (by decide +kernel)
theorem ao2_in : Cond.arrayOver (.array .int) ∈ lw_tbl := List.mem_of_getElem? (i := 257) (by decide +kernel)
theorem st0_of {args : Array Value} {s : State} {A : Nat → Prop} (hw : ∀ w ∈ lw_tbl, w.before args s = true) (hg : (Jvm.Cond.and given_1 narrow_1).before args s = true) (hA : ∀ a : Nat, a < s.heap.size → ¬ A a) : ∃ t : Nat, va_Z "FilmCans" "LAW_LEAST" "[I" (.ref t) A s s.heap ∧ va_T .int t 4 (fun j => .int (cLL j)) A s s.heap := by
  have hs := flat_of_before _ hg
  obtain ⟨t, h1, h2⟩ := va_Tof (tm := .static "FilmCans" "LAW_LEAST" "[I") (ty := .int) (N := 4) (f := fun j => .int (cLL j)) (A := A) (by decide) (hs _ (by decide +kernel)) (va_eqt (hs (.eq (.length (.static "FilmCans" "LAW_LEAST" "[I")) (.int 4)) (by decide +kernel))) (fun j hj => by
    match j, hj with
    | 0, _ => exact va_eqt (hs (.eq (.elem (.static "FilmCans" "LAW_LEAST" "[I") (.int 0)) (.int 0)) (by decide +kernel))
    | 1, _ => exact va_eqt (hs (.eq (.elem (.static "FilmCans" "LAW_LEAST" "[I") (.int 1)) (.int 1)) (by decide +kernel))
    | 2, _ => exact va_eqt (hs (.eq (.elem (.static "FilmCans" "LAW_LEAST" "[I") (.int 2)) (.int 10)) (by decide +kernel))
    | 3, _ => exact va_eqt (hs (.eq (.elem (.static "FilmCans" "LAW_LEAST" "[I") (.int 3)) (.int 0)) (by decide +kernel))
    | k + 4, h => exact absurd h (by omega)) hA
  exact ⟨t, va_Zref (hw _ (List.mem_of_getElem? (i := 399) (by decide +kernel))) (hw _ (List.mem_of_getElem? (i := 66) (by decide +kernel))) h1 hA, h2⟩
theorem st1_of {args : Array Value} {s : State} {A : Nat → Prop} (hw : ∀ w ∈ lw_tbl, w.before args s = true) (hg : (Jvm.Cond.and given_1 narrow_1).before args s = true) (hA : ∀ a : Nat, a < s.heap.size → ¬ A a) : ∃ t : Nat, va_Z "FilmCans" "LAW_MOST" "[I" (.ref t) A s s.heap ∧ va_T .int t 4 (fun j => .int (cLM j)) A s s.heap := by
  have hs := flat_of_before _ hg
  obtain ⟨t, h1, h2⟩ := va_Tof (tm := .static "FilmCans" "LAW_MOST" "[I") (ty := .int) (N := 4) (f := fun j => .int (cLM j)) (A := A) (by decide) (hs _ (by decide +kernel)) (va_eqt (hs (.eq (.length (.static "FilmCans" "LAW_MOST" "[I")) (.int 4)) (by decide +kernel))) (fun j hj => by
    match j, hj with
    | 0, _ => exact va_eqt (hs (.eq (.elem (.static "FilmCans" "LAW_MOST" "[I") (.int 0)) (.int 9)) (by decide +kernel))
    | 1, _ => exact va_eqt (hs (.eq (.elem (.static "FilmCans" "LAW_MOST" "[I") (.int 1)) (.int 40)) (by decide +kernel))
    | 2, _ => exact va_eqt (hs (.eq (.elem (.static "FilmCans" "LAW_MOST" "[I") (.int 2)) (.int 99)) (by decide +kernel))
    | 3, _ => exact va_eqt (hs (.eq (.elem (.static "FilmCans" "LAW_MOST" "[I") (.int 3)) (.int 20)) (by decide +kernel))
    | k + 4, h => exact absurd h (by omega)) hA
  exact ⟨t, va_Zref (hw _ (List.mem_of_getElem? (i := 401) (by decide +kernel))) (hw _ (List.mem_of_getElem? (i := 66) (by decide +kernel))) h1 hA, h2⟩
theorem st2_of {args : Array Value} {s : State} {A : Nat → Prop} (hw : ∀ w ∈ lw_tbl, w.before args s = true) (hg : (Jvm.Cond.and given_1 narrow_1).before args s = true) (hA : ∀ a : Nat, a < s.heap.size → ¬ A a) : ∃ t : Nat, va_Z "FilmCans$Kinds" "IS" "[I" (.ref t) A s s.heap ∧ va_T .int t 6 (fun j => .int (cIS j)) A s s.heap := by
  have hs := flat_of_before _ hg
  obtain ⟨t, h1, h2⟩ := va_Tof (tm := .static "FilmCans$Kinds" "IS" "[I") (ty := .int) (N := 6) (f := fun j => .int (cIS j)) (A := A) (by decide) (hs _ (by decide +kernel)) (va_eqt (hs (.eq (.length (.static "FilmCans$Kinds" "IS" "[I")) (.int 6)) (by decide +kernel))) (fun j hj => by
    match j, hj with
    | 0, _ => exact va_eqt (hs (.eq (.elem (.static "FilmCans$Kinds" "IS" "[I") (.int 0)) (.int 1)) (by decide +kernel))
    | 1, _ => exact va_eqt (hs (.eq (.elem (.static "FilmCans$Kinds" "IS" "[I") (.int 1)) (.int 3)) (by decide +kernel))
    | 2, _ => exact va_eqt (hs (.eq (.elem (.static "FilmCans$Kinds" "IS" "[I") (.int 2)) (.int 7)) (by decide +kernel))
    | 3, _ => exact va_eqt (hs (.eq (.elem (.static "FilmCans$Kinds" "IS" "[I") (.int 3)) (.int 11)) (by decide +kernel))
    | 4, _ => exact va_eqt (hs (.eq (.elem (.static "FilmCans$Kinds" "IS" "[I") (.int 4)) (.int 17)) (by decide +kernel))
    | 5, _ => exact va_eqt (hs (.eq (.elem (.static "FilmCans$Kinds" "IS" "[I") (.int 5)) (.int 49)) (by decide +kernel))
    | k + 6, h => exact absurd h (by omega)) hA
  exact ⟨t, va_Zref (hw _ (List.mem_of_getElem? (i := 487) (by decide +kernel))) (hw _ (List.mem_of_getElem? (i := 75) (by decide +kernel))) h1 hA, h2⟩
theorem st3_of {args : Array Value} {s : State} {A : Nat → Prop} (hw : ∀ w ∈ lw_tbl, w.before args s = true) (hg : (Jvm.Cond.and given_1 narrow_1).before args s = true) (hA : ∀ a : Nat, a < s.heap.size → ¬ A a) : ∃ t : Nat, va_Z "FilmCans$Reach" "WITHOUT" "[J" (.ref t) A s s.heap ∧ va_T .long t 6 (fun j => .long (cWO j)) A s s.heap := by
  have hs := flat_of_before _ hg
  obtain ⟨t, h1, h2⟩ := va_Tof (tm := .static "FilmCans$Reach" "WITHOUT" "[J") (ty := .long) (N := 6) (f := fun j => .long (cWO j)) (A := A) (by decide) (hs _ (by decide +kernel)) (va_eqt (hs (.eq (.length (.static "FilmCans$Reach" "WITHOUT" "[J")) (.int 6)) (by decide +kernel))) (fun j hj => by
    match j, hj with
    | 0, _ => exact va_eqtl (hs (.eq (.elem (.static "FilmCans$Reach" "WITHOUT" "[J") (.int 0)) (.long 6148914691236517205)) (by decide +kernel))
    | 1, _ => exact va_eqtl (hs (.eq (.elem (.static "FilmCans$Reach" "WITHOUT" "[J") (.int 1)) (.long 3689348814741910323)) (by decide +kernel))
    | 2, _ => exact va_eqtl (hs (.eq (.elem (.static "FilmCans$Reach" "WITHOUT" "[J") (.int 2)) (.long 1085102592571150095)) (by decide +kernel))
    | 3, _ => exact va_eqtl (hs (.eq (.elem (.static "FilmCans$Reach" "WITHOUT" "[J") (.int 3)) (.long 71777214294589695)) (by decide +kernel))
    | 4, _ => exact va_eqtl (hs (.eq (.elem (.static "FilmCans$Reach" "WITHOUT" "[J") (.int 4)) (.long 281470681808895)) (by decide +kernel))
    | 5, _ => exact va_eqtl (hs (.eq (.elem (.static "FilmCans$Reach" "WITHOUT" "[J") (.int 5)) (.long 4294967295)) (by decide +kernel))
    | k + 6, h => exact absurd h (by omega)) hA
  exact ⟨t, va_Zref (hw _ (List.mem_of_getElem? (i := 853) (by decide +kernel))) (hw _ (List.mem_of_getElem? (i := 73) (by decide +kernel))) h1 hA, h2⟩
theorem arr_of {s : State} {ty : FieldType} {c : ClassId} {k : Class} {comp : ClassId} (h2 : s.vm.classes[c]? = some k) (h3 : k.kind = .array comp ty) : ArrOfT s c ty := fun _ _ => ⟨fun _ h => (by cases h), k, h2, comp, h3⟩
theorem arrV_ext {c : ClassId} {n : Nat} {f g : Nat → Value} (h : ∀ j, j < n → f j = g j) : arrV c n f = arrV c n g := by
  unfold arrV
  congr 1
  apply Array.ext_getElem?
  intro i
  by_cases hi : i < n
  · have h1 := arrV_read c f hi
    have h2 := arrV_read c g hi
    unfold arrV at h1 h2
    rw [h1, h2, h i hi]
  · rw [Array.getElem?_eq_none (by rw [Array.size_ofFn]; omega), Array.getElem?_eq_none (by rw [Array.size_ofFn]; omega)]
def P00 : PT := fun _ _ => none
def M00 : Mem := (fun _ _ => 0, fun _ _ => 0)
def PEnd : PT := MdP (FcP P00)
def MSt : Mem := MdM (FcM M00)
def relv (k f : Nat) : Bool := (decide (kd k < 9) && decide (f < nfl (kd k)) && !(fint (kd k) f)) || ((decide (kd k = 12) || decide (kd k = 13)) && decide (f < ln k))
set_option maxRecDepth 100000 in
theorem PEnd_ok : ∀ k, k < 339 → ∀ f, f < 21 → relv k f = true → PEnd k f = some (rf k f) := by decide +kernel
theorem relv_lt : ∀ k, k < 339 → ∀ f, relv k f = true → f < 21 := by
  intro k hk f h
  have hn : ∀ c, c < 9 → nfl c ≤ 21 := by decide +kernel
  have hl : ∀ k, k < 339 → (kd k = 12 ∨ kd k = 13) → ln k ≤ 20 := by decide +kernel
  simp only [relv, Bool.or_eq_true, Bool.and_eq_true, decide_eq_true_eq] at h
  rcases h with h | h
  · have := hn _ h.1.1; omega
  · have := hl k hk h.1; omega
theorem cell_eq {E : En} {M : Mem} {H : Heap} {k : Nat} (hk : k < 339) (h : va_at E.1 vwCl (ad E k, cel E PEnd M k) H) : va_at E.1 vwCl (ad E k, cel E PF M k) H := by
  have key : ∀ f, relv k f = true → PEnd k f = PF k f := fun f hf => PEnd_ok k hk f (relv_lt k hk f hf) hf
  by_cases h12 : kd k = 12
  · rw [cel_Y h12] at h ⊢
    have h : H[ad E k]? = some (vp_cell _ _) := h
    show H[ad E k]? = some (vp_cell _ _)
    rw [h, vp_cell_q, vp_cell_q]
    congr 1
    apply arrV_ext
    intro j hj
    rw [key j (by simp [relv, h12, hj])]
  · by_cases h13 : kd k = 13
    · rw [cel_A h13] at h ⊢
      have h : H[ad E k]? = some (vp_cell _ _) := h
      show H[ad E k]? = some (vp_cell _ _)
      rw [h, vp_cell_q, vp_cell_q]
      congr 1
      apply arrV_ext
      intro j hj
      rw [key j (by simp [relv, h13, hj])]
    · by_cases h9 : kd k < 9
      · rw [cel_O rfl h9] at h ⊢
        have e : (List.range (nfl (kd k))).map (fun f => if fint (kd k) f = true then Value.int (M.1 k f) else va_rf ((PEnd k f).map (ad E))) = (List.range (nfl (kd k))).map (fun f => if fint (kd k) f = true then Value.int (M.1 k f) else va_rf ((PF k f).map (ad E))) := by
          apply List.map_congr_left
          intro f hf
          have hf := List.mem_range.mp hf
          by_cases hi : fint (kd k) f = true
          · rw [if_pos hi, if_pos hi]
          · rw [if_neg hi, if_neg hi, key f (by simp [relv, h9, hf, hi])]
        rw [← e]
        exact h
      · have e : cel E PEnd M k = cel E PF M k := by
          have hkk : ∀ k, k < 339 → kd k ≤ 13 := by decide +kernel
          have := hkk k hk
          have hh : kd k = 9 ∨ kd k = 10 ∨ kd k = 11 := by omega
          rcases hh with q | q | q
          · rw [cel_I q, cel_I q]
          · rw [cel_J q, cel_J q]
          · rw [cel_Z q, cel_Z q]
        rw [← e]
        exact h
theorem law_begin {p : Program} {e : Env} {s : State} {m : MethodId} {below : List Frame} {meth : Method} {c : Code} (l : Launch) {b L : Nat} {xs : Nat → Int32} (C0 : lw_At p s m meth c b L xs) (M' : Mem) (hj : Law_law_h18 xs L FU 0 MSt = some (1, M')) : W p l e room_1 s m #[Value.ref b] below meth c s.heap [] 0 0 (lw_Z below #[Value.ref b] s) (entryFrame m ([Value.ref b] : List Value).toArray 4) := by
  obtain ⟨hx, hb, hr, hml, hown, hts, hX, hbl, hlocks, hgv⟩ := C0
  have hw : ∀ w ∈ wAll, w.before #[Value.ref b] s = true := fun w h => hts w (List.mem_filter.mp h).1
  obtain ⟨c0, i0, K0⟩ := u_known hw uw_0 (hw _ w_303)
  obtain ⟨c1, i1, K1⟩ := u_known hw uw_1 (hw _ w_112)
  obtain ⟨c2, i2, K2⟩ := u_known hw uw_2 (hw _ w_212)
  obtain ⟨c3, i3, K3⟩ := u_known hw uw_4 (hw _ w_232)
  obtain ⟨c4, i4, K4⟩ := u_known hw uw_5 (hw _ w_314)
  obtain ⟨c5, i5, K5⟩ := u_known hw uw_6 (hw _ w_251)
  obtain ⟨c6, i6, K6⟩ := u_known hw uw_7 (hw _ w_89)
  obtain ⟨c7, i7, K7⟩ := u_known hw uw_8 (hw _ w_81)
  obtain ⟨c8, i8, K8⟩ := u_known hw uw_9 (hw _ w_938)
  obtain ⟨a0, k0, q0, e0, e0b, e0c⟩ := Cond.arrayClass_spec (hw _ w_110)
  obtain ⟨a1, k1, q1, e1, e1b, e1c⟩ := Cond.arrayClass_spec (hw _ w_326)
  obtain ⟨a2, k2, q2, e2, e2b, e2c⟩ := Cond.arrayClass_spec (hw _ w_1007)
  obtain ⟨q3, a3, k3, e3, -, e3b, e3c, e3d⟩ := Cond.arrayOver_spec (hts _ ao1_in)
  obtain ⟨q4, a4, k4, e4, e4b, e4c, e4d⟩ := Cond.arrayOver_specA (hts _ ao2_in)
  have hA : ∀ a : Nat, a < s.heap.size → ¬ (fun q : Nat => s.heap.size ≤ q) a := fun a h h2 => by have h2 : s.heap.size ≤ a := h2; omega
  obtain ⟨t0, z0, y0⟩ := st0_of hts hgv hA
  obtain ⟨t1, z1, y1⟩ := st1_of hts hgv hA
  obtain ⟨t2, z2, y2⟩ := st2_of hts hgv hA
  obtain ⟨t3, z3, y3⟩ := st3_of hts hgv hA
  obtain ⟨E, hE⟩ : ∃ E : En, E = ((fun c => ([c0, c1, c2, c3, c4, c5, c6, c7, c8] : List ClassId).getD c 0, fun c => ([i0, i1, i2, i3, i4, i5, i6, i7, i8] : List (Nat → Nat)).getD c (fun _ => 0)), s.heap.size, (fun t => ([a0, a1, a2, a3, a4] : List ClassId).getD t 0), (fun t => ([t0, t1, t2, t3] : List Nat).getD t 0)) := ⟨_, rfl⟩
  have hAE : AE E = (fun q : Nat => s.heap.size ≤ q) := by rw [hE]; rfl
  have hVS : VS E s s.heap := by
    subst hE
    refine ⟨⟨fun cn q hq => ?_, fun k q hq => ?_⟩, fun q hq => va_Nw.of rfl (hts _ (nm_in q hq)), fun q hq => va_Nw.of rfl (hts _ (nf_in q hq)), ⟨z0, y0⟩, ⟨z1, y1⟩, ⟨z2, y2⟩, ⟨z3, y3⟩⟩
    · match cn, hq with
      | 0, hq => cases hq; exact K0
      | 1, hq => cases hq; exact K1
      | 2, hq => cases hq; exact K2
      | 3, hq => cases hq; exact K3
      | 4, hq => cases hq; exact K4
      | 5, hq => cases hq; exact K5
      | 6, hq => cases hq; exact K6
      | 7, hq => cases hq; exact K7
      | 8, hq => cases hq; exact K8
      | n + 9, hq => cases hq
    · match k, hq with
      | 0, hq => cases hq; exact ⟨arr_of e0b e0c, e0⟩
      | 1, hq => cases hq; exact ⟨arr_of e1b e1c, e1⟩
      | 2, hq => cases hq; exact ⟨arr_of e2b e2c, e2⟩
      | 3, hq => cases hq; exact ⟨arr_of e3b e3c, k3, q3, e3b, e3c, e3, e3d⟩
      | 4, hq => cases hq; exact ⟨arr_of e4b e4c, e4d⟩
      | n + 5, hq => cases hq
  have hao : AO s := ⟨va_AO.of (hts _ ao1_in), hts _ ao2_in⟩
  have hsz : E.2.1 = s.heap.size := by rw [hE]
  clear hE
  have X : Cx (p, l, e, room_1, s, m, #[Value.ref b], below, meth, c, 0, 0) E 4 code R_law (some .boolean) 11 424 := ⟨hx, hb, hml, hown, hw, hVS, ⟨hlocks, Nat.zero_le _, Nat.zero_le _⟩, hr, Nat.le_refl _, Nat.le_refl _⟩
  have X1 : Cx (p, l, e, room_1, s, m, #[Value.ref b], below, meth, c, 339, 13538) E 4 code R_law (some .boolean) 11 424 := ⟨hx, hb, hml, hown, hw, hVS, ⟨hlocks, Nat.le_of_ble_eq_true rfl, Nat.le_of_ble_eq_true rfl⟩, hr, Nat.le_refl _, Nat.le_refl _⟩
  have hl := lv_entry ([.ref b]) (n := 4) (Nat.le_of_ble_eq_true rfl)
  rw [lg_entry_eq]
  generalize (lg_sl ([.ref b]) ++ List.replicate (4 - (lg_sl ([.ref b])).length) Slot.unset).toArray = ls at hl ⊢
  have hl : lv_has ls 4 [(0, .ref b)] := hl
  have hH : HW E 0 P00 M00 s s.heap [] := ⟨fun k q hq => by simp [wl] at hq, by rw [hsz]; rfl, va_S.rf, fun j _ => ⟨fun _ => rfl, fun _ => rfl, fun _ => rfl⟩⟩
  show WW (p, l, e, room_1, s, m, #[Value.ref b], below, meth, c, 0, 0) s.heap [] 0 0 (lw_Z below #[Value.ref b] s) 0 ls []
  refine w_new X hH (c := 7) (by decide +kernel) (by decide) rfl rfl uw_8 tyX8 tyX8_ok (by decide +kernel) w_80 w_81 w_66 (Nat.le_of_ble_eq_true rfl) (Nat.le_of_ble_eq_true rfl) dL_law_0 (fun H1 hH1 => ?_)
  refine lv_dup X.1 X.2.1 dL_law_3 rfl ?_
  refine w_init X hao hH1 (mc_Fc l E _ _) (⟨w_83, w_66, w_84, ⟨by decide, by decide, by decide +kernel⟩, rfl, Or.inl w_82⟩) ⟨by decide, by decide⟩ hl.1 (Nat.le_of_ble_eq_true rfl) (Nat.le_of_ble_eq_true rfl) (Nat.le_of_ble_eq_true rfl) dL_law_4 (fun H2 locs2 hH2 => ?_)
  refine lv_astore_n (lv' := [(1, .ref (ad E 0)), (0, .ref b)]) X.1 X.2.1 dL_law_7 rfl hl (by decide) rfl (fun ls hl => ?_)
  refine w_new X hH2 (c := 8) (by decide +kernel) (by decide) rfl rfl uw_9 tyX9 tyX9_ok (by decide +kernel) w_937 w_938 w_74 (Nat.le_of_ble_eq_true rfl) (Nat.le_of_ble_eq_true rfl) dL_law_8 (fun H3 hH3 => ?_)
  refine lv_dup X.1 X.2.1 dL_law_11 rfl ?_
  refine w_init X hao hH3 (mc_Md l E _ _) (⟨w_940, w_74, w_941, ⟨by decide, by decide, by decide +kernel⟩, rfl, Or.inl w_939⟩) ⟨by decide, by decide⟩ hl.1 (Nat.le_of_ble_eq_true rfl) (Nat.le_of_ble_eq_true rfl) (Nat.le_of_ble_eq_true rfl) dL_law_12 (fun H4 locs4 hH4 => ?_)
  refine lv_astore_n (lv' := [(2, .ref (ad E 326)), (1, .ref (ad E 0)), (0, .ref b)]) X.1 X.2.1 dL_law_15 rfl hl (by decide) rfl (fun ls hl => ?_)
  refine lv_iconst (v := 0) X.1 X.2.1 dL_law_16 (by decide) ?_
  refine lv_istore_n (lv' := [(3, .int 0), (2, .ref (ad E 326)), (1, .ref (ad E 0)), (0, .ref b)]) X.1 X.2.1 dL_law_17 rfl hl (by decide) rfl (fun ls hl => ?_)
  have hl : lv_has ls 4 [(0, .ref b), (1, .ref (ad E 0)), (2, .ref (ad E 326)), (3, .int 0)] := lv_sub hl [3, 2, 1, 0] rfl
  obtain ⟨hP, hz, hS, hF⟩ := hH4
  have hP5 : va_P E.1 vwCl (wl E NN PF MSt) H4 := by
    intro k q hk
    have hlt : k < 339 := by have := (List.getElem?_eq_some_iff.mp hk).1; rwa [wl_len] at this
    rw [wl_get (show k < NN from hlt)] at hk
    cases hk
    exact cell_eq hlt (hP k _ (wl_get hlt))
  have hbA : ¬ AE E b := by rw [hAE]; exact hA b hbl
  exact kb_Law_law_h18 (Z := (p, l, e, room_1, s, m, #[Value.ref b], below, meth, c, 339, 13538)) hX hbl hbA rfl ⟨rfl, rfl⟩ hsz (Nat.le_of_ble_eq_true rfl) (Nat.le_of_ble_eq_true rfl) X1 FU 0 MSt 1 M' hj H4 _ ls hP5 hS hl
