theorem vr_outer6 (c : ClassId) (N h0 : Nat) : ∀ i : Nat, Jvm.Free.Multi.outerC c N h0 i = arrV c N (fun j => va_rf (if j < i then some (h0 + 1 + j) else none))
  | 0 => by
    show ({ cls := c, slots := Array.replicate N .null, vm := .none } : Cell) = _
    rw [arrV_new]
    refine congrArg (arrV c N) (funext fun j => ?_)
    simp [va_rf]
  | i + 1 => by
    show (Jvm.Free.Multi.outerC c N h0 i).setSlot i (.ref (h0 + 1 + i)) = _
    rw [vr_outer6 c N h0 i, arrV_store]
    refine congrArg (arrV c N) (funext fun j => ?_)
    by_cases e : j = i
    · subst e
      simp [updV, va_rf]
    · by_cases h : j < i
      · simp [updV, e, h, Nat.lt_succ_of_lt h]
      · simp [updV, e, h, show ¬ j < i + 1 by omega]
theorem cel_uR {E : En} {P : PT} {M : Mem} {k m t j : Nat} (hj : j ≠ k) : cel E (uR P k m t) M j = cel E P M j := by
  have h1 : ∀ g, uR P k m t j g = P j g := fun g => by
    show (if j = k then (if g < m then some (t + g) else none) else P j g) = P j g
    rw [if_neg hj]
  simp only [cel, h1]
theorem w_mna {Z : ZT} {E : En} {nL : Nat} {cc : ByteArray} {own : String} {rt : Option FieldType} {fr lo : Nat} {H : Heap} {locs : List Loc} {cl sl : Nat} {Q : State → Prop} {pc : Nat} {ls : Array Slot} {rest : List Value} {n : Nat} {P : Nat → Nat → Option Nat} {M : Mem} (X : Cx Z E nL cc own rt fr lo) (hao : AO (zs Z)) (hH : HW E n P M (zs Z) H locs) {idx : Nat} (hk : kd n = 13) (hl : ln n = 6) (hr : ∀ j, j < 6 → kd (n + 1 + j) = 9 ∧ ln (n + 1 + j) = 256) (w1 : Cond.classLink own idx "[[I" ∈ wAll) (w2 : Cond.arrayClass .int ∈ wAll) (r1 : cl + 7 ≤ (zR Z).cells) (r2 : sl + 1542 ≤ (zR Z).slots) (d : decode cc pc = .ok (.multianewarray idx 2, 4)) (kk : ∀ H1, HW E (n + 7) (uR P n 6 (n + 1)) M (zs Z) H1 locs → WW Z H1 locs (cl + 7) (sl + 1542) Q (pc + 4) ls (.ref (ad E n) :: rest)) : WW Z H locs cl sl Q pc ls (.int 256 :: .int 6 :: rest) := by
  obtain ⟨hP, hz, hS, hF⟩ := hH
  intro T hT Xs
  have h6 : (6 : Int32).toNatClampNeg = 6 := by decide
  have h256 : (256 : Int32).toNatClampNeg = 256 := by decide
  obtain ⟨vm₁, cA, comp, -, fA, fC, hO, -, X', step⟩ := Xs.multianewarray2F (ty := .int) X.1 X.2.2.2.1 (X.2.2.2.2.1 _ w1) (show (Cond.arrayOver (.array .int)).before (za Z) (zs Z) = true from hao.2) (X.2.2.2.2.1 _ w2) (g := F0 (zm Z) pc ls (.int 256 :: .int 6 :: rest)) rfl (by rw [X.2.1]; exact d) rfl (by decide) (by decide) (by decide) (by decide) (by decide) rfl rfl (by rw [h6]; exact r1) (by rw [h6, h256]; exact r2)
  have k1 : (zs Z).vm.findClass ("[" ++ (FieldType.int).toString) = some (E.2.2.1 0) := (X.2.2.2.2.2.1.1.2 0 (E.2.2.1 0, .int) rfl).2
  have k2 : (zs Z).vm.findClass ("[" ++ (FieldType.array .int).toString) = some (E.2.2.1 4) := (X.2.2.2.2.2.1.1.2 4 (E.2.2.1 4, .array .int) rfl).2
  have e1 : comp = E.2.2.1 0 := Option.some.inj (fC.symm.trans k1)
  have e2 : cA = E.2.2.1 4 := Option.some.inj (fA.symm.trans k2)
  subst e1
  subst e2
  rw [h6, h256] at X' step
  generalize hFl : Jvm.Free.Multi.fill (T.setVm vm₁) (E.2.2.1 4) (E.2.2.1 0) 6 256 (defaultValue .int) 6 = F at X' step
  have hTh : (T.setVm vm₁).heap = H := hT
  obtain ⟨f1, f2, -, -⟩ := Jvm.Free.Multi.fill_facts (T.setVm vm₁) (E.2.2.1 4) (E.2.2.1 0) 6 256 (defaultValue .int) 6
  rw [hFl, hTh] at f1 f2
  have hold : ∀ x : Nat, x < H.size → F.heap[x]? = H[x]? := fun x hx => by
    have := Jvm.Free.Multi.fill_old (T.setVm vm₁) (E.2.2.1 4) (E.2.2.1 0) 6 256 (defaultValue .int) (a := x) (by rw [hTh]; exact hx) 6
    rw [hFl, hTh] at this
    exact this
  have hrow : ∀ j : Nat, j < 6 → F.heap[H.size + 1 + j]? = some (Jvm.Free.Multi.innerC (E.2.2.1 0) 256 (defaultValue .int)) := fun j hj => by
    have := Jvm.Free.Multi.fill_inner (T.setVm vm₁) (E.2.2.1 4) (E.2.2.1 0) 6 256 (defaultValue .int) 6 j hj
    rw [hFl, hTh] at this
    exact this
  rw [vr_outer6] at f2
  have hPP : va_P E.1 vwCl (wl E (n + 7) (uR P n 6 (n + 1)) M) F.heap := by
    intro k q hq
    have hlt : k < n + 7 := by have := (List.getElem?_eq_some_iff.mp hq).1; rwa [wl_len] at this
    rw [wl_get hlt] at hq
    cases hq
    by_cases hk1 : k < n
    · rw [cel_uR (by omega : k ≠ n)]
      have h1 := hP k _ (wl_get hk1)
      exact h1.kept (hold _ h1.lt)
    · by_cases hk2 : k = n
      · subst hk2
        rw [cel_A hk]
        show F.heap[ad E k]? = some (vp_cell _ _)
        rw [vp_cell_q, hl]
        have hz' : ad E k = H.size := hz.symm
        rw [hz', f2]
        congr 2
        funext j
        show va_rf _ = va_rf ((if k = k then (if j < 6 then some (k + 1 + j) else none) else P k j).map (ad E))
        rw [if_pos rfl]
        by_cases hj : j < 6
        · rw [if_pos hj, if_pos hj, ← hz']
          simp [ad, Nat.add_assoc]
        · rw [if_neg hj, if_neg hj]; rfl
      · obtain ⟨j, hj, rfl⟩ : ∃ j, j < 6 ∧ k = n + 1 + j := ⟨k - (n + 1), by omega, by omega⟩
        rw [cel_uR (by omega : n + 1 + j ≠ n), cel_I (hr j hj).1]
        show F.heap[ad E (n + 1 + j)]? = some (vp_cell _ _)
        rw [vp_cell_i, (hr j hj).2]
        have hz' : ad E (n + 1 + j) = H.size + 1 + j := by show E.2.1 + (n + 1 + j) = _; omega
        rw [hz', hrow j hj]
        have h3 : (fun i => Value.int (M.1 (n + 1 + j) i)) = (fun _ => defaultValue .int) := by
          funext i
          rw [(hF (n + 1 + j) (by omega)).2.1 i]
          rfl
        rw [h3]
        show some ({ cls := E.2.2.1 0, slots := Array.replicate 256 (defaultValue .int), vm := .none } : Cell) = _
        rw [arrV_new]
  have hFr : Fr (n + 7) (uR P n 6 (n + 1)) M := fun j hj => by
    refine ⟨fun g => ?_, (hF j (by omega)).2⟩
    show (if j = n then (if g < 6 then some (n + 1 + g) else none) else P j g) = none
    rw [if_neg (by omega)]
    exact (hF j (by omega)).1 g
  have hz2 : F.heap.size = E.2.1 + (n + 7) := by rw [f1]; omega
  obtain ⟨t, a1, b1⟩ := kk F.heap ⟨hPP, hz2, hS.grow (by omega) hold, hFr⟩ F rfl X'
  refine ⟨t, step t ?_, b1⟩
  have e : T.heap.size = ad E n := by rw [hT]; exact hz
  rw [e]
  exact a1
