theorem WS_of {Z : ZT} {E : En} {nL : Nat} {cc : ByteArray} {own : String} {rt : Option FieldType} {fr lo : Nat} {M : Mem} {H : Heap} {locs : List Loc} (X : Cx Z E nL cc own rt fr lo) (hP : va_P E.1 vwCl (wl E NN PF M) H) (hS : va_S (AE E) (zs Z).heap H locs) {t : State} (ht : t.heap = H) (hW : (zs Z).WarmedH t.vm) : WS E M t := by
  refine ⟨by rw [ht]; exact hP, ?_⟩
  have h1 : VS E t (zs Z).heap := VS.warm hW X.2.2.2.2.2.1
  exact VS.kept (fun a h1 h2 => by rw [ht]; exact hS.2.1 a h1 h2) h1
theorem k_iret {Z : ZT} {E : En} {nL : Nat} {cc : ByteArray} {own : String} {fr lo : Nat} {M : Mem} {pc : Nat} {lv : List (Nat × Value)} {v : Int32} (X : Cx Z E nL cc own (some .int) fr lo) (d : decode cc pc = .ok (.ireturn, 1)) : Kj Z E nL (QI Z E) (some (v, M)) M pc lv [.int v] := by
  intro r M' h H locs ls hP hS hl
  cases h
  exact W.iret (v := v) X.1 X.2.1 X.2.2.2.2.2.2.2.1 (fun t ht hW => ⟨⟨v, M, rfl, ⟨rfl, rfl⟩, WS_of X hP hS ht hW⟩, hS.F ht⟩) hS.2.2 d X.2.2.2.2.2.2.1.1
theorem k_zret {Z : ZT} {E : En} {nL : Nat} {cc : ByteArray} {own : String} {fr lo : Nat} {M : Mem} {pc : Nat} {lv : List (Nat × Value)} {v : Int32} (X : Cx Z E nL cc own (some .boolean) fr lo) (hn : v &&& 1 = v) (d : decode cc pc = .ok (.ireturn, 1)) : Kj Z E nL (QI Z E) (some (v, M)) M pc lv [.int v] := by
  intro r M' h H locs ls hP hS hl
  cases h
  exact W.zret (v := v) X.1 X.2.1 X.2.2.2.2.2.2.2.1 (by show Value.int (v &&& 1) = _; rw [hn]) (fun t ht hW => ⟨⟨v, M, rfl, ⟨rfl, rfl⟩, WS_of X hP hS ht hW⟩, hS.F ht⟩) hS.2.2 d X.2.2.2.2.2.2.1.1
def isB (v : Int32) : Bool := decide (v = 0) || decide (v = 1)
theorem k_zretG {Z : ZT} {E : En} {nL : Nat} {cc : ByteArray} {own : String} {fr lo : Nat} {M : Mem} {pc : Nat} {lv : List (Nat × Value)} {v : Int32} (X : Cx Z E nL cc own (some .boolean) fr lo) (d : decode cc pc = .ok (.ireturn, 1)) : Kj Z E nL (QI Z E) (gd (isB v) (some (v, M))) M pc lv [.int v] := by
  intro r M' h
  by_cases hv : isB v = true
  · simp only [gd, hv, if_true] at h
    refine k_zret X ?_ d r M' h
    simp only [isB, Bool.or_eq_true, decide_eq_true_eq] at hv
    rcases hv with q | q <;> subst q <;> decide
  · simp only [gd, hv] at h; cases h
theorem k_lret {Z : ZT} {E : En} {nL : Nat} {cc : ByteArray} {own : String} {fr lo : Nat} {M : Mem} {pc : Nat} {lv : List (Nat × Value)} {v : Int64} (X : Cx Z E nL cc own (some .long) fr lo) (d : decode cc pc = .ok (.lreturn, 1)) : Kj Z E nL (QL Z E) (some (v, M)) M pc lv [.long v] := by
  intro r M' h H locs ls hP hS hl
  cases h
  exact W.lret (v := v) X.1 X.2.1 X.2.2.2.2.2.2.2.1 (fun t ht hW => ⟨⟨v, M, rfl, ⟨rfl, rfl⟩, WS_of X hP hS ht hW⟩, hS.F ht⟩) hS.2.2 d X.2.2.2.2.2.2.1.1
theorem k_vret {Z : ZT} {E : En} {nL : Nat} {cc : ByteArray} {own : String} {fr lo : Nat} {M : Mem} {pc : Nat} {lv : List (Nat × Value)} (X : Cx Z E nL cc own none fr lo) (d : decode cc pc = .ok (.return_, 1)) : Kj Z E nL (QV Z E) (some ((), M)) M pc lv [] := by
  intro r M' h H locs ls hP hS hl
  cases h
  exact W.vret X.1 X.2.1 X.2.2.2.2.2.2.2.1 (fun t ht hW => ⟨⟨M, rfl, rfl, WS_of X hP hS ht hW⟩, hS.F ht⟩) hS.2.2 d X.2.2.2.2.2.2.1.1
theorem WS_blind {E : En} {M : Mem} {vs : List Value} : FrameBlind (va_Pc vs (WS E M)) := fun a U g mk q => ⟨q.1, q.2.1, VS.same (u := U) (U := U.calling g mk a) rfl q.2.2⟩
/-! a method's contract out of its walk -/
theorem MI_of {l : Launch} {E : En} {y : MethodName} {bytes : ByteArray} {n : Nat} {rt : Option FieldType} {fr lo : Nat} {vs : List Value} {M : Mem} {o : Option (Int32 × Mem)} (hy : plainName y.cls = true) (hvs : (lg_sl vs).length ≤ n) (k : ∀ Z : ZT, zl Z = l → Cx Z E n bytes y.cls rt fr lo → Kj Z E n (QI Z E) o M 0 (lv_args 0 vs) []) : MI l E y bytes n rt fr lo vs M o := by
  intro r M' h
  refine Met.ofW (cc := bytes) (maxL := n) (ret := rt) hy rfl ?_
  intro p e s m args below meth c s₁ B hml hv
  obtain ⟨rfl, hP, hV⟩ := hv
  have hts := atoms_spec (ws := Cond.code y bytes n rt :: wAll) B.pre
  have X : Cx (p, l, e, rmO fr lo, s, m, vs.toArray, below, meth, c, 0, 0) E n bytes y.cls rt fr lo := ⟨B.exec, B.bytes, hml, findClass_of_methodNamed B.named, fun w hw => hts w (List.mem_cons_of_mem _ hw), hV, ⟨B.notSynchronized, Nat.le_refl _, Nat.le_refl _⟩, B.returns, Nat.le_refl _, Nat.le_refl _⟩
  have hl := lv_entry vs (n := n) hvs
  rw [lg_entry_eq]
  exact k _ rfl X r M' h s.heap [] _ hP va_S.rf hl
theorem ML_of {l : Launch} {E : En} {y : MethodName} {bytes : ByteArray} {n : Nat} {rt : Option FieldType} {fr lo : Nat} {vs : List Value} {M : Mem} {o : Option (Int64 × Mem)} (hy : plainName y.cls = true) (hvs : (lg_sl vs).length ≤ n) (k : ∀ Z : ZT, zl Z = l → Cx Z E n bytes y.cls rt fr lo → Kj Z E n (QL Z E) o M 0 (lv_args 0 vs) []) : ML l E y bytes n rt fr lo vs M o := by
  intro r M' h
  refine Met.ofW (cc := bytes) (maxL := n) (ret := rt) hy rfl ?_
  intro p e s m args below meth c s₁ B hml hv
  obtain ⟨rfl, hP, hV⟩ := hv
  have hts := atoms_spec (ws := Cond.code y bytes n rt :: wAll) B.pre
  have X : Cx (p, l, e, rmO fr lo, s, m, vs.toArray, below, meth, c, 0, 0) E n bytes y.cls rt fr lo := ⟨B.exec, B.bytes, hml, findClass_of_methodNamed B.named, fun w hw => hts w (List.mem_cons_of_mem _ hw), hV, ⟨B.notSynchronized, Nat.le_refl _, Nat.le_refl _⟩, B.returns, Nat.le_refl _, Nat.le_refl _⟩
  have hl := lv_entry vs (n := n) hvs
  rw [lg_entry_eq]
  exact k _ rfl X r M' h s.heap [] _ hP va_S.rf hl
theorem MV_of {l : Launch} {E : En} {y : MethodName} {bytes : ByteArray} {n : Nat} {rt : Option FieldType} {fr lo : Nat} {vs : List Value} {M : Mem} {o : Option (Unit × Mem)} (hy : plainName y.cls = true) (hvs : (lg_sl vs).length ≤ n) (k : ∀ Z : ZT, zl Z = l → Cx Z E n bytes y.cls rt fr lo → Kj Z E n (QV Z E) o M 0 (lv_args 0 vs) []) : MV l E y bytes n rt fr lo vs M o := by
  intro r M' h
  refine Met.ofW (cc := bytes) (maxL := n) (ret := rt) hy rfl ?_
  intro p e s m args below meth c s₁ B hml hv
  obtain ⟨rfl, hP, hV⟩ := hv
  have hts := atoms_spec (ws := Cond.code y bytes n rt :: wAll) B.pre
  have X : Cx (p, l, e, rmO fr lo, s, m, vs.toArray, below, meth, c, 0, 0) E n bytes y.cls rt fr lo := ⟨B.exec, B.bytes, hml, findClass_of_methodNamed B.named, fun w hw => hts w (List.mem_cons_of_mem _ hw), hV, ⟨B.notSynchronized, Nat.le_refl _, Nat.le_refl _⟩, B.returns, Nat.le_refl _, Nat.le_refl _⟩
  have hl := lv_entry vs (n := n) hvs
  rw [lg_entry_eq]
  exact k _ rfl X r M' h s.heap [] _ hP va_S.rf hl
/-! calls -/
def ClV (own : String) (idx : Nat) (y : MethodName) (bytes : ByteArray) (n : Nat) (rt : Option FieldType) (np : Nat) : Prop := Cond.methodLink own idx y ∈ wAll ∧ Cond.instanceMethod y ∈ wAll ∧ Cond.selects y.cls y y ∈ wAll ∧ Cond.initialized y.cls ∈ wAll ∧ Cond.code y bytes n rt ∈ wAll ∧ (y.cls ≠ "java/lang/invoke/MethodHandle" ∧ y.cls ≠ "java/lang/invoke/VarHandle" ∧ (parseMethodDescriptor y.desc).map (fun d => d.parameters.length) = some np)
def ClS (own : String) (idx : Nat) (y : MethodName) (bytes : ByteArray) (n : Nat) (rt : Option FieldType) (np : Nat) : Prop := Cond.methodLink own idx y ∈ wAll ∧ Cond.static y ∈ wAll ∧ Cond.initialized y.cls ∈ wAll ∧ Cond.code y bytes n rt ∈ wAll ∧ (y.cls ≠ "java/lang/invoke/MethodHandle" ∧ y.cls ≠ "java/lang/invoke/VarHandle" ∧ (parseMethodDescriptor y.desc).map (fun d => d.parameters.length) = some np)
def ClN (own : String) (idx : Nat) (y : MethodName) (host : String) (bytes : ByteArray) (n : Nat) (rt : Option FieldType) (np : Nat) : Prop := (own, idx, y, host) ∈ nmL ∧ Cond.static y ∈ wAll ∧ Cond.initialized y.cls ∈ wAll ∧ Cond.code y bytes n rt ∈ wAll ∧ (y.cls ≠ "java/lang/invoke/MethodHandle" ∧ y.cls ≠ "java/lang/invoke/VarHandle" ∧ (parseMethodDescriptor y.desc).map (fun d => d.parameters.length) = some np)
theorem goodV {own : String} {idx : Nat} {y : MethodName} {bytes : ByteArray} {n : Nat} {rt : Option FieldType} {np : Nat} (h : ClV own idx y bytes n rt np) : GoodIn wAll (wsV own idx y.cls y (Cond.code y bytes n rt :: wAll)) := by
  obtain ⟨h1, h2, h3, h4, h5, -⟩ := h
  refine wAll_good fun w hw => ?_
  simp only [wsV, List.mem_append, List.mem_cons, List.not_mem_nil, or_false] at hw
  rcases hw with (rfl | rfl | rfl | rfl) | (rfl | hw) <;> assumption
theorem goodS {own : String} {idx : Nat} {y : MethodName} {bytes : ByteArray} {n : Nat} {rt : Option FieldType} {np : Nat} (h : ClS own idx y bytes n rt np) : GoodIn wAll (va_wsS own idx y (Cond.code y bytes n rt :: wAll)) := by
  obtain ⟨h1, h2, h3, h4, -⟩ := h
  refine wAll_good fun w hw => ?_
  simp only [va_wsS, List.mem_append, List.mem_cons, List.not_mem_nil, or_false] at hw
  rcases hw with (rfl | rfl | rfl) | (rfl | hw) <;> assumption
theorem k_callVI {Z : ZT} {E : En} {nL : Nat} {cc : ByteArray} {own : String} {rt : Option FieldType} {fr lo : Nat} {ρ : Type} {Qf : ρ → Mem → State → Prop} {M : Mem} {pc : Nat} {lv : List (Nat × Value)} (X : Cx Z E nL cc own rt fr lo) {idx : Nat} {y : MethodName} {bytes : ByteArray} {n np : Nat} {rt1 : Option FieldType} {fr1 lo1 : Nat} {oc : Option (Int32 × Mem)} {f : Int32 → Mem → Option (ρ × Mem)} {st : List Value} (As rest : List Value) {k c : Nat} {C : String} {T : u_T} {N : Nat} (hk : isC k c) (hc : vwCl[c]? = some (C, T, N)) (hc9 : c < 9) (hC : y.cls = C) (hM : MI (zl Z) E y bytes n rt1 fr1 lo1 (.ref (ad E k) :: As) M oc) (cl : ClV own idx y bytes n rt1 np) (hR : fr1 + 1 ≤ fr ∧ 8 + (n + 11) + lo1 ≤ lo) (hn : As.length = np) (hst : st = As.reverse ++ (.ref (ad E k) :: rest)) (hcat : (rest.map fun v => v.category).sum ≤ 8) (d : decode cc pc = .ok (.invokevirtual idx, 3)) (kk : ∀ (r : Int32) (M1 : Mem), Kj Z E nL Qf (f r M1) M1 (pc + 3) lv (.int r :: rest)) : Kj Z E nL Qf (bd oc f) M pc lv st := by
  intro r' M' h H locs ls hP hS hl
  cases oc with
  | none => cases h
  | some q =>
    obtain ⟨r1, M1⟩ := q
    have h : f r1 M1 = some (r', M') := h
    subst hst
    subst hC
    have hrc := va_recv X.2.2.2.2.2.1.1 hP hc (a := ad E k) (q0 := k) (by rw [wl_get hk.1, cel_O hk.2 hc9])
    refine va_calli (va_runV (As := As) (rest := rest) ⟨X.1, X.2.1, X.2.2.1, X.2.2.2.1, X.2.2.2.2.1⟩ (hM r1 M1 rfl) (cwV np X.2.2.2.2.1 (goodV cl) rfl rfl rfl ⟨rfl, cl.2.2.2.2.2⟩ ⟨Nat.le_trans hR.1 X.2.2.2.2.2.2.2.2.1, Nat.le_trans hR.2 X.2.2.2.2.2.2.2.2.2⟩) ⟨WS_blind, hrc, fun U hU hW => ⟨rfl, WS_of X hP hS hU hW⟩⟩ rfl hn hl.1 rfl (lv_room hcat) d X.2.2.2.2.2.2.1.2) hS (fun q _ h => h) (fun q h => h) (fun r u t H1 locs1 ht hvm hw hB hz hkp hS1 => ?_)
    obtain ⟨rfl, rfl⟩ := hw
    exact kk r u r' M' h H1 locs1 ls (by rw [← ht]; exact hB.1) hS1 hl
theorem k_callSI {Z : ZT} {E : En} {nL : Nat} {cc : ByteArray} {own : String} {rt : Option FieldType} {fr lo : Nat} {ρ : Type} {Qf : ρ → Mem → State → Prop} {M : Mem} {pc : Nat} {lv : List (Nat × Value)} (X : Cx Z E nL cc own rt fr lo) {idx : Nat} {y : MethodName} {bytes : ByteArray} {n np : Nat} {rt1 : Option FieldType} {fr1 lo1 : Nat} {oc : Option (Int32 × Mem)} {f : Int32 → Mem → Option (ρ × Mem)} {st : List Value} (As rest : List Value) (hM : MI (zl Z) E y bytes n rt1 fr1 lo1 (As) M oc) (cl : ClS own idx y bytes n rt1 np) (hR : fr1 + 1 ≤ fr ∧ 8 + (n + 11) + lo1 ≤ lo) (hn : As.length = np) (hst : st = As.reverse ++ (rest)) (hcat : (rest.map fun v => v.category).sum ≤ 8) (d : decode cc pc = .ok (.invokestatic idx, 3)) (kk : ∀ (r : Int32) (M1 : Mem), Kj Z E nL Qf (f r M1) M1 (pc + 3) lv (.int r :: rest)) : Kj Z E nL Qf (bd oc f) M pc lv st := by
  intro r' M' h H locs ls hP hS hl
  cases oc with
  | none => cases h
  | some q =>
    obtain ⟨r1, M1⟩ := q
    have h : f r1 M1 = some (r', M') := h
    subst hst
    refine va_calli (va_runS (As := As) (rest := rest) ⟨X.1, X.2.1, X.2.2.1, X.2.2.2.1, X.2.2.2.2.1⟩ (hM r1 M1 rfl) (va_cwS np X.2.2.2.2.1 (goodS cl) rfl rfl rfl cl.2.2.2.2 ⟨Nat.le_trans hR.1 X.2.2.2.2.2.2.2.2.1, Nat.le_trans hR.2 X.2.2.2.2.2.2.2.2.2⟩) ⟨WS_blind, fun U hU hW => ⟨rfl, WS_of X hP hS hU hW⟩⟩ rfl hn hl.1 rfl (lv_room hcat) d X.2.2.2.2.2.2.1.2) hS (fun q _ h => h) (fun q h => h) (fun r u t H1 locs1 ht hvm hw hB hz hkp hS1 => ?_)
    obtain ⟨rfl, rfl⟩ := hw
    exact kk r u r' M' h H1 locs1 ls (by rw [← ht]; exact hB.1) hS1 hl
theorem k_callNI {Z : ZT} {E : En} {nL : Nat} {cc : ByteArray} {own : String} {rt : Option FieldType} {fr lo : Nat} {ρ : Type} {Qf : ρ → Mem → State → Prop} {M : Mem} {pc : Nat} {lv : List (Nat × Value)} (X : Cx Z E nL cc own rt fr lo) {idx : Nat} {y : MethodName} {bytes : ByteArray} {n np : Nat} {rt1 : Option FieldType} {fr1 lo1 : Nat} {oc : Option (Int32 × Mem)} {f : Int32 → Mem → Option (ρ × Mem)} {st : List Value} (As rest : List Value) (hM : MI (zl Z) E y bytes n rt1 fr1 lo1 (As) M oc) {host : String} (cl : ClN own idx y host bytes n rt1 np) (hR : fr1 + 1 ≤ fr ∧ 8 + (n + 11) + lo1 ≤ lo) (hn : As.length = np) (hst : st = As.reverse ++ (rest)) (hcat : (rest.map fun v => v.category).sum ≤ 8) (d : decode cc pc = .ok (.invokestatic idx, 3)) (kk : ∀ (r : Int32) (M1 : Mem), Kj Z E nL Qf (f r M1) M1 (pc + 3) lv (.int r :: rest)) : Kj Z E nL Qf (bd oc f) M pc lv st := by
  intro r' M' h H locs ls hP hS hl
  cases oc with
  | none => cases h
  | some q =>
    obtain ⟨r1, M1⟩ := q
    have h : f r1 M1 = some (r', M') := h
    subst hst
    refine va_calli (va_runSN (As := As) (rest := rest) ⟨X.1, X.2.1, X.2.2.1, X.2.2.2.1, X.2.2.2.2.1⟩ (hM r1 M1 rfl) ⟨va_cnB np X.2.2.2.2.1 (wAll_code cl.2.2.2.1) rfl rfl rfl (X.2.2.2.2.2.1.2.1 _ cl.1) (X.2.2.2.2.1 _ cl.2.2.1) cl.2.2.2.2 ⟨Nat.le_trans hR.1 X.2.2.2.2.2.2.2.2.1, Nat.le_trans hR.2 X.2.2.2.2.2.2.2.2.2⟩, X.2.2.2.2.1 _ cl.2.1, trivial⟩ ⟨WS_blind, fun U hU hW => ⟨rfl, WS_of X hP hS hU hW⟩⟩ rfl hn hl.1 rfl (lv_room hcat) d X.2.2.2.2.2.2.1.2) hS (fun q _ h => h) (fun q h => h) (fun r u t H1 locs1 ht hvm hw hB hz hkp hS1 => ?_)
    obtain ⟨rfl, rfl⟩ := hw
    exact kk r u r' M' h H1 locs1 ls (by rw [← ht]; exact hB.1) hS1 hl
theorem k_callVL {Z : ZT} {E : En} {nL : Nat} {cc : ByteArray} {own : String} {rt : Option FieldType} {fr lo : Nat} {ρ : Type} {Qf : ρ → Mem → State → Prop} {M : Mem} {pc : Nat} {lv : List (Nat × Value)} (X : Cx Z E nL cc own rt fr lo) {idx : Nat} {y : MethodName} {bytes : ByteArray} {n np : Nat} {rt1 : Option FieldType} {fr1 lo1 : Nat} {oc : Option (Int64 × Mem)} {f : Int64 → Mem → Option (ρ × Mem)} {st : List Value} (As rest : List Value) {k c : Nat} {C : String} {T : u_T} {N : Nat} (hk : isC k c) (hc : vwCl[c]? = some (C, T, N)) (hc9 : c < 9) (hC : y.cls = C) (hM : ML (zl Z) E y bytes n rt1 fr1 lo1 (.ref (ad E k) :: As) M oc) (cl : ClV own idx y bytes n rt1 np) (hR : fr1 + 1 ≤ fr ∧ 8 + (n + 11) + lo1 ≤ lo) (hn : As.length = np) (hst : st = As.reverse ++ (.ref (ad E k) :: rest)) (hcat : (rest.map fun v => v.category).sum ≤ 8) (d : decode cc pc = .ok (.invokevirtual idx, 3)) (kk : ∀ (r : Int64) (M1 : Mem), Kj Z E nL Qf (f r M1) M1 (pc + 3) lv (.long r :: rest)) : Kj Z E nL Qf (bd oc f) M pc lv st := by
  intro r' M' h H locs ls hP hS hl
  cases oc with
  | none => cases h
  | some q =>
    obtain ⟨r1, M1⟩ := q
    have h : f r1 M1 = some (r', M') := h
    subst hst
    subst hC
    have hrc := va_recv X.2.2.2.2.2.1.1 hP hc (a := ad E k) (q0 := k) (by rw [wl_get hk.1, cel_O hk.2 hc9])
    refine va_calll (va_runV (As := As) (rest := rest) ⟨X.1, X.2.1, X.2.2.1, X.2.2.2.1, X.2.2.2.2.1⟩ (hM r1 M1 rfl) (cwV np X.2.2.2.2.1 (goodV cl) rfl rfl rfl ⟨rfl, cl.2.2.2.2.2⟩ ⟨Nat.le_trans hR.1 X.2.2.2.2.2.2.2.2.1, Nat.le_trans hR.2 X.2.2.2.2.2.2.2.2.2⟩) ⟨WS_blind, hrc, fun U hU hW => ⟨rfl, WS_of X hP hS hU hW⟩⟩ rfl hn hl.1 rfl (lv_room hcat) d X.2.2.2.2.2.2.1.2) hS (fun q _ h => h) (fun q h => h) (fun r u t H1 locs1 ht hvm hw hB hz hkp hS1 => ?_)
    obtain ⟨rfl, rfl⟩ := hw
    exact kk r u r' M' h H1 locs1 ls (by rw [← ht]; exact hB.1) hS1 hl
theorem k_callSL {Z : ZT} {E : En} {nL : Nat} {cc : ByteArray} {own : String} {rt : Option FieldType} {fr lo : Nat} {ρ : Type} {Qf : ρ → Mem → State → Prop} {M : Mem} {pc : Nat} {lv : List (Nat × Value)} (X : Cx Z E nL cc own rt fr lo) {idx : Nat} {y : MethodName} {bytes : ByteArray} {n np : Nat} {rt1 : Option FieldType} {fr1 lo1 : Nat} {oc : Option (Int64 × Mem)} {f : Int64 → Mem → Option (ρ × Mem)} {st : List Value} (As rest : List Value) (hM : ML (zl Z) E y bytes n rt1 fr1 lo1 (As) M oc) (cl : ClS own idx y bytes n rt1 np) (hR : fr1 + 1 ≤ fr ∧ 8 + (n + 11) + lo1 ≤ lo) (hn : As.length = np) (hst : st = As.reverse ++ (rest)) (hcat : (rest.map fun v => v.category).sum ≤ 8) (d : decode cc pc = .ok (.invokestatic idx, 3)) (kk : ∀ (r : Int64) (M1 : Mem), Kj Z E nL Qf (f r M1) M1 (pc + 3) lv (.long r :: rest)) : Kj Z E nL Qf (bd oc f) M pc lv st := by
  intro r' M' h H locs ls hP hS hl
  cases oc with
  | none => cases h
  | some q =>
    obtain ⟨r1, M1⟩ := q
    have h : f r1 M1 = some (r', M') := h
    subst hst
    refine va_calll (va_runS (As := As) (rest := rest) ⟨X.1, X.2.1, X.2.2.1, X.2.2.2.1, X.2.2.2.2.1⟩ (hM r1 M1 rfl) (va_cwS np X.2.2.2.2.1 (goodS cl) rfl rfl rfl cl.2.2.2.2 ⟨Nat.le_trans hR.1 X.2.2.2.2.2.2.2.2.1, Nat.le_trans hR.2 X.2.2.2.2.2.2.2.2.2⟩) ⟨WS_blind, fun U hU hW => ⟨rfl, WS_of X hP hS hU hW⟩⟩ rfl hn hl.1 rfl (lv_room hcat) d X.2.2.2.2.2.2.1.2) hS (fun q _ h => h) (fun q h => h) (fun r u t H1 locs1 ht hvm hw hB hz hkp hS1 => ?_)
    obtain ⟨rfl, rfl⟩ := hw
    exact kk r u r' M' h H1 locs1 ls (by rw [← ht]; exact hB.1) hS1 hl
theorem k_callNL {Z : ZT} {E : En} {nL : Nat} {cc : ByteArray} {own : String} {rt : Option FieldType} {fr lo : Nat} {ρ : Type} {Qf : ρ → Mem → State → Prop} {M : Mem} {pc : Nat} {lv : List (Nat × Value)} (X : Cx Z E nL cc own rt fr lo) {idx : Nat} {y : MethodName} {bytes : ByteArray} {n np : Nat} {rt1 : Option FieldType} {fr1 lo1 : Nat} {oc : Option (Int64 × Mem)} {f : Int64 → Mem → Option (ρ × Mem)} {st : List Value} (As rest : List Value) (hM : ML (zl Z) E y bytes n rt1 fr1 lo1 (As) M oc) {host : String} (cl : ClN own idx y host bytes n rt1 np) (hR : fr1 + 1 ≤ fr ∧ 8 + (n + 11) + lo1 ≤ lo) (hn : As.length = np) (hst : st = As.reverse ++ (rest)) (hcat : (rest.map fun v => v.category).sum ≤ 8) (d : decode cc pc = .ok (.invokestatic idx, 3)) (kk : ∀ (r : Int64) (M1 : Mem), Kj Z E nL Qf (f r M1) M1 (pc + 3) lv (.long r :: rest)) : Kj Z E nL Qf (bd oc f) M pc lv st := by
  intro r' M' h H locs ls hP hS hl
  cases oc with
  | none => cases h
  | some q =>
    obtain ⟨r1, M1⟩ := q
    have h : f r1 M1 = some (r', M') := h
    subst hst
    refine va_calll (va_runSN (As := As) (rest := rest) ⟨X.1, X.2.1, X.2.2.1, X.2.2.2.1, X.2.2.2.2.1⟩ (hM r1 M1 rfl) ⟨va_cnB np X.2.2.2.2.1 (wAll_code cl.2.2.2.1) rfl rfl rfl (X.2.2.2.2.2.1.2.1 _ cl.1) (X.2.2.2.2.1 _ cl.2.2.1) cl.2.2.2.2 ⟨Nat.le_trans hR.1 X.2.2.2.2.2.2.2.2.1, Nat.le_trans hR.2 X.2.2.2.2.2.2.2.2.2⟩, X.2.2.2.2.1 _ cl.2.1, trivial⟩ ⟨WS_blind, fun U hU hW => ⟨rfl, WS_of X hP hS hU hW⟩⟩ rfl hn hl.1 rfl (lv_room hcat) d X.2.2.2.2.2.2.1.2) hS (fun q _ h => h) (fun q h => h) (fun r u t H1 locs1 ht hvm hw hB hz hkp hS1 => ?_)
    obtain ⟨rfl, rfl⟩ := hw
    exact kk r u r' M' h H1 locs1 ls (by rw [← ht]; exact hB.1) hS1 hl
theorem k_callVV {Z : ZT} {E : En} {nL : Nat} {cc : ByteArray} {own : String} {rt : Option FieldType} {fr lo : Nat} {ρ : Type} {Qf : ρ → Mem → State → Prop} {M : Mem} {pc : Nat} {lv : List (Nat × Value)} (X : Cx Z E nL cc own rt fr lo) {idx : Nat} {y : MethodName} {bytes : ByteArray} {n np : Nat} {rt1 : Option FieldType} {fr1 lo1 : Nat} {oc : Option (Unit × Mem)} {f : Unit → Mem → Option (ρ × Mem)} {st : List Value} (As rest : List Value) {k c : Nat} {C : String} {T : u_T} {N : Nat} (hk : isC k c) (hc : vwCl[c]? = some (C, T, N)) (hc9 : c < 9) (hC : y.cls = C) (hM : MV (zl Z) E y bytes n rt1 fr1 lo1 (.ref (ad E k) :: As) M oc) (cl : ClV own idx y bytes n rt1 np) (hR : fr1 + 1 ≤ fr ∧ 8 + (n + 11) + lo1 ≤ lo) (hn : As.length = np) (hst : st = As.reverse ++ (.ref (ad E k) :: rest)) (hcat : (rest.map fun v => v.category).sum ≤ 8) (d : decode cc pc = .ok (.invokevirtual idx, 3)) (kk : ∀ (r : Unit) (M1 : Mem), Kj Z E nL Qf (f r M1) M1 (pc + 3) lv (rest)) : Kj Z E nL Qf (bd oc f) M pc lv st := by
  intro r' M' h H locs ls hP hS hl
  cases oc with
  | none => cases h
  | some q =>
    obtain ⟨r1, M1⟩ := q
    have h : f r1 M1 = some (r', M') := h
    subst hst
    subst hC
    have hrc := va_recv X.2.2.2.2.2.1.1 hP hc (a := ad E k) (q0 := k) (by rw [wl_get hk.1, cel_O hk.2 hc9])
    refine va_callv (va_runV (As := As) (rest := rest) ⟨X.1, X.2.1, X.2.2.1, X.2.2.2.1, X.2.2.2.2.1⟩ (hM r1 M1 rfl) (cwV np X.2.2.2.2.1 (goodV cl) rfl rfl rfl ⟨rfl, cl.2.2.2.2.2⟩ ⟨Nat.le_trans hR.1 X.2.2.2.2.2.2.2.2.1, Nat.le_trans hR.2 X.2.2.2.2.2.2.2.2.2⟩) ⟨WS_blind, hrc, fun U hU hW => ⟨rfl, WS_of X hP hS hU hW⟩⟩ rfl hn hl.1 rfl (lv_room hcat) d X.2.2.2.2.2.2.1.2) hS (fun q _ h => h) (fun q h => h) (fun u t H1 locs1 ht hvm hw hB hz hkp hS1 => ?_)
    subst hw
    exact kk r1 u r' M' h H1 locs1 ls (by rw [← ht]; exact hB.1) hS1 hl
theorem k_callSV {Z : ZT} {E : En} {nL : Nat} {cc : ByteArray} {own : String} {rt : Option FieldType} {fr lo : Nat} {ρ : Type} {Qf : ρ → Mem → State → Prop} {M : Mem} {pc : Nat} {lv : List (Nat × Value)} (X : Cx Z E nL cc own rt fr lo) {idx : Nat} {y : MethodName} {bytes : ByteArray} {n np : Nat} {rt1 : Option FieldType} {fr1 lo1 : Nat} {oc : Option (Unit × Mem)} {f : Unit → Mem → Option (ρ × Mem)} {st : List Value} (As rest : List Value) (hM : MV (zl Z) E y bytes n rt1 fr1 lo1 (As) M oc) (cl : ClS own idx y bytes n rt1 np) (hR : fr1 + 1 ≤ fr ∧ 8 + (n + 11) + lo1 ≤ lo) (hn : As.length = np) (hst : st = As.reverse ++ (rest)) (hcat : (rest.map fun v => v.category).sum ≤ 8) (d : decode cc pc = .ok (.invokestatic idx, 3)) (kk : ∀ (r : Unit) (M1 : Mem), Kj Z E nL Qf (f r M1) M1 (pc + 3) lv (rest)) : Kj Z E nL Qf (bd oc f) M pc lv st := by
  intro r' M' h H locs ls hP hS hl
  cases oc with
  | none => cases h
  | some q =>
    obtain ⟨r1, M1⟩ := q
    have h : f r1 M1 = some (r', M') := h
    subst hst
    refine va_callv (va_runS (As := As) (rest := rest) ⟨X.1, X.2.1, X.2.2.1, X.2.2.2.1, X.2.2.2.2.1⟩ (hM r1 M1 rfl) (va_cwS np X.2.2.2.2.1 (goodS cl) rfl rfl rfl cl.2.2.2.2 ⟨Nat.le_trans hR.1 X.2.2.2.2.2.2.2.2.1, Nat.le_trans hR.2 X.2.2.2.2.2.2.2.2.2⟩) ⟨WS_blind, fun U hU hW => ⟨rfl, WS_of X hP hS hU hW⟩⟩ rfl hn hl.1 rfl (lv_room hcat) d X.2.2.2.2.2.2.1.2) hS (fun q _ h => h) (fun q h => h) (fun u t H1 locs1 ht hvm hw hB hz hkp hS1 => ?_)
    subst hw
    exact kk r1 u r' M' h H1 locs1 ls (by rw [← ht]; exact hB.1) hS1 hl
theorem k_callNV {Z : ZT} {E : En} {nL : Nat} {cc : ByteArray} {own : String} {rt : Option FieldType} {fr lo : Nat} {ρ : Type} {Qf : ρ → Mem → State → Prop} {M : Mem} {pc : Nat} {lv : List (Nat × Value)} (X : Cx Z E nL cc own rt fr lo) {idx : Nat} {y : MethodName} {bytes : ByteArray} {n np : Nat} {rt1 : Option FieldType} {fr1 lo1 : Nat} {oc : Option (Unit × Mem)} {f : Unit → Mem → Option (ρ × Mem)} {st : List Value} (As rest : List Value) (hM : MV (zl Z) E y bytes n rt1 fr1 lo1 (As) M oc) {host : String} (cl : ClN own idx y host bytes n rt1 np) (hR : fr1 + 1 ≤ fr ∧ 8 + (n + 11) + lo1 ≤ lo) (hn : As.length = np) (hst : st = As.reverse ++ (rest)) (hcat : (rest.map fun v => v.category).sum ≤ 8) (d : decode cc pc = .ok (.invokestatic idx, 3)) (kk : ∀ (r : Unit) (M1 : Mem), Kj Z E nL Qf (f r M1) M1 (pc + 3) lv (rest)) : Kj Z E nL Qf (bd oc f) M pc lv st := by
  intro r' M' h H locs ls hP hS hl
  cases oc with
  | none => cases h
  | some q =>
    obtain ⟨r1, M1⟩ := q
    have h : f r1 M1 = some (r', M') := h
    subst hst
    refine va_callv (va_runSN (As := As) (rest := rest) ⟨X.1, X.2.1, X.2.2.1, X.2.2.2.1, X.2.2.2.2.1⟩ (hM r1 M1 rfl) ⟨va_cnB np X.2.2.2.2.1 (wAll_code cl.2.2.2.1) rfl rfl rfl (X.2.2.2.2.2.1.2.1 _ cl.1) (X.2.2.2.2.1 _ cl.2.2.1) cl.2.2.2.2 ⟨Nat.le_trans hR.1 X.2.2.2.2.2.2.2.2.1, Nat.le_trans hR.2 X.2.2.2.2.2.2.2.2.2⟩, X.2.2.2.2.1 _ cl.2.1, trivial⟩ ⟨WS_blind, fun U hU hW => ⟨rfl, WS_of X hP hS hU hW⟩⟩ rfl hn hl.1 rfl (lv_room hcat) d X.2.2.2.2.2.2.1.2) hS (fun q _ h => h) (fun q h => h) (fun u t H1 locs1 ht hvm hw hB hz hkp hS1 => ?_)
    subst hw
    exact kk r1 u r' M' h H1 locs1 ls (by rw [← ht]; exact hB.1) hS1 hl
/-! the static rows; System.arraycopy -/
theorem k_gets0 {Z : ZT} {E : En} {nL : Nat} {cc : ByteArray} {own : String} {rt : Option FieldType} {fr lo : Nat} {ρ : Type} {Qf : ρ → Mem → State → Prop} {o : Option (ρ × Mem)} {M : Mem} {pc : Nat} {lv : List (Nat × Value)} {rest : List Value} (X : Cx Z E nL cc own rt fr lo) {idx : Nat} (hw : Cond.fieldLink own idx "FilmCans" "LAW_LEAST" "[I" ∈ wAll) (d : decode cc pc = .ok (.getstatic idx, 3)) (k : Kj Z E nL Qf o M (pc + 3) lv (.ref (E.2.2.2 0) :: rest)) : Kj Z E nL Qf o M pc lv rest :=
  fun r M' h H locs ls hP hS hl => va_gets X.1 X.2.1 X.2.2.2.2.2.1.2.2.2.1.1 hS X.2.2.2.1 (X.2.2.2.2.1 _ hw) (fun _ q => q) d (k r M' h H locs ls hP hS hl)
theorem k_getsN0 {Z : ZT} {E : En} {nL : Nat} {cc : ByteArray} {own : String} {rt : Option FieldType} {fr lo : Nat} {ρ : Type} {Qf : ρ → Mem → State → Prop} {o : Option (ρ × Mem)} {M : Mem} {pc : Nat} {lv : List (Nat × Value)} {rest : List Value} (X : Cx Z E nL cc own rt fr lo) {idx : Nat} {host : String} (hw : (own, idx, "FilmCans", "LAW_LEAST", "[I", host) ∈ nfL) (d : decode cc pc = .ok (.getstatic idx, 3)) (k : Kj Z E nL Qf o M (pc + 3) lv (.ref (E.2.2.2 0) :: rest)) : Kj Z E nL Qf o M pc lv rest :=
  fun r M' h H locs ls hP hS hl => va_getsN X.1 X.2.1 X.2.2.2.2.2.1.2.2.2.1.1 hS X.2.2.2.1 (va_Nw.use rfl (X.2.2.2.2.2.1.2.2.1 _ hw)) (fun _ q => q) d (k r M' h H locs ls hP hS hl)
theorem k_st0 {Z : ZT} {E : En} {nL : Nat} {cc : ByteArray} {own : String} {rt : Option FieldType} {fr lo : Nat} {ρ : Type} {Qf : ρ → Mem → State → Prop} {o : Option (ρ × Mem)} {M : Mem} {pc : Nat} {lv : List (Nat × Value)} {rest : List Value} (X : Cx Z E nL cc own rt fr lo) {i : Int32} (d : decode cc pc = .ok (.iaload, 1)) (k : inb i 4 = true → Kj Z E nL Qf o M (pc + 1) lv (.int (cLL (ix i)) :: rest)) : Kj Z E nL Qf (gd (inb i 4) o) M pc lv (.int i :: .ref (E.2.2.2 0) :: rest) := by
  intro r M' h H locs ls hP hS hl
  by_cases hi : inb i 4 = true
  · simp only [gd, hi, if_true] at h
    exact va_ti X.1 X.2.1 X.2.2.2.2.2.1.2.2.2.1.2 hS (inb_in hi) rfl d (k hi r M' h H locs ls hP hS hl)
  · simp only [gd, hi] at h; cases h
theorem k_gets1 {Z : ZT} {E : En} {nL : Nat} {cc : ByteArray} {own : String} {rt : Option FieldType} {fr lo : Nat} {ρ : Type} {Qf : ρ → Mem → State → Prop} {o : Option (ρ × Mem)} {M : Mem} {pc : Nat} {lv : List (Nat × Value)} {rest : List Value} (X : Cx Z E nL cc own rt fr lo) {idx : Nat} (hw : Cond.fieldLink own idx "FilmCans" "LAW_MOST" "[I" ∈ wAll) (d : decode cc pc = .ok (.getstatic idx, 3)) (k : Kj Z E nL Qf o M (pc + 3) lv (.ref (E.2.2.2 1) :: rest)) : Kj Z E nL Qf o M pc lv rest :=
  fun r M' h H locs ls hP hS hl => va_gets X.1 X.2.1 X.2.2.2.2.2.1.2.2.2.2.1.1 hS X.2.2.2.1 (X.2.2.2.2.1 _ hw) (fun _ q => q) d (k r M' h H locs ls hP hS hl)
theorem k_getsN1 {Z : ZT} {E : En} {nL : Nat} {cc : ByteArray} {own : String} {rt : Option FieldType} {fr lo : Nat} {ρ : Type} {Qf : ρ → Mem → State → Prop} {o : Option (ρ × Mem)} {M : Mem} {pc : Nat} {lv : List (Nat × Value)} {rest : List Value} (X : Cx Z E nL cc own rt fr lo) {idx : Nat} {host : String} (hw : (own, idx, "FilmCans", "LAW_MOST", "[I", host) ∈ nfL) (d : decode cc pc = .ok (.getstatic idx, 3)) (k : Kj Z E nL Qf o M (pc + 3) lv (.ref (E.2.2.2 1) :: rest)) : Kj Z E nL Qf o M pc lv rest :=
  fun r M' h H locs ls hP hS hl => va_getsN X.1 X.2.1 X.2.2.2.2.2.1.2.2.2.2.1.1 hS X.2.2.2.1 (va_Nw.use rfl (X.2.2.2.2.2.1.2.2.1 _ hw)) (fun _ q => q) d (k r M' h H locs ls hP hS hl)
theorem k_st1 {Z : ZT} {E : En} {nL : Nat} {cc : ByteArray} {own : String} {rt : Option FieldType} {fr lo : Nat} {ρ : Type} {Qf : ρ → Mem → State → Prop} {o : Option (ρ × Mem)} {M : Mem} {pc : Nat} {lv : List (Nat × Value)} {rest : List Value} (X : Cx Z E nL cc own rt fr lo) {i : Int32} (d : decode cc pc = .ok (.iaload, 1)) (k : inb i 4 = true → Kj Z E nL Qf o M (pc + 1) lv (.int (cLM (ix i)) :: rest)) : Kj Z E nL Qf (gd (inb i 4) o) M pc lv (.int i :: .ref (E.2.2.2 1) :: rest) := by
  intro r M' h H locs ls hP hS hl
  by_cases hi : inb i 4 = true
  · simp only [gd, hi, if_true] at h
    exact va_ti X.1 X.2.1 X.2.2.2.2.2.1.2.2.2.2.1.2 hS (inb_in hi) rfl d (k hi r M' h H locs ls hP hS hl)
  · simp only [gd, hi] at h; cases h
theorem k_gets2 {Z : ZT} {E : En} {nL : Nat} {cc : ByteArray} {own : String} {rt : Option FieldType} {fr lo : Nat} {ρ : Type} {Qf : ρ → Mem → State → Prop} {o : Option (ρ × Mem)} {M : Mem} {pc : Nat} {lv : List (Nat × Value)} {rest : List Value} (X : Cx Z E nL cc own rt fr lo) {idx : Nat} (hw : Cond.fieldLink own idx "FilmCans$Kinds" "IS" "[I" ∈ wAll) (d : decode cc pc = .ok (.getstatic idx, 3)) (k : Kj Z E nL Qf o M (pc + 3) lv (.ref (E.2.2.2 2) :: rest)) : Kj Z E nL Qf o M pc lv rest :=
  fun r M' h H locs ls hP hS hl => va_gets X.1 X.2.1 X.2.2.2.2.2.1.2.2.2.2.2.1.1 hS X.2.2.2.1 (X.2.2.2.2.1 _ hw) (fun _ q => q) d (k r M' h H locs ls hP hS hl)
theorem k_st2 {Z : ZT} {E : En} {nL : Nat} {cc : ByteArray} {own : String} {rt : Option FieldType} {fr lo : Nat} {ρ : Type} {Qf : ρ → Mem → State → Prop} {o : Option (ρ × Mem)} {M : Mem} {pc : Nat} {lv : List (Nat × Value)} {rest : List Value} (X : Cx Z E nL cc own rt fr lo) {i : Int32} (d : decode cc pc = .ok (.iaload, 1)) (k : inb i 6 = true → Kj Z E nL Qf o M (pc + 1) lv (.int (cIS (ix i)) :: rest)) : Kj Z E nL Qf (gd (inb i 6) o) M pc lv (.int i :: .ref (E.2.2.2 2) :: rest) := by
  intro r M' h H locs ls hP hS hl
  by_cases hi : inb i 6 = true
  · simp only [gd, hi, if_true] at h
    exact va_ti X.1 X.2.1 X.2.2.2.2.2.1.2.2.2.2.2.1.2 hS (inb_in hi) rfl d (k hi r M' h H locs ls hP hS hl)
  · simp only [gd, hi] at h; cases h
theorem k_stlen2 {Z : ZT} {E : En} {nL : Nat} {cc : ByteArray} {own : String} {rt : Option FieldType} {fr lo : Nat} {ρ : Type} {Qf : ρ → Mem → State → Prop} {o : Option (ρ × Mem)} {M : Mem} {pc : Nat} {lv : List (Nat × Value)} {rest : List Value} (X : Cx Z E nL cc own rt fr lo) (d : decode cc pc = .ok (.arraylength, 1)) (k : Kj Z E nL Qf o M (pc + 1) lv (.int 6 :: rest)) : Kj Z E nL Qf o M pc lv (.ref (E.2.2.2 2) :: rest) :=
  fun r M' h H locs ls hP hS hl => va_tlen X.1 X.2.1 X.2.2.2.2.2.1.2.2.2.2.2.1.2 hS rfl d (k r M' h H locs ls hP hS hl)
theorem k_gets3 {Z : ZT} {E : En} {nL : Nat} {cc : ByteArray} {own : String} {rt : Option FieldType} {fr lo : Nat} {ρ : Type} {Qf : ρ → Mem → State → Prop} {o : Option (ρ × Mem)} {M : Mem} {pc : Nat} {lv : List (Nat × Value)} {rest : List Value} (X : Cx Z E nL cc own rt fr lo) {idx : Nat} (hw : Cond.fieldLink own idx "FilmCans$Reach" "WITHOUT" "[J" ∈ wAll) (d : decode cc pc = .ok (.getstatic idx, 3)) (k : Kj Z E nL Qf o M (pc + 3) lv (.ref (E.2.2.2 3) :: rest)) : Kj Z E nL Qf o M pc lv rest :=
  fun r M' h H locs ls hP hS hl => va_gets X.1 X.2.1 X.2.2.2.2.2.1.2.2.2.2.2.2.1 hS X.2.2.2.1 (X.2.2.2.2.1 _ hw) (fun _ q => q) d (k r M' h H locs ls hP hS hl)
theorem k_st3 {Z : ZT} {E : En} {nL : Nat} {cc : ByteArray} {own : String} {rt : Option FieldType} {fr lo : Nat} {ρ : Type} {Qf : ρ → Mem → State → Prop} {o : Option (ρ × Mem)} {M : Mem} {pc : Nat} {lv : List (Nat × Value)} {rest : List Value} (X : Cx Z E nL cc own rt fr lo) {i : Int32} (d : decode cc pc = .ok (.laload, 1)) (k : inb i 6 = true → Kj Z E nL Qf o M (pc + 1) lv (.long (cWO (ix i)) :: rest)) : Kj Z E nL Qf (gd (inb i 6) o) M pc lv (.int i :: .ref (E.2.2.2 3) :: rest) := by
  intro r M' h H locs ls hP hS hl
  by_cases hi : inb i 6 = true
  · simp only [gd, hi, if_true] at h
    exact va_tl X.1 X.2.1 X.2.2.2.2.2.1.2.2.2.2.2.2.2 hS (inb_in hi) rfl d (k hi r M' h H locs ls hP hS hl)
  · simp only [gd, hi] at h; cases h
theorem k_copy {Z : ZT} {E : En} {nL : Nat} {cc : ByteArray} {own : String} {rt : Option FieldType} {fr lo : Nat} {ρ : Type} {Qf : ρ → Mem → State → Prop} {o : Option (ρ × Mem)} {M : Mem} {pc : Nat} {lv : List (Nat × Value)} {rest : List Value} (X : Cx Z E nL cc own rt fr lo) {idx a0 a n0 n1 : Nat} {sp dp n : Int32} (sn dn nn : Nat) (hw : Cond.methodLink own idx arraycopyName ∈ wAll) (hw1 : Cond.native arraycopyName ∈ wAll) (hw2 : Cond.static arraycopyName ∈ wAll) (hw3 : Cond.initialized "java/lang/System" ∈ wAll) (hk0 : isC a0 9) (hk : isC a 9) (hn0 : ln a0 = n0) (hn1 : ln a = n1) (h1 : ¬ sp < 0) (h2 : ¬ dp < 0) (h3 : ¬ n < 0) (e1 : sp.toNatClampNeg = sn) (e2 : dp.toNatClampNeg = dn) (e3 : n.toNatClampNeg = nn) (h4 : sn + nn ≤ n0) (h5 : dn + nn ≤ n1) (hfr : 1 ≤ fr) (hlo : (rest.map fun v => v.category).sum + 18 ≤ lo) (d : decode cc pc = .ok (.invokestatic idx, 3)) (k : Kj Z E nL Qf o (cpI M a0 sn a dn nn) (pc + 3) lv rest) : Kj Z E nL Qf o M pc lv (.int n :: .int dp :: .ref (ad E a) :: .int sp :: .ref (ad E a0) :: rest) := by
  intro r M' h H locs ls hP hS hl
  subst e1; subst e2; subst e3; subst hn0; subst hn1
  refine va_copyi (D := E.1) (f := M.1 a0) (g := M.1 a) (ty := .int) X.1 X.2.1 (X.2.2.1.trans hl.1.symm) X.2.2.2.1 (X.2.2.2.2.1 _ hw) (X.2.2.2.2.1 _ hw1) (X.2.2.2.2.1 _ hw2) (X.2.2.2.2.1 _ hw3) X.2.2.2.2.2.1.1 hP wl_D hS a0 a 0 0 (by rw [wl_get hk0.1, cel_I hk0.2]) (by rw [wl_get hk.1, cel_I hk.2]) rfl rfl rfl h1 h2 h3 h4 h5 (fun _ _ => rfl) (Nat.le_trans hfr X.2.2.2.2.2.2.2.2.1) (Nat.le_trans hlo X.2.2.2.2.2.2.2.2.2) d (fun H1 locs1 hP1 _ hS1 => ?_)
  rw [wl_cp (a0 := a0) (sp := sp.toNatClampNeg) (dp := dp.toNatClampNeg) (q := n.toNatClampNeg) (by rw [cel_I hk.2]; congr 4; funext z; simp [cpI])] at hP1
  exact k r M' h H1 locs1 ls hP1 hS1 hl
