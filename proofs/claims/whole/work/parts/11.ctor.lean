/-! the world as it grows: n cells are there, P tells the references, what is not there yet is blank -/
abbrev PT : Type := Nat → Nat → Option Nat
def uP (P : PT) (k f t : Nat) : PT := fun a g => if a = k ∧ g = f then some t else P a g
def uR (P : PT) (k m t : Nat) : PT := fun a g => if a = k then (if g < m then some (t + g) else none) else P a g
def Fr (n : Nat) (P : PT) (M : Mem) : Prop := ∀ j, n ≤ j → (∀ f, P j f = none) ∧ (∀ i, M.1 j i = 0) ∧ ∀ i, M.2 j i = 0
def HW (E : En) (n : Nat) (P : PT) (M : Mem) (s : State) (H : Heap) (locs : List Loc) : Prop := va_P E.1 vwCl (wl E n P M) H ∧ H.size = E.2.1 + n ∧ va_S (AE E) s.heap H locs ∧ Fr n P M
def AO (U : State) : Prop := va_AO "FilmCans$Day" U ∧ (Cond.arrayOver (.array .int)).before #[] U = true
theorem AO.moved {u U : State} (h : u.vm.Alike U.vm) (a : AO u) : AO U := ⟨a.1.moved h, by
  have h1 : (Cond.arrayOver (.array .int)).before #[] (u.setVm U.vm) = true := by rw [Cond.arrayOver_setVmC h]; exact a.2
  exact h1⟩
def WC (E : En) (n : Nat) (P : PT) (M : Mem) (U : State) : Prop := va_P E.1 vwCl (wl E n P M) U.heap ∧ U.heap.size = E.2.1 + n ∧ VS E U U.heap ∧ AO U ∧ Fr n P M
abbrev WW (Z : ZT) (H : Heap) (locs : List Loc) (cl sl : Nat) (Q : State → Prop) (pc : Nat) (ls : Array Slot) (st : List Value) : Prop := W (zp Z) (zl Z) (ze Z) (zR Z) (zs Z) (zm Z) (za Z) (zb Z) (zt Z) (zc Z) H locs cl sl Q (F0 (zm Z) pc ls st)
def CC (E : En) (n : Nat) (P : PT) (M : Mem) : Array Value → State → Outcome → State → Prop := va_Qv (fun (u : PT × Mem) => u = (P, M)) (fun u t => WC E n u.1 u.2 t) (AE E)
def QC (Z : ZT) (E : En) (n : Nat) (P : PT) (M : Mem) (mc ms : Nat) : State → Prop := MQ (zb Z) (CC E n P M) (za Z) (zs Z) mc ms (AE E)
abbrev rmC (fr mc ms lo : Nat) : Room := { frames := fr, cells := mc, slots := ms, locals := lo }
def MC (l : Launch) (E : En) (y : MethodName) (bytes : ByteArray) (nL fr lo mc ms k n0 : Nat) (P : PT) (M : Mem) (n1 : Nat) (P1 : PT) (M1 : Mem) : Prop := Met l y (Cond.code y bytes nL none :: wAll) (rmC fr mc ms lo) (va_Pc [.ref (ad E k)] (WC E n0 P M)) (CC E n1 P1 M1) mc ms (AE E)
theorem wl_push {E : En} {n : Nat} {P : PT} {M : Mem} {H H1 : Heap} (hP : va_P E.1 vwCl (wl E n P M) H) (ho : ∀ q : Nat, q < H.size → H1[q]? = H[q]?) (hn : va_at E.1 vwCl (ad E n, cel E P M n) H1) : va_P E.1 vwCl (wl E (n + 1) P M) H1 := by
  intro k q hk
  have hlt : k < n + 1 := by have := (List.getElem?_eq_some_iff.mp hk).1; rwa [wl_len] at this
  rw [wl_get hlt] at hk
  cases hk
  by_cases h : k < n
  · have h1 := hP k _ (wl_get h)
    exact h1.kept (ho _ h1.lt)
  · have : k = n := by omega
    subst this
    exact hn
theorem va_S.grow {A : Nat → Prop} {H0 H H1 : Heap} {locs : List Loc} (hS : va_S A H0 H locs) (hz : H.size ≤ H1.size) (ho : ∀ q : Nat, q < H.size → H1[q]? = H[q]?) : va_S A H0 H1 locs := ⟨Nat.le_trans hS.1 hz, fun x h1 h2 => (ho x (Nat.lt_of_lt_of_le h1 hS.1)).trans (hS.2.1 x h1 h2), hS.2.2⟩
theorem Fr.mono {n m : Nat} {P : PT} {M : Mem} (h : Fr n P M) (hm : n ≤ m) : Fr m P M := fun j hj => h j (Nat.le_trans hm hj)
theorem Fr.uP {n k f t : Nat} {P : PT} {M : Mem} (h : Fr n P M) (hk : k < n) : Fr n (uP P k f t) M := fun j hj => by
  have hjk : ¬ j = k := by omega
  refine ⟨fun g => ?_, (h j hj).2⟩
  show (if j = k ∧ g = f then some t else P j g) = none
  rw [if_neg (fun q => hjk q.1)]
  exact (h j hj).1 g
theorem Fr.uI {n k i : Nat} {v : Int32} {P : PT} {M : Mem} (h : Fr n P M) (hk : k < n) : Fr n P (uI M k i v) := fun j hj => ⟨(h j hj).1, fun g => by rw [uI_ne (by omega : j ≠ k)]; exact (h j hj).2.1 g, (h j hj).2.2⟩
theorem w_new {Z : ZT} {E : En} {nL : Nat} {cc : ByteArray} {own : String} {rt : Option FieldType} {fr lo : Nat} {H : Heap} {locs : List Loc} {cl sl : Nat} {Q : State → Prop} {pc : Nat} {ls : Array Slot} {rest : List Value} {n : Nat} {P : Nat → Nat → Option Nat} {M : Mem} (X : Cx Z E nL cc own rt fr lo) (hH : HW E n P M (zs Z) H locs) {c idx N : Nat} {C : String} {T : u_T} (hk : kd n = c) (h9 : c < 9) (hc : vwCl[c]? = some (C, T, N)) (hN : nfl c = N) (uw : ∀ w ∈ u_ws C T N, w ∈ wAll) (ty : Nat → FieldType) (hty : ∀ k, k < N → parseFieldDescriptor (T k).2.2.1 = some (ty k)) (hdf : ∀ j, j < N → defaultValue (ty j) = if fint c j = true then .int 0 else .null) (w1 : Cond.classLink own idx C ∈ wAll) (w2 : Cond.instantiable C N ∈ wAll) (w3 : Cond.initialized C ∈ wAll) (r1 : cl + 1 ≤ (zR Z).cells) (r2 : sl + N ≤ (zR Z).slots) (d : decode cc pc = .ok (.new idx, 3)) (kk : ∀ H1, HW E (n + 1) P M (zs Z) H1 locs → WW Z H1 locs (cl + 1) (sl + N) Q (pc + 3) ls (.ref (ad E n) :: rest)) : WW Z H locs cl sl Q pc ls rest := by
  obtain ⟨hP, hz, hS, hF⟩ := hH
  have hKn := X.2.2.2.2.2.1.1.1 c _ hc
  refine W.newcK X.1 X.2.1 X.2.2.2.1 (X.2.2.2.2.1 _ w1) (X.2.2.2.2.1 _ w2) (X.2.2.2.2.1 _ w3) rfl d r1 r2 hKn.2.1 hz (fun H1 kC hkC e1 z1 o1 => kk H1 ⟨wl_push hP (by rw [hz]; exact o1) ?_, by rw [z1]; omega, hS.grow (by omega) (by rw [hz]; exact o1), hF.mono (by omega)⟩)
  rw [cel_O hk h9]
  refine ⟨_, hc, (u_born ty X.2.2.2.2.1 uw hKn hkC e1 hty).to (fun j hj => ?_)⟩
  rw [hdf j hj]
  have h1 := (hF n (Nat.le_refl _)).1 j
  have h2 := (hF n (Nat.le_refl _)).2.1 j
  simp [vp_V, hN, hj, h1, h2, va_rf]
theorem cel_uP {E : En} {P : PT} {M : Mem} {k f t j : Nat} (hj : j ≠ k) : cel E (uP P k f t) M j = cel E P M j := by
  have h1 : ∀ g, uP P k f t j g = P j g := fun g => by
    show (if j = k ∧ g = f then some t else P j g) = P j g
    rw [if_neg (fun q => hj q.1)]
  simp only [cel, h1]
theorem cel_putR {E : En} {P : PT} {M : Mem} {k c f t : Nat} (hk : kd k = c) (h9 : c < 9) (hf : f < nfl c) (hi : fint c f = false) : cel E (uP P k f t) M k = .inr (c, ((List.range (nfl c)).map (fun f => if fint c f = true then Value.int (M.1 k f) else va_rf ((P k f).map (ad E)))).set f (.ref (ad E t))) := by
  rw [cel_O hk h9]
  congr 2
  apply List.ext_getElem?
  intro j
  rw [List.getElem?_set]
  by_cases hj : f = j
  · subst hj
    simp [hf, hi, uP, va_rf]
  · rw [if_neg hj]
    by_cases hk2 : j < nfl c
    · simp [hk2, uP, Ne.symm hj]
    · simp [hk2]
theorem w_putR {Z : ZT} {E : En} {nL : Nat} {cc : ByteArray} {own : String} {rt : Option FieldType} {fr lo : Nat} {H : Heap} {locs : List Loc} {cl sl : Nat} {Q : State → Prop} {pc : Nat} {ls : Array Slot} {rest : List Value} {n : Nat} {P : Nat → Nat → Option Nat} {M : Mem} (X : Cx Z E nL cc own rt fr lo) (hH : HW E n P M (zs Z) H locs) {k c f idx N t : Nat} {C : String} {T : u_T} (hkn : k < n) (hk : kd k = c) (h9 : c < 9) (hc : vwCl[c]? = some (C, T, N)) (hN : nfl c = N) (uw : ∀ w ∈ u_ws C T N, w ∈ wAll) (ty : Nat → FieldType) (hty : ∀ k, k < N → parseFieldDescriptor (T k).2.2.1 = some (ty k)) (hnm : ∀ a, a < N → ∀ b, b < N → a ≠ b → (T a).2.1 ≠ (T b).2.1) (hf : f < N) (hi : fint c f = false) (hw : Cond.fieldLink own idx (T f).1 (T f).2.1 (T f).2.2.1 ∈ wAll) (hfin : (T f).2.2.2 = true) (hin : (zt Z).name = "<init>") (hdecl : (T f).1 = own) {fty : FieldType} (hd : parseFieldDescriptor (T f).2.2.1 = some fty) (hnr : narrow fty (.ref (ad E t)) = .ref (ad E t)) (hft : fits fty (.ref (ad E t)) = true) (d : decode cc pc = .ok (.putfield idx, 3)) (kk : ∀ H1 locs1, HW E n (uP P k f t) M (zs Z) H1 locs1 → WW Z H1 locs1 cl sl Q (pc + 3) ls rest) : WW Z H locs cl sl Q pc ls (.ref (ad E t) :: .ref (ad E k) :: rest) := by
  obtain ⟨hP, hz, hS, hF⟩ := hH
  have hK := X.2.2.2.2.2.1.1
  have hts := X.2.2.2.2.1
  have hap := va_apart (own := own) hts uw ty hty hnm hK hc
  have he : (wl E n P M)[k]? = some (ad E k, .inr (c, (List.range (nfl c)).map (fun f => if fint c f = true then .int (M.1 k f) else va_rf ((P k f).map (ad E))))) := by rw [wl_get hkn, cel_O hk h9]
  obtain ⟨r, h1, cell, q1, q2, q3, q4⟩ := hP k _ he
  have hr : r = (C, T, N) := Option.some.inj (h1.symm.trans hc)
  subst hr
  obtain ⟨hSl, hfc, kC, hkC, hkind⟩ := hK.1 c _ hc
  obtain ⟨cf, kf, fi, fd, hfi, hsl⟩ := hSl f hf
  have hlay := hts _ (uw _ (u_in_lay hf))
  unfold u_lay at hlay
  rw [if_pos hfin] at hlay
  have hst := (u_facts hfc hkC (u_lays hts uw hf) hfi).1
  have hcf : (zm Z).cls = cf := by
    obtain ⟨_, _, c', _, _, _, -, -, hf', -, -, -, hown2, -⟩ := Cond.laysFinal_spec hlay
    have e1 : c' = cf := by have := hfi.symm.trans hf'; simp at this; exact this.1.symm
    rw [hdecl] at hown2
    rw [← e1]; exact Option.some.inj (X.2.2.2.1.symm.trans hown2)
  have h6 := u_fits hfc hkC hkind (Or.inr hlay) hfi hd hnr hft
  refine W.putFinK X.1 X.2.1 X.2.2.2.1 (hts _ hw) hfi hst hcf hin (by rw [q2]; exact h6) q1 q3 (by rw [hsl]; exact k2_hasslot (q4 f hf)) rfl rfl d fun H1 e1 e2 e3 => ?_
  rw [hsl] at e1 ⊢
  have hP1 := hP.set wl_D he (e := .inr (c, ((List.range (nfl c)).map (fun f => if fint c f = true then Value.int (M.1 k f) else va_rf ((P k f).map (ad E)))).set f (.ref (ad E t)))) ⟨_, hc, t_OB.to ⟨_, e1, q2, q3, t_set q4 hap hf (.ref (ad E t))⟩ (fun j _ => vp_updV_set (by simp [hN, hf]) (.ref (ad E t)) j)⟩ e3
  rw [wl_set (P' := uP P k f t) (M' := M) (fun j hj => cel_uP hj) (cel_putR hk h9 (by rw [hN]; exact hf) hi)] at hP1
  exact kk H1 _ ⟨hP1, by rw [e2, hz], hS.put e2 e3 (wl_D.2 k _ he), hF.uP hkn⟩
theorem w_putI {Z : ZT} {E : En} {nL : Nat} {cc : ByteArray} {own : String} {rt : Option FieldType} {fr lo : Nat} {H : Heap} {locs : List Loc} {cl sl : Nat} {Q : State → Prop} {pc : Nat} {ls : Array Slot} {rest : List Value} {n : Nat} {P : Nat → Nat → Option Nat} {M : Mem} (X : Cx Z E nL cc own rt fr lo) (hH : HW E n P M (zs Z) H locs) {k c f idx : Nat} {v : Int32} (hkn : k < n) (hk : kd k = c) (fl : FlI own idx c f) (d : decode cc pc = .ok (.putfield idx, 3)) (kk : ∀ H1 locs1, HW E n P (uI M k f v) (zs Z) H1 locs1 → WW Z H1 locs1 cl sl Q (pc + 3) ls rest) : WW Z H locs cl sl Q pc ls (.int v :: .ref (ad E k) :: rest) := by
  obtain ⟨hP, hz, hS, hF⟩ := hH
  obtain ⟨C, T, N, ty, hc, uw, hty, hnm, hf, hN, hi, hw, hfin, hd, h9⟩ := fl
  have hK := X.2.2.2.2.2.1.1
  have hts := X.2.2.2.2.1
  have hap := va_apart (own := own) hts uw ty hty hnm hK hc
  have he : (wl E n P M)[k]? = some (ad E k, .inr (c, (List.range (nfl c)).map (fun f => if fint c f = true then .int (M.1 k f) else va_rf ((P k f).map (ad E))))) := by rw [wl_get hkn, cel_O hk h9]
  obtain ⟨r, h1, cell, q1, q2, q3, q4⟩ := hP k _ he
  have hr : r = (C, T, N) := Option.some.inj (h1.symm.trans hc)
  subst hr
  obtain ⟨hSl, hfc, kC, hkC, hkind⟩ := hK.1 c _ hc
  obtain ⟨cf, kf, fi, fd, hfi, hsl⟩ := hSl f hf
  have hlay := hts _ (uw _ (u_in_lay hf))
  unfold u_lay at hlay
  rw [if_neg (by rw [hfin]; decide)] at hlay
  have hst := (u_facts hfc hkC (u_lays hts uw hf) hfi).1
  have h6 := u_store (v := .int v) hfc hkC hkind hlay hfi hd rfl rfl
  refine W.putK X.1 X.2.1 (f := fd) ⟨X.2.2.2.1, hts _ hw, ⟨_, _, _, hfi⟩, hst⟩ (by rw [q2]; exact h6) q1 q3 (by rw [hsl]; exact k2_hasslot (q4 f hf)) rfl rfl d fun H1 e1 e2 e3 => ?_
  rw [hsl] at e1 ⊢
  have hP1 := hP.set wl_D he (e := .inr (c, ((List.range (nfl c)).map (fun f => if fint c f = true then Value.int (M.1 k f) else va_rf ((P k f).map (ad E)))).set f (.int v))) ⟨_, hc, t_OB.to ⟨_, e1, q2, q3, t_set q4 hap hf (.int v)⟩ (fun j _ => vp_updV_set (by simp [hN, hf]) (.int v) j)⟩ e3
  rw [wl_uI (cel_putI hk h9 (by rw [hN]; exact hf) hi)] at hP1
  exact kk H1 _ ⟨hP1, by rw [e2, hz], hS.put e2 e3 (wl_D.2 k _ he), hF.uI hkn⟩
theorem w_getR {Z : ZT} {E : En} {nL : Nat} {cc : ByteArray} {own : String} {rt : Option FieldType} {fr lo : Nat} {H : Heap} {locs : List Loc} {cl sl : Nat} {Q : State → Prop} {pc : Nat} {ls : Array Slot} {rest : List Value} {n : Nat} {P : Nat → Nat → Option Nat} {M : Mem} (X : Cx Z E nL cc own rt fr lo) (hH : HW E n P M (zs Z) H locs) {k c f idx t : Nat} (hkn : k < n) (hk : kd k = c) (fl : FlR own idx c f) (hr : P k f = some t) (d : decode cc pc = .ok (.getfield idx, 3)) (kk : WW Z H locs cl sl Q (pc + 3) ls (.ref (ad E t) :: rest)) : WW Z H locs cl sl Q pc ls (.ref (ad E k) :: rest) := by
  obtain ⟨hP, hz, hS, hF⟩ := hH
  obtain ⟨C, T, N, h1, h2, h5, h6, h7, h8, h11⟩ := fl
  refine va_get (D := E.1) (ci := c) (v := .ref (ad E t)) X.1 X.2.1 X.2.2.2.2.1 h2 X.2.2.2.1 X.2.2.2.2.2.1.1 hP k (by rw [wl_get hkn, cel_O hk h11]) h1 f h5 (X.2.2.2.2.1 _ h8) (fun _ q => q) ?_ d kk
  simp [h6, h5, h7, hr, va_rf]
theorem w_iast {Z : ZT} {E : En} {nL : Nat} {cc : ByteArray} {own : String} {rt : Option FieldType} {fr lo : Nat} {H : Heap} {locs : List Loc} {cl sl : Nat} {Q : State → Prop} {pc : Nat} {ls : Array Slot} {rest : List Value} {n : Nat} {P : Nat → Nat → Option Nat} {M : Mem} (X : Cx Z E nL cc own rt fr lo) (hH : HW E n P M (zs Z) H locs) {k N : Nat} {i v : Int32} (j : Nat) (hkn : k < n) (hk : kd k = 9) (hn : ln k = N) (hi : inb i N = true) (hj : ix i = j) (d : decode cc pc = .ok (.iastore, 1)) (kk : ∀ H1 locs1, HW E n P (uI M k j v) (zs Z) H1 locs1 → WW Z H1 locs1 cl sl Q (pc + 1) ls rest) : WW Z H locs cl sl Q pc ls (.int v :: .int i :: .ref (ad E k) :: rest) := by
  obtain ⟨hP, hz, hS, hF⟩ := hH
  subst hn
  subst hj
  have he : (wl E n P M)[k]? = some (ad E k, .inl (E.2.2.1 0, ln k, .inl (M.1 k))) := by rw [wl_get hkn, cel_I hk]
  have hin := inb_in hi
  refine W.iast X.1 X.2.1 (hP k _ he) ((X.2.2.2.2.2.1.1.2 0 (E.2.2.1 0, .int) rfl).1 (ln k) (fun j => .int (M.1 k j))) (fun q => by cases q) (by show ¬ (i < 0 ∨ (arrV _ _ _).slots.size ≤ _); rw [arrV_size]; exact hin) rfl rfl d fun H1 e z oq => ?_
  have hP1 := hP.set wl_D he (e := .inl (E.2.2.1 0, ln k, .inl (upd (M.1 k) (ix i) v))) (by
    show H1[ad E k]? = some (vp_cell _ _)
    rw [e]
    rw [vp_cell_i, vp_cell_i, arrV_store]
    congr 2
    funext q
    by_cases hq : q = i.toNatClampNeg
    · subst hq
      simp [updV, upd, ix]
    · simp [updV, upd, hq, ix]) oq
  rw [wl_uI (i := ix i) (v := v) (by rw [cel_I hk, uI_eq])] at hP1
  exact kk H1 _ ⟨hP1, by rw [z, hz], hS.put z oq (wl_D.2 k _ he), hF.uI hkn⟩
theorem w_aast {Z : ZT} {E : En} {nL : Nat} {cc : ByteArray} {own : String} {rt : Option FieldType} {fr lo : Nat} {H : Heap} {locs : List Loc} {cl sl : Nat} {Q : State → Prop} {pc : Nat} {ls : Array Slot} {rest : List Value} {n : Nat} {P : Nat → Nat → Option Nat} {M : Mem} (X : Cx Z E nL cc own rt fr lo) (hH : HW E n P M (zs Z) H locs) {k N t : Nat} {i : Int32} (hkn : k < n) (hk : kd k = 12) (hn : ln k = N) (htn : t < n) (ht : kd t = 1) (j : Nat) (hi : inb i N = true) (hj : ix i = j) (d : decode cc pc = .ok (.aastore, 1)) (kk : ∀ H1 locs1, HW E n (uP P k j t) M (zs Z) H1 locs1 → WW Z H1 locs1 cl sl Q (pc + 1) ls rest) : WW Z H locs cl sl Q pc ls (.ref (ad E t) :: .int i :: .ref (ad E k) :: rest) := by
  obtain ⟨hP, hz, hS, hF⟩ := hH
  subst hn
  subst hj
  have hK := X.2.2.2.2.2.1.1
  have he : (wl E n P M)[k]? = some (ad E k, .inl (E.2.2.1 3, ln k, .inr (.inr (.inr (.inr (fun j => (P k j).map (ad E))))))) := by rw [wl_get hkn, cel_Y hk]
  have hv : (wl E n P M)[t]? = some (ad E t, .inr (1, (List.range (nfl 1)).map (fun f => if fint 1 f = true then .int (M.1 t f) else va_rf ((P t f).map (ad E))))) := by rw [wl_get htn, cel_O ht (by decide)]
  have hin := inb_in hi
  have hlt : i.toNatClampNeg < ln k := Nat.not_le.mp fun q => hin (Or.inr q)
  have h0 : ¬ i < 0 := fun q => hin (Or.inl q)
  obtain ⟨r', hr', cellV, g1, g2, g3, -⟩ := hP t _ hv
  have hc : vwCl[1]? = some (RX1, TX1, 20) := rfl
  have hcls := (hK.1 1 _ hc).2
  obtain ⟨kA, comp, k1, k2, k3, -⟩ := (hK.2 3 (E.2.2.1 3, .object "FilmCans$Day") rfl).2
  have hcomp : comp = E.1.1 1 := Option.some.inj (k3.symm.trans hcls.1)
  subst hcomp
  obtain ⟨kC, hkC, hkk⟩ := hcls.2
  refine W.aast X.1 X.2.1 (hP k _ he) (fun q h => by cases h) (fun h => by cases h) k1 k2 rfl hkC ⟨h0, by show _ < (arrV _ _ _).slots.size; rw [arrV_size]; exact hlt⟩ g1 (fun q h => by rw [g3] at h; cases h) (by rw [g2]; exact hkC) (by rw [g2]; exact va_assign ⟨hcls.1, kC, hkC, hkk⟩) rfl rfl d fun H1 e z oq => ?_
  have hP1 := hP.set wl_D he (e := .inl (E.2.2.1 3, ln k, .inr (.inr (.inr (.inr (va_up (fun j => (P k j).map (ad E)) (ix i) (some (ad E t)))))))) (by
    show H1[ad E k]? = some (vp_cell _ _)
    rw [e]
    rw [vp_cell_q, vp_cell_q, arrV_store]
    congr 2
    funext q
    by_cases hq : q = i.toNatClampNeg
    · subst hq
      simp [updV, va_up, va_rf, ix]
    · simp [updV, va_up, hq, ix]) oq
  rw [wl_set (P' := uP P k (ix i) t) (M' := M) (fun j hj => cel_uP hj) (by
    rw [cel_Y hk]
    congr 7
    funext q
    by_cases hq : q = ix i
    · subst hq; simp [uP, va_up]
    · simp [uP, va_up, hq])] at hP1
  exact kk H1 _ ⟨hP1, by rw [z, hz], hS.put z oq (wl_D.2 k _ he), hF.uP hkn⟩
theorem w_newaI {Z : ZT} {E : En} {nL : Nat} {cc : ByteArray} {own : String} {rt : Option FieldType} {fr lo : Nat} {H : Heap} {locs : List Loc} {cl sl : Nat} {Q : State → Prop} {pc : Nat} {ls : Array Slot} {rest : List Value} {n : Nat} {P : Nat → Nat → Option Nat} {M : Mem} (X : Cx Z E nL cc own rt fr lo) (hH : HW E n P M (zs Z) H locs) {v : Int32} {N : Nat} (hk : kd n = 9) (hl : ln n = N) (w1 : Cond.arrayClass .int ∈ wAll) (hv : ¬ v < 0) (hN : v.toNatClampNeg = N) (hb : N * componentBytes .int ≤ 536870912) (r1 : cl + 1 ≤ (zR Z).cells) (r2 : sl + N ≤ (zR Z).slots) (d : decode cc pc = .ok (.newarray .int, 2)) (kk : ∀ H1, HW E (n + 1) P M (zs Z) H1 locs → WW Z H1 locs (cl + 1) (sl + N) Q (pc + 2) ls (.ref (ad E n) :: rest)) : WW Z H locs cl sl Q pc ls (.int v :: rest) := by
  obtain ⟨hP, hz, hS, hF⟩ := hH
  subst hl
  refine va_newaK (atype := .int) X.1 X.2.1 (X.2.2.2.2.1 _ w1) rfl d rfl hv hN hb r1 r2 hz (fun H1 cA e1 z1 o1 hAr hNm => ?_)
  have h1 : (zs Z).vm.findClass ("[" ++ (FieldType.int).toString) = some (E.2.2.1 0) := (X.2.2.2.2.2.1.1.2 0 (E.2.2.1 0, .int) rfl).2
  have h2 : cA = E.2.2.1 0 := Option.some.inj (hNm.symm.trans h1)
  subst h2
  refine kk H1 ⟨wl_push hP (by rw [hz]; exact o1) ?_, by rw [z1]; omega, hS.grow (by omega) (by rw [hz]; exact o1), hF.mono (by omega)⟩
  rw [cel_I hk]
  show H1[ad E n]? = some (vp_cell _ _)
  rw [vp_cell_i]
  have h3 : (fun j => Value.int (M.1 n j)) = (fun _ => defaultValue .int) := by
    funext j
    rw [(hF n (Nat.le_refl _)).2.1 j]
    rfl
  rw [h3]
  exact e1
theorem w_newaJ {Z : ZT} {E : En} {nL : Nat} {cc : ByteArray} {own : String} {rt : Option FieldType} {fr lo : Nat} {H : Heap} {locs : List Loc} {cl sl : Nat} {Q : State → Prop} {pc : Nat} {ls : Array Slot} {rest : List Value} {n : Nat} {P : Nat → Nat → Option Nat} {M : Mem} (X : Cx Z E nL cc own rt fr lo) (hH : HW E n P M (zs Z) H locs) {v : Int32} {N : Nat} (hk : kd n = 10) (hl : ln n = N) (w1 : Cond.arrayClass .long ∈ wAll) (hv : ¬ v < 0) (hN : v.toNatClampNeg = N) (hb : N * componentBytes .long ≤ 536870912) (r1 : cl + 1 ≤ (zR Z).cells) (r2 : sl + N ≤ (zR Z).slots) (d : decode cc pc = .ok (.newarray .long, 2)) (kk : ∀ H1, HW E (n + 1) P M (zs Z) H1 locs → WW Z H1 locs (cl + 1) (sl + N) Q (pc + 2) ls (.ref (ad E n) :: rest)) : WW Z H locs cl sl Q pc ls (.int v :: rest) := by
  obtain ⟨hP, hz, hS, hF⟩ := hH
  subst hl
  refine va_newaK (atype := .long) X.1 X.2.1 (X.2.2.2.2.1 _ w1) rfl d rfl hv hN hb r1 r2 hz (fun H1 cA e1 z1 o1 hAr hNm => ?_)
  have h1 : (zs Z).vm.findClass ("[" ++ (FieldType.long).toString) = some (E.2.2.1 1) := (X.2.2.2.2.2.1.1.2 1 (E.2.2.1 1, .long) rfl).2
  have h2 : cA = E.2.2.1 1 := Option.some.inj (hNm.symm.trans h1)
  subst h2
  refine kk H1 ⟨wl_push hP (by rw [hz]; exact o1) ?_, by rw [z1]; omega, hS.grow (by omega) (by rw [hz]; exact o1), hF.mono (by omega)⟩
  rw [cel_J hk]
  show H1[ad E n]? = some (vp_cell _ _)
  rw [vp_cell_l]
  have h3 : (fun j => Value.long (M.2 n j)) = (fun _ => defaultValue .long) := by
    funext j
    rw [(hF n (Nat.le_refl _)).2.2 j]
    rfl
  rw [h3]
  exact e1
theorem w_newaZ {Z : ZT} {E : En} {nL : Nat} {cc : ByteArray} {own : String} {rt : Option FieldType} {fr lo : Nat} {H : Heap} {locs : List Loc} {cl sl : Nat} {Q : State → Prop} {pc : Nat} {ls : Array Slot} {rest : List Value} {n : Nat} {P : Nat → Nat → Option Nat} {M : Mem} (X : Cx Z E nL cc own rt fr lo) (hH : HW E n P M (zs Z) H locs) {v : Int32} {N : Nat} (hk : kd n = 11) (hl : ln n = N) (w1 : Cond.arrayClass .boolean ∈ wAll) (hv : ¬ v < 0) (hN : v.toNatClampNeg = N) (hb : N * componentBytes .boolean ≤ 536870912) (r1 : cl + 1 ≤ (zR Z).cells) (r2 : sl + N ≤ (zR Z).slots) (d : decode cc pc = .ok (.newarray .boolean, 2)) (kk : ∀ H1, HW E (n + 1) P M (zs Z) H1 locs → WW Z H1 locs (cl + 1) (sl + N) Q (pc + 2) ls (.ref (ad E n) :: rest)) : WW Z H locs cl sl Q pc ls (.int v :: rest) := by
  obtain ⟨hP, hz, hS, hF⟩ := hH
  subst hl
  refine va_newaK (atype := .boolean) X.1 X.2.1 (X.2.2.2.2.1 _ w1) rfl d rfl hv hN hb r1 r2 hz (fun H1 cA e1 z1 o1 hAr hNm => ?_)
  have h1 : (zs Z).vm.findClass ("[" ++ (FieldType.boolean).toString) = some (E.2.2.1 2) := (X.2.2.2.2.2.1.1.2 2 (E.2.2.1 2, .boolean) rfl).2
  have h2 : cA = E.2.2.1 2 := Option.some.inj (hNm.symm.trans h1)
  subst h2
  refine kk H1 ⟨wl_push hP (by rw [hz]; exact o1) ?_, by rw [z1]; omega, hS.grow (by omega) (by rw [hz]; exact o1), hF.mono (by omega)⟩
  rw [cel_Z hk]
  show H1[ad E n]? = some (vp_cell _ _)
  rw [vp_cell_i]
  have h3 : (fun j => Value.int (M.1 n j)) = (fun _ => defaultValue .boolean) := by
    funext j
    rw [(hF n (Nat.le_refl _)).2.1 j]
    rfl
  rw [h3]
  exact e1
theorem w_anew {Z : ZT} {E : En} {nL : Nat} {cc : ByteArray} {own : String} {rt : Option FieldType} {fr lo : Nat} {H : Heap} {locs : List Loc} {cl sl : Nat} {Q : State → Prop} {pc : Nat} {ls : Array Slot} {rest : List Value} {n : Nat} {P : Nat → Nat → Option Nat} {M : Mem} (X : Cx Z E nL cc own rt fr lo) (hH : HW E n P M (zs Z) H locs) (hao : AO (zs Z)) {v : Int32} {idx N : Nat} (hk : kd n = 12) (hl : ln n = N) (w1 : Cond.classLink own idx "FilmCans$Day" ∈ wAll) (hv : ¬ v < 0) (hN : v.toNatClampNeg = N) (hb : N * 4 ≤ 536870912) (r1 : cl + 1 ≤ (zR Z).cells) (r2 : sl + N ≤ (zR Z).slots) (d : decode cc pc = .ok (.anewarray idx, 3)) (kk : ∀ H1, HW E (n + 1) P M (zs Z) H1 locs → WW Z H1 locs (cl + 1) (sl + N) Q (pc + 3) ls (.ref (ad E n) :: rest)) : WW Z H locs cl sl Q pc ls (.int v :: rest) := by
  obtain ⟨hP, hz, hS, hF⟩ := hH
  subst hl
  rw [← hN] at hb r2
  refine W.anew X.1 X.2.1 X.2.2.2.1 (X.2.2.2.2.1 _ w1) (va_AO.use hao.1) rfl d rfl hv hb r1 r2 fun cA kA comp f1 f2 f3 f4 => ?_
  obtain ⟨kA', comp', k1, k2, k3, k4⟩ := (X.2.2.2.2.2.1.1.2 3 (E.2.2.1 3, .object "FilmCans$Day") rfl).2
  have h2 : cA = E.2.2.1 3 := Option.some.inj (f1.symm.trans k4)
  subst h2
  generalize hH1 : H.push ({ cls := E.2.2.1 3, slots := Array.replicate v.toNatClampNeg .null, vm := .none } : Cell) = H1
  have z1 : H1.size = H.size + 1 := by rw [← hH1, Array.size_push]
  have e1 : H1[H.size]? = some (arrV (E.2.2.1 3) v.toNatClampNeg (fun _ => .null)) := by rw [← hH1, Array.getElem?_push_size, ← arrV_new]
  have o1 : ∀ q : Nat, q < H.size → H1[q]? = H[q]? := fun q hq => by rw [← hH1, Array.getElem?_push, if_neg (Nat.ne_of_lt hq)]
  have hz' : H.size = ad E n := hz
  rw [hz']
  rw [hN]
  rw [hN] at e1
  refine kk H1 ⟨wl_push hP o1 ?_, by rw [z1, hz]; omega, hS.grow (by omega) o1, hF.mono (by omega)⟩
  rw [cel_Y hk]
  show H1[ad E n]? = some (vp_cell _ _)
  rw [vp_cell_q]
  have h3 : (fun j => va_rf ((P n j).map (ad E))) = (fun _ => Value.null) := by
    funext j
    rw [(hF n (Nat.le_refl _)).1 j]
    rfl
  rw [h3, ← hz']
  exact e1
theorem QC_ret {Z : ZT} {E : En} {nL : Nat} {cc : ByteArray} {own : String} {fr lo : Nat} {H : Heap} {locs : List Loc} {pc : Nat} {ls : Array Slot} {n : Nat} {P : Nat → Nat → Option Nat} {M : Mem} {mc ms : Nat} (X0 : Cx Z E nL cc own none fr lo) (hao : AO (zs Z)) (hH : HW E n P M (zs Z) H locs) (d : decode cc pc = .ok (.return_, 1)) : WW Z H locs mc ms (QC Z E n P M mc ms) pc ls [] := by
  obtain ⟨hP, hz, hS, hF⟩ := hH
  exact W.vret X0.1 X0.2.1 X0.2.2.2.2.2.2.2.1 (fun t ht hW => ⟨⟨(P, M), rfl, rfl, by rw [ht]; exact hP, by rw [ht]; exact hz, VS.kept (fun a h1 h2 => by rw [ht]; exact hS.2.1 a h1 h2) (VS.warm hW X0.2.2.2.2.2.1), hao.moved hW.alike, hF⟩, hS.F ht⟩) hS.2.2 d X0.2.2.2.2.2.2.1.1
theorem MC_of {l : Launch} {E : En} {y : MethodName} {bytes : ByteArray} {nL fr lo mc ms k n0 n1 : Nat} {P P1 : PT} {M M1 : Mem} (hy : plainName y.cls = true) (hyn : y.name = "<init>") (h1 : 1 ≤ nL) (k0 : ∀ (Z : ZT), zl Z = l → Cx Z E nL bytes y.cls none fr lo → (zR Z).cells = mc → (zR Z).slots = ms → AO (zs Z) → (zt Z).name = "<init>" → HW E n0 P M (zs Z) (zs Z).heap [] → ∀ ls : Array Slot, lv_has ls nL [(0, .ref (ad E k))] → WW Z (zs Z).heap [] 0 0 (QC Z E n1 P1 M1 mc ms) 0 ls []) : MC l E y bytes nL fr lo mc ms k n0 P M n1 P1 M1 := by
  refine Met.ofW (cc := bytes) (maxL := nL) (ret := none) hy rfl ?_
  intro p e s m args below meth c s₁ B hml hv
  obtain ⟨rfl, hP, hz, hV, hao, hF⟩ := hv
  have hts := atoms_spec (ws := Cond.code y bytes nL none :: wAll) B.pre
  have X : Cx (p, l, e, rmC fr mc ms lo, s, m, [Value.ref (ad E k)].toArray, below, meth, c, 0, 0) E nL bytes y.cls none fr lo := ⟨B.exec, B.bytes, hml, findClass_of_methodNamed B.named, fun w hw => hts w (List.mem_cons_of_mem _ hw), hV, ⟨B.notSynchronized, Nat.zero_le _, Nat.zero_le _⟩, B.returns, Nat.le_refl _, Nat.le_refl _⟩
  have hl := lv_entry [Value.ref (ad E k)] (n := nL) (by show 1 ≤ nL; exact h1)
  rw [lg_entry_eq]
  exact k0 _ rfl X rfl rfl hao ((name_of_methodNamed B.named B.method).1.trans hyn) ⟨hP, hz, va_S.rf, hF⟩ _ hl
theorem WC_blind {E : En} {n : Nat} {P : PT} {M : Mem} {vs : List Value} : FrameBlind (va_Pc vs (WC E n P M)) := fun a U g mk q => ⟨q.1, q.2.1, q.2.2.1, VS.same (u := U) (U := U.calling g mk a) rfl q.2.2.2.1, AO.moved (u := U) (U := U.calling g mk a) (Vm.Alike.refl U.vm) q.2.2.2.2.1, q.2.2.2.2.2⟩
def ClI (own : String) (idx : Nat) (y : MethodName) (bytes : ByteArray) (nL : Nat) : Prop := Cond.instanceMethod y ∈ wAll ∧ Cond.initialized y.cls ∈ wAll ∧ Cond.code y bytes nL none ∈ wAll ∧ (y.cls ≠ "java/lang/invoke/MethodHandle" ∧ y.cls ≠ "java/lang/invoke/VarHandle" ∧ (parseMethodDescriptor y.desc).map (fun d => d.parameters.length) = some 0) ∧ y.name = "<init>" ∧ (Cond.methodLink own idx y ∈ wAll ∨ ∃ host, (own, idx, y, host) ∈ nmL)
theorem w_init {Z : ZT} {E : En} {nL : Nat} {cc : ByteArray} {own : String} {rt : Option FieldType} {fr lo : Nat} {H : Heap} {locs : List Loc} {cl sl : Nat} {Q : State → Prop} {pc : Nat} {ls : Array Slot} {rest : List Value} {n : Nat} {P : Nat → Nat → Option Nat} {M : Mem} (X : Cx Z E nL cc own rt fr lo) (hao : AO (zs Z)) (hH : HW E n P M (zs Z) H locs) {idx k nL1 fr1 lo1 mc ms n1 : Nat} {y : MethodName} {bytes : ByteArray} {P1 : PT} {M1 : Mem} (hM : MC (zl Z) E y bytes nL1 fr1 lo1 mc ms k n P M n1 P1 M1) (cw : ClI own idx y bytes nL1) (hR : fr1 + 1 ≤ fr ∧ 8 + (nL1 + 11) + lo1 ≤ lo) (hl : ls.size = nL) (hcat : (rest.map fun v => v.category).sum ≤ 8) (r1 : cl + mc ≤ (zR Z).cells) (r2 : sl + ms ≤ (zR Z).slots) (d : decode cc pc = .ok (.invokespecial idx, 3)) (kk : ∀ H1 locs1, HW E n1 P1 M1 (zs Z) H1 locs1 → WW Z H1 locs1 (cl + mc) (sl + ms) Q (pc + 3) ls rest) : WW Z H locs cl sl Q pc ls (.ref (ad E k) :: rest) := by
  obtain ⟨hP, hz, hS, hF⟩ := hH
  have room : fr1 + 1 ≤ (zR Z).frames ∧ 8 + (nL1 + 11) + lo1 ≤ (zR Z).locals := ⟨Nat.le_trans hR.1 X.2.2.2.2.2.2.2.2.1, Nat.le_trans hR.2 X.2.2.2.2.2.2.2.2.2⟩
  have pre : ∀ U : State, U.heap = H → (zs Z).WarmedH U.vm → va_Pc [.ref (ad E k)] (WC E n P M) (Value.ref (ad E k) :: ([] : List Value)).toArray U := fun U hU hW => ⟨rfl, by rw [hU]; exact hP, by rw [hU]; exact hz, VS.kept (fun a h1 h2 => by rw [hU]; exact hS.2.1 a h1 h2) (VS.warm hW X.2.2.2.2.2.1), hao.moved hW.alike, hF⟩
  obtain ⟨w1, w2, w3, w4, w5, w6⟩ := cw
  have run : va_Run (zp Z) (zl Z) (ze Z) (zR Z) (zs Z) (zm Z) (za Z) (zb Z) (zt Z) (zc Z) H locs cl sl mc ms (F0 (zm Z) pc ls (.ref (ad E k) :: rest)) rest (CC E n1 P1 M1 (Value.ref (ad E k) :: ([] : List Value)).toArray) (AE E) := by
    rcases w6 with w6 | ⟨host, w6⟩
    · exact va_runI (As := []) (rest := rest) ⟨X.1, X.2.1, X.2.2.1, X.2.2.2.1, X.2.2.2.2.1⟩ hM (cwI 0 X.2.2.2.2.1 (wAll_code w3) rfl rfl rfl (X.2.2.2.2.1 _ w2) (X.2.2.2.2.1 _ w6) (X.2.2.2.2.1 _ w1) w5 w4 room) ⟨WC_blind, pre⟩ rfl rfl hl rfl (lv_room hcat) d ⟨r1, r2⟩
    · exact va_runIN (As := []) (rest := rest) ⟨X.1, X.2.1, X.2.2.1, X.2.2.2.1, X.2.2.2.2.1⟩ hM ⟨va_cnB 0 X.2.2.2.2.1 (wAll_code w3) rfl rfl rfl (X.2.2.2.2.2.1.2.1 _ w6) (X.2.2.2.2.1 _ w2) w4 room, w5, X.2.2.2.2.1 _ w1⟩ ⟨WC_blind, pre⟩ rfl rfl hl rfl (lv_room hcat) d ⟨r1, r2⟩
  refine va_callv run hS (fun q _ h => h) (fun q h => h) (fun u t H1 locs1 ht hvm hw hB hzz hkp hS1 => ?_)
  subst hw
  exact kk H1 locs1 ⟨by rw [← ht]; exact hB.1, by rw [← ht]; exact hB.2.1, hS1, hB.2.2.2.2⟩
