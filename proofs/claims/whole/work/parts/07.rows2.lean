def lq {α β : Type} (a : α) (f : α → Option β) : Option β := f a
def sq {β : Type} (M : Mem) (f : Mem → Option β) : Option β := f M
def FU : Nat := 4294967296
theorem k_sq {Z : ZT} {E : En} {nL : Nat} {ρ : Type} {Qf : ρ → Mem → State → Prop} {M : Mem} {pc : Nat} {lv : List (Nat × Value)} {st : List Value} {f : Mem → Option (ρ × Mem)} (k : ∀ M1 : Mem, Kj Z E nL Qf (f M1) M1 pc lv st) : Kj Z E nL Qf (sq M f) M pc lv st := k M
theorem x_istore_n {Z : ZT} {E : En} {nL : Nat} {cc : ByteArray} {own : String} {rt : Option FieldType} {fr lo : Nat} {ρ : Type} {Qf : ρ → Mem → State → Prop} {M : Mem} {pc : Nat} {lv : List (Nat × Value)} {rest : List Value} (X : Cx Z E nL cc own rt fr lo) {k : Fin 4} {i : Nat} {x : Int32} {f : Int32 → Option (ρ × Mem)} (lv' : List (Nat × Value)) (d : decode cc pc = .ok (.istore_n k, 1)) (hi : (k : Nat) = i) (hn : i < nL) (hf : lv.filter (fun q => !(q.1 == i) && !(q.1 + 1 == i && q.2.category == 2)) = lv') (k : ∀ z : Int32, Kj Z E nL Qf (f z) M (pc + 1) ((i, .int z) :: lv') rest) : Kj Z E nL Qf (lq x f) M pc lv (.int x :: rest) :=
  fun r M' h H locs ls hP hS hl => lv_istore_n X.1 X.2.1 d hi hl hn (by rw [hf]) (fun ls hl => k x r M' h H locs ls hP hS hl)
theorem x_istore {Z : ZT} {E : En} {nL : Nat} {cc : ByteArray} {own : String} {rt : Option FieldType} {fr lo : Nat} {ρ : Type} {Qf : ρ → Mem → State → Prop} {M : Mem} {pc : Nat} {lv : List (Nat × Value)} {rest : List Value} (X : Cx Z E nL cc own rt fr lo) {i : Nat} {x : Int32} {f : Int32 → Option (ρ × Mem)} (lv' : List (Nat × Value)) (d : decode cc pc = .ok (.istore i, 2))  (hn : i < nL) (hf : lv.filter (fun q => !(q.1 == i) && !(q.1 + 1 == i && q.2.category == 2)) = lv') (k : ∀ z : Int32, Kj Z E nL Qf (f z) M (pc + 2) ((i, .int z) :: lv') rest) : Kj Z E nL Qf (lq x f) M pc lv (.int x :: rest) :=
  fun r M' h H locs ls hP hS hl => lv_istore X.1 X.2.1 d hl hn (by rw [hf]) (fun ls hl => k x r M' h H locs ls hP hS hl)
theorem x_lstore_n {Z : ZT} {E : En} {nL : Nat} {cc : ByteArray} {own : String} {rt : Option FieldType} {fr lo : Nat} {ρ : Type} {Qf : ρ → Mem → State → Prop} {M : Mem} {pc : Nat} {lv : List (Nat × Value)} {rest : List Value} (X : Cx Z E nL cc own rt fr lo) {k : Fin 4} {i : Nat} {x : Int64} {f : Int64 → Option (ρ × Mem)} (lv' : List (Nat × Value)) (d : decode cc pc = .ok (.lstore_n k, 1)) (hi : (k : Nat) = i) (hn : i + 1 < nL) (hf : lv.filter (fun q => !(q.1 == i) && (!(q.1 == i + 1) && !(q.1 + 1 == i && q.2.category == 2))) = lv') (k : ∀ z : Int64, Kj Z E nL Qf (f z) M (pc + 1) ((i, .long z) :: lv') rest) : Kj Z E nL Qf (lq x f) M pc lv (.long x :: rest) :=
  fun r M' h H locs ls hP hS hl => lv_lstore_n X.1 X.2.1 d hi hl hn (by rw [hf]) (fun ls hl => k x r M' h H locs ls hP hS hl)
theorem x_lstore {Z : ZT} {E : En} {nL : Nat} {cc : ByteArray} {own : String} {rt : Option FieldType} {fr lo : Nat} {ρ : Type} {Qf : ρ → Mem → State → Prop} {M : Mem} {pc : Nat} {lv : List (Nat × Value)} {rest : List Value} (X : Cx Z E nL cc own rt fr lo) {i : Nat} {x : Int64} {f : Int64 → Option (ρ × Mem)} (lv' : List (Nat × Value)) (d : decode cc pc = .ok (.lstore i, 2))  (hn : i + 1 < nL) (hf : lv.filter (fun q => !(q.1 == i) && (!(q.1 == i + 1) && !(q.1 + 1 == i && q.2.category == 2))) = lv') (k : ∀ z : Int64, Kj Z E nL Qf (f z) M (pc + 2) ((i, .long z) :: lv') rest) : Kj Z E nL Qf (lq x f) M pc lv (.long x :: rest) :=
  fun r M' h H locs ls hP hS hl => lv_lstore X.1 X.2.1 d hl hn (by rw [hf]) (fun ls hl => k x r M' h H locs ls hP hS hl)
theorem x_iinc {Z : ZT} {E : En} {nL : Nat} {cc : ByteArray} {own : String} {rt : Option FieldType} {fr lo : Nat} {ρ : Type} {Qf : ρ → Mem → State → Prop} {M : Mem} {pc : Nat} {lv : List (Nat × Value)} {rest : List Value} (X : Cx Z E nL cc own rt fr lo) {i : Nat} {n : Int} {x : Int32} {f : Int32 → Option (ρ × Mem)} (w : Int32) (q : Nat) (lv' : List (Nat × Value)) (d : decode cc pc = .ok (.iinc i n, 3)) (hq : lv[q]? = some (i, .int x)) (hw : Int32.ofInt n = w) (hn : i < nL) (hf : lv.filter (fun q => !(q.1 == i) && !(q.1 + 1 == i && q.2.category == 2)) = lv') (k : ∀ z : Int32, Kj Z E nL Qf (f z) M (pc + 3) ((i, .int z) :: lv') rest) : Kj Z E nL Qf (lq (x + w) f) M pc lv rest :=
  fun r M' h H locs ls hP hS hl => lv_iinc X.1 X.2.1 d hl hq (v := x + w) (by rw [hw]) hn (by rw [hf]) (fun ls hl => k (x + w) r M' h H locs ls hP hS hl)
theorem tsw_out {x : Int32} (l n : Nat) {lo hi : Int} (e1 : lo = l) (e2 : hi = (l : Int) + n - 1) (hn : l + n < 2 ^ 31) (h : ∀ k, k < n → ¬ x = Int32.ofNat (l + k)) : x.toInt < lo ∨ hi < x.toInt := by
  by_cases q : x.toInt < lo
  · exact Or.inl q
  · right
    by_cases z : hi < x.toInt
    · exact z
    · exfalso
      refine h (x.toInt.toNat - l) (by omega) ?_
      apply Int32.toInt_inj.mp
      rw [show Int32.ofNat (l + (x.toInt.toNat - l)) = nI (l + (x.toInt.toNat - l)) from rfl, nI_toInt (by omega)]
      omega
def mx (x y : Int32) : Int32 := if x < y then y else x
def mn (x y : Int32) : Int32 := if y < x then y else x
theorem k_mx {Z : ZT} {E : En} {nL : Nat} {cc : ByteArray} {own : String} {rt : Option FieldType} {fr lo : Nat} {ρ : Type} {Qf : ρ → Mem → State → Prop} {o : Option (ρ × Mem)} {M : Mem} {pc : Nat} {lv : List (Nat × Value)} {rest : List Value} (X : Cx Z E nL cc own rt fr lo) {idx : Nat} {x y : Int32} (hw : Cond.methodLink own idx Lib.Math.max.name ∈ wAll) (hw1 : Cond.static Lib.Math.max.name ∈ wAll) (hw2 : Cond.initialized "java/lang/Math" ∈ wAll) (hw3 : Cond.code Lib.Math.max.name Lib.Math.max.code 2 (some .int) ∈ wAll) (hfr : 1 ≤ fr) (hlo : (rest.map fun v => v.category).sum + 13 ≤ lo) (d : decode cc pc = .ok (.invokestatic idx, 3)) (k : Kj Z E nL Qf o M (pc + 3) lv (.int (mx x y) :: rest)) : Kj Z E nL Qf o M pc lv (.int y :: .int x :: rest) :=
  fun r M' h H locs ls hP hS hl => va_mmax X.1 X.2.1 (X.2.2.1.trans hl.1.symm) X.2.2.2.1 (X.2.2.2.2.1 _ hw) (X.2.2.2.2.1 _ hw1) (X.2.2.2.2.1 _ hw2) (X.2.2.2.2.1 _ hw3) (Nat.le_trans hfr X.2.2.2.2.2.2.2.2.1) (Nat.le_trans hlo X.2.2.2.2.2.2.2.2.2) X.2.2.2.2.2.2.1.2.1 X.2.2.2.2.2.2.1.2.2 d (k r M' h H locs ls hP hS hl)
theorem k_mn {Z : ZT} {E : En} {nL : Nat} {cc : ByteArray} {own : String} {rt : Option FieldType} {fr lo : Nat} {ρ : Type} {Qf : ρ → Mem → State → Prop} {o : Option (ρ × Mem)} {M : Mem} {pc : Nat} {lv : List (Nat × Value)} {rest : List Value} (X : Cx Z E nL cc own rt fr lo) {idx : Nat} {x y : Int32} (hw : Cond.methodLink own idx Lib.Math.min.name ∈ wAll) (hw1 : Cond.static Lib.Math.min.name ∈ wAll) (hw2 : Cond.initialized "java/lang/Math" ∈ wAll) (hw3 : Cond.code Lib.Math.min.name Lib.Math.min.code 2 (some .int) ∈ wAll) (hfr : 1 ≤ fr) (hlo : (rest.map fun v => v.category).sum + 13 ≤ lo) (d : decode cc pc = .ok (.invokestatic idx, 3)) (k : Kj Z E nL Qf o M (pc + 3) lv (.int (mn x y) :: rest)) : Kj Z E nL Qf o M pc lv (.int y :: .int x :: rest) :=
  fun r M' h H locs ls hP hS hl => va_mmin X.1 X.2.1 (X.2.2.1.trans hl.1.symm) X.2.2.2.1 (X.2.2.2.2.1 _ hw) (X.2.2.2.2.1 _ hw1) (X.2.2.2.2.1 _ hw2) (X.2.2.2.2.1 _ hw3) (Nat.le_trans hfr X.2.2.2.2.2.2.2.2.1) (Nat.le_trans hlo X.2.2.2.2.2.2.2.2.2) X.2.2.2.2.2.2.1.2.1 X.2.2.2.2.2.2.1.2.2 d (k r M' h H locs ls hP hS hl)
def dayL : List Nat := [3, 15, 29, 41, 53, 65, 77, 89, 101, 113, 125, 137, 149, 161, 173, 185, 197, 209, 221, 233, 245, 257, 270, 282]
def isDay (d : Nat) : Prop := d ∈ dayL
theorem day_C {d : Nat} (h : isDay d) : isC d 1 := (by decide +kernel : ∀ d ∈ dayL, d < NN ∧ kd d = 1) d h
theorem day_A1 {d : Nat} (h : isDay d) : isC (d + 1) 9 := (by decide +kernel : ∀ d ∈ dayL, d + 1 < NN ∧ kd (d + 1) = 9) d h
theorem day_L1 {d : Nat} (h : isDay d) : ln (d + 1) = 4 := (by decide +kernel : ∀ d ∈ dayL, ln (d + 1) = 4) d h
theorem day_R1 {d : Nat} (h : isDay d) : rf d 9 = d + 1 := (by decide +kernel : ∀ d ∈ dayL, rf d 9 = d + 1) d h
theorem day_A2 {d : Nat} (h : isDay d) : isC (d + 2) 9 := (by decide +kernel : ∀ d ∈ dayL, d + 2 < NN ∧ kd (d + 2) = 9) d h
theorem day_L2 {d : Nat} (h : isDay d) : ln (d + 2) = 6 := (by decide +kernel : ∀ d ∈ dayL, ln (d + 2) = 6) d h
theorem day_R2 {d : Nat} (h : isDay d) : rf d 10 = d + 2 := (by decide +kernel : ∀ d ∈ dayL, rf d 10 = d + 2) d h
theorem day_A3 {d : Nat} (h : isDay d) : isC (d + 3) 9 := (by decide +kernel : ∀ d ∈ dayL, d + 3 < NN ∧ kd (d + 3) = 9) d h
theorem day_L3 {d : Nat} (h : isDay d) : ln (d + 3) = 6 := (by decide +kernel : ∀ d ∈ dayL, ln (d + 3) = 6) d h
theorem day_R3 {d : Nat} (h : isDay d) : rf d 11 = d + 3 := (by decide +kernel : ∀ d ∈ dayL, rf d 11 = d + 3) d h
theorem day_A4 {d : Nat} (h : isDay d) : isC (d + 4) 9 := (by decide +kernel : ∀ d ∈ dayL, d + 4 < NN ∧ kd (d + 4) = 9) d h
theorem day_L4 {d : Nat} (h : isDay d) : ln (d + 4) = 6 := (by decide +kernel : ∀ d ∈ dayL, ln (d + 4) = 6) d h
theorem day_R4 {d : Nat} (h : isDay d) : rf d 12 = d + 4 := (by decide +kernel : ∀ d ∈ dayL, rf d 12 = d + 4) d h
theorem day_A5 {d : Nat} (h : isDay d) : isC (d + 5) 9 := (by decide +kernel : ∀ d ∈ dayL, d + 5 < NN ∧ kd (d + 5) = 9) d h
theorem day_L5 {d : Nat} (h : isDay d) : ln (d + 5) = 6 := (by decide +kernel : ∀ d ∈ dayL, ln (d + 5) = 6) d h
theorem day_R5 {d : Nat} (h : isDay d) : rf d 13 = d + 5 := (by decide +kernel : ∀ d ∈ dayL, rf d 13 = d + 5) d h
theorem day_A6 {d : Nat} (h : isDay d) : isC (d + 6) 9 := (by decide +kernel : ∀ d ∈ dayL, d + 6 < NN ∧ kd (d + 6) = 9) d h
theorem day_L6 {d : Nat} (h : isDay d) : ln (d + 6) = 8 := (by decide +kernel : ∀ d ∈ dayL, ln (d + 6) = 8) d h
theorem day_R6 {d : Nat} (h : isDay d) : rf d 14 = d + 6 := (by decide +kernel : ∀ d ∈ dayL, rf d 14 = d + 6) d h
theorem day_A7 {d : Nat} (h : isDay d) : isC (d + 7) 9 := (by decide +kernel : ∀ d ∈ dayL, d + 7 < NN ∧ kd (d + 7) = 9) d h
theorem day_L7 {d : Nat} (h : isDay d) : ln (d + 7) = 8 := (by decide +kernel : ∀ d ∈ dayL, ln (d + 7) = 8) d h
theorem day_R7 {d : Nat} (h : isDay d) : rf d 15 = d + 7 := (by decide +kernel : ∀ d ∈ dayL, rf d 15 = d + 7) d h
theorem day_A8 {d : Nat} (h : isDay d) : isC (d + 8) 9 := (by decide +kernel : ∀ d ∈ dayL, d + 8 < NN ∧ kd (d + 8) = 9) d h
theorem day_L8 {d : Nat} (h : isDay d) : ln (d + 8) = 8 := (by decide +kernel : ∀ d ∈ dayL, ln (d + 8) = 8) d h
theorem day_R8 {d : Nat} (h : isDay d) : rf d 16 = d + 8 := (by decide +kernel : ∀ d ∈ dayL, rf d 16 = d + 8) d h
theorem day_A9 {d : Nat} (h : isDay d) : isC (d + 9) 9 := (by decide +kernel : ∀ d ∈ dayL, d + 9 < NN ∧ kd (d + 9) = 9) d h
theorem day_L9 {d : Nat} (h : isDay d) : ln (d + 9) = 8 := (by decide +kernel : ∀ d ∈ dayL, ln (d + 9) = 8) d h
theorem day_R9 {d : Nat} (h : isDay d) : rf d 17 = d + 9 := (by decide +kernel : ∀ d ∈ dayL, rf d 17 = d + 9) d h
theorem day_A10 {d : Nat} (h : isDay d) : isC (d + 10) 9 := (by decide +kernel : ∀ d ∈ dayL, d + 10 < NN ∧ kd (d + 10) = 9) d h
theorem day_L10 {d : Nat} (h : isDay d) : ln (d + 10) = 8 := (by decide +kernel : ∀ d ∈ dayL, ln (d + 10) = 8) d h
theorem day_R10 {d : Nat} (h : isDay d) : rf d 18 = d + 10 := (by decide +kernel : ∀ d ∈ dayL, rf d 18 = d + 10) d h
theorem day_A11 {d : Nat} (h : isDay d) : isC (d + 11) 9 := (by decide +kernel : ∀ d ∈ dayL, d + 11 < NN ∧ kd (d + 11) = 9) d h
theorem day_L11 {d : Nat} (h : isDay d) : ln (d + 11) = 8 := (by decide +kernel : ∀ d ∈ dayL, ln (d + 11) = 8) d h
theorem day_R11 {d : Nat} (h : isDay d) : rf d 19 = d + 11 := (by decide +kernel : ∀ d ∈ dayL, rf d 19 = d + 11) d h
theorem day_3 : isDay 3 := (by decide +kernel : 3 ∈ dayL)
theorem day_15 : isDay 15 := (by decide +kernel : 15 ∈ dayL)
theorem ix_lt {i : Int32} {n : Nat} (h : inb i n = true) : ix i < n := Nat.not_le.mp fun q => inb_in h (Or.inr q)
theorem ring_rf : ∀ j, j < 20 → rf 28 j = 29 + 12 * j := by decide +kernel
theorem ring_day {i : Int32} (h : inb i 20 = true) : isDay (29 + 12 * ix i) := (by decide +kernel : ∀ j, j < 20 → (29 + 12 * j) ∈ dayL) _ (ix_lt h)
theorem img_rf : ∀ j, j < 2 → rf 269 j = 270 + 12 * j := by decide +kernel
theorem img_day {i : Int32} (h : inb i 2 = true) : isDay (270 + 12 * ix i) := (by decide +kernel : ∀ j, j < 2 → (270 + 12 * j) ∈ dayL) _ (ix_lt h)
theorem ends_rf : ∀ j, j < 6 → rf 307 j = 308 + j := by decide +kernel
theorem ends_C {i : Int32} (h : inb i 6 = true) : isC (308 + ix i) 9 := (by decide +kernel : ∀ j, j < 6 → (308 + j < NN ∧ kd (308 + j) = 9)) _ (ix_lt h)
theorem ends_L {i : Int32} (h : inb i 6 = true) : ln (308 + ix i) = 256 := (by decide +kernel : ∀ j, j < 6 → ln (308 + j) = 256) _ (ix_lt h)
theorem behind_rf : ∀ j, j < 6 → rf 316 j = 317 + j := by decide +kernel
theorem behind_C {i : Int32} (h : inb i 6 = true) : isC (317 + ix i) 9 := (by decide +kernel : ∀ j, j < 6 → (317 + j < NN ∧ kd (317 + j) = 9)) _ (ix_lt h)
theorem behind_L {i : Int32} (h : inb i 6 = true) : ln (317 + ix i) = 256 := (by decide +kernel : ∀ j, j < 6 → ln (317 + j) = 256) _ (ix_lt h)
theorem c_0 : isC 0 7 := (by decide +kernel : 0 < NN ∧ kd 0 = 7)
theorem c_1 : isC 1 6 := (by decide +kernel : 1 < NN ∧ kd 1 = 6)
theorem c_2 : isC 2 9 := (by decide +kernel : 2 < NN ∧ kd 2 = 9)
theorem c_3 : isC 3 1 := (by decide +kernel : 3 < NN ∧ kd 3 = 1)
theorem c_4 : isC 4 9 := (by decide +kernel : 4 < NN ∧ kd 4 = 9)
theorem c_5 : isC 5 9 := (by decide +kernel : 5 < NN ∧ kd 5 = 9)
theorem c_6 : isC 6 9 := (by decide +kernel : 6 < NN ∧ kd 6 = 9)
theorem c_7 : isC 7 9 := (by decide +kernel : 7 < NN ∧ kd 7 = 9)
theorem c_8 : isC 8 9 := (by decide +kernel : 8 < NN ∧ kd 8 = 9)
theorem c_9 : isC 9 9 := (by decide +kernel : 9 < NN ∧ kd 9 = 9)
theorem c_10 : isC 10 9 := (by decide +kernel : 10 < NN ∧ kd 10 = 9)
theorem c_11 : isC 11 9 := (by decide +kernel : 11 < NN ∧ kd 11 = 9)
theorem c_12 : isC 12 9 := (by decide +kernel : 12 < NN ∧ kd 12 = 9)
theorem c_13 : isC 13 9 := (by decide +kernel : 13 < NN ∧ kd 13 = 9)
theorem c_14 : isC 14 9 := (by decide +kernel : 14 < NN ∧ kd 14 = 9)
theorem c_15 : isC 15 1 := (by decide +kernel : 15 < NN ∧ kd 15 = 1)
theorem c_16 : isC 16 9 := (by decide +kernel : 16 < NN ∧ kd 16 = 9)
theorem c_17 : isC 17 9 := (by decide +kernel : 17 < NN ∧ kd 17 = 9)
theorem c_18 : isC 18 9 := (by decide +kernel : 18 < NN ∧ kd 18 = 9)
theorem c_19 : isC 19 9 := (by decide +kernel : 19 < NN ∧ kd 19 = 9)
theorem c_20 : isC 20 9 := (by decide +kernel : 20 < NN ∧ kd 20 = 9)
theorem c_21 : isC 21 9 := (by decide +kernel : 21 < NN ∧ kd 21 = 9)
theorem c_22 : isC 22 9 := (by decide +kernel : 22 < NN ∧ kd 22 = 9)
theorem c_23 : isC 23 9 := (by decide +kernel : 23 < NN ∧ kd 23 = 9)
theorem c_24 : isC 24 9 := (by decide +kernel : 24 < NN ∧ kd 24 = 9)
theorem c_25 : isC 25 9 := (by decide +kernel : 25 < NN ∧ kd 25 = 9)
theorem c_26 : isC 26 9 := (by decide +kernel : 26 < NN ∧ kd 26 = 9)
theorem c_27 : isC 27 2 := (by decide +kernel : 27 < NN ∧ kd 27 = 2)
theorem c_28 : isC 28 12 := (by decide +kernel : 28 < NN ∧ kd 28 = 12)
theorem c_269 : isC 269 12 := (by decide +kernel : 269 < NN ∧ kd 269 = 12)
theorem c_294 : isC 294 3 := (by decide +kernel : 294 < NN ∧ kd 294 = 3)
theorem c_295 : isC 295 9 := (by decide +kernel : 295 < NN ∧ kd 295 = 9)
theorem c_296 : isC 296 9 := (by decide +kernel : 296 < NN ∧ kd 296 = 9)
theorem c_297 : isC 297 9 := (by decide +kernel : 297 < NN ∧ kd 297 = 9)
theorem c_298 : isC 298 9 := (by decide +kernel : 298 < NN ∧ kd 298 = 9)
theorem c_299 : isC 299 5 := (by decide +kernel : 299 < NN ∧ kd 299 = 5)
theorem c_300 : isC 300 9 := (by decide +kernel : 300 < NN ∧ kd 300 = 9)
theorem c_301 : isC 301 9 := (by decide +kernel : 301 < NN ∧ kd 301 = 9)
theorem c_302 : isC 302 9 := (by decide +kernel : 302 < NN ∧ kd 302 = 9)
theorem c_303 : isC 303 9 := (by decide +kernel : 303 < NN ∧ kd 303 = 9)
theorem c_304 : isC 304 9 := (by decide +kernel : 304 < NN ∧ kd 304 = 9)
theorem c_305 : isC 305 9 := (by decide +kernel : 305 < NN ∧ kd 305 = 9)
theorem c_306 : isC 306 9 := (by decide +kernel : 306 < NN ∧ kd 306 = 9)
theorem c_307 : isC 307 13 := (by decide +kernel : 307 < NN ∧ kd 307 = 13)
theorem c_308 : isC 308 9 := (by decide +kernel : 308 < NN ∧ kd 308 = 9)
theorem c_309 : isC 309 9 := (by decide +kernel : 309 < NN ∧ kd 309 = 9)
theorem c_310 : isC 310 9 := (by decide +kernel : 310 < NN ∧ kd 310 = 9)
theorem c_311 : isC 311 9 := (by decide +kernel : 311 < NN ∧ kd 311 = 9)
theorem c_312 : isC 312 9 := (by decide +kernel : 312 < NN ∧ kd 312 = 9)
theorem c_313 : isC 313 9 := (by decide +kernel : 313 < NN ∧ kd 313 = 9)
theorem c_314 : isC 314 9 := (by decide +kernel : 314 < NN ∧ kd 314 = 9)
theorem c_315 : isC 315 0 := (by decide +kernel : 315 < NN ∧ kd 315 = 0)
theorem c_316 : isC 316 13 := (by decide +kernel : 316 < NN ∧ kd 316 = 13)
theorem c_317 : isC 317 9 := (by decide +kernel : 317 < NN ∧ kd 317 = 9)
theorem c_318 : isC 318 9 := (by decide +kernel : 318 < NN ∧ kd 318 = 9)
theorem c_319 : isC 319 9 := (by decide +kernel : 319 < NN ∧ kd 319 = 9)
theorem c_320 : isC 320 9 := (by decide +kernel : 320 < NN ∧ kd 320 = 9)
theorem c_321 : isC 321 9 := (by decide +kernel : 321 < NN ∧ kd 321 = 9)
theorem c_322 : isC 322 9 := (by decide +kernel : 322 < NN ∧ kd 322 = 9)
theorem c_323 : isC 323 4 := (by decide +kernel : 323 < NN ∧ kd 323 = 4)
theorem c_324 : isC 324 10 := (by decide +kernel : 324 < NN ∧ kd 324 = 10)
theorem c_325 : isC 325 9 := (by decide +kernel : 325 < NN ∧ kd 325 = 9)
theorem c_326 : isC 326 8 := (by decide +kernel : 326 < NN ∧ kd 326 = 8)
theorem c_327 : isC 327 9 := (by decide +kernel : 327 < NN ∧ kd 327 = 9)
theorem c_328 : isC 328 9 := (by decide +kernel : 328 < NN ∧ kd 328 = 9)
theorem c_329 : isC 329 9 := (by decide +kernel : 329 < NN ∧ kd 329 = 9)
theorem c_330 : isC 330 9 := (by decide +kernel : 330 < NN ∧ kd 330 = 9)
theorem c_331 : isC 331 11 := (by decide +kernel : 331 < NN ∧ kd 331 = 11)
theorem c_332 : isC 332 9 := (by decide +kernel : 332 < NN ∧ kd 332 = 9)
theorem c_333 : isC 333 9 := (by decide +kernel : 333 < NN ∧ kd 333 = 9)
theorem c_334 : isC 334 9 := (by decide +kernel : 334 < NN ∧ kd 334 = 9)
theorem c_335 : isC 335 9 := (by decide +kernel : 335 < NN ∧ kd 335 = 9)
theorem c_336 : isC 336 9 := (by decide +kernel : 336 < NN ∧ kd 336 = 9)
theorem c_337 : isC 337 9 := (by decide +kernel : 337 < NN ∧ kd 337 = 9)
theorem c_338 : isC 338 9 := (by decide +kernel : 338 < NN ∧ kd 338 = 9)
