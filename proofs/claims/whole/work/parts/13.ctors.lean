set_option maxRecDepth 20000 in
theorem wo_code : Cond.code Lib.objectInit ⟨#[0xb1]⟩ 1 none ∈ wAll := wAll_of (List.mem_of_getElem? (i := 87) (by decide +kernel)) (by decide +kernel)
set_option maxRecDepth 20000 in
theorem w_85 : (Jvm.Cond.methodLink "FilmCans" (1 : Nat) ({ cls := "java/lang/Object", name := "<init>", desc := "()V" } : Jvm.MethodName)) ∈ wAll := wAll_of (List.mem_of_getElem? (i := 85) (by decide +kernel)) (by decide +kernel)
set_option maxRecDepth 20000 in
theorem w_86 : (Jvm.Cond.instanceMethod ({ cls := "java/lang/Object", name := "<init>", desc := "()V" } : Jvm.MethodName)) ∈ wAll := wAll_of (List.mem_of_getElem? (i := 86) (by decide +kernel)) (by decide +kernel)
set_option maxRecDepth 20000 in
theorem w_88 : (Jvm.Cond.classLink "FilmCans" (7 : Nat) "FilmCans$Tape") ∈ wAll := wAll_of (List.mem_of_getElem? (i := 88) (by decide +kernel)) (by decide +kernel)
set_option maxRecDepth 20000 in
theorem w_89 : (Jvm.Cond.instantiable "FilmCans$Tape" (4 : Nat)) ∈ wAll := wAll_of (List.mem_of_getElem? (i := 89) (by decide +kernel)) (by decide +kernel)
set_option maxRecDepth 20000 in
theorem w_91 : (Jvm.Cond.instanceMethod ({ cls := "FilmCans$Tape", name := "<init>", desc := "()V" } : Jvm.MethodName)) ∈ wAll := wAll_of (List.mem_of_getElem? (i := 91) (by decide +kernel)) (by decide +kernel)
set_option maxRecDepth 20000 in
theorem w_92 : (Jvm.Cond.code ({ cls := "FilmCans$Tape", name := "<init>", desc := "()V" } : Jvm.MethodName) prog_9_method_1_code (1 : Nat) (Option.none : Option Jvm.ClassFile.FieldType)) ∈ wAll := wAll_of (List.mem_of_getElem? (i := 92) (by decide +kernel)) (by decide +kernel)
set_option maxRecDepth 20000 in
theorem w_93 : (Jvm.Cond.methodLink "FilmCans$Tape" (3 : Nat) ({ cls := "java/lang/Object", name := "<init>", desc := "()V" } : Jvm.MethodName)) ∈ wAll := wAll_of (List.mem_of_getElem? (i := 93) (by decide +kernel)) (by decide +kernel)
set_option maxRecDepth 20000 in
theorem w_110 : (Jvm.Cond.arrayClass Jvm.ClassFile.FieldType.int) ∈ wAll := wAll_of (List.mem_of_getElem? (i := 110) (by decide +kernel)) (by decide +kernel)
set_option maxRecDepth 20000 in
theorem w_111 : (Jvm.Cond.classLink "FilmCans" (16 : Nat) "FilmCans$Day") ∈ wAll := wAll_of (List.mem_of_getElem? (i := 111) (by decide +kernel)) (by decide +kernel)
set_option maxRecDepth 20000 in
theorem w_112 : (Jvm.Cond.instantiable "FilmCans$Day" (20 : Nat)) ∈ wAll := wAll_of (List.mem_of_getElem? (i := 112) (by decide +kernel)) (by decide +kernel)
set_option maxRecDepth 20000 in
theorem w_114 : (Jvm.Cond.instanceMethod ({ cls := "FilmCans$Day", name := "<init>", desc := "()V" } : Jvm.MethodName)) ∈ wAll := wAll_of (List.mem_of_getElem? (i := 114) (by decide +kernel)) (by decide +kernel)
set_option maxRecDepth 20000 in
theorem w_115 : (Jvm.Cond.code ({ cls := "FilmCans$Day", name := "<init>", desc := "()V" } : Jvm.MethodName) prog_3_method_1_code (1 : Nat) (Option.none : Option Jvm.ClassFile.FieldType)) ∈ wAll := wAll_of (List.mem_of_getElem? (i := 115) (by decide +kernel)) (by decide +kernel)
set_option maxRecDepth 20000 in
theorem w_116 : (Jvm.Cond.methodLink "FilmCans$Day" (3 : Nat) ({ cls := "java/lang/Object", name := "<init>", desc := "()V" } : Jvm.MethodName)) ∈ wAll := wAll_of (List.mem_of_getElem? (i := 116) (by decide +kernel)) (by decide +kernel)
set_option maxRecDepth 20000 in
theorem w_211 : (Jvm.Cond.classLink "FilmCans" (26 : Nat) "FilmCans$History") ∈ wAll := wAll_of (List.mem_of_getElem? (i := 211) (by decide +kernel)) (by decide +kernel)
set_option maxRecDepth 20000 in
theorem w_212 : (Jvm.Cond.instantiable "FilmCans$History" (3 : Nat)) ∈ wAll := wAll_of (List.mem_of_getElem? (i := 212) (by decide +kernel)) (by decide +kernel)
set_option maxRecDepth 20000 in
theorem w_213 : (Jvm.Cond.methodLink "FilmCans" (28 : Nat) ({ cls := "FilmCans$History", name := "<init>", desc := "()V" } : Jvm.MethodName)) ∈ wAll := wAll_of (List.mem_of_getElem? (i := 213) (by decide +kernel)) (by decide +kernel)
set_option maxRecDepth 20000 in
theorem w_214 : (Jvm.Cond.instanceMethod ({ cls := "FilmCans$History", name := "<init>", desc := "()V" } : Jvm.MethodName)) ∈ wAll := wAll_of (List.mem_of_getElem? (i := 214) (by decide +kernel)) (by decide +kernel)
set_option maxRecDepth 20000 in
theorem w_215 : (Jvm.Cond.code ({ cls := "FilmCans$History", name := "<init>", desc := "()V" } : Jvm.MethodName) prog_4_method_1_code (2 : Nat) (Option.none : Option Jvm.ClassFile.FieldType)) ∈ wAll := wAll_of (List.mem_of_getElem? (i := 215) (by decide +kernel)) (by decide +kernel)
set_option maxRecDepth 20000 in
theorem w_216 : (Jvm.Cond.methodLink "FilmCans$History" (3 : Nat) ({ cls := "java/lang/Object", name := "<init>", desc := "()V" } : Jvm.MethodName)) ∈ wAll := wAll_of (List.mem_of_getElem? (i := 216) (by decide +kernel)) (by decide +kernel)
set_option maxRecDepth 20000 in
theorem w_217 : (Jvm.Cond.classLink "FilmCans$History" (9 : Nat) "FilmCans$Day") ∈ wAll := wAll_of (List.mem_of_getElem? (i := 217) (by decide +kernel)) (by decide +kernel)
set_option maxRecDepth 20000 in
theorem w_231 : (Jvm.Cond.classLink "FilmCans" (37 : Nat) "FilmCans$Laboratory") ∈ wAll := wAll_of (List.mem_of_getElem? (i := 231) (by decide +kernel)) (by decide +kernel)
set_option maxRecDepth 20000 in
theorem w_232 : (Jvm.Cond.instantiable "FilmCans$Laboratory" (4 : Nat)) ∈ wAll := wAll_of (List.mem_of_getElem? (i := 232) (by decide +kernel)) (by decide +kernel)
set_option maxRecDepth 20000 in
theorem w_234 : (Jvm.Cond.instanceMethod ({ cls := "FilmCans$Laboratory", name := "<init>", desc := "()V" } : Jvm.MethodName)) ∈ wAll := wAll_of (List.mem_of_getElem? (i := 234) (by decide +kernel)) (by decide +kernel)
set_option maxRecDepth 20000 in
theorem w_235 : (Jvm.Cond.code ({ cls := "FilmCans$Laboratory", name := "<init>", desc := "()V" } : Jvm.MethodName) prog_6_method_1_code (1 : Nat) (Option.none : Option Jvm.ClassFile.FieldType)) ∈ wAll := wAll_of (List.mem_of_getElem? (i := 235) (by decide +kernel)) (by decide +kernel)
set_option maxRecDepth 20000 in
theorem w_236 : (Jvm.Cond.methodLink "FilmCans$Laboratory" (3 : Nat) ({ cls := "java/lang/Object", name := "<init>", desc := "()V" } : Jvm.MethodName)) ∈ wAll := wAll_of (List.mem_of_getElem? (i := 236) (by decide +kernel)) (by decide +kernel)
set_option maxRecDepth 20000 in
theorem w_250 : (Jvm.Cond.classLink "FilmCans" (44 : Nat) "FilmCans$Rooms") ∈ wAll := wAll_of (List.mem_of_getElem? (i := 250) (by decide +kernel)) (by decide +kernel)
set_option maxRecDepth 20000 in
theorem w_251 : (Jvm.Cond.instantiable "FilmCans$Rooms" (11 : Nat)) ∈ wAll := wAll_of (List.mem_of_getElem? (i := 251) (by decide +kernel)) (by decide +kernel)
set_option maxRecDepth 20000 in
theorem w_253 : (Jvm.Cond.instanceMethod ({ cls := "FilmCans$Rooms", name := "<init>", desc := "()V" } : Jvm.MethodName)) ∈ wAll := wAll_of (List.mem_of_getElem? (i := 253) (by decide +kernel)) (by decide +kernel)
set_option maxRecDepth 20000 in
theorem w_254 : (Jvm.Cond.code ({ cls := "FilmCans$Rooms", name := "<init>", desc := "()V" } : Jvm.MethodName) prog_8_method_1_code (1 : Nat) (Option.none : Option Jvm.ClassFile.FieldType)) ∈ wAll := wAll_of (List.mem_of_getElem? (i := 254) (by decide +kernel)) (by decide +kernel)
set_option maxRecDepth 20000 in
theorem w_255 : (Jvm.Cond.methodLink "FilmCans$Rooms" (3 : Nat) ({ cls := "java/lang/Object", name := "<init>", desc := "()V" } : Jvm.MethodName)) ∈ wAll := wAll_of (List.mem_of_getElem? (i := 255) (by decide +kernel)) (by decide +kernel)
set_option maxRecDepth 20000 in
theorem w_256 : (Jvm.Cond.classLink "FilmCans$Rooms" (33 : Nat) "[[I") ∈ wAll := wAll_of (List.mem_of_getElem? (i := 256) (by decide +kernel)) (by decide +kernel)
set_option maxRecDepth 20000 in
theorem w_302 : (Jvm.Cond.classLink "FilmCans" (51 : Nat) "FilmCans$Best") ∈ wAll := wAll_of (List.mem_of_getElem? (i := 302) (by decide +kernel)) (by decide +kernel)
set_option maxRecDepth 20000 in
theorem w_303 : (Jvm.Cond.instantiable "FilmCans$Best" (1 : Nat)) ∈ wAll := wAll_of (List.mem_of_getElem? (i := 303) (by decide +kernel)) (by decide +kernel)
set_option maxRecDepth 20000 in
theorem w_305 : (Jvm.Cond.instanceMethod ({ cls := "FilmCans$Best", name := "<init>", desc := "()V" } : Jvm.MethodName)) ∈ wAll := wAll_of (List.mem_of_getElem? (i := 305) (by decide +kernel)) (by decide +kernel)
set_option maxRecDepth 20000 in
theorem w_306 : (Jvm.Cond.code ({ cls := "FilmCans$Best", name := "<init>", desc := "()V" } : Jvm.MethodName) prog_2_method_1_code (1 : Nat) (Option.none : Option Jvm.ClassFile.FieldType)) ∈ wAll := wAll_of (List.mem_of_getElem? (i := 306) (by decide +kernel)) (by decide +kernel)
set_option maxRecDepth 20000 in
theorem w_307 : (Jvm.Cond.methodLink "FilmCans$Best" (3 : Nat) ({ cls := "java/lang/Object", name := "<init>", desc := "()V" } : Jvm.MethodName)) ∈ wAll := wAll_of (List.mem_of_getElem? (i := 307) (by decide +kernel)) (by decide +kernel)
set_option maxRecDepth 20000 in
theorem w_308 : (Jvm.Cond.classLink "FilmCans$Best" (9 : Nat) "[[I") ∈ wAll := wAll_of (List.mem_of_getElem? (i := 308) (by decide +kernel)) (by decide +kernel)
set_option maxRecDepth 20000 in
theorem w_313 : (Jvm.Cond.classLink "FilmCans" (58 : Nat) "FilmCans$Reach") ∈ wAll := wAll_of (List.mem_of_getElem? (i := 313) (by decide +kernel)) (by decide +kernel)
set_option maxRecDepth 20000 in
theorem w_314 : (Jvm.Cond.instantiable "FilmCans$Reach" (2 : Nat)) ∈ wAll := wAll_of (List.mem_of_getElem? (i := 314) (by decide +kernel)) (by decide +kernel)
set_option maxRecDepth 20000 in
theorem w_316 : (Jvm.Cond.instanceMethod ({ cls := "FilmCans$Reach", name := "<init>", desc := "()V" } : Jvm.MethodName)) ∈ wAll := wAll_of (List.mem_of_getElem? (i := 316) (by decide +kernel)) (by decide +kernel)
set_option maxRecDepth 20000 in
theorem w_317 : (Jvm.Cond.code ({ cls := "FilmCans$Reach", name := "<init>", desc := "()V" } : Jvm.MethodName) prog_7_method_1_code (1 : Nat) (Option.none : Option Jvm.ClassFile.FieldType)) ∈ wAll := wAll_of (List.mem_of_getElem? (i := 317) (by decide +kernel)) (by decide +kernel)
set_option maxRecDepth 20000 in
theorem w_318 : (Jvm.Cond.methodLink "FilmCans$Reach" (3 : Nat) ({ cls := "java/lang/Object", name := "<init>", desc := "()V" } : Jvm.MethodName)) ∈ wAll := wAll_of (List.mem_of_getElem? (i := 318) (by decide +kernel)) (by decide +kernel)
set_option maxRecDepth 20000 in
theorem w_326 : (Jvm.Cond.arrayClass Jvm.ClassFile.FieldType.long) ∈ wAll := wAll_of (List.mem_of_getElem? (i := 326) (by decide +kernel)) (by decide +kernel)
set_option maxRecDepth 20000 in
theorem w_942 : (Jvm.Cond.methodLink "FilmCansModel" (1 : Nat) ({ cls := "java/lang/Object", name := "<init>", desc := "()V" } : Jvm.MethodName)) ∈ wAll := wAll_of (List.mem_of_getElem? (i := 942) (by decide +kernel)) (by decide +kernel)
set_option maxRecDepth 20000 in
theorem w_1007 : (Jvm.Cond.arrayClass Jvm.ClassFile.FieldType.boolean) ∈ wAll := wAll_of (List.mem_of_getElem? (i := 1007) (by decide +kernel)) (by decide +kernel)
def TapeP (P : PT) : PT := (uP P 1 0 2)
def TapeM (M : Mem) : Mem := M
theorem mc_Tape (l : Launch) (E : En) (P : PT) (M : Mem) : MC l E yX7_init cX7_init 1 1 12 1 110 1 2 P M 3 (TapeP P) (TapeM M) := by
  refine MC_of (by decide) rfl (by decide) (fun Z _ X hc hs hao hnm hH ls hl => ?_)
  refine lv_aload_n X.1 X.2.1 dX7_init_0 rfl (lv_at hl 0 rfl) ?_
  refine W.objInit X.1 X.2.1 X.2.2.2.1 (X.2.2.2.2.1 _ w_93) (X.2.2.2.2.1 _ w_86) (X.2.2.2.2.1 _ wo_code) rfl (hl.1.trans X.2.2.1.symm) rfl dX7_init_1 (Nat.le_trans (by decide) X.2.2.2.2.2.2.2.2.1) (Nat.le_trans (Nat.le_of_ble_eq_true rfl) X.2.2.2.2.2.2.2.2.2) ?_
  refine lv_aload_n X.1 X.2.1 dX7_init_4 rfl (lv_at hl 0 rfl) ?_
  refine lv_bipush (v := 110) X.1 X.2.1 dX7_init_5 (by decide) ?_
  refine w_newaI X hH (N := 110) (by decide +kernel) (by decide +kernel) w_110 (by decide) (by decide) (by decide) (by rw [hc]; exact Nat.le_of_ble_eq_true rfl) (by rw [hs]; exact Nat.le_of_ble_eq_true rfl) dX7_init_7 (fun H1 hH1 => ?_)
  refine w_putR X hH1 (c := 6) (f := 0) (t := 2) (by decide) (by decide +kernel) (by decide) rfl rfl uw_7 tyX7 tyX7_ok nmX7 (by decide) rfl w_94 rfl hnm rfl (tyX7_ok 0 (by decide)) rfl rfl dX7_init_9 (fun H2 locs2 hH2 => ?_)
  exact QC_ret X hao hH2 dX7_init_12
def dayP (P : PT) (k : Nat) : PT := (uP (uP (uP (uP (uP (uP (uP (uP (uP (uP (uP P k 9 ((k + 1) + 0)) k 10 ((k + 1) + 1)) k 11 ((k + 1) + 2)) k 12 ((k + 1) + 3)) k 13 ((k + 1) + 4)) k 14 ((k + 1) + 5)) k 15 ((k + 1) + 6)) k 16 ((k + 1) + 7)) k 17 ((k + 1) + 8)) k 18 ((k + 1) + 9)) k 19 ((k + 1) + 10))
def dayM (M : Mem) (k : Nat) : Mem := (uI M k 3 (-1000000))
theorem mc_Day (l : Launch) (E : En) (k : Nat) (hk : isDay k) (P : PT) (M : Mem) : MC l E yX1_init cX1_init 1 1 12 11 76 k (k + 1) P M (k + 1 + 11) (dayP P k) (dayM M k) := by
  refine MC_of (by decide) rfl (by decide) (fun Z _ X hc hs hao hnm hH ls hl => ?_)
  refine lv_aload_n X.1 X.2.1 dX1_init_0 rfl (lv_at hl 0 rfl) ?_
  refine W.objInit X.1 X.2.1 X.2.2.2.1 (X.2.2.2.2.1 _ w_116) (X.2.2.2.2.1 _ w_86) (X.2.2.2.2.1 _ wo_code) rfl (hl.1.trans X.2.2.1.symm) rfl dX1_init_1 (Nat.le_trans (by decide) X.2.2.2.2.2.2.2.2.1) (Nat.le_trans (Nat.le_of_ble_eq_true rfl) X.2.2.2.2.2.2.2.2.2) ?_
  refine lv_aload_n X.1 X.2.1 dX1_init_4 rfl (lv_at hl 0 rfl) ?_
  refine lv_ldc X.1 X.2.1 X.2.2.2.1 (X.2.2.2.2.1 _ w_117) dX1_init_5 ?_
  refine w_putI X hH (by omega) (day_C hk).2 fRX1_10 dX1_init_7 (fun H1 locs1 hH1 => ?_)
  refine lv_aload_n X.1 X.2.1 dX1_init_10 rfl (lv_at hl 0 rfl) ?_
  refine lv_iconst (v := 4) X.1 X.2.1 dX1_init_11 (by decide) ?_
  refine w_newaI X hH1 (N := 4) (day_A1 hk).2 (day_L1 hk) w_110 (by decide) (by decide) (by decide) (by rw [hc]; exact Nat.le_of_ble_eq_true rfl) (by rw [hs]; exact Nat.le_of_ble_eq_true rfl) dX1_init_12 (fun H2 hH2 => ?_)
  refine w_putR X hH2 (c := 1) (f := 9) (t := ((k + 1) + 0)) (by omega) (day_C hk).2 (by decide) rfl rfl uw_1 tyX1 tyX1_ok nmX1 (by decide) rfl w_140 rfl hnm rfl (tyX1_ok 9 (by decide)) rfl rfl dX1_init_14 (fun H3 locs3 hH3 => ?_)
  refine lv_aload_n X.1 X.2.1 dX1_init_17 rfl (lv_at hl 0 rfl) ?_
  refine lv_bipush (v := 6) X.1 X.2.1 dX1_init_18 (by decide) ?_
  refine w_newaI X hH3 (N := 6) (day_A2 hk).2 (day_L2 hk) w_110 (by decide) (by decide) (by decide) (by rw [hc]; exact Nat.le_of_ble_eq_true rfl) (by rw [hs]; exact Nat.le_of_ble_eq_true rfl) dX1_init_20 (fun H4 hH4 => ?_)
  refine w_putR X hH4 (c := 1) (f := 10) (t := ((k + 1) + 1)) (by omega) (day_C hk).2 (by decide) rfl rfl uw_1 tyX1 tyX1_ok nmX1 (by decide) rfl w_145 rfl hnm rfl (tyX1_ok 10 (by decide)) rfl rfl dX1_init_22 (fun H5 locs5 hH5 => ?_)
  refine lv_aload_n X.1 X.2.1 dX1_init_25 rfl (lv_at hl 0 rfl) ?_
  refine lv_bipush (v := 6) X.1 X.2.1 dX1_init_26 (by decide) ?_
  refine w_newaI X hH5 (N := 6) (day_A3 hk).2 (day_L3 hk) w_110 (by decide) (by decide) (by decide) (by rw [hc]; exact Nat.le_of_ble_eq_true rfl) (by rw [hs]; exact Nat.le_of_ble_eq_true rfl) dX1_init_28 (fun H6 hH6 => ?_)
  refine w_putR X hH6 (c := 1) (f := 11) (t := ((k + 1) + 2)) (by omega) (day_C hk).2 (by decide) rfl rfl uw_1 tyX1 tyX1_ok nmX1 (by decide) rfl w_148 rfl hnm rfl (tyX1_ok 11 (by decide)) rfl rfl dX1_init_30 (fun H7 locs7 hH7 => ?_)
  refine lv_aload_n X.1 X.2.1 dX1_init_33 rfl (lv_at hl 0 rfl) ?_
  refine lv_bipush (v := 6) X.1 X.2.1 dX1_init_34 (by decide) ?_
  refine w_newaI X hH7 (N := 6) (day_A4 hk).2 (day_L4 hk) w_110 (by decide) (by decide) (by decide) (by rw [hc]; exact Nat.le_of_ble_eq_true rfl) (by rw [hs]; exact Nat.le_of_ble_eq_true rfl) dX1_init_36 (fun H8 hH8 => ?_)
  refine w_putR X hH8 (c := 1) (f := 12) (t := ((k + 1) + 3)) (by omega) (day_C hk).2 (by decide) rfl rfl uw_1 tyX1 tyX1_ok nmX1 (by decide) rfl w_151 rfl hnm rfl (tyX1_ok 12 (by decide)) rfl rfl dX1_init_38 (fun H9 locs9 hH9 => ?_)
  refine lv_aload_n X.1 X.2.1 dX1_init_41 rfl (lv_at hl 0 rfl) ?_
  refine lv_bipush (v := 6) X.1 X.2.1 dX1_init_42 (by decide) ?_
  refine w_newaI X hH9 (N := 6) (day_A5 hk).2 (day_L5 hk) w_110 (by decide) (by decide) (by decide) (by rw [hc]; exact Nat.le_of_ble_eq_true rfl) (by rw [hs]; exact Nat.le_of_ble_eq_true rfl) dX1_init_44 (fun H10 hH10 => ?_)
  refine w_putR X hH10 (c := 1) (f := 13) (t := ((k + 1) + 4)) (by omega) (day_C hk).2 (by decide) rfl rfl uw_1 tyX1 tyX1_ok nmX1 (by decide) rfl w_153 rfl hnm rfl (tyX1_ok 13 (by decide)) rfl rfl dX1_init_46 (fun H11 locs11 hH11 => ?_)
  refine lv_aload_n X.1 X.2.1 dX1_init_49 rfl (lv_at hl 0 rfl) ?_
  refine lv_bipush (v := 8) X.1 X.2.1 dX1_init_50 (by decide) ?_
  refine w_newaI X hH11 (N := 8) (day_A6 hk).2 (day_L6 hk) w_110 (by decide) (by decide) (by decide) (by rw [hc]; exact Nat.le_of_ble_eq_true rfl) (by rw [hs]; exact Nat.le_of_ble_eq_true rfl) dX1_init_52 (fun H12 hH12 => ?_)
  refine w_putR X hH12 (c := 1) (f := 14) (t := ((k + 1) + 5)) (by omega) (day_C hk).2 (by decide) rfl rfl uw_1 tyX1 tyX1_ok nmX1 (by decide) rfl w_155 rfl hnm rfl (tyX1_ok 14 (by decide)) rfl rfl dX1_init_54 (fun H13 locs13 hH13 => ?_)
  refine lv_aload_n X.1 X.2.1 dX1_init_57 rfl (lv_at hl 0 rfl) ?_
  refine lv_bipush (v := 8) X.1 X.2.1 dX1_init_58 (by decide) ?_
  refine w_newaI X hH13 (N := 8) (day_A7 hk).2 (day_L7 hk) w_110 (by decide) (by decide) (by decide) (by rw [hc]; exact Nat.le_of_ble_eq_true rfl) (by rw [hs]; exact Nat.le_of_ble_eq_true rfl) dX1_init_60 (fun H14 hH14 => ?_)
  refine w_putR X hH14 (c := 1) (f := 15) (t := ((k + 1) + 6)) (by omega) (day_C hk).2 (by decide) rfl rfl uw_1 tyX1 tyX1_ok nmX1 (by decide) rfl w_157 rfl hnm rfl (tyX1_ok 15 (by decide)) rfl rfl dX1_init_62 (fun H15 locs15 hH15 => ?_)
  refine lv_aload_n X.1 X.2.1 dX1_init_65 rfl (lv_at hl 0 rfl) ?_
  refine lv_bipush (v := 8) X.1 X.2.1 dX1_init_66 (by decide) ?_
  refine w_newaI X hH15 (N := 8) (day_A8 hk).2 (day_L8 hk) w_110 (by decide) (by decide) (by decide) (by rw [hc]; exact Nat.le_of_ble_eq_true rfl) (by rw [hs]; exact Nat.le_of_ble_eq_true rfl) dX1_init_68 (fun H16 hH16 => ?_)
  refine w_putR X hH16 (c := 1) (f := 16) (t := ((k + 1) + 7)) (by omega) (day_C hk).2 (by decide) rfl rfl uw_1 tyX1 tyX1_ok nmX1 (by decide) rfl w_160 rfl hnm rfl (tyX1_ok 16 (by decide)) rfl rfl dX1_init_70 (fun H17 locs17 hH17 => ?_)
  refine lv_aload_n X.1 X.2.1 dX1_init_73 rfl (lv_at hl 0 rfl) ?_
  refine lv_bipush (v := 8) X.1 X.2.1 dX1_init_74 (by decide) ?_
  refine w_newaI X hH17 (N := 8) (day_A9 hk).2 (day_L9 hk) w_110 (by decide) (by decide) (by decide) (by rw [hc]; exact Nat.le_of_ble_eq_true rfl) (by rw [hs]; exact Nat.le_of_ble_eq_true rfl) dX1_init_76 (fun H18 hH18 => ?_)
  refine w_putR X hH18 (c := 1) (f := 17) (t := ((k + 1) + 8)) (by omega) (day_C hk).2 (by decide) rfl rfl uw_1 tyX1 tyX1_ok nmX1 (by decide) rfl w_162 rfl hnm rfl (tyX1_ok 17 (by decide)) rfl rfl dX1_init_78 (fun H19 locs19 hH19 => ?_)
  refine lv_aload_n X.1 X.2.1 dX1_init_81 rfl (lv_at hl 0 rfl) ?_
  refine lv_bipush (v := 8) X.1 X.2.1 dX1_init_82 (by decide) ?_
  refine w_newaI X hH19 (N := 8) (day_A10 hk).2 (day_L10 hk) w_110 (by decide) (by decide) (by decide) (by rw [hc]; exact Nat.le_of_ble_eq_true rfl) (by rw [hs]; exact Nat.le_of_ble_eq_true rfl) dX1_init_84 (fun H20 hH20 => ?_)
  refine w_putR X hH20 (c := 1) (f := 18) (t := ((k + 1) + 9)) (by omega) (day_C hk).2 (by decide) rfl rfl uw_1 tyX1 tyX1_ok nmX1 (by decide) rfl w_164 rfl hnm rfl (tyX1_ok 18 (by decide)) rfl rfl dX1_init_86 (fun H21 locs21 hH21 => ?_)
  refine lv_aload_n X.1 X.2.1 dX1_init_89 rfl (lv_at hl 0 rfl) ?_
  refine lv_bipush (v := 8) X.1 X.2.1 dX1_init_90 (by decide) ?_
  refine w_newaI X hH21 (N := 8) (day_A11 hk).2 (day_L11 hk) w_110 (by decide) (by decide) (by decide) (by rw [hc]; exact Nat.le_of_ble_eq_true rfl) (by rw [hs]; exact Nat.le_of_ble_eq_true rfl) dX1_init_92 (fun H22 hH22 => ?_)
  refine w_putR X hH22 (c := 1) (f := 19) (t := ((k + 1) + 10)) (by omega) (day_C hk).2 (by decide) rfl rfl uw_1 tyX1 tyX1_ok nmX1 (by decide) rfl w_167 rfl hnm rfl (tyX1_ok 19 (by decide)) rfl rfl dX1_init_94 (fun H23 locs23 hH23 => ?_)
  exact QC_ret X hao hH23 dX1_init_97
def histP (P : PT) : Nat → PT
  | 0 => uP P 27 0 28
  | i + 1 => uP (dayP (histP P i) (29 + 12 * i)) 28 i (29 + 12 * i)
def histM (M : Mem) : Nat → Mem
  | 0 => M
  | i + 1 => dayM (histM M i) (29 + 12 * i)
def HistP (P : PT) : PT := histP P 20
def HistM (M : Mem) : Mem := histM M 20
theorem dayP_ne {P : PT} {k a g : Nat} (h : a ≠ k) : dayP P k a g = P a g := by
  simp [dayP, uP, h]
theorem histP_ring (P : PT) : ∀ i : Nat, histP P i 27 0 = some 28
  | 0 => by simp [histP, uP]
  | i + 1 => by
    have h1 : (27 : Nat) ≠ 29 + 12 * i := by omega
    have := histP_ring P i
    simp only [histP]
    show (if 27 = 28 ∧ 0 = i then some (29 + 12 * i) else dayP (histP P i) (29 + 12 * i) 27 0) = some 28
    rw [if_neg (by omega), dayP_ne h1]
    exact this
theorem ring_k : ∀ i, i < 20 → kd (29 + 12 * i) = 1 := by decide +kernel
theorem ring_D : ∀ i, i < 20 → (29 + 12 * i) ∈ dayL := by decide +kernel
theorem hist_loop {Z : ZT} {E : En} {P : PT} {M : Mem} (X : Cx Z E 2 cX2_init RX2 none 2 32) (hc : (zR Z).cells = 241) (hs : (zR Z).slots = 1940) (hao : AO (zs Z)) :
    ∀ (m i : Nat), i + m = 20 → ∀ (H : Heap) (locs : List Loc) (ls : Array Slot), HW E (29 + 12 * i) (histP P i) (histM M i) (zs Z) H locs → lv_has ls 2 [(1, .int (nI i)), (0, .ref (ad E 27))] → WW Z H locs (1 + 12 * i) (20 + 96 * i) (QC Z E 269 (HistP P) (HistM M) 241 1940) 15 ls [] := by
  intro m
  induction m with
  | zero =>
    intro i hi H locs ls hH hl
    have : i = 20 := by omega
    subst this
    refine lv_iload_n X.1 X.2.1 dX2_init_15 rfl (lv_at hl 0 rfl) ?_
    refine lv_bipush (v := 20) X.1 X.2.1 dX2_init_16 (by decide) ?_
    refine lv_icmp_ge (tgt := 40) X.1 X.2.1 dX2_init_18 (by decide) (fun q => ?_) (fun q => absurd (by decide) q)
    exact QC_ret X hao hH dX2_init_40
  | succ m ih =>
    intro i hi H locs ls hH hl
    have hi20 : i < 20 := by omega
    refine lv_iload_n X.1 X.2.1 dX2_init_15 rfl (lv_at hl 0 rfl) ?_
    refine lv_bipush (v := 20) X.1 X.2.1 dX2_init_16 (by decide) ?_
    refine lv_icmp_ge (tgt := 40) X.1 X.2.1 dX2_init_18 (by decide) (fun q => absurd q (nI_ge (b := 20) hi20 (by decide))) (fun q => ?_)
    refine lv_aload_n X.1 X.2.1 dX2_init_21 rfl (lv_at hl 1 rfl) ?_
    refine w_getR X hH (by omega) (by decide +kernel) fRX2_11 (t := 28) (histP_ring P i) dX2_init_22 ?_
    refine lv_iload_n X.1 X.2.1 dX2_init_25 rfl (lv_at hl 0 rfl) ?_
    refine w_new X hH (c := 1) (ring_k i hi20) (by decide) rfl rfl uw_1 tyX1 tyX1_ok (by decide +kernel) w_217 w_112 w_68 (by rw [hc]; omega) (by rw [hs]; omega) dX2_init_26 (fun H1 hH1 => ?_)
    refine lv_dup X.1 X.2.1 dX2_init_29 rfl ?_
    refine w_init X hao hH1 (mc_Day (zl Z) E (29 + 12 * i) (ring_D i hi20) _ _) (⟨w_114, w_68, w_115, ⟨by decide, by decide, by decide +kernel⟩, rfl, Or.inr ⟨"FilmCans", by decide +kernel⟩⟩) ⟨by decide, by decide⟩ hl.1 (Nat.le_of_ble_eq_true rfl) (by rw [hc]; omega) (by rw [hs]; omega) dX2_init_30 (fun H2 locs2 hH2 => ?_)
    refine w_aast X hH2 (N := 20) (by omega) (by decide +kernel) (by decide +kernel) (by omega) (ring_k i hi20) i (by simp only [inb, nI_toInt (show i < 2 ^ 31 by omega), Bool.and_eq_true, decide_eq_true_eq]; omega) (nI_clamp (by omega)) dX2_init_33 (fun H3 locs3 hH3 => ?_)
    refine lv_iinc (v := nI (i + 1)) (lv' := [(1, .int (nI (i + 1))), (0, .ref (ad E 27))]) X.1 X.2.1 dX2_init_34 hl (k := 0) rfl (nI_1 i) (by decide) rfl (fun ls hl => ?_)
    refine lv_goto (tgt := 15) X.1 X.2.1 dX2_init_37 (by decide) ?_
    have e1 : 1 + 12 * i + 1 + 11 = 1 + 12 * (i + 1) := by omega
    have e2 : 20 + 96 * i + 20 + 76 = 20 + 96 * (i + 1) := by omega
    have e3 : 29 + 12 * i + 1 + 11 = 29 + 12 * (i + 1) := by omega
    rw [e3] at hH3
    rw [e1, e2]
    exact ih (i + 1) (by omega) H3 locs3 ls hH3 hl
theorem mc_Hist (l : Launch) (E : En) (P : PT) (M : Mem) : MC l E yX2_init cX2_init 2 2 32 241 1940 27 28 P M 269 (HistP P) (HistM M) := by
  refine MC_of (by decide) rfl (by decide) (fun Z _ X hc hs hao hnm hH ls hl => ?_)
  refine lv_aload_n X.1 X.2.1 dX2_init_0 rfl (lv_at hl 0 rfl) ?_
  refine W.objInit X.1 X.2.1 X.2.2.2.1 (X.2.2.2.2.1 _ w_216) (X.2.2.2.2.1 _ w_86) (X.2.2.2.2.1 _ wo_code) rfl (hl.1.trans X.2.2.1.symm) rfl dX2_init_1 (Nat.le_trans (by decide) X.2.2.2.2.2.2.2.2.1) (Nat.le_trans (Nat.le_of_ble_eq_true rfl) X.2.2.2.2.2.2.2.2.2) ?_
  refine lv_aload_n X.1 X.2.1 dX2_init_4 rfl (lv_at hl 0 rfl) ?_
  refine lv_bipush (v := 20) X.1 X.2.1 dX2_init_5 (by decide) ?_
  refine w_anew X hH hao (N := 20) (by decide +kernel) (by decide +kernel) w_217 (by decide) (by decide) (by decide) (by rw [hc]; exact Nat.le_of_ble_eq_true rfl) (by rw [hs]; exact Nat.le_of_ble_eq_true rfl) dX2_init_7 (fun H1 hH1 => ?_)
  refine w_putR X hH1 (c := 2) (f := 0) (t := 28) (by decide) (by decide +kernel) (by decide) rfl rfl uw_2 tyX2 tyX2_ok nmX2 (by decide) rfl w_220 rfl hnm rfl (tyX2_ok 0 (by decide)) rfl rfl dX2_init_10 (fun H2 locs2 hH2 => ?_)
  refine lv_iconst (v := 0) X.1 X.2.1 dX2_init_13 (by decide) ?_
  refine lv_istore_n (lv' := [(1, .int (nI 0)), (0, .ref (ad E 27))]) X.1 X.2.1 dX2_init_14 rfl hl (by decide) rfl (fun ls hl => ?_)
  exact hist_loop X hc hs hao 20 0 rfl H2 locs2 ls hH2 hl
def LabP (P : PT) : PT := (uP (uP (uP (uP P 294 0 295) 294 1 296) 294 2 297) 294 3 298)
def LabM (M : Mem) : Mem := M
theorem mc_Lab (l : Launch) (E : En) (P : PT) (M : Mem) : MC l E yX4_init cX4_init 1 1 12 4 528 294 295 P M 299 (LabP P) (LabM M) := by
  refine MC_of (by decide) rfl (by decide) (fun Z _ X hc hs hao hnm hH ls hl => ?_)
  refine lv_aload_n X.1 X.2.1 dX4_init_0 rfl (lv_at hl 0 rfl) ?_
  refine W.objInit X.1 X.2.1 X.2.2.2.1 (X.2.2.2.2.1 _ w_236) (X.2.2.2.2.1 _ w_86) (X.2.2.2.2.1 _ wo_code) rfl (hl.1.trans X.2.2.1.symm) rfl dX4_init_1 (Nat.le_trans (by decide) X.2.2.2.2.2.2.2.2.1) (Nat.le_trans (Nat.le_of_ble_eq_true rfl) X.2.2.2.2.2.2.2.2.2) ?_
  refine lv_aload_n X.1 X.2.1 dX4_init_4 rfl (lv_at hl 0 rfl) ?_
  refine lv_bipush (v := 8) X.1 X.2.1 dX4_init_5 (by decide) ?_
  refine w_newaI X hH (N := 8) (by decide +kernel) (by decide +kernel) w_110 (by decide) (by decide) (by decide) (by rw [hc]; exact Nat.le_of_ble_eq_true rfl) (by rw [hs]; exact Nat.le_of_ble_eq_true rfl) dX4_init_7 (fun H1 hH1 => ?_)
  refine w_putR X hH1 (c := 3) (f := 0) (t := 295) (by decide) (by decide +kernel) (by decide) rfl rfl uw_4 tyX4 tyX4_ok nmX4 (by decide) rfl w_237 rfl hnm rfl (tyX4_ok 0 (by decide)) rfl rfl dX4_init_9 (fun H2 locs2 hH2 => ?_)
  refine lv_aload_n X.1 X.2.1 dX4_init_12 rfl (lv_at hl 0 rfl) ?_
  refine lv_bipush (v := 8) X.1 X.2.1 dX4_init_13 (by decide) ?_
  refine w_newaI X hH2 (N := 8) (by decide +kernel) (by decide +kernel) w_110 (by decide) (by decide) (by decide) (by rw [hc]; exact Nat.le_of_ble_eq_true rfl) (by rw [hs]; exact Nat.le_of_ble_eq_true rfl) dX4_init_15 (fun H3 hH3 => ?_)
  refine w_putR X hH3 (c := 3) (f := 1) (t := 296) (by decide) (by decide +kernel) (by decide) rfl rfl uw_4 tyX4 tyX4_ok nmX4 (by decide) rfl w_238 rfl hnm rfl (tyX4_ok 1 (by decide)) rfl rfl dX4_init_17 (fun H4 locs4 hH4 => ?_)
  refine lv_aload_n X.1 X.2.1 dX4_init_20 rfl (lv_at hl 0 rfl) ?_
  refine lv_sipush (v := 256) X.1 X.2.1 dX4_init_21 (by decide) ?_
  refine w_newaI X hH4 (N := 256) (by decide +kernel) (by decide +kernel) w_110 (by decide) (by decide) (by decide) (by rw [hc]; exact Nat.le_of_ble_eq_true rfl) (by rw [hs]; exact Nat.le_of_ble_eq_true rfl) dX4_init_24 (fun H5 hH5 => ?_)
  refine w_putR X hH5 (c := 3) (f := 2) (t := 297) (by decide) (by decide +kernel) (by decide) rfl rfl uw_4 tyX4 tyX4_ok nmX4 (by decide) rfl w_239 rfl hnm rfl (tyX4_ok 2 (by decide)) rfl rfl dX4_init_26 (fun H6 locs6 hH6 => ?_)
  refine lv_aload_n X.1 X.2.1 dX4_init_29 rfl (lv_at hl 0 rfl) ?_
  refine lv_sipush (v := 256) X.1 X.2.1 dX4_init_30 (by decide) ?_
  refine w_newaI X hH6 (N := 256) (by decide +kernel) (by decide +kernel) w_110 (by decide) (by decide) (by decide) (by rw [hc]; exact Nat.le_of_ble_eq_true rfl) (by rw [hs]; exact Nat.le_of_ble_eq_true rfl) dX4_init_33 (fun H7 hH7 => ?_)
  refine w_putR X hH7 (c := 3) (f := 3) (t := 298) (by decide) (by decide +kernel) (by decide) rfl rfl uw_4 tyX4 tyX4_ok nmX4 (by decide) rfl w_240 rfl hnm rfl (tyX4_ok 3 (by decide)) rfl rfl dX4_init_35 (fun H8 locs8 hH8 => ?_)
  exact QC_ret X hao hH8 dX4_init_38
def RoomsP (P : PT) : PT := (uP (uP (uR (uP (uP (uP (uP (uP (uP (uP P 299 2 300) 299 3 301) 299 4 302) 299 5 303) 299 6 304) 299 7 305) 299 8 306) 307 6 308) 299 9 307) 299 10 314)
def RoomsM (M : Mem) : Mem := M
theorem mc_Rooms (l : Launch) (E : En) (P : PT) (M : Mem) : MC l E yX6_init cX6_init 1 1 12 15 1842 299 300 P M 315 (RoomsP P) (RoomsM M) := by
  refine MC_of (by decide) rfl (by decide) (fun Z _ X hc hs hao hnm hH ls hl => ?_)
  refine lv_aload_n X.1 X.2.1 dX6_init_0 rfl (lv_at hl 0 rfl) ?_
  refine W.objInit X.1 X.2.1 X.2.2.2.1 (X.2.2.2.2.1 _ w_255) (X.2.2.2.2.1 _ w_86) (X.2.2.2.2.1 _ wo_code) rfl (hl.1.trans X.2.2.1.symm) rfl dX6_init_1 (Nat.le_trans (by decide) X.2.2.2.2.2.2.2.2.1) (Nat.le_trans (Nat.le_of_ble_eq_true rfl) X.2.2.2.2.2.2.2.2.2) ?_
  refine lv_aload_n X.1 X.2.1 dX6_init_4 rfl (lv_at hl 0 rfl) ?_
  refine lv_bipush (v := 6) X.1 X.2.1 dX6_init_5 (by decide) ?_
  refine w_newaI X hH (N := 6) (by decide +kernel) (by decide +kernel) w_110 (by decide) (by decide) (by decide) (by rw [hc]; exact Nat.le_of_ble_eq_true rfl) (by rw [hs]; exact Nat.le_of_ble_eq_true rfl) dX6_init_7 (fun H1 hH1 => ?_)
  refine w_putR X hH1 (c := 5) (f := 2) (t := 300) (by decide) (by decide +kernel) (by decide) rfl rfl uw_6 tyX6 tyX6_ok nmX6 (by decide) rfl w_264 rfl hnm rfl (tyX6_ok 2 (by decide)) rfl rfl dX6_init_9 (fun H2 locs2 hH2 => ?_)
  refine lv_aload_n X.1 X.2.1 dX6_init_12 rfl (lv_at hl 0 rfl) ?_
  refine lv_bipush (v := 6) X.1 X.2.1 dX6_init_13 (by decide) ?_
  refine w_newaI X hH2 (N := 6) (by decide +kernel) (by decide +kernel) w_110 (by decide) (by decide) (by decide) (by rw [hc]; exact Nat.le_of_ble_eq_true rfl) (by rw [hs]; exact Nat.le_of_ble_eq_true rfl) dX6_init_15 (fun H3 hH3 => ?_)
  refine w_putR X hH3 (c := 5) (f := 3) (t := 301) (by decide) (by decide +kernel) (by decide) rfl rfl uw_6 tyX6 tyX6_ok nmX6 (by decide) rfl w_265 rfl hnm rfl (tyX6_ok 3 (by decide)) rfl rfl dX6_init_17 (fun H4 locs4 hH4 => ?_)
  refine lv_aload_n X.1 X.2.1 dX6_init_20 rfl (lv_at hl 0 rfl) ?_
  refine lv_bipush (v := 6) X.1 X.2.1 dX6_init_21 (by decide) ?_
  refine w_newaI X hH4 (N := 6) (by decide +kernel) (by decide +kernel) w_110 (by decide) (by decide) (by decide) (by rw [hc]; exact Nat.le_of_ble_eq_true rfl) (by rw [hs]; exact Nat.le_of_ble_eq_true rfl) dX6_init_23 (fun H5 hH5 => ?_)
  refine w_putR X hH5 (c := 5) (f := 4) (t := 302) (by decide) (by decide +kernel) (by decide) rfl rfl uw_6 tyX6 tyX6_ok nmX6 (by decide) rfl w_266 rfl hnm rfl (tyX6_ok 4 (by decide)) rfl rfl dX6_init_25 (fun H6 locs6 hH6 => ?_)
  refine lv_aload_n X.1 X.2.1 dX6_init_28 rfl (lv_at hl 0 rfl) ?_
  refine lv_bipush (v := 6) X.1 X.2.1 dX6_init_29 (by decide) ?_
  refine w_newaI X hH6 (N := 6) (by decide +kernel) (by decide +kernel) w_110 (by decide) (by decide) (by decide) (by rw [hc]; exact Nat.le_of_ble_eq_true rfl) (by rw [hs]; exact Nat.le_of_ble_eq_true rfl) dX6_init_31 (fun H7 hH7 => ?_)
  refine w_putR X hH7 (c := 5) (f := 5) (t := 303) (by decide) (by decide +kernel) (by decide) rfl rfl uw_6 tyX6 tyX6_ok nmX6 (by decide) rfl w_267 rfl hnm rfl (tyX6_ok 5 (by decide)) rfl rfl dX6_init_33 (fun H8 locs8 hH8 => ?_)
  refine lv_aload_n X.1 X.2.1 dX6_init_36 rfl (lv_at hl 0 rfl) ?_
  refine lv_bipush (v := 6) X.1 X.2.1 dX6_init_37 (by decide) ?_
  refine w_newaI X hH8 (N := 6) (by decide +kernel) (by decide +kernel) w_110 (by decide) (by decide) (by decide) (by rw [hc]; exact Nat.le_of_ble_eq_true rfl) (by rw [hs]; exact Nat.le_of_ble_eq_true rfl) dX6_init_39 (fun H9 hH9 => ?_)
  refine w_putR X hH9 (c := 5) (f := 6) (t := 304) (by decide) (by decide +kernel) (by decide) rfl rfl uw_6 tyX6 tyX6_ok nmX6 (by decide) rfl w_268 rfl hnm rfl (tyX6_ok 6 (by decide)) rfl rfl dX6_init_41 (fun H10 locs10 hH10 => ?_)
  refine lv_aload_n X.1 X.2.1 dX6_init_44 rfl (lv_at hl 0 rfl) ?_
  refine lv_bipush (v := 8) X.1 X.2.1 dX6_init_45 (by decide) ?_
  refine w_newaI X hH10 (N := 8) (by decide +kernel) (by decide +kernel) w_110 (by decide) (by decide) (by decide) (by rw [hc]; exact Nat.le_of_ble_eq_true rfl) (by rw [hs]; exact Nat.le_of_ble_eq_true rfl) dX6_init_47 (fun H11 hH11 => ?_)
  refine w_putR X hH11 (c := 5) (f := 7) (t := 305) (by decide) (by decide +kernel) (by decide) rfl rfl uw_6 tyX6 tyX6_ok nmX6 (by decide) rfl w_270 rfl hnm rfl (tyX6_ok 7 (by decide)) rfl rfl dX6_init_49 (fun H12 locs12 hH12 => ?_)
  refine lv_aload_n X.1 X.2.1 dX6_init_52 rfl (lv_at hl 0 rfl) ?_
  refine lv_sipush (v := 256) X.1 X.2.1 dX6_init_53 (by decide) ?_
  refine w_newaI X hH12 (N := 256) (by decide +kernel) (by decide +kernel) w_110 (by decide) (by decide) (by decide) (by rw [hc]; exact Nat.le_of_ble_eq_true rfl) (by rw [hs]; exact Nat.le_of_ble_eq_true rfl) dX6_init_56 (fun H13 hH13 => ?_)
  refine w_putR X hH13 (c := 5) (f := 8) (t := 306) (by decide) (by decide +kernel) (by decide) rfl rfl uw_6 tyX6 tyX6_ok nmX6 (by decide) rfl w_271 rfl hnm rfl (tyX6_ok 8 (by decide)) rfl rfl dX6_init_58 (fun H14 locs14 hH14 => ?_)
  refine lv_aload_n X.1 X.2.1 dX6_init_61 rfl (lv_at hl 0 rfl) ?_
  refine lv_bipush (v := 6) X.1 X.2.1 dX6_init_62 (by decide) ?_
  refine lv_sipush (v := 256) X.1 X.2.1 dX6_init_64 (by decide) ?_
  refine w_mna X hao hH14 (by decide +kernel) (by decide +kernel) (by decide +kernel) w_256 w_110 (by rw [hc]; exact Nat.le_of_ble_eq_true rfl) (by rw [hs]; exact Nat.le_of_ble_eq_true rfl) dX6_init_67 (fun H15 hH15 => ?_)
  refine w_putR X hH15 (c := 5) (f := 9) (t := 307) (by decide) (by decide +kernel) (by decide) rfl rfl uw_6 tyX6 tyX6_ok nmX6 (by decide) rfl w_273 rfl hnm rfl (tyX6_ok 9 (by decide)) rfl rfl dX6_init_71 (fun H16 locs16 hH16 => ?_)
  refine lv_aload_n X.1 X.2.1 dX6_init_74 rfl (lv_at hl 0 rfl) ?_
  refine lv_bipush (v := 6) X.1 X.2.1 dX6_init_75 (by decide) ?_
  refine w_newaI X hH16 (N := 6) (by decide +kernel) (by decide +kernel) w_110 (by decide) (by decide) (by decide) (by rw [hc]; exact Nat.le_of_ble_eq_true rfl) (by rw [hs]; exact Nat.le_of_ble_eq_true rfl) dX6_init_77 (fun H17 hH17 => ?_)
  refine w_putR X hH17 (c := 5) (f := 10) (t := 314) (by decide) (by decide +kernel) (by decide) rfl rfl uw_6 tyX6 tyX6_ok nmX6 (by decide) rfl w_276 rfl hnm rfl (tyX6_ok 10 (by decide)) rfl rfl dX6_init_79 (fun H18 locs18 hH18 => ?_)
  exact QC_ret X hao hH18 dX6_init_82
def BestP (P : PT) : PT := (uP (uR P 316 6 317) 315 0 316)
def BestM (M : Mem) : Mem := M
theorem mc_Best (l : Launch) (E : En) (P : PT) (M : Mem) : MC l E yX0_init cX0_init 1 1 12 7 1542 315 316 P M 323 (BestP P) (BestM M) := by
  refine MC_of (by decide) rfl (by decide) (fun Z _ X hc hs hao hnm hH ls hl => ?_)
  refine lv_aload_n X.1 X.2.1 dX0_init_0 rfl (lv_at hl 0 rfl) ?_
  refine W.objInit X.1 X.2.1 X.2.2.2.1 (X.2.2.2.2.1 _ w_307) (X.2.2.2.2.1 _ w_86) (X.2.2.2.2.1 _ wo_code) rfl (hl.1.trans X.2.2.1.symm) rfl dX0_init_1 (Nat.le_trans (by decide) X.2.2.2.2.2.2.2.2.1) (Nat.le_trans (Nat.le_of_ble_eq_true rfl) X.2.2.2.2.2.2.2.2.2) ?_
  refine lv_aload_n X.1 X.2.1 dX0_init_4 rfl (lv_at hl 0 rfl) ?_
  refine lv_bipush (v := 6) X.1 X.2.1 dX0_init_5 (by decide) ?_
  refine lv_sipush (v := 256) X.1 X.2.1 dX0_init_7 (by decide) ?_
  refine w_mna X hao hH (by decide +kernel) (by decide +kernel) (by decide +kernel) w_308 w_110 (by rw [hc]; exact Nat.le_of_ble_eq_true rfl) (by rw [hs]; exact Nat.le_of_ble_eq_true rfl) dX0_init_10 (fun H1 hH1 => ?_)
  refine w_putR X hH1 (c := 0) (f := 0) (t := 316) (by decide) (by decide +kernel) (by decide) rfl rfl uw_0 tyX0 tyX0_ok nmX0 (by decide) rfl w_309 rfl hnm rfl (tyX0_ok 0 (by decide)) rfl rfl dX0_init_14 (fun H2 locs2 hH2 => ?_)
  exact QC_ret X hao hH2 dX0_init_17
def ReachP (P : PT) : PT := (uP (uP P 323 0 324) 323 1 325)
def ReachM (M : Mem) : Mem := M
theorem mc_Reach (l : Launch) (E : En) (P : PT) (M : Mem) : MC l E yX5_init cX5_init 1 1 12 2 512 323 324 P M 326 (ReachP P) (ReachM M) := by
  refine MC_of (by decide) rfl (by decide) (fun Z _ X hc hs hao hnm hH ls hl => ?_)
  refine lv_aload_n X.1 X.2.1 dX5_init_0 rfl (lv_at hl 0 rfl) ?_
  refine W.objInit X.1 X.2.1 X.2.2.2.1 (X.2.2.2.2.1 _ w_318) (X.2.2.2.2.1 _ w_86) (X.2.2.2.2.1 _ wo_code) rfl (hl.1.trans X.2.2.1.symm) rfl dX5_init_1 (Nat.le_trans (by decide) X.2.2.2.2.2.2.2.2.1) (Nat.le_trans (Nat.le_of_ble_eq_true rfl) X.2.2.2.2.2.2.2.2.2) ?_
  refine lv_aload_n X.1 X.2.1 dX5_init_4 rfl (lv_at hl 0 rfl) ?_
  refine lv_sipush (v := 256) X.1 X.2.1 dX5_init_5 (by decide) ?_
  refine w_newaJ X hH (N := 256) (by decide +kernel) (by decide +kernel) w_326 (by decide) (by decide) (by decide) (by rw [hc]; exact Nat.le_of_ble_eq_true rfl) (by rw [hs]; exact Nat.le_of_ble_eq_true rfl) dX5_init_8 (fun H1 hH1 => ?_)
  refine w_putR X hH1 (c := 4) (f := 0) (t := 324) (by decide) (by decide +kernel) (by decide) rfl rfl uw_5 tyX5 tyX5_ok nmX5 (by decide) rfl w_319 rfl hnm rfl (tyX5_ok 0 (by decide)) rfl rfl dX5_init_10 (fun H2 locs2 hH2 => ?_)
  refine lv_aload_n X.1 X.2.1 dX5_init_13 rfl (lv_at hl 0 rfl) ?_
  refine lv_sipush (v := 256) X.1 X.2.1 dX5_init_14 (by decide) ?_
  refine w_newaI X hH2 (N := 256) (by decide +kernel) (by decide +kernel) w_110 (by decide) (by decide) (by decide) (by rw [hc]; exact Nat.le_of_ble_eq_true rfl) (by rw [hs]; exact Nat.le_of_ble_eq_true rfl) dX5_init_17 (fun H3 hH3 => ?_)
  refine w_putR X hH3 (c := 4) (f := 1) (t := 325) (by decide) (by decide +kernel) (by decide) rfl rfl uw_5 tyX5 tyX5_ok nmX5 (by decide) rfl w_320 rfl hnm rfl (tyX5_ok 1 (by decide)) rfl rfl dX5_init_19 (fun H4 locs4 hH4 => ?_)
  exact QC_ret X hao hH4 dX5_init_22
def FcP (P : PT) : PT := (uP (ReachP (uP (BestP (uP (RoomsP (uP (LabP (uP (uP (dayP (uP (dayP (uP (HistP (uP (dayP (uP (dayP (uP (TapeP P) 0 0 1) 3) 0 1 3) 15) 0 2 15)) 0 3 27) 270) 269 0 270) 282) 269 1 282) 0 4 269)) 0 5 294)) 0 6 299)) 0 7 315)) 0 8 323)
def FcM (M : Mem) : Mem := (ReachM (BestM (RoomsM (LabM (dayM (dayM (HistM (dayM (dayM (TapeM M) 3) 15)) 270) 282)))))
theorem mc_Fc (l : Launch) (E : En) (P : PT) (M : Mem) : MC l E yX8_init cX8_init 1 3 53 325 6885 0 1 P M 326 (FcP P) (FcM M) := by
  refine MC_of (by decide) rfl (by decide) (fun Z _ X hc hs hao hnm hH ls hl => ?_)
  refine lv_aload_n X.1 X.2.1 dX8_init_0 rfl (lv_at hl 0 rfl) ?_
  refine W.objInit X.1 X.2.1 X.2.2.2.1 (X.2.2.2.2.1 _ w_85) (X.2.2.2.2.1 _ w_86) (X.2.2.2.2.1 _ wo_code) rfl (hl.1.trans X.2.2.1.symm) rfl dX8_init_1 (Nat.le_trans (by decide) X.2.2.2.2.2.2.2.2.1) (Nat.le_trans (Nat.le_of_ble_eq_true rfl) X.2.2.2.2.2.2.2.2.2) ?_
  refine lv_aload_n X.1 X.2.1 dX8_init_4 rfl (lv_at hl 0 rfl) ?_
  refine w_new X hH (c := 6) (by decide +kernel) (by decide) rfl rfl uw_7 tyX7 tyX7_ok (by decide +kernel) w_88 w_89 w_67 (by rw [hc]; exact Nat.le_of_ble_eq_true rfl) (by rw [hs]; exact Nat.le_of_ble_eq_true rfl) dX8_init_5 (fun H1 hH1 => ?_)
  refine lv_dup X.1 X.2.1 dX8_init_8 rfl ?_
  refine w_init X hao hH1 (mc_Tape (zl Z) E _ _) (⟨w_91, w_67, w_92, ⟨by decide, by decide, by decide +kernel⟩, rfl, Or.inr ⟨"FilmCans", by decide +kernel⟩⟩) ⟨by decide, by decide⟩ hl.1 (Nat.le_of_ble_eq_true rfl) (by rw [hc]; exact Nat.le_of_ble_eq_true rfl) (by rw [hs]; exact Nat.le_of_ble_eq_true rfl) dX8_init_9 (fun H2 locs2 hH2 => ?_)
  refine w_putR X hH2 (c := 7) (f := 0) (t := 1) (by decide) (by decide +kernel) (by decide) rfl rfl uw_8 tyX8 tyX8_ok nmX8 (by decide) rfl w_327 rfl hnm rfl (tyX8_ok 0 (by decide)) rfl rfl dX8_init_12 (fun H3 locs3 hH3 => ?_)
  refine lv_aload_n X.1 X.2.1 dX8_init_15 rfl (lv_at hl 0 rfl) ?_
  refine w_new X hH3 (c := 1) (by decide +kernel) (by decide) rfl rfl uw_1 tyX1 tyX1_ok (by decide +kernel) w_111 w_112 w_68 (by rw [hc]; exact Nat.le_of_ble_eq_true rfl) (by rw [hs]; exact Nat.le_of_ble_eq_true rfl) dX8_init_16 (fun H4 hH4 => ?_)
  refine lv_dup X.1 X.2.1 dX8_init_19 rfl ?_
  refine w_init X hao hH4 (mc_Day (zl Z) E 3 day_3 _ _) (⟨w_114, w_68, w_115, ⟨by decide, by decide, by decide +kernel⟩, rfl, Or.inr ⟨"FilmCans", by decide +kernel⟩⟩) ⟨by decide, by decide⟩ hl.1 (Nat.le_of_ble_eq_true rfl) (by rw [hc]; exact Nat.le_of_ble_eq_true rfl) (by rw [hs]; exact Nat.le_of_ble_eq_true rfl) dX8_init_20 (fun H5 locs5 hH5 => ?_)
  refine w_putR X hH5 (c := 7) (f := 1) (t := 3) (by decide) (by decide +kernel) (by decide) rfl rfl uw_8 tyX8 tyX8_ok nmX8 (by decide) rfl w_328 rfl hnm rfl (tyX8_ok 1 (by decide)) rfl rfl dX8_init_23 (fun H6 locs6 hH6 => ?_)
  refine lv_aload_n X.1 X.2.1 dX8_init_26 rfl (lv_at hl 0 rfl) ?_
  refine w_new X hH6 (c := 1) (by decide +kernel) (by decide) rfl rfl uw_1 tyX1 tyX1_ok (by decide +kernel) w_111 w_112 w_68 (by rw [hc]; exact Nat.le_of_ble_eq_true rfl) (by rw [hs]; exact Nat.le_of_ble_eq_true rfl) dX8_init_27 (fun H7 hH7 => ?_)
  refine lv_dup X.1 X.2.1 dX8_init_30 rfl ?_
  refine w_init X hao hH7 (mc_Day (zl Z) E 15 day_15 _ _) (⟨w_114, w_68, w_115, ⟨by decide, by decide, by decide +kernel⟩, rfl, Or.inr ⟨"FilmCans", by decide +kernel⟩⟩) ⟨by decide, by decide⟩ hl.1 (Nat.le_of_ble_eq_true rfl) (by rw [hc]; exact Nat.le_of_ble_eq_true rfl) (by rw [hs]; exact Nat.le_of_ble_eq_true rfl) dX8_init_31 (fun H8 locs8 hH8 => ?_)
  refine w_putR X hH8 (c := 7) (f := 2) (t := 15) (by decide) (by decide +kernel) (by decide) rfl rfl uw_8 tyX8 tyX8_ok nmX8 (by decide) rfl w_329 rfl hnm rfl (tyX8_ok 2 (by decide)) rfl rfl dX8_init_34 (fun H9 locs9 hH9 => ?_)
  refine lv_aload_n X.1 X.2.1 dX8_init_37 rfl (lv_at hl 0 rfl) ?_
  refine w_new X hH9 (c := 2) (by decide +kernel) (by decide) rfl rfl uw_2 tyX2 tyX2_ok (by decide +kernel) w_211 w_212 w_69 (by rw [hc]; exact Nat.le_of_ble_eq_true rfl) (by rw [hs]; exact Nat.le_of_ble_eq_true rfl) dX8_init_38 (fun H10 hH10 => ?_)
  refine lv_dup X.1 X.2.1 dX8_init_41 rfl ?_
  refine w_init X hao hH10 (mc_Hist (zl Z) E _ _) (⟨w_214, w_69, w_215, ⟨by decide, by decide, by decide +kernel⟩, rfl, Or.inl w_213⟩) ⟨by decide, by decide⟩ hl.1 (Nat.le_of_ble_eq_true rfl) (by rw [hc]; exact Nat.le_of_ble_eq_true rfl) (by rw [hs]; exact Nat.le_of_ble_eq_true rfl) dX8_init_42 (fun H11 locs11 hH11 => ?_)
  refine w_putR X hH11 (c := 7) (f := 3) (t := 27) (by decide) (by decide +kernel) (by decide) rfl rfl uw_8 tyX8 tyX8_ok nmX8 (by decide) rfl w_330 rfl hnm rfl (tyX8_ok 3 (by decide)) rfl rfl dX8_init_45 (fun H12 locs12 hH12 => ?_)
  refine lv_aload_n X.1 X.2.1 dX8_init_48 rfl (lv_at hl 0 rfl) ?_
  refine lv_iconst (v := 2) X.1 X.2.1 dX8_init_49 (by decide) ?_
  refine w_anew X hH12 hao (N := 2) (by decide +kernel) (by decide +kernel) w_111 (by decide) (by decide) (by decide) (by rw [hc]; exact Nat.le_of_ble_eq_true rfl) (by rw [hs]; exact Nat.le_of_ble_eq_true rfl) dX8_init_50 (fun H13 hH13 => ?_)
  refine lv_dup X.1 X.2.1 dX8_init_53 rfl ?_
  refine lv_iconst (v := 0) X.1 X.2.1 dX8_init_54 (by decide) ?_
  refine w_new X hH13 (c := 1) (by decide +kernel) (by decide) rfl rfl uw_1 tyX1 tyX1_ok (by decide +kernel) w_111 w_112 w_68 (by rw [hc]; exact Nat.le_of_ble_eq_true rfl) (by rw [hs]; exact Nat.le_of_ble_eq_true rfl) dX8_init_55 (fun H14 hH14 => ?_)
  refine lv_dup X.1 X.2.1 dX8_init_58 rfl ?_
  refine w_init X hao hH14 (mc_Day (zl Z) E 270 (by decide +kernel : 270 ∈ dayL) _ _) (⟨w_114, w_68, w_115, ⟨by decide, by decide, by decide +kernel⟩, rfl, Or.inr ⟨"FilmCans", by decide +kernel⟩⟩) ⟨by decide, by decide⟩ hl.1 (Nat.le_of_ble_eq_true rfl) (by rw [hc]; exact Nat.le_of_ble_eq_true rfl) (by rw [hs]; exact Nat.le_of_ble_eq_true rfl) dX8_init_59 (fun H15 locs15 hH15 => ?_)
  refine w_aast X hH15 (N := 2) (by decide) (by decide +kernel) (by decide +kernel) (by decide) (by decide +kernel) 0 (by decide) (by decide) dX8_init_62 (fun H16 locs16 hH16 => ?_)
  refine lv_dup X.1 X.2.1 dX8_init_63 rfl ?_
  refine lv_iconst (v := 1) X.1 X.2.1 dX8_init_64 (by decide) ?_
  refine w_new X hH16 (c := 1) (by decide +kernel) (by decide) rfl rfl uw_1 tyX1 tyX1_ok (by decide +kernel) w_111 w_112 w_68 (by rw [hc]; exact Nat.le_of_ble_eq_true rfl) (by rw [hs]; exact Nat.le_of_ble_eq_true rfl) dX8_init_65 (fun H17 hH17 => ?_)
  refine lv_dup X.1 X.2.1 dX8_init_68 rfl ?_
  refine w_init X hao hH17 (mc_Day (zl Z) E 282 (by decide +kernel : 282 ∈ dayL) _ _) (⟨w_114, w_68, w_115, ⟨by decide, by decide, by decide +kernel⟩, rfl, Or.inr ⟨"FilmCans", by decide +kernel⟩⟩) ⟨by decide, by decide⟩ hl.1 (Nat.le_of_ble_eq_true rfl) (by rw [hc]; exact Nat.le_of_ble_eq_true rfl) (by rw [hs]; exact Nat.le_of_ble_eq_true rfl) dX8_init_69 (fun H18 locs18 hH18 => ?_)
  refine w_aast X hH18 (N := 2) (by decide) (by decide +kernel) (by decide +kernel) (by decide) (by decide +kernel) 1 (by decide) (by decide) dX8_init_72 (fun H19 locs19 hH19 => ?_)
  refine w_putR X hH19 (c := 7) (f := 4) (t := 269) (by decide) (by decide +kernel) (by decide) rfl rfl uw_8 tyX8 tyX8_ok nmX8 (by decide) rfl w_331 rfl hnm rfl (tyX8_ok 4 (by decide)) rfl rfl dX8_init_73 (fun H20 locs20 hH20 => ?_)
  refine lv_aload_n X.1 X.2.1 dX8_init_76 rfl (lv_at hl 0 rfl) ?_
  refine w_new X hH20 (c := 3) (by decide +kernel) (by decide) rfl rfl uw_4 tyX4 tyX4_ok (by decide +kernel) w_231 w_232 w_70 (by rw [hc]; exact Nat.le_of_ble_eq_true rfl) (by rw [hs]; exact Nat.le_of_ble_eq_true rfl) dX8_init_77 (fun H21 hH21 => ?_)
  refine lv_dup X.1 X.2.1 dX8_init_80 rfl ?_
  refine w_init X hao hH21 (mc_Lab (zl Z) E _ _) (⟨w_234, w_70, w_235, ⟨by decide, by decide, by decide +kernel⟩, rfl, Or.inr ⟨"FilmCans", by decide +kernel⟩⟩) ⟨by decide, by decide⟩ hl.1 (Nat.le_of_ble_eq_true rfl) (by rw [hc]; exact Nat.le_of_ble_eq_true rfl) (by rw [hs]; exact Nat.le_of_ble_eq_true rfl) dX8_init_81 (fun H22 locs22 hH22 => ?_)
  refine w_putR X hH22 (c := 7) (f := 5) (t := 294) (by decide) (by decide +kernel) (by decide) rfl rfl uw_8 tyX8 tyX8_ok nmX8 (by decide) rfl w_332 rfl hnm rfl (tyX8_ok 5 (by decide)) rfl rfl dX8_init_84 (fun H23 locs23 hH23 => ?_)
  refine lv_aload_n X.1 X.2.1 dX8_init_87 rfl (lv_at hl 0 rfl) ?_
  refine w_new X hH23 (c := 5) (by decide +kernel) (by decide) rfl rfl uw_6 tyX6 tyX6_ok (by decide +kernel) w_250 w_251 w_71 (by rw [hc]; exact Nat.le_of_ble_eq_true rfl) (by rw [hs]; exact Nat.le_of_ble_eq_true rfl) dX8_init_88 (fun H24 hH24 => ?_)
  refine lv_dup X.1 X.2.1 dX8_init_91 rfl ?_
  refine w_init X hao hH24 (mc_Rooms (zl Z) E _ _) (⟨w_253, w_71, w_254, ⟨by decide, by decide, by decide +kernel⟩, rfl, Or.inr ⟨"FilmCans", by decide +kernel⟩⟩) ⟨by decide, by decide⟩ hl.1 (Nat.le_of_ble_eq_true rfl) (by rw [hc]; exact Nat.le_of_ble_eq_true rfl) (by rw [hs]; exact Nat.le_of_ble_eq_true rfl) dX8_init_92 (fun H25 locs25 hH25 => ?_)
  refine w_putR X hH25 (c := 7) (f := 6) (t := 299) (by decide) (by decide +kernel) (by decide) rfl rfl uw_8 tyX8 tyX8_ok nmX8 (by decide) rfl w_333 rfl hnm rfl (tyX8_ok 6 (by decide)) rfl rfl dX8_init_95 (fun H26 locs26 hH26 => ?_)
  refine lv_aload_n X.1 X.2.1 dX8_init_98 rfl (lv_at hl 0 rfl) ?_
  refine w_new X hH26 (c := 0) (by decide +kernel) (by decide) rfl rfl uw_0 tyX0 tyX0_ok (by decide +kernel) w_302 w_303 w_72 (by rw [hc]; exact Nat.le_of_ble_eq_true rfl) (by rw [hs]; exact Nat.le_of_ble_eq_true rfl) dX8_init_99 (fun H27 hH27 => ?_)
  refine lv_dup X.1 X.2.1 dX8_init_102 rfl ?_
  refine w_init X hao hH27 (mc_Best (zl Z) E _ _) (⟨w_305, w_72, w_306, ⟨by decide, by decide, by decide +kernel⟩, rfl, Or.inr ⟨"FilmCans", by decide +kernel⟩⟩) ⟨by decide, by decide⟩ hl.1 (Nat.le_of_ble_eq_true rfl) (by rw [hc]; exact Nat.le_of_ble_eq_true rfl) (by rw [hs]; exact Nat.le_of_ble_eq_true rfl) dX8_init_103 (fun H28 locs28 hH28 => ?_)
  refine w_putR X hH28 (c := 7) (f := 7) (t := 315) (by decide) (by decide +kernel) (by decide) rfl rfl uw_8 tyX8 tyX8_ok nmX8 (by decide) rfl w_334 rfl hnm rfl (tyX8_ok 7 (by decide)) rfl rfl dX8_init_106 (fun H29 locs29 hH29 => ?_)
  refine lv_aload_n X.1 X.2.1 dX8_init_109 rfl (lv_at hl 0 rfl) ?_
  refine w_new X hH29 (c := 4) (by decide +kernel) (by decide) rfl rfl uw_5 tyX5 tyX5_ok (by decide +kernel) w_313 w_314 w_73 (by rw [hc]; exact Nat.le_of_ble_eq_true rfl) (by rw [hs]; exact Nat.le_of_ble_eq_true rfl) dX8_init_110 (fun H30 hH30 => ?_)
  refine lv_dup X.1 X.2.1 dX8_init_113 rfl ?_
  refine w_init X hao hH30 (mc_Reach (zl Z) E _ _) (⟨w_316, w_73, w_317, ⟨by decide, by decide, by decide +kernel⟩, rfl, Or.inr ⟨"FilmCans", by decide +kernel⟩⟩) ⟨by decide, by decide⟩ hl.1 (Nat.le_of_ble_eq_true rfl) (by rw [hc]; exact Nat.le_of_ble_eq_true rfl) (by rw [hs]; exact Nat.le_of_ble_eq_true rfl) dX8_init_114 (fun H31 locs31 hH31 => ?_)
  refine w_putR X hH31 (c := 7) (f := 8) (t := 323) (by decide) (by decide +kernel) (by decide) rfl rfl uw_8 tyX8 tyX8_ok nmX8 (by decide) rfl w_335 rfl hnm rfl (tyX8_ok 8 (by decide)) rfl rfl dX8_init_117 (fun H32 locs32 hH32 => ?_)
  exact QC_ret X hao hH32 dX8_init_120
def MdP (P : PT) : PT := (uP (uP (uP (uP (uP (uP (uP (uP (uP (uP (uP (uP P 326 0 327) 326 1 328) 326 2 329) 326 4 330) 326 5 331) 326 6 332) 326 15 333) 326 16 334) 326 17 335) 326 18 336) 326 19 337) 326 20 338)
def MdM (M : Mem) : Mem := (uI M 327 11 (-1))
theorem mc_Md (l : Launch) (E : En) (P : PT) (M : Mem) : MC l E yX9_init cX9_init 1 1 12 12 6623 326 327 P M 339 (MdP P) (MdM M) := by
  refine MC_of (by decide) rfl (by decide) (fun Z _ X hc hs hao hnm hH ls hl => ?_)
  refine lv_aload_n X.1 X.2.1 dX9_init_0 rfl (lv_at hl 0 rfl) ?_
  refine W.objInit X.1 X.2.1 X.2.2.2.1 (X.2.2.2.2.1 _ w_942) (X.2.2.2.2.1 _ w_86) (X.2.2.2.2.1 _ wo_code) rfl (hl.1.trans X.2.2.1.symm) rfl dX9_init_1 (Nat.le_trans (by decide) X.2.2.2.2.2.2.2.2.1) (Nat.le_trans (Nat.le_of_ble_eq_true rfl) X.2.2.2.2.2.2.2.2.2) ?_
  refine lv_aload_n X.1 X.2.1 dX9_init_4 rfl (lv_at hl 0 rfl) ?_
  refine lv_bipush (v := 89) X.1 X.2.1 dX9_init_5 (by decide) ?_
  refine w_newaI X hH (N := 89) (by decide +kernel) (by decide +kernel) w_110 (by decide) (by decide) (by decide) (by rw [hc]; exact Nat.le_of_ble_eq_true rfl) (by rw [hs]; exact Nat.le_of_ble_eq_true rfl) dX9_init_7 (fun H1 hH1 => ?_)
  refine w_putR X hH1 (c := 8) (f := 0) (t := 327) (by decide) (by decide +kernel) (by decide) rfl rfl uw_9 tyX9 tyX9_ok nmX9 (by decide) rfl w_943 rfl hnm rfl (tyX9_ok 0 (by decide)) rfl rfl dX9_init_9 (fun H2 locs2 hH2 => ?_)
  refine lv_aload_n X.1 X.2.1 dX9_init_12 rfl (lv_at hl 0 rfl) ?_
  refine lv_bipush (v := 89) X.1 X.2.1 dX9_init_13 (by decide) ?_
  refine w_newaI X hH2 (N := 89) (by decide +kernel) (by decide +kernel) w_110 (by decide) (by decide) (by decide) (by rw [hc]; exact Nat.le_of_ble_eq_true rfl) (by rw [hs]; exact Nat.le_of_ble_eq_true rfl) dX9_init_15 (fun H3 hH3 => ?_)
  refine w_putR X hH3 (c := 8) (f := 1) (t := 328) (by decide) (by decide +kernel) (by decide) rfl rfl uw_9 tyX9 tyX9_ok nmX9 (by decide) rfl w_944 rfl hnm rfl (tyX9_ok 1 (by decide)) rfl rfl dX9_init_17 (fun H4 locs4 hH4 => ?_)
  refine lv_aload_n X.1 X.2.1 dX9_init_20 rfl (lv_at hl 0 rfl) ?_
  refine lv_sipush (v := 1780) X.1 X.2.1 dX9_init_21 (by decide) ?_
  refine w_newaI X hH4 (N := 1780) (by decide +kernel) (by decide +kernel) w_110 (by decide) (by decide) (by decide) (by rw [hc]; exact Nat.le_of_ble_eq_true rfl) (by rw [hs]; exact Nat.le_of_ble_eq_true rfl) dX9_init_24 (fun H5 hH5 => ?_)
  refine w_putR X hH5 (c := 8) (f := 2) (t := 329) (by decide) (by decide +kernel) (by decide) rfl rfl uw_9 tyX9 tyX9_ok nmX9 (by decide) rfl w_945 rfl hnm rfl (tyX9_ok 2 (by decide)) rfl rfl dX9_init_26 (fun H6 locs6 hH6 => ?_)
  refine lv_aload_n X.1 X.2.1 dX9_init_29 rfl (lv_at hl 0 rfl) ?_
  refine lv_sipush (v := 178) X.1 X.2.1 dX9_init_30 (by decide) ?_
  refine w_newaI X hH6 (N := 178) (by decide +kernel) (by decide +kernel) w_110 (by decide) (by decide) (by decide) (by rw [hc]; exact Nat.le_of_ble_eq_true rfl) (by rw [hs]; exact Nat.le_of_ble_eq_true rfl) dX9_init_33 (fun H7 hH7 => ?_)
  refine w_putR X hH7 (c := 8) (f := 4) (t := 330) (by decide) (by decide +kernel) (by decide) rfl rfl uw_9 tyX9 tyX9_ok nmX9 (by decide) rfl w_947 rfl hnm rfl (tyX9_ok 4 (by decide)) rfl rfl dX9_init_35 (fun H8 locs8 hH8 => ?_)
  refine lv_aload_n X.1 X.2.1 dX9_init_38 rfl (lv_at hl 0 rfl) ?_
  refine lv_iconst (v := 2) X.1 X.2.1 dX9_init_39 (by decide) ?_
  refine w_newaZ X hH8 (N := 2) (by decide +kernel) (by decide +kernel) w_1007 (by decide) (by decide) (by decide) (by rw [hc]; exact Nat.le_of_ble_eq_true rfl) (by rw [hs]; exact Nat.le_of_ble_eq_true rfl) dX9_init_40 (fun H9 hH9 => ?_)
  refine w_putR X hH9 (c := 8) (f := 5) (t := 331) (by decide) (by decide +kernel) (by decide) rfl rfl uw_9 tyX9 tyX9_ok nmX9 (by decide) rfl w_948 rfl hnm rfl (tyX9_ok 5 (by decide)) rfl rfl dX9_init_42 (fun H10 locs10 hH10 => ?_)
  refine lv_aload_n X.1 X.2.1 dX9_init_45 rfl (lv_at hl 0 rfl) ?_
  refine lv_bipush (v := 110) X.1 X.2.1 dX9_init_46 (by decide) ?_
  refine w_newaI X hH10 (N := 110) (by decide +kernel) (by decide +kernel) w_110 (by decide) (by decide) (by decide) (by rw [hc]; exact Nat.le_of_ble_eq_true rfl) (by rw [hs]; exact Nat.le_of_ble_eq_true rfl) dX9_init_48 (fun H11 hH11 => ?_)
  refine w_putR X hH11 (c := 8) (f := 6) (t := 332) (by decide) (by decide +kernel) (by decide) rfl rfl uw_9 tyX9 tyX9_ok nmX9 (by decide) rfl w_949 rfl hnm rfl (tyX9_ok 6 (by decide)) rfl rfl dX9_init_50 (fun H12 locs12 hH12 => ?_)
  refine lv_aload_n X.1 X.2.1 dX9_init_53 rfl (lv_at hl 0 rfl) ?_
  refine lv_sipush (v := 2048) X.1 X.2.1 dX9_init_54 (by decide) ?_
  refine w_newaI X hH12 (N := 2048) (by decide +kernel) (by decide +kernel) w_110 (by decide) (by decide) (by decide) (by rw [hc]; exact Nat.le_of_ble_eq_true rfl) (by rw [hs]; exact Nat.le_of_ble_eq_true rfl) dX9_init_57 (fun H13 hH13 => ?_)
  refine w_putR X hH13 (c := 8) (f := 15) (t := 333) (by decide) (by decide +kernel) (by decide) rfl rfl uw_9 tyX9 tyX9_ok nmX9 (by decide) rfl w_958 rfl hnm rfl (tyX9_ok 15 (by decide)) rfl rfl dX9_init_59 (fun H14 locs14 hH14 => ?_)
  refine lv_aload_n X.1 X.2.1 dX9_init_62 rfl (lv_at hl 0 rfl) ?_
  refine lv_sipush (v := 2048) X.1 X.2.1 dX9_init_63 (by decide) ?_
  refine w_newaI X hH14 (N := 2048) (by decide +kernel) (by decide +kernel) w_110 (by decide) (by decide) (by decide) (by rw [hc]; exact Nat.le_of_ble_eq_true rfl) (by rw [hs]; exact Nat.le_of_ble_eq_true rfl) dX9_init_66 (fun H15 hH15 => ?_)
  refine w_putR X hH15 (c := 8) (f := 16) (t := 334) (by decide) (by decide +kernel) (by decide) rfl rfl uw_9 tyX9 tyX9_ok nmX9 (by decide) rfl w_959 rfl hnm rfl (tyX9_ok 16 (by decide)) rfl rfl dX9_init_68 (fun H16 locs16 hH16 => ?_)
  refine lv_aload_n X.1 X.2.1 dX9_init_71 rfl (lv_at hl 0 rfl) ?_
  refine lv_bipush (v := 7) X.1 X.2.1 dX9_init_72 (by decide) ?_
  refine w_newaI X hH16 (N := 7) (by decide +kernel) (by decide +kernel) w_110 (by decide) (by decide) (by decide) (by rw [hc]; exact Nat.le_of_ble_eq_true rfl) (by rw [hs]; exact Nat.le_of_ble_eq_true rfl) dX9_init_74 (fun H17 hH17 => ?_)
  refine w_putR X hH17 (c := 8) (f := 17) (t := 335) (by decide) (by decide +kernel) (by decide) rfl rfl uw_9 tyX9 tyX9_ok nmX9 (by decide) rfl w_960 rfl hnm rfl (tyX9_ok 17 (by decide)) rfl rfl dX9_init_76 (fun H18 locs18 hH18 => ?_)
  refine lv_aload_n X.1 X.2.1 dX9_init_79 rfl (lv_at hl 0 rfl) ?_
  refine lv_bipush (v := 8) X.1 X.2.1 dX9_init_80 (by decide) ?_
  refine w_newaI X hH18 (N := 8) (by decide +kernel) (by decide +kernel) w_110 (by decide) (by decide) (by decide) (by rw [hc]; exact Nat.le_of_ble_eq_true rfl) (by rw [hs]; exact Nat.le_of_ble_eq_true rfl) dX9_init_82 (fun H19 hH19 => ?_)
  refine w_putR X hH19 (c := 8) (f := 18) (t := 336) (by decide) (by decide +kernel) (by decide) rfl rfl uw_9 tyX9 tyX9_ok nmX9 (by decide) rfl w_961 rfl hnm rfl (tyX9_ok 18 (by decide)) rfl rfl dX9_init_84 (fun H20 locs20 hH20 => ?_)
  refine lv_aload_n X.1 X.2.1 dX9_init_87 rfl (lv_at hl 0 rfl) ?_
  refine lv_bipush (v := 8) X.1 X.2.1 dX9_init_88 (by decide) ?_
  refine w_newaI X hH20 (N := 8) (by decide +kernel) (by decide +kernel) w_110 (by decide) (by decide) (by decide) (by rw [hc]; exact Nat.le_of_ble_eq_true rfl) (by rw [hs]; exact Nat.le_of_ble_eq_true rfl) dX9_init_90 (fun H21 hH21 => ?_)
  refine w_putR X hH21 (c := 8) (f := 19) (t := 337) (by decide) (by decide +kernel) (by decide) rfl rfl uw_9 tyX9 tyX9_ok nmX9 (by decide) rfl w_962 rfl hnm rfl (tyX9_ok 19 (by decide)) rfl rfl dX9_init_92 (fun H22 locs22 hH22 => ?_)
  refine lv_aload_n X.1 X.2.1 dX9_init_95 rfl (lv_at hl 0 rfl) ?_
  refine lv_sipush (v := 256) X.1 X.2.1 dX9_init_96 (by decide) ?_
  refine w_newaI X hH22 (N := 256) (by decide +kernel) (by decide +kernel) w_110 (by decide) (by decide) (by decide) (by rw [hc]; exact Nat.le_of_ble_eq_true rfl) (by rw [hs]; exact Nat.le_of_ble_eq_true rfl) dX9_init_99 (fun H23 hH23 => ?_)
  refine w_putR X hH23 (c := 8) (f := 20) (t := 338) (by decide) (by decide +kernel) (by decide) rfl rfl uw_9 tyX9 tyX9_ok nmX9 (by decide) rfl w_963 rfl hnm rfl (tyX9_ok 20 (by decide)) rfl rfl dX9_init_101 (fun H24 locs24 hH24 => ?_)
  refine lv_aload_n X.1 X.2.1 dX9_init_104 rfl (lv_at hl 0 rfl) ?_
  refine w_getR X hH24 (by decide) (by decide +kernel) fRX9_7 (t := 327) rfl dX9_init_105 ?_
  refine lv_bipush (v := 11) X.1 X.2.1 dX9_init_108 (by decide) ?_
  refine lv_iconst (v := (-1)) X.1 X.2.1 dX9_init_110 (by decide) ?_
  refine w_iast X hH24 (N := 89) 11 (by decide) (by decide +kernel) (by decide +kernel) (by decide) (by decide) dX9_init_111 (fun H25 locs25 hH25 => ?_)
  exact QC_ret X hao hH25 dX9_init_112
