-- FilmCansModel.ruleOf
theorem kw_Md_ruleOf {Z : ZT} {E : En} (X : Cx Z E 3 cX9_ruleOf RX9 (some .int) 5 117) (x1 : Int32) (x2 : Int32) (M : Mem) : Kj Z E 3 (QI Z E) (j_Md_ruleOf x1 x2 M) M 0 [(0, .ref (ad E 326)), (1, .int x1), (2, .int x2)] [] := by
  unfold j_Md_ruleOf
  refine k_iload_n X 1 dX9_ruleOf_0 rfl rfl ?_
  refine k_i2l X dX9_ruleOf_1 ?_
  refine k_lconst X (v := 0) dX9_ruleOf_2 (by decide) ?_
  refine k_lconst X (v := 1) dX9_ruleOf_3 (by decide) ?_
  refine k_callSI X [.long (Int32.toInt64 x1), .long 0, .long 1] [] (mt_Md_in (zl Z) E (Int32.toInt64 x1) 0 1 M) mRX9_47 ⟨by decide, by decide⟩ rfl rfl (Nat.le_of_ble_eq_true rfl) dX9_ruleOf_4 (fun r1 M2 => ?_)
  refine k_if_eq X 18 dX9_ruleOf_7 (by decide) ?_ ?_
  · refine k_ldc X w_1016 dX9_ruleOf_18 ?_
    exact k_iret X dX9_ruleOf_20
  · refine k_aload_n X 0 dX9_ruleOf_10 rfl rfl ?_
    refine k_iload_n X 2 dX9_ruleOf_11 rfl rfl ?_
    refine k_callVI X [.int x2] [] c_326 rfl (by decide) rfl (mt_Md_isCan (zl Z) E x2 M2) mRX9_183 ⟨by decide, by decide⟩ rfl rfl (Nat.le_of_ble_eq_true rfl) dX9_ruleOf_12 (fun r3 M4 => ?_)
    refine k_if_ne X 21 dX9_ruleOf_15 (by decide) ?_ ?_
    · refine k_aload_n X 0 dX9_ruleOf_21 rfl rfl ?_
      refine k_iload_n X 1 dX9_ruleOf_22 rfl rfl ?_
      refine k_callVI X [.int x1] [] c_326 rfl (by decide) rfl (mt_Md_puts (zl Z) E x1 M4) mRX9_270 ⟨by decide, by decide⟩ rfl rfl (Nat.le_of_ble_eq_true rfl) dX9_ruleOf_23 (fun r5 M6 => ?_)
      refine k_if_eq X 38 dX9_ruleOf_26 (by decide) ?_ ?_
      · refine k_ldc X w_1139 dX9_ruleOf_38 ?_
        exact k_iret X dX9_ruleOf_40
      · refine k_aload_n X 0 dX9_ruleOf_29 rfl rfl ?_
        refine k_getR X c_326 fRX9_35 r_326_17 dX9_ruleOf_30 ?_
        refine k_iload_n X 2 dX9_ruleOf_33 rfl rfl ?_
        refine k_iald X c_335 l_335 dX9_ruleOf_34 (fun hb7 => ?_)
        refine k_goto X 40 dX9_ruleOf_35 (by decide) ?_
        exact k_iret X dX9_ruleOf_40
    · refine k_ldc X w_1016 dX9_ruleOf_18 ?_
      exact k_iret X dX9_ruleOf_20
theorem mt_Md_ruleOf (l : Launch) (E : En) (x1 : Int32) (x2 : Int32) (M : Mem) : MI l E yX9_ruleOf cX9_ruleOf 3 (some .int) 5 117 [.ref (ad E 326), .int x1, .int x2] M (j_Md_ruleOf x1 x2 M) := MI_of (by decide) (Nat.le_of_ble_eq_true rfl) (fun Z _ X => k_lv [0, 1, 2] rfl (kw_Md_ruleOf X x1 x2 M))
-- FilmCansModel.longer
theorem kb_Md_longer_h41 {Z : ZT} {E : En} (X : Cx Z E 3 cX9_longer RX9 (some .int) 7 168)  : ∀ (n : Nat) (x1 : Int32) (x2 : Int32) (M : Mem), Kj Z E 3 (QI Z E) (Md_longer_h41  n x1 x2 M) M 41 [(0, .ref (ad E 326)), (1, .int x1), (2, .int x2)] [] := by
  intro n
  induction n with
  | zero => intro x1 x2 M; exact k_none
  | succ n ih =>
    intro x1 x2 M
    rw [Md_longer_h41]
    refine k_iload_n X 2 dX9_longer_41 rfl rfl ?_
    refine k_if_le X 79 dX9_longer_42 (by decide) ?_ ?_
    · refine k_ldc X w_1139 dX9_longer_79 ?_
      exact k_iret X dX9_longer_81
    · refine k_aload_n X 0 dX9_longer_45 rfl rfl ?_
      refine k_getR X c_326 fRX9_13 r_326_1 dX9_longer_46 ?_
      refine k_bipush X (v := 41) dX9_longer_49 (by decide) ?_
      refine k_iconst X (v := 3) dX9_longer_51 (by decide) ?_
      refine k_iload_n X 1 dX9_longer_52 rfl rfl ?_
      refine k_imul X dX9_longer_53 ?_
      refine k_iadd X dX9_longer_54 ?_
      refine k_iconst X (v := 1) dX9_longer_55 (by decide) ?_
      refine k_iadd X dX9_longer_56 ?_
      refine k_iload_n X 2 dX9_longer_57 rfl rfl ?_
      refine k_iast X c_328 l_328 dX9_longer_58 (fun hb8 => ?_)
      refine k_sq (fun M9 => ?_)
      refine k_aload_n X 0 dX9_longer_59 rfl rfl ?_
      refine k_aload_n X 0 dX9_longer_60 rfl rfl ?_
      refine k_getR X c_326 fRX9_13 r_326_1 dX9_longer_61 ?_
      refine k_iconst X (v := 0) dX9_longer_64 (by decide) ?_
      refine k_callVI X [.ref (ad E 328), .int 0] [] c_326 rfl (by decide) rfl (mt_Md_canBePlaced (zl Z) E 328 0 c_328 l_328 M9) mRX9_251 ⟨by decide, by decide⟩ rfl rfl (Nat.le_of_ble_eq_true rfl) dX9_longer_65 (fun r10 M11 => ?_)
      refine k_if_eq X 73 dX9_longer_68 (by decide) ?_ ?_
      · refine x_iinc X (-1) 2 [(0, .ref (ad E 326)), (1, .int x1)] dX9_longer_73 rfl (by decide) (by decide) rfl (fun x12_ => ?_)
        refine k_goto X 41 dX9_longer_76 (by decide) ?_
        refine k_lv [1, 2, 0] rfl ?_
        exact ih x1 x12_ M11
      · refine k_iload_n X 2 dX9_longer_71 rfl rfl ?_
        exact k_iret X dX9_longer_72
theorem kw_Md_longer {Z : ZT} {E : En} (X : Cx Z E 3 cX9_longer RX9 (some .int) 7 168) (x1 : Int32) (M : Mem) : Kj Z E 3 (QI Z E) (j_Md_longer x1 M) M 0 [(0, .ref (ad E 326)), (1, .int x1)] [] := by
  unfold j_Md_longer
  refine k_aload_n X 0 dX9_longer_0 rfl rfl ?_
  refine k_iload_n X 1 dX9_longer_1 rfl rfl ?_
  refine k_callVI X [.int x1] [] c_326 rfl (by decide) rfl (mt_Md_isTake (zl Z) E x1 M) mRX9_190 ⟨by decide, by decide⟩ rfl rfl (Nat.le_of_ble_eq_true rfl) dX9_longer_2 (fun r1 M2 => ?_)
  refine k_if_ne X 11 dX9_longer_5 (by decide) ?_ ?_
  · refine k_aload_n X 0 dX9_longer_11 rfl rfl ?_
    refine k_getR X c_326 fRX9_7 r_326_0 dX9_longer_12 ?_
    refine k_iload_n X 1 dX9_longer_15 rfl rfl ?_
    refine k_callSI X [.ref (ad E 327), .int x1] [] (mt_Md_isOpen (zl Z) E 327 x1 c_327 l_327 M2) mRX9_66 ⟨by decide, by decide⟩ rfl rfl (Nat.le_of_ble_eq_true rfl) dX9_longer_16 (fun r3 M4 => ?_)
    refine k_if_ne X 25 dX9_longer_19 (by decide) ?_ ?_
    · refine k_aload_n X 0 dX9_longer_25 rfl rfl ?_
      refine k_getR X c_326 fRX9_7 r_326_0 dX9_longer_26 ?_
      refine k_iconst X (v := 0) dX9_longer_29 (by decide) ?_
      refine k_aload_n X 0 dX9_longer_30 rfl rfl ?_
      refine k_getR X c_326 fRX9_13 r_326_1 dX9_longer_31 ?_
      refine k_iconst X (v := 0) dX9_longer_34 (by decide) ?_
      refine k_callSV X [.ref (ad E 327), .int 0, .ref (ad E 328), .int 0] [] (mt_Md_copies (zl Z) E 327 0 328 0 c_327 c_328 M4) mRX9_175 ⟨by decide, by decide⟩ rfl rfl (Nat.le_of_ble_eq_true rfl) dX9_longer_35 (fun _ M6 => ?_)
      refine k_bipush X (v := 60) dX9_longer_38 (by decide) ?_
      refine x_istore_n X [(0, .ref (ad E 326)), (1, .int x1)] dX9_longer_40 rfl (by decide) rfl (fun x7_ => ?_)
      refine k_lv [1, 2, 0] rfl ?_
      exact kb_Md_longer_h41 X  FU x1 x7_ M6
    · refine k_ldc X w_1084 dX9_longer_22 ?_
      exact k_iret X dX9_longer_24
  · refine k_ldc X w_1016 dX9_longer_8 ?_
    exact k_iret X dX9_longer_10
theorem mt_Md_longer (l : Launch) (E : En) (x1 : Int32) (M : Mem) : MI l E yX9_longer cX9_longer 3 (some .int) 7 168 [.ref (ad E 326), .int x1] M (j_Md_longer x1 M) := MI_of (by decide) (Nat.le_of_ble_eq_true rfl) (fun Z _ X => k_lv [0, 1] rfl (kw_Md_longer X x1 M))
-- FilmCansModel.more
theorem kb_Md_more_h41 {Z : ZT} {E : En} (X : Cx Z E 3 cX9_more RX9 (some .int) 7 168)  : ∀ (n : Nat) (x1 : Int32) (x2 : Int32) (M : Mem), Kj Z E 3 (QI Z E) (Md_more_h41  n x1 x2 M) M 41 [(0, .ref (ad E 326)), (1, .int x1), (2, .int x2)] [] := by
  intro n
  induction n with
  | zero => intro x1 x2 M; exact k_none
  | succ n ih =>
    intro x1 x2 M
    rw [Md_more_h41]
    refine k_iload_n X 2 dX9_more_41 rfl rfl ?_
    refine k_bipush X (v := 100) dX9_more_42 (by decide) ?_
    refine k_icmp_ge X 89 dX9_more_44 (by decide) ?_ ?_
    · refine k_ldc X w_1139 dX9_more_89 ?_
      exact k_iret X dX9_more_91
    · refine k_aload_n X 0 dX9_more_47 rfl rfl ?_
      refine k_getR X c_326 fRX9_7 r_326_0 dX9_more_48 ?_
      refine k_iconst X (v := 0) dX9_more_51 (by decide) ?_
      refine k_aload_n X 0 dX9_more_52 rfl rfl ?_
      refine k_getR X c_326 fRX9_13 r_326_1 dX9_more_53 ?_
      refine k_iconst X (v := 0) dX9_more_56 (by decide) ?_
      refine k_callSV X [.ref (ad E 327), .int 0, .ref (ad E 328), .int 0] [] (mt_Md_copies (zl Z) E 327 0 328 0 c_327 c_328 M) mRX9_175 ⟨by decide, by decide⟩ rfl rfl (Nat.le_of_ble_eq_true rfl) dX9_more_57 (fun _ M9 => ?_)
      refine k_aload_n X 0 dX9_more_60 rfl rfl ?_
      refine k_getR X c_326 fRX9_13 r_326_1 dX9_more_61 ?_
      refine k_iload_n X 1 dX9_more_64 rfl rfl ?_
      refine k_iload_n X 2 dX9_more_65 rfl rfl ?_
      refine k_callSV X [.ref (ad E 328), .int x1, .int x2] [] (mt_Md_adds (zl Z) E 328 x1 x2 c_328 l_328 M9) mRX9_150 ⟨by decide, by decide⟩ rfl rfl (Nat.le_of_ble_eq_true rfl) dX9_more_66 (fun _ M11 => ?_)
      refine k_aload_n X 0 dX9_more_69 rfl rfl ?_
      refine k_aload_n X 0 dX9_more_70 rfl rfl ?_
      refine k_getR X c_326 fRX9_13 r_326_1 dX9_more_71 ?_
      refine k_iconst X (v := 0) dX9_more_74 (by decide) ?_
      refine k_callVI X [.ref (ad E 328), .int 0] [] c_326 rfl (by decide) rfl (mt_Md_canBePlaced (zl Z) E 328 0 c_328 l_328 M11) mRX9_251 ⟨by decide, by decide⟩ rfl rfl (Nat.le_of_ble_eq_true rfl) dX9_more_75 (fun r12 M13 => ?_)
      refine k_if_eq X 83 dX9_more_78 (by decide) ?_ ?_
      · refine x_iinc X 1 2 [(0, .ref (ad E 326)), (1, .int x1)] dX9_more_83 rfl (by decide) (by decide) rfl (fun x14_ => ?_)
        refine k_goto X 41 dX9_more_86 (by decide) ?_
        refine k_lv [1, 2, 0] rfl ?_
        exact ih x1 x14_ M13
      · refine k_iload_n X 2 dX9_more_81 rfl rfl ?_
        exact k_iret X dX9_more_82
theorem kw_Md_more {Z : ZT} {E : En} (X : Cx Z E 3 cX9_more RX9 (some .int) 7 168) (x1 : Int32) (M : Mem) : Kj Z E 3 (QI Z E) (j_Md_more x1 M) M 0 [(0, .ref (ad E 326)), (1, .int x1)] [] := by
  unfold j_Md_more
  refine k_aload_n X 0 dX9_more_0 rfl rfl ?_
  refine k_callVI X [] [] c_326 rfl (by decide) rfl (mt_Md_isBook (zl Z) E  M) mRX9_200 ⟨by decide, by decide⟩ rfl rfl (Nat.le_of_ble_eq_true rfl) dX9_more_1 (fun r1 M2 => ?_)
  refine k_if_ne X 10 dX9_more_4 (by decide) ?_ ?_
  · refine k_iload_n X 1 dX9_more_10 rfl rfl ?_
    refine k_i2l X dX9_more_11 ?_
    refine k_lconst X (v := 1) dX9_more_12 (by decide) ?_
    refine k_ldc2 X w_1164 dX9_more_13 ?_
    refine k_callSI X [.long (Int32.toInt64 x1), .long 1, .long 5] [] (mt_Md_in (zl Z) E (Int32.toInt64 x1) 1 5 M2) mRX9_47 ⟨by decide, by decide⟩ rfl rfl (Nat.le_of_ble_eq_true rfl) dX9_more_16 (fun r3 M4 => ?_)
    refine k_if_ne X 25 dX9_more_19 (by decide) ?_ ?_
    · refine k_aload_n X 0 dX9_more_25 rfl rfl ?_
      refine k_aload_n X 0 dX9_more_26 rfl rfl ?_
      refine k_getR X c_326 fRX9_7 r_326_0 dX9_more_27 ?_
      refine k_iconst X (v := 0) dX9_more_30 (by decide) ?_
      refine k_callVI X [.ref (ad E 327), .int 0] [] c_326 rfl (by decide) rfl (mt_Md_canBePlaced (zl Z) E 327 0 c_327 l_327 M4) mRX9_251 ⟨by decide, by decide⟩ rfl rfl (Nat.le_of_ble_eq_true rfl) dX9_more_31 (fun r5 M6 => ?_)
      refine k_if_eq X 39 dX9_more_34 (by decide) ?_ ?_
      · refine k_iconst X (v := 1) dX9_more_39 (by decide) ?_
        refine x_istore_n X [(0, .ref (ad E 326)), (1, .int x1)] dX9_more_40 rfl (by decide) rfl (fun x7_ => ?_)
        refine k_lv [1, 2, 0] rfl ?_
        exact kb_Md_more_h41 X  FU x1 x7_ M6
      · refine k_iconst X (v := 0) dX9_more_37 (by decide) ?_
        exact k_iret X dX9_more_38
    · refine k_ldc X w_1016 dX9_more_22 ?_
      exact k_iret X dX9_more_24
  · refine k_ldc X w_1084 dX9_more_7 ?_
    exact k_iret X dX9_more_9
theorem mt_Md_more (l : Launch) (E : En) (x1 : Int32) (M : Mem) : MI l E yX9_more cX9_more 3 (some .int) 7 168 [.ref (ad E 326), .int x1] M (j_Md_more x1 M) := MI_of (by decide) (Nat.le_of_ble_eq_true rfl) (fun Z _ X => k_lv [0, 1] rfl (kw_Md_more X x1 M))
-- FilmCansModel.needed
theorem kb_Md_needed_b72 {Z : ZT} {E : En} (X : Cx Z E 3 cX9_needed RX9 (some .int) 7 168) (k29 : Int32 → Int32 → Mem → Option (Int32 × Mem)) (hk29 : ∀ (x1 : Int32) (x2 : Int32) (M : Mem), Kj Z E 3 (QI Z E) (k29 x1 x2 M) M 29 [(0, .ref (ad E 326)), (1, .int x1), (2, .int x2)] []) (x2 : Int32) (xs0 : Int32) (xs1 : Int32) (M : Mem) : Kj Z E 3 (QI Z E) (Md_needed_b72 k29 x2 xs0 xs1 M) M 72 [(0, .ref (ad E 326)), (2, .int x2)] [.int xs0, .int xs1] := by
  unfold Md_needed_b72
  refine k_ior X dX9_needed_72 ?_
  refine x_istore_n X [(0, .ref (ad E 326)), (2, .int x2)] dX9_needed_73 rfl (by decide) rfl (fun x10_ => ?_)
  refine x_iinc X 1 2 [(1, .int x10_), (0, .ref (ad E 326))] dX9_needed_74 rfl (by decide) (by decide) rfl (fun x11_ => ?_)
  refine k_goto X 29 dX9_needed_77 (by decide) ?_
  refine k_lv [2, 1, 0] rfl ?_
  exact hk29 x10_ x11_ M
theorem kb_Md_needed_b71 {Z : ZT} {E : En} (X : Cx Z E 3 cX9_needed RX9 (some .int) 7 168) (k29 : Int32 → Int32 → Mem → Option (Int32 × Mem)) (hk29 : ∀ (x1 : Int32) (x2 : Int32) (M : Mem), Kj Z E 3 (QI Z E) (k29 x1 x2 M) M 29 [(0, .ref (ad E 326)), (1, .int x1), (2, .int x2)] []) (x2 : Int32) (xs0 : Int32) (M : Mem) : Kj Z E 3 (QI Z E) (Md_needed_b71 k29 x2 xs0 M) M 71 [(0, .ref (ad E 326)), (2, .int x2)] [.int xs0] := by
  unfold Md_needed_b71
  refine k_iconst X (v := 0) dX9_needed_71 (by decide) ?_
  refine k_lv [0, 1] rfl ?_
  exact kb_Md_needed_b72 X k29 hk29 x2 0 xs0 M
theorem kb_Md_needed_h29 {Z : ZT} {E : En} (X : Cx Z E 3 cX9_needed RX9 (some .int) 7 168)  : ∀ (n : Nat) (x1 : Int32) (x2 : Int32) (M : Mem), Kj Z E 3 (QI Z E) (Md_needed_h29  n x1 x2 M) M 29 [(0, .ref (ad E 326)), (1, .int x1), (2, .int x2)] [] := by
  intro n
  induction n with
  | zero => intro x1 x2 M; exact k_none
  | succ n ih =>
    intro x1 x2 M
    rw [Md_needed_h29]
    refine k_iload_n X 2 dX9_needed_29 rfl rfl ?_
    refine k_aload_n X 0 dX9_needed_30 rfl rfl ?_
    refine k_getR X c_326 fRX9_7 r_326_0 dX9_needed_31 ?_
    refine k_iconst X (v := 4) dX9_needed_34 (by decide) ?_
    refine k_ialdC X 4 c_327 l_327 (by decide) (by decide) dX9_needed_35 ?_
    refine k_icmp_ge X 80 dX9_needed_36 (by decide) ?_ ?_
    · refine k_iload_n X 1 dX9_needed_80 rfl rfl ?_
      exact k_iret X dX9_needed_81
    · refine k_iload_n X 1 dX9_needed_39 rfl rfl ?_
      refine k_aload_n X 0 dX9_needed_40 rfl rfl ?_
      refine k_getR X c_326 fRX9_7 r_326_0 dX9_needed_41 ?_
      refine k_iload_n X 2 dX9_needed_44 rfl rfl ?_
      refine k_callSI X [.ref (ad E 327), .int x2] [.int x1] (mt_Md_isRoom (zl Z) E 327 x2 c_327 l_327 M) mRX9_238 ⟨by decide, by decide⟩ rfl rfl (Nat.le_of_ble_eq_true rfl) dX9_needed_45 (fun r8 M9 => ?_)
      refine k_if_eq X 71 dX9_needed_48 (by decide) ?_ ?_
      · refine k_lv [0, 2] rfl ?_
        exact kb_Md_needed_b71 X (fun x1 x2 M => Md_needed_h29 n x1 x2 M) (fun x1 x2 M => ih x1 x2 M) x2 x1 M9
      · refine k_aload_n X 0 dX9_needed_51 rfl rfl ?_
        refine k_aload_n X 0 dX9_needed_52 rfl rfl ?_
        refine k_getR X c_326 fRX9_7 r_326_0 dX9_needed_53 ?_
        refine k_iconst X (v := 1) dX9_needed_56 (by decide) ?_
        refine k_iload_n X 2 dX9_needed_57 rfl rfl ?_
        refine k_ishl X dX9_needed_58 ?_
        refine k_callVI X [.ref (ad E 327), .int ((1 : Int32) <<< (x2 &&& 31))] [.int x1] c_326 rfl (by decide) rfl (mt_Md_canBePlaced (zl Z) E 327 ((1 : Int32) <<< (x2 &&& 31)) c_327 l_327 M9) mRX9_251 ⟨by decide, by decide⟩ rfl rfl (Nat.le_of_ble_eq_true rfl) dX9_needed_59 (fun r12 M13 => ?_)
        refine k_if_ne X 71 dX9_needed_62 (by decide) ?_ ?_
        · refine k_lv [0, 2] rfl ?_
          exact kb_Md_needed_b71 X (fun x1 x2 M => Md_needed_h29 n x1 x2 M) (fun x1 x2 M => ih x1 x2 M) x2 x1 M13
        · refine k_iconst X (v := 1) dX9_needed_65 (by decide) ?_
          refine k_iload_n X 2 dX9_needed_66 rfl rfl ?_
          refine k_ishl X dX9_needed_67 ?_
          refine k_goto X 72 dX9_needed_68 (by decide) ?_
          refine k_lv [0, 2] rfl ?_
          exact kb_Md_needed_b72 X (fun x1 x2 M => Md_needed_h29 n x1 x2 M) (fun x1 x2 M => ih x1 x2 M) x2 ((1 : Int32) <<< (x2 &&& 31)) x1 M13
theorem kw_Md_needed {Z : ZT} {E : En} (X : Cx Z E 3 cX9_needed RX9 (some .int) 7 168) (M : Mem) : Kj Z E 3 (QI Z E) (j_Md_needed M) M 0 [(0, .ref (ad E 326))] [] := by
  unfold j_Md_needed
  refine k_aload_n X 0 dX9_needed_0 rfl rfl ?_
  refine k_callVI X [] [] c_326 rfl (by decide) rfl (mt_Md_isBook (zl Z) E  M) mRX9_200 ⟨by decide, by decide⟩ rfl rfl (Nat.le_of_ble_eq_true rfl) dX9_needed_1 (fun r1 M2 => ?_)
  refine k_if_ne X 10 dX9_needed_4 (by decide) ?_ ?_
  · refine k_aload_n X 0 dX9_needed_10 rfl rfl ?_
    refine k_aload_n X 0 dX9_needed_11 rfl rfl ?_
    refine k_getR X c_326 fRX9_7 r_326_0 dX9_needed_12 ?_
    refine k_iconst X (v := 0) dX9_needed_15 (by decide) ?_
    refine k_callVI X [.ref (ad E 327), .int 0] [] c_326 rfl (by decide) rfl (mt_Md_canBePlaced (zl Z) E 327 0 c_327 l_327 M2) mRX9_251 ⟨by decide, by decide⟩ rfl rfl (Nat.le_of_ble_eq_true rfl) dX9_needed_16 (fun r3 M4 => ?_)
    refine k_if_ne X 25 dX9_needed_19 (by decide) ?_ ?_
    · refine k_iconst X (v := 0) dX9_needed_25 (by decide) ?_
      refine x_istore_n X [(0, .ref (ad E 326))] dX9_needed_26 rfl (by decide) rfl (fun x5_ => ?_)
      refine k_iconst X (v := 0) dX9_needed_27 (by decide) ?_
      refine x_istore_n X [(1, .int x5_), (0, .ref (ad E 326))] dX9_needed_28 rfl (by decide) rfl (fun x6_ => ?_)
      refine k_lv [2, 1, 0] rfl ?_
      exact kb_Md_needed_h29 X  FU x5_ x6_ M4
    · refine k_ldc X w_1139 dX9_needed_22 ?_
      exact k_iret X dX9_needed_24
  · refine k_ldc X w_1084 dX9_needed_7 ?_
    exact k_iret X dX9_needed_9
theorem mt_Md_needed (l : Launch) (E : En) (M : Mem) : MI l E yX9_needed cX9_needed 3 (some .int) 7 168 [.ref (ad E 326)] M (j_Md_needed M) := MI_of (by decide) (Nat.le_of_ble_eq_true rfl) (fun Z _ X => k_lv [0] rfl (kw_Md_needed X M))
-- FilmCansModel.gcd
theorem kb_Md_gcd_h6 {Z : ZT} {E : En} (X : Cx Z E 10 cX9_gcd RX9 (some .long) 0 0)  : ∀ (n : Nat) (y4 : Int64) (y6 : Int64) (M : Mem), Kj Z E 10 (QL Z E) (Md_gcd_h6  n y4 y6 M) M 6 [(4, .long y4), (6, .long y6)] [] := by
  intro n
  induction n with
  | zero => intro y4 y6 M; exact k_none
  | succ n ih =>
    intro y4 y6 M
    rw [Md_gcd_h6]
    refine k_lload X 1 dX9_gcd_6 rfl ?_
    refine k_lconst X (v := 0) dX9_gcd_8 (by decide) ?_
    refine k_leq X 31 dX9_gcd_9 dX9_gcd_10 (by decide) ?_ ?_
    · refine k_lload X 0 dX9_gcd_31 rfl ?_
      exact k_lret X dX9_gcd_33
    · refine k_lload X 0 dX9_gcd_13 rfl ?_
      refine k_lload X 1 dX9_gcd_15 rfl ?_
      refine k_lremG X dX9_gcd_17 ?_
      refine x_lstore X [(4, .long y4), (6, .long y6)] dX9_gcd_18 (by decide) rfl (fun y1_ => ?_)
      refine k_lload X 2 dX9_gcd_20 rfl ?_
      refine k_lstore X [(4, .long y6), (8, .long y1_), (6, .long y6)] dX9_gcd_22 (by decide) rfl ?_
      refine k_lload X 1 dX9_gcd_24 rfl ?_
      refine k_lstore X [(6, .long y1_), (4, .long y6), (8, .long y1_)] dX9_gcd_26 (by decide) rfl ?_
      refine k_goto X 6 dX9_gcd_28 (by decide) ?_
      refine k_lv [1, 0] rfl ?_
      exact ih y6 y1_ M
theorem kw_Md_gcd {Z : ZT} {E : En} (X : Cx Z E 10 cX9_gcd RX9 (some .long) 0 0) (y0 : Int64) (y2 : Int64) (M : Mem) : Kj Z E 10 (QL Z E) (j_Md_gcd y0 y2 M) M 0 [(0, .long y0), (2, .long y2)] [] := by
  unfold j_Md_gcd
  refine k_lload_n X 0 dX9_gcd_0 rfl rfl ?_
  refine k_lstore X [(4, .long y0), (0, .long y0), (2, .long y2)] dX9_gcd_1 (by decide) rfl ?_
  refine k_lload_n X 2 dX9_gcd_3 rfl rfl ?_
  refine k_lstore X [(6, .long y2), (4, .long y0), (0, .long y0), (2, .long y2)] dX9_gcd_4 (by decide) rfl ?_
  refine k_lv [1, 0] rfl ?_
  exact kb_Md_gcd_h6 X  FU y0 y2 M
theorem mt_Md_gcd (l : Launch) (E : En) (y0 : Int64) (y2 : Int64) (M : Mem) : ML l E yX9_gcd cX9_gcd 10 (some .long) 0 0 [.long y0, .long y2] M (j_Md_gcd y0 y2 M) := ML_of (by decide) (Nat.le_of_ble_eq_true rfl) (fun Z _ X => k_lv [0, 1] rfl (kw_Md_gcd X y0 y2 M))
-- FilmCansModel.fogged
theorem kb_Md_fogged_b188 {Z : ZT} {E : En} (X : Cx Z E 11 cX9_fogged RX9 (some .long) 7 168) (y3 : Int64) (y5 : Int64) (ys0 : Int64) (M : Mem) : Kj Z E 11 (QL Z E) (Md_fogged_b188 y3 y5 ys0 M) M 188 [(3, .long y3), (5, .long y5)] [.long ys0] := by
  unfold Md_fogged_b188
  refine k_lload_n X 0 dX9_fogged_188 rfl rfl ?_
  refine k_lload X 1 dX9_fogged_189 rfl ?_
  refine k_callSL X [.long y3, .long y5] [.long ys0] (mt_Md_gcd (zl Z) E y3 y5 M) mRX9_277 ⟨by decide, by decide⟩ rfl rfl (Nat.le_of_ble_eq_true rfl) dX9_fogged_191 (fun r11 M12 => ?_)
  refine k_ldivG X dX9_fogged_194 ?_
  exact k_lret X dX9_fogged_195
theorem kb_Md_fogged_b170 {Z : ZT} {E : En} (X : Cx Z E 11 cX9_fogged RX9 (some .long) 7 168) (k45 : Int32 → Int32 → Int64 → Int64 → Int32 → Mem → Option (Int64 × Mem)) (hk45 : ∀ (x1 : Int32) (x2 : Int32) (y3 : Int64) (y5 : Int64) (x7 : Int32) (M : Mem), Kj Z E 11 (QL Z E) (k45 x1 x2 y3 y5 x7 M) M 45 [(0, .ref (ad E 326)), (1, .int x1), (2, .int x2), (3, .long y3), (5, .long y5), (7, .int x7)] []) (x1 : Int32) (x2 : Int32) (y5 : Int64) (x7 : Int32) (ys0 : Int64) (ys1 : Int64) (M : Mem) : Kj Z E 11 (QL Z E) (Md_fogged_b170 k45 x1 x2 y5 x7 ys0 ys1 M) M 170 [(0, .ref (ad E 326)), (1, .int x1), (2, .int x2), (5, .long y5), (7, .int x7)] [.long ys0, .long ys1] := by
  unfold Md_fogged_b170
  refine k_ladd X dX9_fogged_170 ?_
  refine x_lstore_n X [(0, .ref (ad E 326)), (1, .int x1), (2, .int x2), (5, .long y5), (7, .int x7)] dX9_fogged_171 rfl (by decide) rfl (fun y17_ => ?_)
  refine x_iinc X 1 5 [(3, .long y17_), (0, .ref (ad E 326)), (1, .int x1), (2, .int x2), (5, .long y5)] dX9_fogged_172 rfl (by decide) (by decide) rfl (fun x18_ => ?_)
  refine k_goto X 45 dX9_fogged_175 (by decide) ?_
  refine k_lv [2, 3, 4, 1, 5, 0] rfl ?_
  exact hk45 x1 x2 y17_ y5 x18_ M
theorem kb_Md_fogged_b169 {Z : ZT} {E : En} (X : Cx Z E 11 cX9_fogged RX9 (some .long) 7 168) (k45 : Int32 → Int32 → Int64 → Int64 → Int32 → Mem → Option (Int64 × Mem)) (hk45 : ∀ (x1 : Int32) (x2 : Int32) (y3 : Int64) (y5 : Int64) (x7 : Int32) (M : Mem), Kj Z E 11 (QL Z E) (k45 x1 x2 y3 y5 x7 M) M 45 [(0, .ref (ad E 326)), (1, .int x1), (2, .int x2), (3, .long y3), (5, .long y5), (7, .int x7)] []) (x1 : Int32) (x2 : Int32) (y5 : Int64) (x7 : Int32) (ys0 : Int64) (M : Mem) : Kj Z E 11 (QL Z E) (Md_fogged_b169 k45 x1 x2 y5 x7 ys0 M) M 169 [(0, .ref (ad E 326)), (1, .int x1), (2, .int x2), (5, .long y5), (7, .int x7)] [.long ys0] := by
  unfold Md_fogged_b169
  refine k_lconst X (v := 0) dX9_fogged_169 (by decide) ?_
  refine k_lv [0, 1, 2, 3, 4] rfl ?_
  exact kb_Md_fogged_b170 X k45 hk45 x1 x2 y5 x7 0 ys0 M
theorem kb_Md_fogged_b127 {Z : ZT} {E : En} (X : Cx Z E 11 cX9_fogged RX9 (some .long) 7 168) (k45 : Int32 → Int32 → Int64 → Int64 → Int32 → Mem → Option (Int64 × Mem)) (k64 : Int32 → Int32 → Int64 → Int64 → Int32 → Int64 → Int32 → Mem → Option (Int64 × Mem)) (hk45 : ∀ (x1 : Int32) (x2 : Int32) (y3 : Int64) (y5 : Int64) (x7 : Int32) (M : Mem), Kj Z E 11 (QL Z E) (k45 x1 x2 y3 y5 x7 M) M 45 [(0, .ref (ad E 326)), (1, .int x1), (2, .int x2), (3, .long y3), (5, .long y5), (7, .int x7)] []) (hk64 : ∀ (x1 : Int32) (x2 : Int32) (y3 : Int64) (y5 : Int64) (x7 : Int32) (y8 : Int64) (x10 : Int32) (M : Mem), Kj Z E 11 (QL Z E) (k64 x1 x2 y3 y5 x7 y8 x10 M) M 64 [(0, .ref (ad E 326)), (1, .int x1), (2, .int x2), (3, .long y3), (5, .long y5), (7, .int x7), (8, .long y8), (10, .int x10)] []) (x1 : Int32) (x2 : Int32) (y3 : Int64) (y5 : Int64) (x7 : Int32) (x10 : Int32) (ys0 : Int64) (ys1 : Int64) (M : Mem) : Kj Z E 11 (QL Z E) (Md_fogged_b127 k45 k64 x1 x2 y3 y5 x7 x10 ys0 ys1 M) M 127 [(0, .ref (ad E 326)), (1, .int x1), (2, .int x2), (3, .long y3), (5, .long y5), (7, .int x7), (10, .int x10)] [.long ys0, .long ys1] := by
  unfold Md_fogged_b127
  refine k_lmul X dX9_fogged_127 ?_
  refine x_lstore X [(0, .ref (ad E 326)), (1, .int x1), (2, .int x2), (3, .long y3), (5, .long y5), (7, .int x7), (10, .int x10)] dX9_fogged_128 (by decide) rfl (fun y25_ => ?_)
  refine x_iinc X 1 7 [(8, .long y25_), (0, .ref (ad E 326)), (1, .int x1), (2, .int x2), (3, .long y3), (5, .long y5), (7, .int x7)] dX9_fogged_130 rfl (by decide) (by decide) rfl (fun x26_ => ?_)
  refine k_goto X 64 dX9_fogged_133 (by decide) ?_
  refine k_lv [2, 3, 4, 5, 6, 7, 1, 0] rfl ?_
  exact hk64 x1 x2 y3 y5 x7 y25_ x26_ M
theorem kb_Md_fogged_h64 {Z : ZT} {E : En} (X : Cx Z E 11 cX9_fogged RX9 (some .long) 7 168) (k45 : Int32 → Int32 → Int64 → Int64 → Int32 → Mem → Option (Int64 × Mem)) (hk45 : ∀ (x1 : Int32) (x2 : Int32) (y3 : Int64) (y5 : Int64) (x7 : Int32) (M : Mem), Kj Z E 11 (QL Z E) (k45 x1 x2 y3 y5 x7 M) M 45 [(0, .ref (ad E 326)), (1, .int x1), (2, .int x2), (3, .long y3), (5, .long y5), (7, .int x7)] []) : ∀ (n : Nat) (x1 : Int32) (x2 : Int32) (y3 : Int64) (y5 : Int64) (x7 : Int32) (y8 : Int64) (x10 : Int32) (M : Mem), Kj Z E 11 (QL Z E) (Md_fogged_h64 k45 n x1 x2 y3 y5 x7 y8 x10 M) M 64 [(0, .ref (ad E 326)), (1, .int x1), (2, .int x2), (3, .long y3), (5, .long y5), (7, .int x7), (8, .long y8), (10, .int x10)] [] := by
  intro n
  induction n with
  | zero => intro x1 x2 y3 y5 x7 y8 x10 M; exact k_none
  | succ n ih =>
    intro x1 x2 y3 y5 x7 y8 x10 M
    rw [Md_fogged_h64]
    refine k_iload X 7 dX9_fogged_64 rfl ?_
    refine k_aload_n X 0 dX9_fogged_66 rfl rfl ?_
    refine k_getR X c_326 fRX9_7 r_326_0 dX9_fogged_67 ?_
    refine k_iconst X (v := 4) dX9_fogged_70 (by decide) ?_
    refine k_ialdC X 4 c_327 l_327 (by decide) (by decide) dX9_fogged_71 ?_
    refine k_icmp_ge X 136 dX9_fogged_72 (by decide) ?_ ?_
    · refine k_lload X 4 dX9_fogged_136 rfl ?_
      refine k_lload X 6 dX9_fogged_138 rfl ?_
      refine k_ladd X dX9_fogged_140 ?_
      refine x_lstore X [(0, .ref (ad E 326)), (1, .int x1), (2, .int x2), (3, .long y3), (7, .int x7), (8, .long y8), (10, .int x10)] dX9_fogged_141 (by decide) rfl (fun y16_ => ?_)
      refine k_lload_n X 4 dX9_fogged_143 rfl rfl ?_
      refine k_lload X 6 dX9_fogged_144 rfl ?_
      refine k_lconst X (v := 0) dX9_fogged_146 (by decide) ?_
      refine k_lle X 169 dX9_fogged_147 dX9_fogged_148 (by decide) ?_ ?_
      · refine k_lv [1, 2, 3, 0, 5] rfl ?_
        exact kb_Md_fogged_b169 X k45 hk45 x1 x2 y16_ x7 y3 M
      · refine k_aload_n X 1 dX9_fogged_151 rfl rfl ?_
        refine k_aload_n X 1 dX9_fogged_152 rfl rfl ?_
        refine k_getR X c_326 fRX9_7 r_326_0 dX9_fogged_153 ?_
        refine k_iload X 5 dX9_fogged_156 rfl ?_
        refine k_callVI X [.ref (ad E 327), .int x7] [.long y3] c_326 rfl (by decide) rfl (mt_Md_canBePlaced (zl Z) E 327 x7 c_327 l_327 M) mRX9_251 ⟨by decide, by decide⟩ rfl rfl (Nat.le_of_ble_eq_true rfl) dX9_fogged_158 (fun r19 M20 => ?_)
        refine k_if_eq X 169 dX9_fogged_161 (by decide) ?_ ?_
        · refine k_lv [1, 2, 3, 0, 5] rfl ?_
          exact kb_Md_fogged_b169 X k45 hk45 x1 x2 y16_ x7 y3 M20
        · refine k_lload X 6 dX9_fogged_164 rfl ?_
          refine k_goto X 170 dX9_fogged_166 (by decide) ?_
          refine k_lv [1, 2, 3, 0, 5] rfl ?_
          exact kb_Md_fogged_b170 X k45 hk45 x1 x2 y16_ x7 y8 y3 M20
    · refine k_lload X 6 dX9_fogged_75 rfl ?_
      refine k_aload_n X 0 dX9_fogged_77 rfl rfl ?_
      refine k_getR X c_326 fRX9_7 r_326_0 dX9_fogged_78 ?_
      refine k_iload X 7 dX9_fogged_81 rfl ?_
      refine k_callSI X [.ref (ad E 327), .int x10] [.long y8] (mt_Md_isRoom (zl Z) E 327 x10 c_327 l_327 M) mRX9_238 ⟨by decide, by decide⟩ rfl rfl (Nat.le_of_ble_eq_true rfl) dX9_fogged_83 (fun r21 M22 => ?_)
      refine k_if_eq X 112 dX9_fogged_86 (by decide) ?_ ?_
      · refine k_iload X 5 dX9_fogged_112 rfl ?_
        refine k_iload X 7 dX9_fogged_114 rfl ?_
        refine k_callSI X [.int x7, .int x10] [.long y8] (mt_Md_has (zl Z) E x7 x10 M22) mRX9_76 ⟨by decide, by decide⟩ rfl rfl (Nat.le_of_ble_eq_true rfl) dX9_fogged_116 (fun r23 M24 => ?_)
        refine k_if_eq X 126 dX9_fogged_119 (by decide) ?_ ?_
        · refine k_lconst X (v := 1) dX9_fogged_126 (by decide) ?_
          refine k_lv [0, 1, 2, 3, 4, 5, 7] rfl ?_
          exact kb_Md_fogged_b127 X k45 (fun x1 x2 y3 y5 x7 y8 x10 M => Md_fogged_h64 k45 n x1 x2 y3 y5 x7 y8 x10 M) hk45 (fun x1 x2 y3 y5 x7 y8 x10 M => ih x1 x2 y3 y5 x7 y8 x10 M) x1 x2 y3 y5 x7 x10 1 y8 M24
        · refine k_lconst X (v := 0) dX9_fogged_122 (by decide) ?_
          refine k_goto X 127 dX9_fogged_123 (by decide) ?_
          refine k_lv [0, 1, 2, 3, 4, 5, 7] rfl ?_
          exact kb_Md_fogged_b127 X k45 (fun x1 x2 y3 y5 x7 y8 x10 M => Md_fogged_h64 k45 n x1 x2 y3 y5 x7 y8 x10 M) hk45 (fun x1 x2 y3 y5 x7 y8 x10 M => ih x1 x2 y3 y5 x7 y8 x10 M) x1 x2 y3 y5 x7 x10 0 y8 M24
      · refine k_iload X 5 dX9_fogged_89 rfl ?_
        refine k_iload X 7 dX9_fogged_91 rfl ?_
        refine k_callSI X [.int x7, .int x10] [.long y8] (mt_Md_has (zl Z) E x7 x10 M22) mRX9_76 ⟨by decide, by decide⟩ rfl rfl (Nat.le_of_ble_eq_true rfl) dX9_fogged_93 (fun r27 M28 => ?_)
        refine k_if_eq X 104 dX9_fogged_96 (by decide) ?_ ?_
        · refine k_bipush X (v := 10) dX9_fogged_104 (by decide) ?_
          refine k_iload_n X 1 dX9_fogged_106 rfl rfl ?_
          refine k_isub X dX9_fogged_107 ?_
          refine k_i2l X dX9_fogged_108 ?_
          refine k_goto X 127 dX9_fogged_109 (by decide) ?_
          refine k_lv [0, 1, 2, 3, 4, 5, 7] rfl ?_
          exact kb_Md_fogged_b127 X k45 (fun x1 x2 y3 y5 x7 y8 x10 M => Md_fogged_h64 k45 n x1 x2 y3 y5 x7 y8 x10 M) hk45 (fun x1 x2 y3 y5 x7 y8 x10 M => ih x1 x2 y3 y5 x7 y8 x10 M) x1 x2 y3 y5 x7 x10 (Int32.toInt64 ((10 : Int32) - x1)) y8 M28
        · refine k_iload_n X 1 dX9_fogged_99 rfl rfl ?_
          refine k_i2l X dX9_fogged_100 ?_
          refine k_goto X 127 dX9_fogged_101 (by decide) ?_
          refine k_lv [0, 1, 2, 3, 4, 5, 7] rfl ?_
          exact kb_Md_fogged_b127 X k45 (fun x1 x2 y3 y5 x7 y8 x10 M => Md_fogged_h64 k45 n x1 x2 y3 y5 x7 y8 x10 M) hk45 (fun x1 x2 y3 y5 x7 y8 x10 M => ih x1 x2 y3 y5 x7 y8 x10 M) x1 x2 y3 y5 x7 x10 (Int32.toInt64 x1) y8 M28
theorem kb_Md_fogged_h45 {Z : ZT} {E : En} (X : Cx Z E 11 cX9_fogged RX9 (some .long) 7 168)  : ∀ (n : Nat) (x1 : Int32) (x2 : Int32) (y3 : Int64) (y5 : Int64) (x7 : Int32) (M : Mem), Kj Z E 11 (QL Z E) (Md_fogged_h45  n x1 x2 y3 y5 x7 M) M 45 [(0, .ref (ad E 326)), (1, .int x1), (2, .int x2), (3, .long y3), (5, .long y5), (7, .int x7)] [] := by
  intro n
  induction n with
  | zero => intro x1 x2 y3 y5 x7 M; exact k_none
  | succ n ih =>
    intro x1 x2 y3 y5 x7 M
    rw [Md_fogged_h45]
    refine k_iload X 5 dX9_fogged_45 rfl ?_
    refine k_iconst X (v := 1) dX9_fogged_47 (by decide) ?_
    refine k_aload_n X 0 dX9_fogged_48 rfl rfl ?_
    refine k_getR X c_326 fRX9_7 r_326_0 dX9_fogged_49 ?_
    refine k_iconst X (v := 4) dX9_fogged_52 (by decide) ?_
    refine k_ialdC X 4 c_327 l_327 (by decide) (by decide) dX9_fogged_53 ?_
    refine k_ishl X dX9_fogged_54 ?_
    refine k_icmp_ge X 178 dX9_fogged_55 (by decide) ?_ ?_
    · refine k_iload_n X 2 dX9_fogged_178 rfl rfl ?_
      refine k_if_ne X 186 dX9_fogged_179 (by decide) ?_ ?_
      · refine k_lload X 4 dX9_fogged_186 rfl ?_
        refine k_lv [3, 4] rfl ?_
        exact kb_Md_fogged_b188 X  y3 y5 y5 M
      · refine k_lload_n X 3 dX9_fogged_182 rfl rfl ?_
        refine k_goto X 188 dX9_fogged_183 (by decide) ?_
        refine k_lv [3, 4] rfl ?_
        exact kb_Md_fogged_b188 X  y3 y5 y3 M
    · refine k_lconst X (v := 1) dX9_fogged_58 (by decide) ?_
      refine x_lstore X [(0, .ref (ad E 326)), (1, .int x1), (2, .int x2), (3, .long y3), (5, .long y5), (7, .int x7)] dX9_fogged_59 (by decide) rfl (fun y13_ => ?_)
      refine k_iconst X (v := 0) dX9_fogged_61 (by decide) ?_
      refine x_istore X [(8, .long y13_), (0, .ref (ad E 326)), (1, .int x1), (2, .int x2), (3, .long y3), (5, .long y5), (7, .int x7)] dX9_fogged_62 (by decide) rfl (fun x14_ => ?_)
      refine k_lv [2, 3, 4, 5, 6, 7, 1, 0] rfl ?_
      exact kb_Md_fogged_h64 X (fun x1 x2 y3 y5 x7 M => Md_fogged_h45 n x1 x2 y3 y5 x7 M) (fun x1 x2 y3 y5 x7 M => ih x1 x2 y3 y5 x7 M) FU x1 x2 y3 y5 x7 y13_ x14_ M
theorem kw_Md_fogged {Z : ZT} {E : En} (X : Cx Z E 11 cX9_fogged RX9 (some .long) 7 168) (x1 : Int32) (x2 : Int32) (M : Mem) : Kj Z E 11 (QL Z E) (j_Md_fogged x1 x2 M) M 0 [(0, .ref (ad E 326)), (1, .int x1), (2, .int x2)] [] := by
  unfold j_Md_fogged
  refine k_aload_n X 0 dX9_fogged_0 rfl rfl ?_
  refine k_callVI X [] [] c_326 rfl (by decide) rfl (mt_Md_isBook (zl Z) E  M) mRX9_200 ⟨by decide, by decide⟩ rfl rfl (Nat.le_of_ble_eq_true rfl) dX9_fogged_1 (fun r1 M2 => ?_)
  refine k_if_ne X 11 dX9_fogged_4 (by decide) ?_ ?_
  · refine k_iload_n X 1 dX9_fogged_11 rfl rfl ?_
    refine k_i2l X dX9_fogged_12 ?_
    refine k_lconst X (v := 0) dX9_fogged_13 (by decide) ?_
    refine k_ldc2 X w_1185 dX9_fogged_14 ?_
    refine k_callSI X [.long (Int32.toInt64 x1), .long 0, .long 10] [] (mt_Md_in (zl Z) E (Int32.toInt64 x1) 0 10 M2) mRX9_47 ⟨by decide, by decide⟩ rfl rfl (Nat.le_of_ble_eq_true rfl) dX9_fogged_17 (fun r3 M4 => ?_)
    refine k_if_eq X 33 dX9_fogged_20 (by decide) ?_ ?_
    · refine k_ldc2 X w_1323 dX9_fogged_33 ?_
      exact k_lret X dX9_fogged_36
    · refine k_iload_n X 2 dX9_fogged_23 rfl rfl ?_
      refine k_i2l X dX9_fogged_24 ?_
      refine k_lconst X (v := 0) dX9_fogged_25 (by decide) ?_
      refine k_lconst X (v := 1) dX9_fogged_26 (by decide) ?_
      refine k_callSI X [.long (Int32.toInt64 x2), .long 0, .long 1] [] (mt_Md_in (zl Z) E (Int32.toInt64 x2) 0 1 M4) mRX9_47 ⟨by decide, by decide⟩ rfl rfl (Nat.le_of_ble_eq_true rfl) dX9_fogged_27 (fun r5 M6 => ?_)
      refine k_if_ne X 37 dX9_fogged_30 (by decide) ?_ ?_
      · refine k_lconst X (v := 0) dX9_fogged_37 (by decide) ?_
        refine x_lstore_n X [(0, .ref (ad E 326)), (1, .int x1), (2, .int x2)] dX9_fogged_38 rfl (by decide) rfl (fun y7_ => ?_)
        refine k_lconst X (v := 0) dX9_fogged_39 (by decide) ?_
        refine x_lstore X [(3, .long y7_), (0, .ref (ad E 326)), (1, .int x1), (2, .int x2)] dX9_fogged_40 (by decide) rfl (fun y8_ => ?_)
        refine k_iconst X (v := 0) dX9_fogged_42 (by decide) ?_
        refine x_istore X [(5, .long y8_), (3, .long y7_), (0, .ref (ad E 326)), (1, .int x1), (2, .int x2)] dX9_fogged_43 (by decide) rfl (fun x9_ => ?_)
        refine k_lv [3, 4, 5, 2, 1, 0] rfl ?_
        exact kb_Md_fogged_h45 X  FU x1 x2 y7_ y8_ x9_ M6
      · refine k_ldc2 X w_1323 dX9_fogged_33 ?_
        exact k_lret X dX9_fogged_36
  · refine k_ldc2 X w_1322 dX9_fogged_7 ?_
    exact k_lret X dX9_fogged_10
theorem mt_Md_fogged (l : Launch) (E : En) (x1 : Int32) (x2 : Int32) (M : Mem) : ML l E yX9_fogged cX9_fogged 11 (some .long) 7 168 [.ref (ad E 326), .int x1, .int x2] M (j_Md_fogged x1 x2 M) := ML_of (by decide) (Nat.le_of_ble_eq_true rfl) (fun Z _ X => k_lv [0, 1, 2] rfl (kw_Md_fogged X x1 x2 M))
-- FilmCansModel.nth
theorem kb_Md_nth_b42 {Z : ZT} {E : En} (X : Cx Z E 6 cX9_nth RX9 (some .int) 1 21) (k5 : Int32 → Int64 → Int32 → Mem → Option (Int32 × Mem)) (hk5 : ∀ (x0 : Int32) (y3 : Int64) (x5 : Int32) (M : Mem), Kj Z E 6 (QI Z E) (k5 x0 y3 x5 M) M 5 [(0, .int x0), (3, .long y3), (5, .int x5)] []) (x0 : Int32) (x5 : Int32) (ys0 : Int64) (ys1 : Int64) (M : Mem) : Kj Z E 6 (QI Z E) (Md_nth_b42 k5 x0 x5 ys0 ys1 M) M 42 [(0, .int x0), (5, .int x5)] [.long ys0, .long ys1] := by
  unfold Md_nth_b42
  refine k_lsub X dX9_nth_42 ?_
  refine x_lstore_n X [(0, .int x0), (5, .int x5)] dX9_nth_43 rfl (by decide) rfl (fun y6_ => ?_)
  refine x_iinc X 1 2 [(3, .long y6_), (0, .int x0)] dX9_nth_44 rfl (by decide) (by decide) rfl (fun x7_ => ?_)
  refine k_goto X 5 dX9_nth_47 (by decide) ?_
  refine k_lv [2, 1, 0] rfl ?_
  exact hk5 x0 y6_ x7_ M
theorem kb_Md_nth_b27 {Z : ZT} {E : En} (X : Cx Z E 6 cX9_nth RX9 (some .int) 1 21) (k5 : Int32 → Int64 → Int32 → Mem → Option (Int32 × Mem)) (hk5 : ∀ (x0 : Int32) (y3 : Int64) (x5 : Int32) (M : Mem), Kj Z E 6 (QI Z E) (k5 x0 y3 x5 M) M 5 [(0, .int x0), (3, .long y3), (5, .int x5)] []) (x0 : Int32) (y3 : Int64) (x5 : Int32) (M : Mem) : Kj Z E 6 (QI Z E) (Md_nth_b27 k5 x0 y3 x5 M) M 27 [(0, .int x0), (3, .long y3), (5, .int x5)] [] := by
  unfold Md_nth_b27
  refine k_lload_n X 1 dX9_nth_27 rfl rfl ?_
  refine k_iload_n X 0 dX9_nth_28 rfl rfl ?_
  refine k_iload X 2 dX9_nth_29 rfl ?_
  refine k_callSI X [.int x0, .int x5] [.long y3] (mt_Md_has (zl Z) E x0 x5 M) mRX9_76 ⟨by decide, by decide⟩ rfl rfl (Nat.le_of_ble_eq_true rfl) dX9_nth_31 (fun r4 M5 => ?_)
  refine k_if_eq X 41 dX9_nth_34 (by decide) ?_ ?_
  · refine k_lconst X (v := 0) dX9_nth_41 (by decide) ?_
    refine k_lv [0, 2] rfl ?_
    exact kb_Md_nth_b42 X k5 hk5 x0 x5 0 y3 M5
  · refine k_lconst X (v := 1) dX9_nth_37 (by decide) ?_
    refine k_goto X 42 dX9_nth_38 (by decide) ?_
    refine k_lv [0, 2] rfl ?_
    exact kb_Md_nth_b42 X k5 hk5 x0 x5 1 y3 M5
theorem kb_Md_nth_h5 {Z : ZT} {E : En} (X : Cx Z E 6 cX9_nth RX9 (some .int) 1 21)  : ∀ (n : Nat) (x0 : Int32) (y3 : Int64) (x5 : Int32) (M : Mem), Kj Z E 6 (QI Z E) (Md_nth_h5  n x0 y3 x5 M) M 5 [(0, .int x0), (3, .long y3), (5, .int x5)] [] := by
  intro n
  induction n with
  | zero => intro x0 y3 x5 M; exact k_none
  | succ n ih =>
    intro x0 y3 x5 M
    rw [Md_nth_h5]
    refine k_iload X 2 dX9_nth_5 rfl ?_
    refine k_bipush X (v := 8) dX9_nth_7 (by decide) ?_
    refine k_icmp_ge X 50 dX9_nth_9 (by decide) ?_ ?_
    · refine k_iload X 2 dX9_nth_50 rfl ?_
      exact k_iret X dX9_nth_52
    · refine k_iload_n X 0 dX9_nth_12 rfl rfl ?_
      refine k_iload X 2 dX9_nth_13 rfl ?_
      refine k_callSI X [.int x0, .int x5] [] (mt_Md_has (zl Z) E x0 x5 M) mRX9_76 ⟨by decide, by decide⟩ rfl rfl (Nat.le_of_ble_eq_true rfl) dX9_nth_15 (fun r2 M3 => ?_)
      refine k_if_eq X 27 dX9_nth_18 (by decide) ?_ ?_
      · refine k_lv [0, 1, 2] rfl ?_
        exact kb_Md_nth_b27 X (fun x0 y3 x5 M => Md_nth_h5 n x0 y3 x5 M) (fun x0 y3 x5 M => ih x0 y3 x5 M) x0 y3 x5 M3
      · refine k_lload_n X 1 dX9_nth_21 rfl rfl ?_
        refine k_lconst X (v := 0) dX9_nth_22 (by decide) ?_
        refine k_lle X 50 dX9_nth_23 dX9_nth_24 (by decide) ?_ ?_
        · refine k_iload X 2 dX9_nth_50 rfl ?_
          exact k_iret X dX9_nth_52
        · refine k_lv [0, 1, 2] rfl ?_
          exact kb_Md_nth_b27 X (fun x0 y3 x5 M => Md_nth_h5 n x0 y3 x5 M) (fun x0 y3 x5 M => ih x0 y3 x5 M) x0 y3 x5 M3
theorem kw_Md_nth {Z : ZT} {E : En} (X : Cx Z E 6 cX9_nth RX9 (some .int) 1 21) (x0 : Int32) (y1 : Int64) (M : Mem) : Kj Z E 6 (QI Z E) (j_Md_nth x0 y1 M) M 0 [(0, .int x0), (1, .long y1)] [] := by
  unfold j_Md_nth
  refine k_lload_n X 1 dX9_nth_0 rfl rfl ?_
  refine k_lstore_n X [(3, .long y1), (0, .int x0), (1, .long y1)] dX9_nth_1 rfl (by decide) rfl ?_
  refine k_iconst X (v := 0) dX9_nth_2 (by decide) ?_
  refine x_istore X [(3, .long y1), (0, .int x0), (1, .long y1)] dX9_nth_3 (by decide) rfl (fun x1_ => ?_)
  refine k_lv [2, 1, 0] rfl ?_
  exact kb_Md_nth_h5 X  FU x0 y1 x1_ M
theorem mt_Md_nth (l : Launch) (E : En) (x0 : Int32) (y1 : Int64) (M : Mem) : MI l E yX9_nth cX9_nth 6 (some .int) 1 21 [.int x0, .long y1] M (j_Md_nth x0 y1 M) := MI_of (by decide) (Nat.le_of_ble_eq_true rfl) (fun Z _ X => k_lv [0, 1] rfl (kw_Md_nth X x0 y1 M))
-- FilmCansModel.drawn
theorem kb_Md_drawn_b188 {Z : ZT} {E : En} (X : Cx Z E 11 cX9_drawn RX9 (some .int) 7 168) (k82 : Int32 → Int32 → Int32 → Int32 → Int32 → Int64 → Int32 → Mem → Option (Int32 × Mem)) (hk82 : ∀ (x1 : Int32) (x3 : Int32) (x4 : Int32) (x5 : Int32) (x6 : Int32) (y7 : Int64) (x9 : Int32) (M : Mem), Kj Z E 11 (QI Z E) (k82 x1 x3 x4 x5 x6 y7 x9 M) M 82 [(0, .ref (ad E 326)), (1, .int x1), (3, .int x3), (4, .int x4), (5, .int x5), (6, .int x6), (7, .long y7), (9, .int x9)] []) (x1 : Int32) (x3 : Int32) (x4 : Int32) (x5 : Int32) (y7 : Int64) (x9 : Int32) (xs0 : Int32) (xs1 : Int32) (M : Mem) : Kj Z E 11 (QI Z E) (Md_drawn_b188 k82 x1 x3 x4 x5 y7 x9 xs0 xs1 M) M 188 [(0, .ref (ad E 326)), (1, .int x1), (3, .int x3), (4, .int x4), (5, .int x5), (7, .long y7), (9, .int x9)] [.int xs0, .int xs1] := by
  unfold Md_drawn_b188
  refine k_iadd X dX9_drawn_188 ?_
  refine x_istore X [(0, .ref (ad E 326)), (1, .int x1), (3, .int x3), (4, .int x4), (5, .int x5), (7, .long y7), (9, .int x9)] dX9_drawn_189 (by decide) rfl (fun x21_ => ?_)
  refine x_iinc X 1 7 [(6, .int x21_), (0, .ref (ad E 326)), (1, .int x1), (3, .int x3), (4, .int x4), (5, .int x5), (7, .long y7)] dX9_drawn_191 rfl (by decide) (by decide) rfl (fun x22_ => ?_)
  refine k_goto X 82 dX9_drawn_194 (by decide) ?_
  refine k_lv [2, 3, 4, 5, 6, 1, 7, 0] rfl ?_
  exact hk82 x1 x3 x4 x5 x21_ y7 x22_ M
theorem kb_Md_drawn_b173 {Z : ZT} {E : En} (X : Cx Z E 11 cX9_drawn RX9 (some .int) 7 168) (k82 : Int32 → Int32 → Int32 → Int32 → Int32 → Int64 → Int32 → Mem → Option (Int32 × Mem)) (hk82 : ∀ (x1 : Int32) (x3 : Int32) (x4 : Int32) (x5 : Int32) (x6 : Int32) (y7 : Int64) (x9 : Int32) (M : Mem), Kj Z E 11 (QI Z E) (k82 x1 x3 x4 x5 x6 y7 x9 M) M 82 [(0, .ref (ad E 326)), (1, .int x1), (3, .int x3), (4, .int x4), (5, .int x5), (6, .int x6), (7, .long y7), (9, .int x9)] []) (x1 : Int32) (x3 : Int32) (x4 : Int32) (x6 : Int32) (y7 : Int64) (x9 : Int32) (x10 : Int32) (xs0 : Int32) (xs1 : Int32) (M : Mem) : Kj Z E 11 (QI Z E) (Md_drawn_b173 k82 x1 x3 x4 x6 y7 x9 x10 xs0 xs1 M) M 173 [(0, .ref (ad E 326)), (1, .int x1), (3, .int x3), (4, .int x4), (6, .int x6), (7, .long y7), (9, .int x9), (10, .int x10)] [.int xs0, .int xs1] := by
  unfold Md_drawn_b173
  refine k_iadd X dX9_drawn_173 ?_
  refine x_istore X [(0, .ref (ad E 326)), (1, .int x1), (3, .int x3), (4, .int x4), (6, .int x6), (7, .long y7), (9, .int x9), (10, .int x10)] dX9_drawn_174 (by decide) rfl (fun x20_ => ?_)
  refine k_iload X 5 dX9_drawn_176 rfl ?_
  refine k_iload X 8 dX9_drawn_178 rfl ?_
  refine k_if_eq X 187 dX9_drawn_180 (by decide) ?_ ?_
  · refine k_iconst X (v := 1) dX9_drawn_187 (by decide) ?_
    refine k_lv [1, 2, 3, 4, 0, 6, 7] rfl ?_
    exact kb_Md_drawn_b188 X k82 hk82 x1 x3 x4 x20_ y7 x9 1 x6 M
  · refine k_iconst X (v := 0) dX9_drawn_183 (by decide) ?_
    refine k_goto X 188 dX9_drawn_184 (by decide) ?_
    refine k_lv [1, 2, 3, 4, 0, 6, 7] rfl ?_
    exact kb_Md_drawn_b188 X k82 hk82 x1 x3 x4 x20_ y7 x9 0 x6 M
theorem kb_Md_drawn_b144 {Z : ZT} {E : En} (X : Cx Z E 11 cX9_drawn RX9 (some .int) 7 168) (k82 : Int32 → Int32 → Int32 → Int32 → Int32 → Int64 → Int32 → Mem → Option (Int32 × Mem)) (hk82 : ∀ (x1 : Int32) (x3 : Int32) (x4 : Int32) (x5 : Int32) (x6 : Int32) (y7 : Int64) (x9 : Int32) (M : Mem), Kj Z E 11 (QI Z E) (k82 x1 x3 x4 x5 x6 y7 x9 M) M 82 [(0, .ref (ad E 326)), (1, .int x1), (3, .int x3), (4, .int x4), (5, .int x5), (6, .int x6), (7, .long y7), (9, .int x9)] []) (x1 : Int32) (x3 : Int32) (x4 : Int32) (x5 : Int32) (x6 : Int32) (y7 : Int64) (x9 : Int32) (M : Mem) : Kj Z E 11 (QI Z E) (Md_drawn_b144 k82 x1 x3 x4 x5 x6 y7 x9 M) M 144 [(0, .ref (ad E 326)), (1, .int x1), (3, .int x3), (4, .int x4), (5, .int x5), (6, .int x6), (7, .long y7), (9, .int x9)] [] := by
  unfold Md_drawn_b144
  refine k_aload_n X 0 dX9_drawn_144 rfl rfl ?_
  refine k_aload_n X 0 dX9_drawn_145 rfl rfl ?_
  refine k_getR X c_326 fRX9_13 r_326_1 dX9_drawn_146 ?_
  refine k_iconst X (v := 0) dX9_drawn_149 (by decide) ?_
  refine k_callVI X [.ref (ad E 328), .int 0] [] c_326 rfl (by decide) rfl (mt_Md_canBePlaced (zl Z) E 328 0 c_328 l_328 M) mRX9_251 ⟨by decide, by decide⟩ rfl rfl (Nat.le_of_ble_eq_true rfl) dX9_drawn_150 (fun r18 M19 => ?_)
  refine k_istore X [(10, .int r18), (0, .ref (ad E 326)), (1, .int x1), (3, .int x3), (4, .int x4), (5, .int x5), (6, .int x6), (7, .long y7), (9, .int x9)] dX9_drawn_153 (by decide) rfl ?_
  refine k_iload X 5 dX9_drawn_155 rfl ?_
  refine k_iload X 0 dX9_drawn_157 rfl ?_
  refine k_if_eq X 172 dX9_drawn_159 (by decide) ?_ ?_
  · refine k_iconst X (v := 0) dX9_drawn_172 (by decide) ?_
    refine k_lv [1, 2, 3, 4, 6, 7, 8, 0] rfl ?_
    exact kb_Md_drawn_b173 X k82 hk82 x1 x3 x4 x6 y7 x9 r18 0 x5 M19
  · refine k_aload_n X 1 dX9_drawn_162 rfl rfl ?_
    refine k_getR X c_326 fRX9_29 r_326_15 dX9_drawn_163 ?_
    refine k_iload X 4 dX9_drawn_166 rfl ?_
    refine k_iald X c_333 l_333 dX9_drawn_168 (fun hb23 => ?_)
    refine k_goto X 173 dX9_drawn_169 (by decide) ?_
    refine k_lv [1, 2, 3, 4, 6, 7, 8, 0] rfl ?_
    exact kb_Md_drawn_b173 X k82 hk82 x1 x3 x4 x6 y7 x9 r18 (gi M19 333 (ix x4)) x5 M19
theorem kb_Md_drawn_h82 {Z : ZT} {E : En} (X : Cx Z E 11 cX9_drawn RX9 (some .int) 7 168)  : ∀ (n : Nat) (x1 : Int32) (x3 : Int32) (x4 : Int32) (x5 : Int32) (x6 : Int32) (y7 : Int64) (x9 : Int32) (M : Mem), Kj Z E 11 (QI Z E) (Md_drawn_h82  n x1 x3 x4 x5 x6 y7 x9 M) M 82 [(0, .ref (ad E 326)), (1, .int x1), (3, .int x3), (4, .int x4), (5, .int x5), (6, .int x6), (7, .long y7), (9, .int x9)] [] := by
  intro n
  induction n with
  | zero => intro x1 x3 x4 x5 x6 y7 x9 M; exact k_none
  | succ n ih =>
    intro x1 x3 x4 x5 x6 y7 x9 M
    rw [Md_drawn_h82]
    refine k_iload X 7 dX9_drawn_82 rfl ?_
    refine k_iload_n X 1 dX9_drawn_84 rfl rfl ?_
    refine k_icmp_ge X 197 dX9_drawn_85 (by decide) ?_ ?_
    · refine k_iload_n X 2 dX9_drawn_197 rfl rfl ?_
      refine k_if_ne X 206 dX9_drawn_198 (by decide) ?_ ?_
      · refine k_iload X 5 dX9_drawn_206 rfl ?_
        exact k_iret X dX9_drawn_208
      · refine k_iload X 4 dX9_drawn_201 rfl ?_
        refine k_goto X 208 dX9_drawn_203 (by decide) ?_
        exact k_iret X dX9_drawn_208
    · refine k_lload X 6 dX9_drawn_88 rfl ?_
      refine k_ldc2 X w_1332 dX9_drawn_90 ?_
      refine k_lmul X dX9_drawn_93 ?_
      refine k_ldc2 X w_1333 dX9_drawn_94 ?_
      refine k_lrem X dX9_drawn_97 (by decide) ?_
      refine x_lstore X [(0, .ref (ad E 326)), (1, .int x1), (3, .int x3), (4, .int x4), (5, .int x5), (6, .int x6), (9, .int x9)] dX9_drawn_98 (by decide) rfl (fun y17_ => ?_)
      refine k_iload X 4 dX9_drawn_100 rfl ?_
      refine k_if_eq X 144 dX9_drawn_102 (by decide) ?_ ?_
      · refine k_lv [1, 2, 3, 4, 5, 6, 0, 7] rfl ?_
        exact kb_Md_drawn_b144 X (fun x1 x3 x4 x5 x6 y7 x9 M => Md_drawn_h82 n x1 x3 x4 x5 x6 y7 x9 M) (fun x1 x3 x4 x5 x6 y7 x9 M => ih x1 x3 x4 x5 x6 y7 x9 M) x1 x3 x4 x5 x6 y17_ x9 M
      · refine k_aload_n X 1 dX9_drawn_105 rfl rfl ?_
        refine k_getR X c_326 fRX9_13 r_326_1 dX9_drawn_106 ?_
        refine k_bipush X (v := 41) dX9_drawn_109 (by decide) ?_
        refine k_iconst X (v := 3) dX9_drawn_111 (by decide) ?_
        refine k_iload X 4 dX9_drawn_112 rfl ?_
        refine k_lload X 0 dX9_drawn_114 rfl ?_
        refine k_iload X 4 dX9_drawn_116 rfl ?_
        refine k_callSI X [.int x4] [.long y17_, .int x4, .int 3, .int 41, .ref (ad E 328)] (mt_Md_ones (zl Z) E x4 M) mRX9_90 ⟨by decide, by decide⟩ rfl rfl (Nat.le_of_ble_eq_true rfl) dX9_drawn_118 (fun r24 M25 => ?_)
        refine k_i2l X dX9_drawn_121 ?_
        refine k_lremG X dX9_drawn_122 ?_
        refine k_callSI X [.int x4, .long (y17_ - y17_ / (Int32.toInt64 r24) * (Int32.toInt64 r24))] [.int 3, .int 41, .ref (ad E 328)] (mt_Md_nth (zl Z) E x4 (y17_ - y17_ / (Int32.toInt64 r24) * (Int32.toInt64 r24)) M25) mRX9_287 ⟨by decide, by decide⟩ rfl rfl (Nat.le_of_ble_eq_true rfl) dX9_drawn_123 (fun r26 M27 => ?_)
        refine k_imul X dX9_drawn_126 ?_
        refine k_iadd X dX9_drawn_127 ?_
        refine k_iconst X (v := 1) dX9_drawn_128 (by decide) ?_
        refine k_iadd X dX9_drawn_129 ?_
        refine k_iconst X (v := 1) dX9_drawn_130 (by decide) ?_
        refine k_lload X 0 dX9_drawn_131 rfl ?_
        refine k_ldc2 X w_1337 dX9_drawn_133 ?_
        refine k_ldiv X dX9_drawn_136 (by decide) ?_
        refine k_ldc2 X w_1170 dX9_drawn_137 ?_
        refine k_lrem X dX9_drawn_140 (by decide) ?_
        refine k_l2i X dX9_drawn_141 ?_
        refine k_iadd X dX9_drawn_142 ?_
        refine k_iast X c_328 l_328 dX9_drawn_143 (fun hb28 => ?_)
        refine k_sq (fun M29 => ?_)
        refine k_lv [1, 2, 3, 4, 5, 6, 0, 7] rfl ?_
        exact kb_Md_drawn_b144 X (fun x1 x3 x4 x5 x6 y7 x9 M => Md_drawn_h82 n x1 x3 x4 x5 x6 y7 x9 M) (fun x1 x3 x4 x5 x6 y7 x9 M => ih x1 x3 x4 x5 x6 y7 x9 M) x1 x3 x4 x5 x6 y17_ x9 M29
theorem kw_Md_drawn {Z : ZT} {E : En} (X : Cx Z E 11 cX9_drawn RX9 (some .int) 7 168) (x1 : Int32) (x2 : Int32) (x3 : Int32) (M : Mem) : Kj Z E 11 (QI Z E) (j_Md_drawn x1 x2 x3 M) M 0 [(0, .ref (ad E 326)), (1, .int x1), (2, .int x2), (3, .int x3)] [] := by
  unfold j_Md_drawn
  refine k_aload_n X 0 dX9_drawn_0 rfl rfl ?_
  refine k_callVI X [] [] c_326 rfl (by decide) rfl (mt_Md_isBook (zl Z) E  M) mRX9_200 ⟨by decide, by decide⟩ rfl rfl (Nat.le_of_ble_eq_true rfl) dX9_drawn_1 (fun r1 M2 => ?_)
  refine k_if_ne X 10 dX9_drawn_4 (by decide) ?_ ?_
  · refine k_iload_n X 1 dX9_drawn_10 rfl rfl ?_
    refine k_i2l X dX9_drawn_11 ?_
    refine k_lconst X (v := 0) dX9_drawn_12 (by decide) ?_
    refine k_ldc2 X w_1186 dX9_drawn_13 ?_
    refine k_callSI X [.long (Int32.toInt64 x1), .long 0, .long 20] [] (mt_Md_in (zl Z) E (Int32.toInt64 x1) 0 20 M2) mRX9_47 ⟨by decide, by decide⟩ rfl rfl (Nat.le_of_ble_eq_true rfl) dX9_drawn_16 (fun r3 M4 => ?_)
    refine k_if_eq X 44 dX9_drawn_19 (by decide) ?_ ?_
    · refine k_ldc X w_1016 dX9_drawn_44 ?_
      exact k_iret X dX9_drawn_46
    · refine k_iload_n X 2 dX9_drawn_22 rfl rfl ?_
      refine k_i2l X dX9_drawn_23 ?_
      refine k_lconst X (v := 1) dX9_drawn_24 (by decide) ?_
      refine k_ldc2 X w_1331 dX9_drawn_25 ?_
      refine k_callSI X [.long (Int32.toInt64 x2), .long 1, .long 999999] [] (mt_Md_in (zl Z) E (Int32.toInt64 x2) 1 999999 M4) mRX9_47 ⟨by decide, by decide⟩ rfl rfl (Nat.le_of_ble_eq_true rfl) dX9_drawn_28 (fun r5 M6 => ?_)
      refine k_if_eq X 44 dX9_drawn_31 (by decide) ?_ ?_
      · refine k_ldc X w_1016 dX9_drawn_44 ?_
        exact k_iret X dX9_drawn_46
      · refine k_iload_n X 3 dX9_drawn_34 rfl rfl ?_
        refine k_i2l X dX9_drawn_35 ?_
        refine k_lconst X (v := 0) dX9_drawn_36 (by decide) ?_
        refine k_lconst X (v := 1) dX9_drawn_37 (by decide) ?_
        refine k_callSI X [.long (Int32.toInt64 x3), .long 0, .long 1] [] (mt_Md_in (zl Z) E (Int32.toInt64 x3) 0 1 M6) mRX9_47 ⟨by decide, by decide⟩ rfl rfl (Nat.le_of_ble_eq_true rfl) dX9_drawn_38 (fun r7 M8 => ?_)
        refine k_if_ne X 47 dX9_drawn_41 (by decide) ?_ ?_
        · refine k_aload_n X 0 dX9_drawn_47 rfl rfl ?_
          refine k_getR X c_326 fRX9_7 r_326_0 dX9_drawn_48 ?_
          refine k_iconst X (v := 0) dX9_drawn_51 (by decide) ?_
          refine k_aload_n X 0 dX9_drawn_52 rfl rfl ?_
          refine k_getR X c_326 fRX9_13 r_326_1 dX9_drawn_53 ?_
          refine k_iconst X (v := 0) dX9_drawn_56 (by decide) ?_
          refine k_callSV X [.ref (ad E 327), .int 0, .ref (ad E 328), .int 0] [] (mt_Md_copies (zl Z) E 327 0 328 0 c_327 c_328 M8) mRX9_175 ⟨by decide, by decide⟩ rfl rfl (Nat.le_of_ble_eq_true rfl) dX9_drawn_57 (fun _ M10 => ?_)
          refine k_aload_n X 0 dX9_drawn_60 rfl rfl ?_
          refine k_getR X c_326 fRX9_7 r_326_0 dX9_drawn_61 ?_
          refine k_callSI X [.ref (ad E 327)] [] (mt_Md_openOnes (zl Z) E 327 c_327 l_327 M10) mRX9_234 ⟨by decide, by decide⟩ rfl rfl (Nat.le_of_ble_eq_true rfl) dX9_drawn_64 (fun r11 M12 => ?_)
          refine k_istore X [(4, .int r11), (0, .ref (ad E 326)), (1, .int x1), (2, .int x2), (3, .int x3)] dX9_drawn_67 (by decide) rfl ?_
          refine k_iconst X (v := 0) dX9_drawn_69 (by decide) ?_
          refine x_istore X [(4, .int r11), (0, .ref (ad E 326)), (1, .int x1), (2, .int x2), (3, .int x3)] dX9_drawn_70 (by decide) rfl (fun x13_ => ?_)
          refine k_iconst X (v := 0) dX9_drawn_72 (by decide) ?_
          refine x_istore X [(5, .int x13_), (4, .int r11), (0, .ref (ad E 326)), (1, .int x1), (2, .int x2), (3, .int x3)] dX9_drawn_73 (by decide) rfl (fun x14_ => ?_)
          refine k_iload_n X 5 dX9_drawn_75 rfl rfl ?_
          refine k_i2l X dX9_drawn_76 ?_
          refine x_lstore X [(6, .int x14_), (5, .int x13_), (4, .int r11), (0, .ref (ad E 326)), (1, .int x1), (2, .int x2), (3, .int x3)] dX9_drawn_77 (by decide) rfl (fun y15_ => ?_)
          refine k_iconst X (v := 0) dX9_drawn_79 (by decide) ?_
          refine x_istore X [(7, .long y15_), (6, .int x14_), (5, .int x13_), (4, .int r11), (0, .ref (ad E 326)), (1, .int x1), (2, .int x2), (3, .int x3)] dX9_drawn_80 (by decide) rfl (fun x16_ => ?_)
          refine k_lv [5, 6, 8, 4, 3, 2, 1, 0] rfl ?_
          exact kb_Md_drawn_h82 X  FU x1 x3 r11 x13_ x14_ y15_ x16_ M12
        · refine k_ldc X w_1016 dX9_drawn_44 ?_
          exact k_iret X dX9_drawn_46
  · refine k_ldc X w_1084 dX9_drawn_7 ?_
    exact k_iret X dX9_drawn_9
theorem mt_Md_drawn (l : Launch) (E : En) (x1 : Int32) (x2 : Int32) (x3 : Int32) (M : Mem) : MI l E yX9_drawn cX9_drawn 11 (some .int) 7 168 [.ref (ad E 326), .int x1, .int x2, .int x3] M (j_Md_drawn x1 x2 x3 M) := MI_of (by decide) (Nat.le_of_ble_eq_true rfl) (fun Z _ X => k_lv [0, 1, 2, 3] rfl (kw_Md_drawn X x1 x2 x3 M))
-- FilmCansModel.image
theorem kw_Md_image {Z : ZT} {E : En} (X : Cx Z E 2 cX9_image RX9 (some .int) 1 25) (x1 : Int32) (M : Mem) : Kj Z E 2 (QI Z E) (j_Md_image x1 M) M 0 [(0, .ref (ad E 326)), (1, .int x1)] [] := by
  unfold j_Md_image
  refine k_iload_n X 1 dX9_image_0 rfl rfl ?_
  refine k_i2l X dX9_image_1 ?_
  refine k_lconst X (v := 0) dX9_image_2 (by decide) ?_
  refine k_lconst X (v := 1) dX9_image_3 (by decide) ?_
  refine k_callSI X [.long (Int32.toInt64 x1), .long 0, .long 1] [] (mt_Md_in (zl Z) E (Int32.toInt64 x1) 0 1 M) mRX9_47 ⟨by decide, by decide⟩ rfl rfl (Nat.le_of_ble_eq_true rfl) dX9_image_4 (fun r1 M2 => ?_)
  refine k_if_ne X 13 dX9_image_7 (by decide) ?_ ?_
  · refine k_aload_n X 0 dX9_image_13 rfl rfl ?_
    refine k_callVI X [] [] c_326 rfl (by decide) rfl (mt_Md_isBook (zl Z) E  M2) mRX9_200 ⟨by decide, by decide⟩ rfl rfl (Nat.le_of_ble_eq_true rfl) dX9_image_14 (fun r3 M4 => ?_)
    refine k_if_ne X 23 dX9_image_17 (by decide) ?_ ?_
    · refine k_aload_n X 0 dX9_image_23 rfl rfl ?_
      refine k_getR X c_326 fRX9_7 r_326_0 dX9_image_24 ?_
      refine k_iconst X (v := 0) dX9_image_27 (by decide) ?_
      refine k_aload_n X 0 dX9_image_28 rfl rfl ?_
      refine k_getR X c_326 fRX9_19 r_326_4 dX9_image_29 ?_
      refine k_bipush X (v := 89) dX9_image_32 (by decide) ?_
      refine k_iload_n X 1 dX9_image_34 rfl rfl ?_
      refine k_imul X dX9_image_35 ?_
      refine k_callSV X [.ref (ad E 327), .int 0, .ref (ad E 330), .int ((89 : Int32) * x1)] [] (mt_Md_copies (zl Z) E 327 0 330 ((89 : Int32) * x1) c_327 c_330 M4) mRX9_175 ⟨by decide, by decide⟩ rfl rfl (Nat.le_of_ble_eq_true rfl) dX9_image_36 (fun _ M6 => ?_)
      refine k_aload_n X 0 dX9_image_39 rfl rfl ?_
      refine k_getR X c_326 fRX9_22 r_326_5 dX9_image_40 ?_
      refine k_iload_n X 1 dX9_image_43 rfl rfl ?_
      refine k_iconst X (v := 1) dX9_image_44 (by decide) ?_
      refine k_zast X c_331 l_331 (by decide) dX9_image_45 (fun hb7 => ?_)
      refine k_sq (fun M8 => ?_)
      refine k_iconst X (v := 1) dX9_image_46 (by decide) ?_
      exact k_iret X dX9_image_47
    · refine k_ldc X w_1084 dX9_image_20 ?_
      exact k_iret X dX9_image_22
  · refine k_ldc X w_1016 dX9_image_10 ?_
    exact k_iret X dX9_image_12
theorem mt_Md_image (l : Launch) (E : En) (x1 : Int32) (M : Mem) : MI l E yX9_image cX9_image 2 (some .int) 1 25 [.ref (ad E 326), .int x1] M (j_Md_image x1 M) := MI_of (by decide) (Nat.le_of_ble_eq_true rfl) (fun Z _ X => k_lv [0, 1] rfl (kw_Md_image X x1 M))
-- FilmCansModel.restore
theorem kw_Md_restore {Z : ZT} {E : En} (X : Cx Z E 2 cX9_restore RX9 (some .int) 1 25) (x1 : Int32) (M : Mem) : Kj Z E 2 (QI Z E) (j_Md_restore x1 M) M 0 [(0, .ref (ad E 326)), (1, .int x1)] [] := by
  unfold j_Md_restore
  refine k_iload_n X 1 dX9_restore_0 rfl rfl ?_
  refine k_i2l X dX9_restore_1 ?_
  refine k_lconst X (v := 0) dX9_restore_2 (by decide) ?_
  refine k_lconst X (v := 1) dX9_restore_3 (by decide) ?_
  refine k_callSI X [.long (Int32.toInt64 x1), .long 0, .long 1] [] (mt_Md_in (zl Z) E (Int32.toInt64 x1) 0 1 M) mRX9_47 ⟨by decide, by decide⟩ rfl rfl (Nat.le_of_ble_eq_true rfl) dX9_restore_4 (fun r1 M2 => ?_)
  refine k_if_ne X 13 dX9_restore_7 (by decide) ?_ ?_
  · refine k_aload_n X 0 dX9_restore_13 rfl rfl ?_
    refine k_getR X c_326 fRX9_22 r_326_5 dX9_restore_14 ?_
    refine k_iload_n X 1 dX9_restore_17 rfl rfl ?_
    refine k_zald X c_331 l_331 dX9_restore_18 (fun hb3 => ?_)
    refine k_if_ne X 25 dX9_restore_19 (by decide) ?_ ?_
    · refine k_aload_n X 0 dX9_restore_25 rfl rfl ?_
      refine k_getR X c_326 fRX9_19 r_326_4 dX9_restore_26 ?_
      refine k_bipush X (v := 89) dX9_restore_29 (by decide) ?_
      refine k_iload_n X 1 dX9_restore_31 rfl rfl ?_
      refine k_imul X dX9_restore_32 ?_
      refine k_aload_n X 0 dX9_restore_33 rfl rfl ?_
      refine k_getR X c_326 fRX9_7 r_326_0 dX9_restore_34 ?_
      refine k_iconst X (v := 0) dX9_restore_37 (by decide) ?_
      refine k_callSV X [.ref (ad E 330), .int ((89 : Int32) * x1), .ref (ad E 327), .int 0] [] (mt_Md_copies (zl Z) E 330 ((89 : Int32) * x1) 327 0 c_330 c_327 M2) mRX9_175 ⟨by decide, by decide⟩ rfl rfl (Nat.le_of_ble_eq_true rfl) dX9_restore_38 (fun _ M5 => ?_)
      refine k_aload_n X 0 dX9_restore_41 rfl rfl ?_
      refine k_iconst X (v := 0) dX9_restore_42 (by decide) ?_
      refine k_putI X c_326 fRX9_179 dX9_restore_43 ?_
      refine k_sq (fun M6 => ?_)
      refine k_iconst X (v := 1) dX9_restore_46 (by decide) ?_
      exact k_iret X dX9_restore_47
    · refine k_ldc X w_1084 dX9_restore_22 ?_
      exact k_iret X dX9_restore_24
  · refine k_ldc X w_1016 dX9_restore_10 ?_
    exact k_iret X dX9_restore_12
theorem mt_Md_restore (l : Launch) (E : En) (x1 : Int32) (M : Mem) : MI l E yX9_restore cX9_restore 2 (some .int) 1 25 [.ref (ad E 326), .int x1] M (j_Md_restore x1 M) := MI_of (by decide) (Nat.le_of_ble_eq_true rfl) (fun Z _ X => k_lv [0, 1] rfl (kw_Md_restore X x1 M))
-- FilmCansModel.count
theorem kb_Md_count_b31 {Z : ZT} {E : En} (X : Cx Z E 4 cX9_count RX9 (some .int) 2 43) (k4 : Int32 → Int32 → Int32 → Mem → Option (Int32 × Mem)) (hk4 : ∀ (x1 : Int32) (x2 : Int32) (x3 : Int32) (M : Mem), Kj Z E 4 (QI Z E) (k4 x1 x2 x3 M) M 4 [(0, .ref (ad E 326)), (1, .int x1), (2, .int x2), (3, .int x3)] []) (x1 : Int32) (x3 : Int32) (xs0 : Int32) (xs1 : Int32) (M : Mem) : Kj Z E 4 (QI Z E) (Md_count_b31 k4 x1 x3 xs0 xs1 M) M 31 [(0, .ref (ad E 326)), (1, .int x1), (3, .int x3)] [.int xs0, .int xs1] := by
  unfold Md_count_b31
  refine k_iadd X dX9_count_31 ?_
  refine x_istore_n X [(0, .ref (ad E 326)), (1, .int x1), (3, .int x3)] dX9_count_32 rfl (by decide) rfl (fun x13_ => ?_)
  refine x_iinc X 1 3 [(2, .int x13_), (0, .ref (ad E 326)), (1, .int x1)] dX9_count_33 rfl (by decide) (by decide) rfl (fun x14_ => ?_)
  refine k_goto X 4 dX9_count_36 (by decide) ?_
  refine k_lv [2, 3, 1, 0] rfl ?_
  exact hk4 x1 x13_ x14_ M
theorem kb_Md_count_h4 {Z : ZT} {E : En} (X : Cx Z E 4 cX9_count RX9 (some .int) 2 43)  : ∀ (n : Nat) (x1 : Int32) (x2 : Int32) (x3 : Int32) (M : Mem), Kj Z E 4 (QI Z E) (Md_count_h4  n x1 x2 x3 M) M 4 [(0, .ref (ad E 326)), (1, .int x1), (2, .int x2), (3, .int x3)] [] := by
  intro n
  induction n with
  | zero => intro x1 x2 x3 M; exact k_none
  | succ n ih =>
    intro x1 x2 x3 M
    rw [Md_count_h4]
    refine k_iload_n X 3 dX9_count_4 rfl rfl ?_
    refine k_aload_n X 0 dX9_count_5 rfl rfl ?_
    refine k_getR X c_326 fRX9_7 r_326_0 dX9_count_6 ?_
    refine k_iconst X (v := 4) dX9_count_9 (by decide) ?_
    refine k_ialdC X 4 c_327 l_327 (by decide) (by decide) dX9_count_10 ?_
    refine k_icmp_ge X 39 dX9_count_11 (by decide) ?_ ?_
    · refine k_iload_n X 1 dX9_count_39 rfl rfl ?_
      refine k_if (fun hs0 => ?_) (fun hs0 => ?_)
      · refine k_lt_in X 0 (off := 44) 84 dX9_count_40 hs0 (by decide) (by decide) (by decide) (by decide) ?_
        refine k_aload_n X 0 dX9_count_84 rfl rfl ?_
        refine k_getR X c_326 fRX9_7 r_326_0 dX9_count_85 ?_
        refine k_iconst X (v := 4) dX9_count_88 (by decide) ?_
        refine k_ialdC X 4 c_327 l_327 (by decide) (by decide) dX9_count_89 ?_
        exact k_iret X dX9_count_90
      · refine k_if (fun hs1 => ?_) (fun hs1 => ?_)
        · refine k_lt_in X 1 (off := 51) 91 dX9_count_40 hs1 (by decide) (by decide) (by decide) (by decide) ?_
          refine k_aload_n X 0 dX9_count_91 rfl rfl ?_
          refine k_getR X c_326 fRX9_7 r_326_0 dX9_count_92 ?_
          refine k_iconst X (v := 5) dX9_count_95 (by decide) ?_
          refine k_ialdC X 5 c_327 l_327 (by decide) (by decide) dX9_count_96 ?_
          exact k_iret X dX9_count_97
        · refine k_if (fun hs2 => ?_) (fun hs2 => ?_)
          · refine k_lt_in X 2 (off := 58) 98 dX9_count_40 hs2 (by decide) (by decide) (by decide) (by decide) ?_
            refine k_aload_n X 0 dX9_count_98 rfl rfl ?_
            refine k_getR X c_326 fRX9_7 r_326_0 dX9_count_99 ?_
            refine k_callSI X [.ref (ad E 327)] [] (mt_Md_openOnes (zl Z) E 327 c_327 l_327 M) mRX9_234 ⟨by decide, by decide⟩ rfl rfl (Nat.le_of_ble_eq_true rfl) dX9_count_102 (fun r6 M7 => ?_)
            refine k_callSI X [.int r6] [] (mt_Md_ones (zl Z) E r6 M7) mRX9_90 ⟨by decide, by decide⟩ rfl rfl (Nat.le_of_ble_eq_true rfl) dX9_count_105 (fun r8 M9 => ?_)
            exact k_iret X dX9_count_108
          · refine k_if (fun hs3 => ?_) (fun hs3 => ?_)
            · refine k_lt_in X 3 (off := 69) 109 dX9_count_40 hs3 (by decide) (by decide) (by decide) (by decide) ?_
              refine k_iload_n X 2 dX9_count_109 rfl rfl ?_
              exact k_iret X dX9_count_110
            · refine k_if (fun hs4 => ?_) (fun hs4 => ?_)
              · refine k_lt_in X 4 (off := 71) 111 dX9_count_40 hs4 (by decide) (by decide) (by decide) (by decide) ?_
                refine k_aload_n X 0 dX9_count_111 rfl rfl ?_
                refine k_getR X c_326 fRX9_7 r_326_0 dX9_count_112 ?_
                refine k_bipush X (v := 6) dX9_count_115 (by decide) ?_
                refine k_ialdC X 6 c_327 l_327 (by decide) (by decide) dX9_count_117 ?_
                exact k_iret X dX9_count_118
              · refine k_if (fun hs5 => ?_) (fun hs5 => ?_)
                · refine k_lt_in X 5 (off := 79) 119 dX9_count_40 hs5 (by decide) (by decide) (by decide) (by decide) ?_
                  refine k_aload_n X 0 dX9_count_119 rfl rfl ?_
                  refine k_getI X c_326 fRX9_179 dX9_count_120 ?_
                  exact k_iret X dX9_count_123
                · refine k_if (fun hs6 => ?_) (fun hs6 => ?_)
                  · refine k_lt_in X 6 (off := 84) 124 dX9_count_40 hs6 (by decide) (by decide) (by decide) (by decide) ?_
                    refine k_aload_n X 0 dX9_count_124 rfl rfl ?_
                    refine k_getI X c_326 fRX9_97 dX9_count_125 ?_
                    exact k_iret X dX9_count_128
                  · refine k_lt_out X 129 dX9_count_40 (tsw_out 0 7 (by decide) (by decide) (by decide) (lt_s (lt_s (lt_s (lt_s (lt_s (lt_s (lt_s lt_0 hs0) hs1) hs2) hs3) hs4) hs5) hs6)) (by decide) ?_
                    refine k_ldc X w_1016 dX9_count_129 ?_
                    exact k_iret X dX9_count_131
    · refine k_iload_n X 2 dX9_count_14 rfl rfl ?_
      refine k_aload_n X 0 dX9_count_15 rfl rfl ?_
      refine k_getR X c_326 fRX9_7 r_326_0 dX9_count_16 ?_
      refine k_iload_n X 3 dX9_count_19 rfl rfl ?_
      refine k_callSI X [.ref (ad E 327), .int x3] [.int x2] (mt_Md_isRoom (zl Z) E 327 x3 c_327 l_327 M) mRX9_238 ⟨by decide, by decide⟩ rfl rfl (Nat.le_of_ble_eq_true rfl) dX9_count_20 (fun r11 M12 => ?_)
      refine k_if_eq X 30 dX9_count_23 (by decide) ?_ ?_
      · refine k_iconst X (v := 0) dX9_count_30 (by decide) ?_
        refine k_lv [0, 1, 3] rfl ?_
        exact kb_Md_count_b31 X (fun x1 x2 x3 M => Md_count_h4 n x1 x2 x3 M) (fun x1 x2 x3 M => ih x1 x2 x3 M) x1 x3 0 x2 M12
      · refine k_iconst X (v := 1) dX9_count_26 (by decide) ?_
        refine k_goto X 31 dX9_count_27 (by decide) ?_
        refine k_lv [0, 1, 3] rfl ?_
        exact kb_Md_count_b31 X (fun x1 x2 x3 M => Md_count_h4 n x1 x2 x3 M) (fun x1 x2 x3 M => ih x1 x2 x3 M) x1 x3 1 x2 M12
theorem kw_Md_count {Z : ZT} {E : En} (X : Cx Z E 4 cX9_count RX9 (some .int) 2 43) (x1 : Int32) (M : Mem) : Kj Z E 4 (QI Z E) (j_Md_count x1 M) M 0 [(0, .ref (ad E 326)), (1, .int x1)] [] := by
  unfold j_Md_count
  refine k_iconst X (v := 0) dX9_count_0 (by decide) ?_
  refine x_istore_n X [(0, .ref (ad E 326)), (1, .int x1)] dX9_count_1 rfl (by decide) rfl (fun x1_ => ?_)
  refine k_iconst X (v := 0) dX9_count_2 (by decide) ?_
  refine x_istore_n X [(2, .int x1_), (0, .ref (ad E 326)), (1, .int x1)] dX9_count_3 rfl (by decide) rfl (fun x2_ => ?_)
  refine k_lv [2, 3, 1, 0] rfl ?_
  exact kb_Md_count_h4 X  FU x1 x1_ x2_ M
theorem mt_Md_count (l : Launch) (E : En) (x1 : Int32) (M : Mem) : MI l E yX9_count cX9_count 4 (some .int) 2 43 [.ref (ad E 326), .int x1] M (j_Md_count x1 M) := MI_of (by decide) (Nat.le_of_ble_eq_true rfl) (fun Z _ X => k_lv [0, 1] rfl (kw_Md_count X x1 M))
