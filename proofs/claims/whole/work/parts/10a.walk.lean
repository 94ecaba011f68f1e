-- FilmCans$Tape.append
theorem kw_Tape_append {Z : ZT} {E : En} (X : Cx Z E 2 cX7_append RX7 (some .boolean) 0 0) (x1 : Int32) (M : Mem) : Kj Z E 2 (QI Z E) (j_Tape_append x1 M) M 0 [(0, .ref (ad E 1)), (1, .int x1)] [] := by
  unfold j_Tape_append
  refine k_aload_n X 0 dX7_append_0 rfl rfl ?_
  refine k_getI X c_1 fRX7_15 dX7_append_1 ?_
  refine k_bipush X (v := 110) dX7_append_4 (by decide) ?_
  refine k_icmp_lt X 11 dX7_append_6 (by decide) ?_ ?_
  · refine k_aload_n X 0 dX7_append_11 rfl rfl ?_
    refine k_getR X c_1 fRX7_9 r_1_0 dX7_append_12 ?_
    refine k_aload_n X 0 dX7_append_15 rfl rfl ?_
    refine k_getI X c_1 fRX7_15 dX7_append_16 ?_
    refine k_iload_n X 1 dX7_append_19 rfl rfl ?_
    refine k_iast X c_2 l_2 dX7_append_20 (fun hb1 => ?_)
    refine k_sq (fun M2 => ?_)
    refine k_aload_n X 0 dX7_append_21 rfl rfl ?_
    refine k_dup X dX7_append_22 rfl ?_
    refine k_getI X c_1 fRX7_15 dX7_append_23 ?_
    refine k_iconst X (v := 1) dX7_append_26 (by decide) ?_
    refine k_iadd X dX7_append_27 ?_
    refine k_putI X c_1 fRX7_15 dX7_append_28 ?_
    refine k_sq (fun M3 => ?_)
    refine k_iconst X (v := 1) dX7_append_31 (by decide) ?_
    exact k_zret X (by decide) dX7_append_32
  · refine k_iconst X (v := 0) dX7_append_9 (by decide) ?_
    exact k_zret X (by decide) dX7_append_10
theorem mt_Tape_append (l : Launch) (E : En) (x1 : Int32) (M : Mem) : MI l E yX7_append cX7_append 2 (some .boolean) 0 0 [.ref (ad E 1), .int x1] M (j_Tape_append x1 M) := MI_of (by decide) (Nat.le_of_ble_eq_true rfl) (fun Z _ X => k_lv [0, 1] rfl (kw_Tape_append X x1 M))
-- FilmCans.feed
theorem kw_Fc_feed {Z : ZT} {E : En} (X : Cx Z E 2 cX8_feed RX8 (some .int) 1 21) (x1 : Int32) (M : Mem) : Kj Z E 2 (QI Z E) (j_Fc_feed x1 M) M 0 [(0, .ref (ad E 0)), (1, .int x1)] [] := by
  unfold j_Fc_feed
  refine k_iload_n X 1 dX8_feed_0 rfl rfl ?_
  refine k_if_lt X 11 dX8_feed_1 (by decide) ?_ ?_
  · refine k_ldc X w_359 dX8_feed_11 ?_
    exact k_iret X dX8_feed_13
  · refine k_iload_n X 1 dX8_feed_4 rfl rfl ?_
    refine k_sipush X (v := 255) dX8_feed_5 (by decide) ?_
    refine k_icmp_le X 14 dX8_feed_8 (by decide) ?_ ?_
    · refine k_aload_n X 0 dX8_feed_14 rfl rfl ?_
      refine k_getR X c_0 fRX8_10 r_0_0 dX8_feed_15 ?_
      refine k_iload_n X 1 dX8_feed_18 rfl rfl ?_
      refine k_callVI X [.int x1] [] c_1 rfl (by decide) rfl (mt_Tape_append (zl Z) E x1 M) mRX8_66 ⟨by decide, by decide⟩ rfl rfl (Nat.le_of_ble_eq_true rfl) dX8_feed_19 (fun r1 M2 => ?_)
      refine k_if_eq X 35 dX8_feed_22 (by decide) ?_ ?_
      · refine k_ldc X w_364 dX8_feed_35 ?_
        exact k_iret X dX8_feed_37
      · refine k_aload_n X 0 dX8_feed_25 rfl rfl ?_
        refine k_getR X c_0 fRX8_10 r_0_0 dX8_feed_26 ?_
        refine k_getI X c_1 fRX8_70 dX8_feed_29 ?_
        refine k_goto X 37 dX8_feed_32 (by decide) ?_
        exact k_iret X dX8_feed_37
    · refine k_ldc X w_359 dX8_feed_11 ?_
      exact k_iret X dX8_feed_13
theorem mt_Fc_feed (l : Launch) (E : En) (x1 : Int32) (M : Mem) : MI l E yX8_feed cX8_feed 2 (some .int) 1 21 [.ref (ad E 0), .int x1] M (j_Fc_feed x1 M) := MI_of (by decide) (Nat.le_of_ble_eq_true rfl) (fun Z _ X => k_lv [0, 1] rfl (kw_Fc_feed X x1 M))
-- FilmCans$Day.clear
theorem kw_Day_clear {Z : ZT} {E : En} (X : Cx Z E 1 cX1_clear RX1 none 0 0) (d0 : Nat) (hd0 : isDay d0) (M : Mem) : Kj Z E 1 (QV Z E) (j_Day_clear d0 M) M 0 [(0, .ref (ad E d0))] [] := by
  unfold j_Day_clear
  refine k_aload_n X 0 dX1_clear_0 rfl rfl ?_
  refine k_iconst X (v := 0) dX1_clear_1 (by decide) ?_
  refine k_putI X (day_C hd0) fRX1_50 dX1_clear_2 ?_
  refine k_sq (fun M1 => ?_)
  refine k_aload_n X 0 dX1_clear_5 rfl rfl ?_
  refine k_iconst X (v := 0) dX1_clear_6 (by decide) ?_
  refine k_putI X (day_C hd0) fRX1_53 dX1_clear_7 ?_
  refine k_sq (fun M2 => ?_)
  refine k_aload_n X 0 dX1_clear_10 rfl rfl ?_
  refine k_iconst X (v := 0) dX1_clear_11 (by decide) ?_
  refine k_putI X (day_C hd0) fRX1_56 dX1_clear_12 ?_
  refine k_sq (fun M3 => ?_)
  refine k_aload_n X 0 dX1_clear_15 rfl rfl ?_
  refine k_ldc X w_117 dX1_clear_16 ?_
  refine k_putI X (day_C hd0) fRX1_10 dX1_clear_18 ?_
  refine k_sq (fun M4 => ?_)
  refine k_aload_n X 0 dX1_clear_21 rfl rfl ?_
  refine k_iconst X (v := 0) dX1_clear_22 (by decide) ?_
  refine k_putI X (day_C hd0) fRX1_59 dX1_clear_23 ?_
  refine k_sq (fun M5 => ?_)
  refine k_aload_n X 0 dX1_clear_26 rfl rfl ?_
  refine k_iconst X (v := 0) dX1_clear_27 (by decide) ?_
  refine k_putI X (day_C hd0) fRX1_62 dX1_clear_28 ?_
  refine k_sq (fun M6 => ?_)
  refine k_aload_n X 0 dX1_clear_31 rfl rfl ?_
  refine k_iconst X (v := 0) dX1_clear_32 (by decide) ?_
  refine k_putI X (day_C hd0) fRX1_65 dX1_clear_33 ?_
  refine k_sq (fun M7 => ?_)
  refine k_aload_n X 0 dX1_clear_36 rfl rfl ?_
  refine k_iconst X (v := 0) dX1_clear_37 (by decide) ?_
  refine k_putI X (day_C hd0) fRX1_68 dX1_clear_38 ?_
  refine k_sq (fun M8 => ?_)
  refine k_aload_n X 0 dX1_clear_41 rfl rfl ?_
  refine k_iconst X (v := 0) dX1_clear_42 (by decide) ?_
  refine k_putI X (day_C hd0) fRX1_71 dX1_clear_43 ?_
  refine k_sq (fun M9 => ?_)
  exact k_vret X dX1_clear_46
theorem mt_Day_clear (l : Launch) (E : En) (d0 : Nat) (hd0 : isDay d0) (M : Mem) : MV l E yX1_clear cX1_clear 1 none 0 0 [.ref (ad E d0)] M (j_Day_clear d0 M) := MV_of (by decide) (Nat.le_of_ble_eq_true rfl) (fun Z _ X => k_lv [0] rfl (kw_Day_clear X d0 hd0 M))
-- FilmCans$Tape.byteAt
theorem kw_Tape_byteAt {Z : ZT} {E : En} (X : Cx Z E 2 cX7_byteAt RX7 (some .int) 0 0) (x1 : Int32) (M : Mem) : Kj Z E 2 (QI Z E) (j_Tape_byteAt x1 M) M 0 [(0, .ref (ad E 1)), (1, .int x1)] [] := by
  unfold j_Tape_byteAt
  refine k_iload_n X 1 dX7_byteAt_0 rfl rfl ?_
  refine k_if_lt X 21 dX7_byteAt_1 (by decide) ?_ ?_
  · refine k_ldc X w_393 dX7_byteAt_21 ?_
    exact k_iret X dX7_byteAt_23
  · refine k_iload_n X 1 dX7_byteAt_4 rfl rfl ?_
    refine k_aload_n X 0 dX7_byteAt_5 rfl rfl ?_
    refine k_getI X c_1 fRX7_15 dX7_byteAt_6 ?_
    refine k_icmp_ge X 21 dX7_byteAt_9 (by decide) ?_ ?_
    · refine k_ldc X w_393 dX7_byteAt_21 ?_
      exact k_iret X dX7_byteAt_23
    · refine k_aload_n X 0 dX7_byteAt_12 rfl rfl ?_
      refine k_getR X c_1 fRX7_9 r_1_0 dX7_byteAt_13 ?_
      refine k_iload_n X 1 dX7_byteAt_16 rfl rfl ?_
      refine k_iald X c_2 l_2 dX7_byteAt_17 (fun hb1 => ?_)
      refine k_goto X 23 dX7_byteAt_18 (by decide) ?_
      exact k_iret X dX7_byteAt_23
theorem mt_Tape_byteAt (l : Launch) (E : En) (x1 : Int32) (M : Mem) : MI l E yX7_byteAt cX7_byteAt 2 (some .int) 0 0 [.ref (ad E 1), .int x1] M (j_Tape_byteAt x1 M) := MI_of (by decide) (Nat.le_of_ble_eq_true rfl) (fun Z _ X => k_lv [0, 1] rfl (kw_Tape_byteAt X x1 M))
-- FilmCans$Tape.next
theorem kw_Tape_next {Z : ZT} {E : En} (X : Cx Z E 1 cX7_next RX7 (some .int) 1 21) (M : Mem) : Kj Z E 1 (QI Z E) (j_Tape_next M) M 0 [(0, .ref (ad E 1))] [] := by
  unfold j_Tape_next
  refine k_aload_n X 0 dX7_next_0 rfl rfl ?_
  refine k_aload_n X 0 dX7_next_1 rfl rfl ?_
  refine k_getI X c_1 fRX7_19 dX7_next_2 ?_
  refine k_callVI X [.int (gi M 1 2)] [] c_1 rfl (by decide) rfl (mt_Tape_byteAt (zl Z) E (gi M 1 2) M) mRX7_89 ⟨by decide, by decide⟩ rfl rfl (Nat.le_of_ble_eq_true rfl) dX7_next_5 (fun r1 M2 => ?_)
  exact k_iret X dX7_next_8
theorem mt_Tape_next (l : Launch) (E : En) (M : Mem) : MI l E yX7_next cX7_next 1 (some .int) 1 21 [.ref (ad E 1)] M (j_Tape_next M) := MI_of (by decide) (Nat.le_of_ble_eq_true rfl) (fun Z _ X => k_lv [0] rfl (kw_Tape_next X M))
-- FilmCans$Tape.refuse
theorem kw_Tape_refuse {Z : ZT} {E : En} (X : Cx Z E 2 cX7_refuse RX7 (some .boolean) 0 0) (x1 : Int32) (M : Mem) : Kj Z E 2 (QI Z E) (j_Tape_refuse x1 M) M 0 [(0, .ref (ad E 1)), (1, .int x1)] [] := by
  unfold j_Tape_refuse
  refine k_aload_n X 0 dX7_refuse_0 rfl rfl ?_
  refine k_iload_n X 1 dX7_refuse_1 rfl rfl ?_
  refine k_putI X c_1 fRX7_92 dX7_refuse_2 ?_
  refine k_sq (fun M1 => ?_)
  refine k_iconst X (v := 0) dX7_refuse_5 (by decide) ?_
  exact k_zret X (by decide) dX7_refuse_6
theorem mt_Tape_refuse (l : Launch) (E : En) (x1 : Int32) (M : Mem) : MI l E yX7_refuse cX7_refuse 2 (some .boolean) 0 0 [.ref (ad E 1), .int x1] M (j_Tape_refuse x1 M) := MI_of (by decide) (Nat.le_of_ble_eq_true rfl) (fun Z _ X => k_lv [0, 1] rfl (kw_Tape_refuse X x1 M))
-- FilmCans$Tape.pass
theorem kw_Tape_pass {Z : ZT} {E : En} (X : Cx Z E 2 cX7_pass RX7 (some .boolean) 2 41) (x1 : Int32) (M : Mem) : Kj Z E 2 (QI Z E) (j_Tape_pass x1 M) M 0 [(0, .ref (ad E 1)), (1, .int x1)] [] := by
  unfold j_Tape_pass
  refine k_aload_n X 0 dX7_pass_0 rfl rfl ?_
  refine k_callVI X [] [] c_1 rfl (by decide) rfl (mt_Tape_next (zl Z) E  M) mRX7_55 ⟨by decide, by decide⟩ rfl rfl (Nat.le_of_ble_eq_true rfl) dX7_pass_1 (fun r1 M2 => ?_)
  refine k_iload_n X 1 dX7_pass_4 rfl rfl ?_
  refine k_icmp_eq X 14 dX7_pass_5 (by decide) ?_ ?_
  · refine k_aload_n X 0 dX7_pass_14 rfl rfl ?_
    refine k_dup X dX7_pass_15 rfl ?_
    refine k_getI X c_1 fRX7_19 dX7_pass_16 ?_
    refine k_iconst X (v := 1) dX7_pass_19 (by decide) ?_
    refine k_iadd X dX7_pass_20 ?_
    refine k_putI X c_1 fRX7_19 dX7_pass_21 ?_
    refine k_sq (fun M3 => ?_)
    refine k_iconst X (v := 1) dX7_pass_24 (by decide) ?_
    exact k_zret X (by decide) dX7_pass_25
  · refine k_aload_n X 0 dX7_pass_8 rfl rfl ?_
    refine k_iconst X (v := 1) dX7_pass_9 (by decide) ?_
    refine k_callVI X [.int 1] [] c_1 rfl (by decide) rfl (mt_Tape_refuse (zl Z) E 1 M2) mRX7_71 ⟨by decide, by decide⟩ rfl rfl (Nat.le_of_ble_eq_true rfl) dX7_pass_10 (fun r4 M5 => ?_)
    exact k_zretG X dX7_pass_13
theorem mt_Tape_pass (l : Launch) (E : En) (x1 : Int32) (M : Mem) : MI l E yX7_pass cX7_pass 2 (some .boolean) 2 41 [.ref (ad E 1), .int x1] M (j_Tape_pass x1 M) := MI_of (by decide) (Nat.le_of_ble_eq_true rfl) (fun Z _ X => k_lv [0, 1] rfl (kw_Tape_pass X x1 M))
-- FilmCans$Tape.figuresFrom
theorem kb_Tape_figuresFrom_h2 {Z : ZT} {E : En} (X : Cx Z E 3 cX7_figuresFrom RX7 (some .int) 1 21)  : ∀ (n : Nat) (x1 : Int32) (x2 : Int32) (M : Mem), Kj Z E 3 (QI Z E) (Tape_figuresFrom_h2  n x1 x2 M) M 2 [(0, .ref (ad E 1)), (1, .int x1), (2, .int x2)] [] := by
  intro n
  induction n with
  | zero => intro x1 x2 M; exact k_none
  | succ n ih =>
    intro x1 x2 M
    rw [Tape_figuresFrom_h2]
    refine k_iload_n X 2 dX7_figuresFrom_2 rfl rfl ?_
    refine k_aload_n X 0 dX7_figuresFrom_3 rfl rfl ?_
    refine k_getI X c_1 fRX7_15 dX7_figuresFrom_4 ?_
    refine k_icmp_ge X 36 dX7_figuresFrom_7 (by decide) ?_ ?_
    · refine k_iload_n X 2 dX7_figuresFrom_36 rfl rfl ?_
      refine k_iload_n X 1 dX7_figuresFrom_37 rfl rfl ?_
      refine k_isub X dX7_figuresFrom_38 ?_
      exact k_iret X dX7_figuresFrom_39
    · refine k_aload_n X 0 dX7_figuresFrom_10 rfl rfl ?_
      refine k_iload_n X 2 dX7_figuresFrom_11 rfl rfl ?_
      refine k_callVI X [.int x2] [] c_1 rfl (by decide) rfl (mt_Tape_byteAt (zl Z) E x2 M) mRX7_89 ⟨by decide, by decide⟩ rfl rfl (Nat.le_of_ble_eq_true rfl) dX7_figuresFrom_12 (fun r1 M2 => ?_)
      refine k_bipush X (v := 48) dX7_figuresFrom_15 (by decide) ?_
      refine k_icmp_lt X 36 dX7_figuresFrom_17 (by decide) ?_ ?_
      · refine k_iload_n X 2 dX7_figuresFrom_36 rfl rfl ?_
        refine k_iload_n X 1 dX7_figuresFrom_37 rfl rfl ?_
        refine k_isub X dX7_figuresFrom_38 ?_
        exact k_iret X dX7_figuresFrom_39
      · refine k_aload_n X 0 dX7_figuresFrom_20 rfl rfl ?_
        refine k_iload_n X 2 dX7_figuresFrom_21 rfl rfl ?_
        refine k_callVI X [.int x2] [] c_1 rfl (by decide) rfl (mt_Tape_byteAt (zl Z) E x2 M2) mRX7_89 ⟨by decide, by decide⟩ rfl rfl (Nat.le_of_ble_eq_true rfl) dX7_figuresFrom_22 (fun r3 M4 => ?_)
        refine k_bipush X (v := 57) dX7_figuresFrom_25 (by decide) ?_
        refine k_icmp_gt X 36 dX7_figuresFrom_27 (by decide) ?_ ?_
        · refine k_iload_n X 2 dX7_figuresFrom_36 rfl rfl ?_
          refine k_iload_n X 1 dX7_figuresFrom_37 rfl rfl ?_
          refine k_isub X dX7_figuresFrom_38 ?_
          exact k_iret X dX7_figuresFrom_39
        · refine x_iinc X 1 2 [(0, .ref (ad E 1)), (1, .int x1)] dX7_figuresFrom_30 rfl (by decide) (by decide) rfl (fun x5_ => ?_)
          refine k_goto X 2 dX7_figuresFrom_33 (by decide) ?_
          refine k_lv [1, 2, 0] rfl ?_
          exact ih x1 x5_ M4
theorem kw_Tape_figuresFrom {Z : ZT} {E : En} (X : Cx Z E 3 cX7_figuresFrom RX7 (some .int) 1 21) (x1 : Int32) (M : Mem) : Kj Z E 3 (QI Z E) (j_Tape_figuresFrom x1 M) M 0 [(0, .ref (ad E 1)), (1, .int x1)] [] := by
  unfold j_Tape_figuresFrom
  refine k_iload_n X 1 dX7_figuresFrom_0 rfl rfl ?_
  refine k_istore_n X [(2, .int x1), (0, .ref (ad E 1)), (1, .int x1)] dX7_figuresFrom_1 rfl (by decide) rfl ?_
  refine k_lv [1, 2, 0] rfl ?_
  exact kb_Tape_figuresFrom_h2 X  FU x1 x1 M
theorem mt_Tape_figuresFrom (l : Launch) (E : En) (x1 : Int32) (M : Mem) : MI l E yX7_figuresFrom cX7_figuresFrom 3 (some .int) 1 21 [.ref (ad E 1), .int x1] M (j_Tape_figuresFrom x1 M) := MI_of (by decide) (Nat.le_of_ble_eq_true rfl) (fun Z _ X => k_lv [0, 1] rfl (kw_Tape_figuresFrom X x1 M))
-- FilmCans$Tape.readNumber
theorem kb_Tape_readNumber_b19 {Z : ZT} {E : En} (X : Cx Z E 6 cX7_readNumber RX7 (some .int) 2 43) (M : Mem) : Kj Z E 6 (QI Z E) (Tape_readNumber_b19 M) M 19 [(0, .ref (ad E 1))] [] := by
  unfold Tape_readNumber_b19
  refine k_aload_n X 0 dX7_readNumber_19 rfl rfl ?_
  refine k_iconst X (v := 1) dX7_readNumber_20 (by decide) ?_
  refine k_callVI X [.int 1] [] c_1 rfl (by decide) rfl (mt_Tape_refuse (zl Z) E 1 M) mRX7_71 ⟨by decide, by decide⟩ rfl rfl (Nat.le_of_ble_eq_true rfl) dX7_readNumber_21 (fun r3 M4 => ?_)
  refine k_pop X dX7_readNumber_24 rfl ?_
  refine k_ldc X w_393 dX7_readNumber_25 ?_
  exact k_iret X dX7_readNumber_27
theorem kb_Tape_readNumber_b80 {Z : ZT} {E : En} (X : Cx Z E 6 cX7_readNumber RX7 (some .int) 2 43) (M : Mem) : Kj Z E 6 (QI Z E) (Tape_readNumber_b80 M) M 80 [(0, .ref (ad E 1))] [] := by
  unfold Tape_readNumber_b80
  refine k_aload_n X 0 dX7_readNumber_80 rfl rfl ?_
  refine k_iconst X (v := 2) dX7_readNumber_81 (by decide) ?_
  refine k_callVI X [.int 2] [] c_1 rfl (by decide) rfl (mt_Tape_refuse (zl Z) E 2 M) mRX7_71 ⟨by decide, by decide⟩ rfl rfl (Nat.le_of_ble_eq_true rfl) dX7_readNumber_82 (fun r7 M8 => ?_)
  refine k_pop X dX7_readNumber_85 rfl ?_
  refine k_ldc X w_393 dX7_readNumber_86 ?_
  exact k_iret X dX7_readNumber_88
theorem kb_Tape_readNumber_h34 {Z : ZT} {E : En} (X : Cx Z E 6 cX7_readNumber RX7 (some .int) 2 43)  : ∀ (n : Nat) (x1 : Int32) (x2 : Int32) (x3 : Int32) (x4 : Int32) (x5 : Int32) (M : Mem), Kj Z E 6 (QI Z E) (Tape_readNumber_h34  n x1 x2 x3 x4 x5 M) M 34 [(0, .ref (ad E 1)), (1, .int x1), (2, .int x2), (3, .int x3), (4, .int x4), (5, .int x5)] [] := by
  intro n
  induction n with
  | zero => intro x1 x2 x3 x4 x5 M; exact k_none
  | succ n ih =>
    intro x1 x2 x3 x4 x5 M
    rw [Tape_readNumber_h34]
    refine k_iload X 5 dX7_readNumber_34 rfl ?_
    refine k_iload_n X 3 dX7_readNumber_36 rfl rfl ?_
    refine k_icmp_ge X 68 dX7_readNumber_37 (by decide) ?_ ?_
    · refine k_iload X 4 dX7_readNumber_68 rfl ?_
      refine k_iload_n X 1 dX7_readNumber_70 rfl rfl ?_
      refine k_icmp_lt X 80 dX7_readNumber_71 (by decide) ?_ ?_
      · refine k_lv [0] rfl ?_
        exact kb_Tape_readNumber_b80 X  M
      · refine k_iload X 4 dX7_readNumber_74 rfl ?_
        refine k_iload_n X 2 dX7_readNumber_76 rfl rfl ?_
        refine k_icmp_le X 89 dX7_readNumber_77 (by decide) ?_ ?_
        · refine k_aload_n X 0 dX7_readNumber_89 rfl rfl ?_
          refine k_dup X dX7_readNumber_90 rfl ?_
          refine k_getI X c_1 fRX7_19 dX7_readNumber_91 ?_
          refine k_iload_n X 3 dX7_readNumber_94 rfl rfl ?_
          refine k_iadd X dX7_readNumber_95 ?_
          refine k_putI X c_1 fRX7_19 dX7_readNumber_96 ?_
          refine k_sq (fun M9 => ?_)
          refine k_iload X 4 dX7_readNumber_99 rfl ?_
          exact k_iret X dX7_readNumber_101
        · refine k_lv [0] rfl ?_
          exact kb_Tape_readNumber_b80 X  M
    · refine k_iload X 4 dX7_readNumber_40 rfl ?_
      refine k_bipush X (v := 10) dX7_readNumber_42 (by decide) ?_
      refine k_imul X dX7_readNumber_44 ?_
      refine k_aload_n X 0 dX7_readNumber_45 rfl rfl ?_
      refine k_aload_n X 0 dX7_readNumber_46 rfl rfl ?_
      refine k_getI X c_1 fRX7_19 dX7_readNumber_47 ?_
      refine k_iload X 5 dX7_readNumber_50 rfl ?_
      refine k_iadd X dX7_readNumber_52 ?_
      refine k_callVI X [.int ((gi M 1 2) + x5)] [.int (x4 * 10)] c_1 rfl (by decide) rfl (mt_Tape_byteAt (zl Z) E ((gi M 1 2) + x5) M) mRX7_89 ⟨by decide, by decide⟩ rfl rfl (Nat.le_of_ble_eq_true rfl) dX7_readNumber_53 (fun r10 M11 => ?_)
      refine k_iadd X dX7_readNumber_56 ?_
      refine k_bipush X (v := 48) dX7_readNumber_57 (by decide) ?_
      refine k_isub X dX7_readNumber_59 ?_
      refine x_istore X [(0, .ref (ad E 1)), (1, .int x1), (2, .int x2), (3, .int x3), (5, .int x5)] dX7_readNumber_60 (by decide) rfl (fun x12_ => ?_)
      refine x_iinc X 1 5 [(4, .int x12_), (0, .ref (ad E 1)), (1, .int x1), (2, .int x2), (3, .int x3)] dX7_readNumber_62 rfl (by decide) (by decide) rfl (fun x13_ => ?_)
      refine k_goto X 34 dX7_readNumber_65 (by decide) ?_
      refine k_lv [2, 3, 4, 5, 1, 0] rfl ?_
      exact ih x1 x2 x3 x12_ x13_ M11
theorem kw_Tape_readNumber {Z : ZT} {E : En} (X : Cx Z E 6 cX7_readNumber RX7 (some .int) 2 43) (x1 : Int32) (x2 : Int32) (M : Mem) : Kj Z E 6 (QI Z E) (j_Tape_readNumber x1 x2 M) M 0 [(0, .ref (ad E 1)), (1, .int x1), (2, .int x2)] [] := by
  unfold j_Tape_readNumber
  refine k_aload_n X 0 dX7_readNumber_0 rfl rfl ?_
  refine k_aload_n X 0 dX7_readNumber_1 rfl rfl ?_
  refine k_getI X c_1 fRX7_19 dX7_readNumber_2 ?_
  refine k_callVI X [.int (gi M 1 2)] [] c_1 rfl (by decide) rfl (mt_Tape_figuresFrom (zl Z) E (gi M 1 2) M) mRX7_86 ⟨by decide, by decide⟩ rfl rfl (Nat.le_of_ble_eq_true rfl) dX7_readNumber_5 (fun r1 M2 => ?_)
  refine k_istore_n X [(3, .int r1), (0, .ref (ad E 1)), (1, .int x1), (2, .int x2)] dX7_readNumber_8 rfl (by decide) rfl ?_
  refine k_iload_n X 0 dX7_readNumber_9 rfl rfl ?_
  refine k_iconst X (v := 1) dX7_readNumber_10 (by decide) ?_
  refine k_icmp_lt X 19 dX7_readNumber_11 (by decide) ?_ ?_
  · refine k_lv [1] rfl ?_
    exact kb_Tape_readNumber_b19 X  M2
  · refine k_iload_n X 0 dX7_readNumber_14 rfl rfl ?_
    refine k_iconst X (v := 2) dX7_readNumber_15 (by decide) ?_
    refine k_icmp_le X 28 dX7_readNumber_16 (by decide) ?_ ?_
    · refine k_iconst X (v := 0) dX7_readNumber_28 (by decide) ?_
      refine x_istore X [(3, .int r1), (0, .ref (ad E 1)), (1, .int x1), (2, .int x2)] dX7_readNumber_29 (by decide) rfl (fun x5_ => ?_)
      refine k_iconst X (v := 0) dX7_readNumber_31 (by decide) ?_
      refine x_istore X [(4, .int x5_), (3, .int r1), (0, .ref (ad E 1)), (1, .int x1), (2, .int x2)] dX7_readNumber_32 (by decide) rfl (fun x6_ => ?_)
      refine k_lv [3, 4, 5, 2, 1, 0] rfl ?_
      exact kb_Tape_readNumber_h34 X  FU x1 x2 r1 x5_ x6_ M2
    · refine k_lv [1] rfl ?_
      exact kb_Tape_readNumber_b19 X  M2
theorem mt_Tape_readNumber (l : Launch) (E : En) (x1 : Int32) (x2 : Int32) (M : Mem) : MI l E yX7_readNumber cX7_readNumber 6 (some .int) 2 43 [.ref (ad E 1), .int x1, .int x2] M (j_Tape_readNumber x1 x2 M) := MI_of (by decide) (Nat.le_of_ble_eq_true rfl) (fun Z _ X => k_lv [0, 1, 2] rfl (kw_Tape_readNumber X x1 x2 M))
-- FilmCans$Tape.readLaws
theorem kb_Tape_readLaws_b52 {Z : ZT} {E : En} (X : Cx Z E 4 cX7_readLaws RX7 (some .boolean) 3 68) (k13 : Nat → Int32 → Mem → Option (Int32 × Mem)) (hk13 : ∀ (d1 : Nat) (x2 : Int32) (hd1 : isDay d1) (M : Mem), Kj Z E 4 (QI Z E) (k13 d1 x2 M) M 13 [(0, .ref (ad E 1)), (1, .ref (ad E d1)), (2, .int x2)] []) (d1 : Nat) (x2 : Int32) (x3 : Int32) (xs0 : Int32) (hd1 : isDay d1) (M : Mem) : Kj Z E 4 (QI Z E) (Tape_readLaws_b52 k13 d1 x2 x3 xs0 M) M 52 [(0, .ref (ad E 1)), (1, .ref (ad E d1)), (2, .int x2), (3, .int x3)] [.int xs0, .ref (ad E 1)] := by
  unfold Tape_readLaws_b52
  refine k_callVI X [.int xs0] [] c_1 rfl (by decide) rfl (mt_Tape_pass (zl Z) E xs0 M) mRX7_37 ⟨by decide, by decide⟩ rfl rfl (Nat.le_of_ble_eq_true rfl) dX7_readLaws_52 (fun r8 M9 => ?_)
  refine k_if_ne X 60 dX7_readLaws_55 (by decide) ?_ ?_
  · refine k_aload_n X 1 dX7_readLaws_60 rfl rfl ?_
    refine k_getR X (day_C hd1) fRX7_52 (day_R1 hd1) dX7_readLaws_61 ?_
    refine k_iload_n X 2 dX7_readLaws_64 rfl rfl ?_
    refine k_iload_n X 3 dX7_readLaws_65 rfl rfl ?_
    refine k_iast X (day_A1 hd1) (day_L1 hd1) dX7_readLaws_66 (fun hb10 => ?_)
    refine k_sq (fun M11 => ?_)
    refine x_iinc X 1 2 [(0, .ref (ad E 1)), (1, .ref (ad E d1)), (3, .int x3)] dX7_readLaws_67 rfl (by decide) (by decide) rfl (fun x12_ => ?_)
    refine k_goto X 13 dX7_readLaws_70 (by decide) ?_
    refine k_lv [1, 2, 0] rfl ?_
    exact hk13 d1 x12_ hd1 M11
  · refine k_iconst X (v := 0) dX7_readLaws_58 (by decide) ?_
    exact k_zret X (by decide) dX7_readLaws_59
theorem kb_Tape_readLaws_h13 {Z : ZT} {E : En} (X : Cx Z E 4 cX7_readLaws RX7 (some .boolean) 3 68)  : ∀ (n : Nat) (d1 : Nat) (x2 : Int32) (hd1 : isDay d1) (M : Mem), Kj Z E 4 (QI Z E) (Tape_readLaws_h13  n d1 x2 M) M 13 [(0, .ref (ad E 1)), (1, .ref (ad E d1)), (2, .int x2)] [] := by
  intro n
  induction n with
  | zero => intro d1 x2 hd1 M; exact k_none
  | succ n ih =>
    intro d1 x2 hd1 M
    rw [Tape_readLaws_h13]
    refine k_iload_n X 2 dX7_readLaws_13 rfl rfl ?_
    refine k_iconst X (v := 4) dX7_readLaws_14 (by decide) ?_
    refine k_icmp_ge X 73 dX7_readLaws_15 (by decide) ?_ ?_
    · refine k_iconst X (v := 1) dX7_readLaws_73 (by decide) ?_
      exact k_zret X (by decide) dX7_readLaws_74
    · refine k_aload_n X 0 dX7_readLaws_18 rfl rfl ?_
      refine k_getsN0 X (host := "FilmCans") (by decide +kernel) dX7_readLaws_19 ?_
      refine k_iload_n X 2 dX7_readLaws_22 rfl rfl ?_
      refine k_st0 X dX7_readLaws_23 (fun hb4 => ?_)
      refine k_getsN1 X (host := "FilmCans") (by decide +kernel) dX7_readLaws_24 ?_
      refine k_iload_n X 2 dX7_readLaws_27 rfl rfl ?_
      refine k_st1 X dX7_readLaws_28 (fun hb5 => ?_)
      refine k_callVI X [.int (cLL (ix x2)), .int (cLM (ix x2))] [] c_1 rfl (by decide) rfl (mt_Tape_readNumber (zl Z) E (cLL (ix x2)) (cLM (ix x2)) M) mRX7_47 ⟨by decide, by decide⟩ rfl rfl (Nat.le_of_ble_eq_true rfl) dX7_readLaws_29 (fun r6 M7 => ?_)
      refine k_istore_n X [(3, .int r6), (0, .ref (ad E 1)), (1, .ref (ad E d1)), (2, .int x2)] dX7_readLaws_32 rfl (by decide) rfl ?_
      refine k_iload_n X 0 dX7_readLaws_33 rfl rfl ?_
      refine k_ldc X w_393 dX7_readLaws_34 ?_
      refine k_icmp_eq X 58 dX7_readLaws_36 (by decide) ?_ ?_
      · refine k_iconst X (v := 0) dX7_readLaws_58 (by decide) ?_
        exact k_zret X (by decide) dX7_readLaws_59
      · refine k_aload_n X 1 dX7_readLaws_39 rfl rfl ?_
        refine k_iload_n X 3 dX7_readLaws_40 rfl rfl ?_
        refine k_iconst X (v := 3) dX7_readLaws_41 (by decide) ?_
        refine k_icmp_ge X 50 dX7_readLaws_42 (by decide) ?_ ?_
        · refine k_bipush X (v := 59) dX7_readLaws_50 (by decide) ?_
          refine k_lv [1, 2, 3, 0] rfl ?_
          exact kb_Tape_readLaws_b52 X (fun d1 x2 M => Tape_readLaws_h13 n d1 x2 M) (fun d1 x2 hd1 M => ih d1 x2 hd1 M) d1 x2 r6 59 hd1 M7
        · refine k_bipush X (v := 44) dX7_readLaws_45 (by decide) ?_
          refine k_goto X 52 dX7_readLaws_47 (by decide) ?_
          refine k_lv [1, 2, 3, 0] rfl ?_
          exact kb_Tape_readLaws_b52 X (fun d1 x2 M => Tape_readLaws_h13 n d1 x2 M) (fun d1 x2 hd1 M => ih d1 x2 hd1 M) d1 x2 r6 44 hd1 M7
theorem kw_Tape_readLaws {Z : ZT} {E : En} (X : Cx Z E 4 cX7_readLaws RX7 (some .boolean) 3 68) (d1 : Nat) (hd1 : isDay d1) (M : Mem) : Kj Z E 4 (QI Z E) (j_Tape_readLaws d1 M) M 0 [(0, .ref (ad E 1)), (1, .ref (ad E d1))] [] := by
  unfold j_Tape_readLaws
  refine k_aload_n X 0 dX7_readLaws_0 rfl rfl ?_
  refine k_bipush X (v := 104) dX7_readLaws_1 (by decide) ?_
  refine k_callVI X [.int 104] [] c_1 rfl (by decide) rfl (mt_Tape_pass (zl Z) E 104 M) mRX7_37 ⟨by decide, by decide⟩ rfl rfl (Nat.le_of_ble_eq_true rfl) dX7_readLaws_3 (fun r1 M2 => ?_)
  refine k_if_ne X 11 dX7_readLaws_6 (by decide) ?_ ?_
  · refine k_iconst X (v := 0) dX7_readLaws_11 (by decide) ?_
    refine x_istore_n X [(0, .ref (ad E 1)), (1, .ref (ad E d1))] dX7_readLaws_12 rfl (by decide) rfl (fun x3_ => ?_)
    refine k_lv [1, 2, 0] rfl ?_
    exact kb_Tape_readLaws_h13 X  FU d1 x3_ hd1 M2
  · refine k_iconst X (v := 0) dX7_readLaws_9 (by decide) ?_
    exact k_zret X (by decide) dX7_readLaws_10
theorem mt_Tape_readLaws (l : Launch) (E : En) (d1 : Nat) (hd1 : isDay d1) (M : Mem) : MI l E yX7_readLaws cX7_readLaws 4 (some .boolean) 3 68 [.ref (ad E 1), .ref (ad E d1)] M (j_Tape_readLaws d1 M) := MI_of (by decide) (Nat.le_of_ble_eq_true rfl) (fun Z _ X => k_lv [0, 1] rfl (kw_Tape_readLaws X d1 hd1 M))
-- FilmCans$Kinds.ofLetter
theorem kw_Kinds_ofLetter {Z : ZT} {E : En} (X : Cx Z E 1 cX3_ofLetter RX3 (some .int) 0 0) (x0 : Int32) (M : Mem) : Kj Z E 1 (QI Z E) (j_Kinds_ofLetter x0 M) M 0 [(0, .int x0)] [] := by
  unfold j_Kinds_ofLetter
  refine k_iload_n X 0 dX3_ofLetter_0 rfl rfl ?_
  refine k_if (fun hs102 => ?_) (fun hs102 => ?_)
  · refine k_lt_in X 102 (off := 73) 74 dX3_ofLetter_1 hs102 (by decide) (by decide) (by decide) (by decide) ?_
    refine k_iconst X (v := 2) dX3_ofLetter_74 (by decide) ?_
    exact k_iret X dX3_ofLetter_75
  · refine k_if (fun hs103 => ?_) (fun hs103 => ?_)
    · refine k_lt_in X 103 (off := 75) 76 dX3_ofLetter_1 hs103 (by decide) (by decide) (by decide) (by decide) ?_
      refine k_iconst X (v := 3) dX3_ofLetter_76 (by decide) ?_
      exact k_iret X dX3_ofLetter_77
    · refine k_if (fun hs104 => ?_) (fun hs104 => ?_)
      · refine k_lt_in X 104 (off := 81) 82 dX3_ofLetter_1 hs104 (by decide) (by decide) (by decide) (by decide) ?_
        refine k_ldc X w_417 dX3_ofLetter_82 ?_
        exact k_iret X dX3_ofLetter_84
      · refine k_if (fun hs105 => ?_) (fun hs105 => ?_)
        · refine k_lt_in X 105 (off := 81) 82 dX3_ofLetter_1 hs105 (by decide) (by decide) (by decide) (by decide) ?_
          refine k_ldc X w_417 dX3_ofLetter_82 ?_
          exact k_iret X dX3_ofLetter_84
        · refine k_if (fun hs106 => ?_) (fun hs106 => ?_)
          · refine k_lt_in X 106 (off := 81) 82 dX3_ofLetter_1 hs106 (by decide) (by decide) (by decide) (by decide) ?_
            refine k_ldc X w_417 dX3_ofLetter_82 ?_
            exact k_iret X dX3_ofLetter_84
          · refine k_if (fun hs107 => ?_) (fun hs107 => ?_)
            · refine k_lt_in X 107 (off := 81) 82 dX3_ofLetter_1 hs107 (by decide) (by decide) (by decide) (by decide) ?_
              refine k_ldc X w_417 dX3_ofLetter_82 ?_
              exact k_iret X dX3_ofLetter_84
            · refine k_if (fun hs108 => ?_) (fun hs108 => ?_)
              · refine k_lt_in X 108 (off := 81) 82 dX3_ofLetter_1 hs108 (by decide) (by decide) (by decide) (by decide) ?_
                refine k_ldc X w_417 dX3_ofLetter_82 ?_
                exact k_iret X dX3_ofLetter_84
              · refine k_if (fun hs109 => ?_) (fun hs109 => ?_)
                · refine k_lt_in X 109 (off := 81) 82 dX3_ofLetter_1 hs109 (by decide) (by decide) (by decide) (by decide) ?_
                  refine k_ldc X w_417 dX3_ofLetter_82 ?_
                  exact k_iret X dX3_ofLetter_84
                · refine k_if (fun hs110 => ?_) (fun hs110 => ?_)
                  · refine k_lt_in X 110 (off := 71) 72 dX3_ofLetter_1 hs110 (by decide) (by decide) (by decide) (by decide) ?_
                    refine k_iconst X (v := 1) dX3_ofLetter_72 (by decide) ?_
                    exact k_iret X dX3_ofLetter_73
                  · refine k_if (fun hs111 => ?_) (fun hs111 => ?_)
                    · refine k_lt_in X 111 (off := 81) 82 dX3_ofLetter_1 hs111 (by decide) (by decide) (by decide) (by decide) ?_
                      refine k_ldc X w_417 dX3_ofLetter_82 ?_
                      exact k_iret X dX3_ofLetter_84
                    · refine k_if (fun hs112 => ?_) (fun hs112 => ?_)
                      · refine k_lt_in X 112 (off := 81) 82 dX3_ofLetter_1 hs112 (by decide) (by decide) (by decide) (by decide) ?_
                        refine k_ldc X w_417 dX3_ofLetter_82 ?_
                        exact k_iret X dX3_ofLetter_84
                      · refine k_if (fun hs113 => ?_) (fun hs113 => ?_)
                        · refine k_lt_in X 113 (off := 81) 82 dX3_ofLetter_1 hs113 (by decide) (by decide) (by decide) (by decide) ?_
                          refine k_ldc X w_417 dX3_ofLetter_82 ?_
                          exact k_iret X dX3_ofLetter_84
                        · refine k_if (fun hs114 => ?_) (fun hs114 => ?_)
                          · refine k_lt_in X 114 (off := 77) 78 dX3_ofLetter_1 hs114 (by decide) (by decide) (by decide) (by decide) ?_
                            refine k_iconst X (v := 4) dX3_ofLetter_78 (by decide) ?_
                            exact k_iret X dX3_ofLetter_79
                          · refine k_if (fun hs115 => ?_) (fun hs115 => ?_)
                            · refine k_lt_in X 115 (off := 79) 80 dX3_ofLetter_1 hs115 (by decide) (by decide) (by decide) (by decide) ?_
                              refine k_iconst X (v := 5) dX3_ofLetter_80 (by decide) ?_
                              exact k_iret X dX3_ofLetter_81
                            · refine k_lt_out X 82 dX3_ofLetter_1 (tsw_out 102 14 (by decide) (by decide) (by decide) (lt_s (lt_s (lt_s (lt_s (lt_s (lt_s (lt_s (lt_s (lt_s (lt_s (lt_s (lt_s (lt_s (lt_s lt_0 hs102) hs103) hs104) hs105) hs106) hs107) hs108) hs109) hs110) hs111) hs112) hs113) hs114) hs115)) (by decide) ?_
                              refine k_ldc X w_417 dX3_ofLetter_82 ?_
                              exact k_iret X dX3_ofLetter_84
theorem mt_Kinds_ofLetter (l : Launch) (E : En) (x0 : Int32) (M : Mem) : MI l E yX3_ofLetter cX3_ofLetter 1 (some .int) 0 0 [.int x0] M (j_Kinds_ofLetter x0 M) := MI_of (by decide) (Nat.le_of_ble_eq_true rfl) (fun Z _ X => k_lv [0] rfl (kw_Kinds_ofLetter X x0 M))
-- FilmCans$Day.addCan
theorem kw_Day_addCan {Z : ZT} {E : En} (X : Cx Z E 4 cX1_addCan RX1 (some .int) 0 0) (d0 : Nat) (x1 : Int32) (x2 : Int32) (hd0 : isDay d0) (M : Mem) : Kj Z E 4 (QI Z E) (j_Day_addCan d0 x1 x2 M) M 0 [(0, .ref (ad E d0)), (1, .int x1), (2, .int x2)] [] := by
  unfold j_Day_addCan
  refine k_aload_n X 0 dX1_addCan_0 rfl rfl ?_
  refine k_getI X (day_C hd0) fRX1_50 dX1_addCan_1 ?_
  refine k_bipush X (v := 6) dX1_addCan_4 (by decide) ?_
  refine k_icmp_lt X 12 dX1_addCan_6 (by decide) ?_ ?_
  · refine k_aload_n X 0 dX1_addCan_12 rfl rfl ?_
    refine k_getI X (day_C hd0) fRX1_50 dX1_addCan_13 ?_
    refine x_istore_n X [(0, .ref (ad E d0)), (1, .int x1), (2, .int x2)] dX1_addCan_16 rfl (by decide) rfl (fun x1_ => ?_)
    refine k_aload_n X 1 dX1_addCan_17 rfl rfl ?_
    refine k_getR X (day_C hd0) fRX1_20 (day_R2 hd0) dX1_addCan_18 ?_
    refine k_iload_n X 0 dX1_addCan_21 rfl rfl ?_
    refine k_iload_n X 2 dX1_addCan_22 rfl rfl ?_
    refine k_iast X (day_A2 hd0) (day_L2 hd0) dX1_addCan_23 (fun hb2 => ?_)
    refine k_sq (fun M3 => ?_)
    refine k_aload_n X 1 dX1_addCan_24 rfl rfl ?_
    refine k_getR X (day_C hd0) fRX1_23 (day_R3 hd0) dX1_addCan_25 ?_
    refine k_iload_n X 0 dX1_addCan_28 rfl rfl ?_
    refine k_iload_n X 3 dX1_addCan_29 rfl rfl ?_
    refine k_iast X (day_A3 hd0) (day_L3 hd0) dX1_addCan_30 (fun hb4 => ?_)
    refine k_sq (fun M5 => ?_)
    refine k_aload_n X 1 dX1_addCan_31 rfl rfl ?_
    refine k_getR X (day_C hd0) fRX1_26 (day_R4 hd0) dX1_addCan_32 ?_
    refine k_iload_n X 0 dX1_addCan_35 rfl rfl ?_
    refine k_iconst X (v := 0) dX1_addCan_36 (by decide) ?_
    refine k_iast X (day_A4 hd0) (day_L4 hd0) dX1_addCan_37 (fun hb6 => ?_)
    refine k_sq (fun M7 => ?_)
    refine k_aload_n X 1 dX1_addCan_38 rfl rfl ?_
    refine k_getR X (day_C hd0) fRX1_29 (day_R5 hd0) dX1_addCan_39 ?_
    refine k_iload_n X 0 dX1_addCan_42 rfl rfl ?_
    refine k_iconst X (v := 0) dX1_addCan_43 (by decide) ?_
    refine k_iast X (day_A5 hd0) (day_L5 hd0) dX1_addCan_44 (fun hb8 => ?_)
    refine k_sq (fun M9 => ?_)
    refine k_aload_n X 1 dX1_addCan_45 rfl rfl ?_
    refine k_dup X dX1_addCan_46 rfl ?_
    refine k_getI X (day_C hd0) fRX1_62 dX1_addCan_47 ?_
    refine k_iload_n X 3 dX1_addCan_50 rfl rfl ?_
    refine k_iadd X dX1_addCan_51 ?_
    refine k_putI X (day_C hd0) fRX1_62 dX1_addCan_52 ?_
    refine k_sq (fun M10 => ?_)
    refine k_aload_n X 1 dX1_addCan_55 rfl rfl ?_
    refine k_dup X dX1_addCan_56 rfl ?_
    refine k_getI X (day_C hd0) fRX1_50 dX1_addCan_57 ?_
    refine k_iconst X (v := 1) dX1_addCan_60 (by decide) ?_
    refine k_iadd X dX1_addCan_61 ?_
    refine k_putI X (day_C hd0) fRX1_50 dX1_addCan_62 ?_
    refine k_sq (fun M11 => ?_)
    refine k_iload_n X 0 dX1_addCan_65 rfl rfl ?_
    exact k_iret X dX1_addCan_66
  · refine k_ldc X w_117 dX1_addCan_9 ?_
    exact k_iret X dX1_addCan_11
theorem mt_Day_addCan (l : Launch) (E : En) (d0 : Nat) (x1 : Int32) (x2 : Int32) (hd0 : isDay d0) (M : Mem) : MI l E yX1_addCan cX1_addCan 4 (some .int) 0 0 [.ref (ad E d0), .int x1, .int x2] M (j_Day_addCan d0 x1 x2 M) := MI_of (by decide) (Nat.le_of_ble_eq_true rfl) (fun Z _ X => k_lv [0, 1, 2] rfl (kw_Day_addCan X d0 x1 x2 hd0 M))
-- FilmCans$Tape.readCan
theorem kw_Tape_readCan {Z : ZT} {E : En} (X : Cx Z E 4 cX7_readCan RX7 (some .boolean) 3 68) (d1 : Nat) (hd1 : isDay d1) (M : Mem) : Kj Z E 4 (QI Z E) (j_Tape_readCan d1 M) M 0 [(0, .ref (ad E 1)), (1, .ref (ad E d1))] [] := by
  unfold j_Tape_readCan
  refine k_aload_n X 1 dX7_readCan_0 rfl rfl ?_
  refine k_getI X (day_C hd1) fRX7_68 dX7_readCan_1 ?_
  refine k_bipush X (v := 6) dX7_readCan_4 (by decide) ?_
  refine k_icmp_lt X 15 dX7_readCan_6 (by decide) ?_ ?_
  · refine k_aload_n X 0 dX7_readCan_15 rfl rfl ?_
    refine k_callVI X [] [] c_1 rfl (by decide) rfl (mt_Tape_next (zl Z) E  M) mRX7_55 ⟨by decide, by decide⟩ rfl rfl (Nat.le_of_ble_eq_true rfl) dX7_readCan_16 (fun r1 M2 => ?_)
    refine k_callSI X [.int r1] [] (mt_Kinds_ofLetter (zl Z) E r1 M2) mRX7_59 ⟨by decide, by decide⟩ rfl rfl (Nat.le_of_ble_eq_true rfl) dX7_readCan_19 (fun r3 M4 => ?_)
    refine k_istore_n X [(2, .int r3), (0, .ref (ad E 1)), (1, .ref (ad E d1))] dX7_readCan_22 rfl (by decide) rfl ?_
    refine k_aload_n X 1 dX7_readCan_23 rfl rfl ?_
    refine k_dup X dX7_readCan_24 rfl ?_
    refine k_getI X c_1 fRX7_19 dX7_readCan_25 ?_
    refine k_iconst X (v := 1) dX7_readCan_28 (by decide) ?_
    refine k_iadd X dX7_readCan_29 ?_
    refine k_putI X c_1 fRX7_19 dX7_readCan_30 ?_
    refine k_sq (fun M5 => ?_)
    refine k_aload_n X 1 dX7_readCan_33 rfl rfl ?_
    refine k_iconst X (v := 1) dX7_readCan_34 (by decide) ?_
    refine k_bipush X (v := 99) dX7_readCan_35 (by decide) ?_
    refine k_callVI X [.int 1, .int 99] [] c_1 rfl (by decide) rfl (mt_Tape_readNumber (zl Z) E 1 99 M5) mRX7_47 ⟨by decide, by decide⟩ rfl rfl (Nat.le_of_ble_eq_true rfl) dX7_readCan_37 (fun r6 M7 => ?_)
    refine k_istore_n X [(3, .int r6), (2, .int r3), (0, .ref (ad E 1)), (1, .ref (ad E d1))] dX7_readCan_40 rfl (by decide) rfl ?_
    refine k_iload_n X 0 dX7_readCan_41 rfl rfl ?_
    refine k_ldc X w_393 dX7_readCan_42 ?_
    refine k_icmp_eq X 56 dX7_readCan_44 (by decide) ?_ ?_
    · refine k_iconst X (v := 0) dX7_readCan_56 (by decide) ?_
      exact k_zret X (by decide) dX7_readCan_57
    · refine k_aload_n X 2 dX7_readCan_47 rfl rfl ?_
      refine k_bipush X (v := 59) dX7_readCan_48 (by decide) ?_
      refine k_callVI X [.int 59] [] c_1 rfl (by decide) rfl (mt_Tape_pass (zl Z) E 59 M7) mRX7_37 ⟨by decide, by decide⟩ rfl rfl (Nat.le_of_ble_eq_true rfl) dX7_readCan_50 (fun r8 M9 => ?_)
      refine k_if_ne X 58 dX7_readCan_53 (by decide) ?_ ?_
      · refine k_aload_n X 3 dX7_readCan_58 rfl rfl ?_
        refine k_iload_n X 1 dX7_readCan_59 rfl rfl ?_
        refine k_iload_n X 0 dX7_readCan_60 rfl rfl ?_
        refine k_callVI X [.int r3, .int r6] [] (day_C hd1) rfl (by decide) rfl (mt_Day_addCan (zl Z) E d1 r3 r6 hd1 M9) mRX7_74 ⟨by decide, by decide⟩ rfl rfl (Nat.le_of_ble_eq_true rfl) dX7_readCan_61 (fun r10 M11 => ?_)
        refine k_pop X dX7_readCan_64 rfl ?_
        refine k_iconst X (v := 1) dX7_readCan_65 (by decide) ?_
        exact k_zret X (by decide) dX7_readCan_66
      · refine k_iconst X (v := 0) dX7_readCan_56 (by decide) ?_
        exact k_zret X (by decide) dX7_readCan_57
  · refine k_aload_n X 0 dX7_readCan_9 rfl rfl ?_
    refine k_iconst X (v := 3) dX7_readCan_10 (by decide) ?_
    refine k_callVI X [.int 3] [] c_1 rfl (by decide) rfl (mt_Tape_refuse (zl Z) E 3 M) mRX7_71 ⟨by decide, by decide⟩ rfl rfl (Nat.le_of_ble_eq_true rfl) dX7_readCan_11 (fun r12 M13 => ?_)
    exact k_zretG X dX7_readCan_14
theorem mt_Tape_readCan (l : Launch) (E : En) (d1 : Nat) (hd1 : isDay d1) (M : Mem) : MI l E yX7_readCan cX7_readCan 4 (some .boolean) 3 68 [.ref (ad E 1), .ref (ad E d1)] M (j_Tape_readCan d1 M) := MI_of (by decide) (Nat.le_of_ble_eq_true rfl) (fun Z _ X => k_lv [0, 1] rfl (kw_Tape_readCan X d1 hd1 M))
-- FilmCans$Tape.readCans
theorem kb_Tape_readCans_b51 {Z : ZT} {E : En} (X : Cx Z E 3 cX7_readCans RX7 (some .boolean) 4 91) (M : Mem) : Kj Z E 3 (QI Z E) (Tape_readCans_b51 M) M 51 [] [] := by
  unfold Tape_readCans_b51
  refine k_iconst X (v := 1) dX7_readCans_51 (by decide) ?_
  refine k_goto X 56 dX7_readCans_52 (by decide) ?_
  exact k_zret X (by decide) dX7_readCans_56
theorem kb_Tape_readCans_b36 {Z : ZT} {E : En} (X : Cx Z E 3 cX7_readCans RX7 (some .boolean) 4 91) (d1 : Nat) (hd1 : isDay d1) (M : Mem) : Kj Z E 3 (QI Z E) (Tape_readCans_b36 d1 M) M 36 [(0, .ref (ad E 1)), (1, .ref (ad E d1))] [] := by
  unfold Tape_readCans_b36
  refine k_aload_n X 1 dX7_readCans_36 rfl rfl ?_
  refine k_getI X (day_C hd1) fRX7_68 dX7_readCans_37 ?_
  refine k_if_gt X 51 dX7_readCans_40 (by decide) ?_ ?_
  · refine k_lv [] rfl ?_
    exact kb_Tape_readCans_b51 X  M
  · refine k_aload_n X 0 dX7_readCans_43 rfl rfl ?_
    refine k_iconst X (v := 1) dX7_readCans_44 (by decide) ?_
    refine k_callVI X [.int 1] [] c_1 rfl (by decide) rfl (mt_Tape_refuse (zl Z) E 1 M) mRX7_71 ⟨by decide, by decide⟩ rfl rfl (Nat.le_of_ble_eq_true rfl) dX7_readCans_45 (fun r2 M3 => ?_)
    refine k_if_eq X 55 dX7_readCans_48 (by decide) ?_ ?_
    · refine k_iconst X (v := 0) dX7_readCans_55 (by decide) ?_
      exact k_zret X (by decide) dX7_readCans_56
    · refine k_lv [] rfl ?_
      exact kb_Tape_readCans_b51 X  M3
theorem kb_Tape_readCans_h2 {Z : ZT} {E : En} (X : Cx Z E 3 cX7_readCans RX7 (some .boolean) 4 91)  : ∀ (n : Nat) (d1 : Nat) (x2 : Int32) (hd1 : isDay d1) (M : Mem), Kj Z E 3 (QI Z E) (Tape_readCans_h2  n d1 x2 M) M 2 [(0, .ref (ad E 1)), (1, .ref (ad E d1)), (2, .int x2)] [] := by
  intro n
  induction n with
  | zero => intro d1 x2 hd1 M; exact k_none
  | succ n ih =>
    intro d1 x2 hd1 M
    rw [Tape_readCans_h2]
    refine k_iload_n X 2 dX7_readCans_2 rfl rfl ?_
    refine k_bipush X (v := 6) dX7_readCans_3 (by decide) ?_
    refine k_icmp_gt X 36 dX7_readCans_5 (by decide) ?_ ?_
    · refine k_lv [0, 1] rfl ?_
      exact kb_Tape_readCans_b36 X  d1 hd1 M
    · refine k_aload_n X 0 dX7_readCans_8 rfl rfl ?_
      refine k_callVI X [] [] c_1 rfl (by decide) rfl (mt_Tape_next (zl Z) E  M) mRX7_55 ⟨by decide, by decide⟩ rfl rfl (Nat.le_of_ble_eq_true rfl) dX7_readCans_9 (fun r4 M5 => ?_)
      refine k_callSI X [.int r4] [] (mt_Kinds_ofLetter (zl Z) E r4 M5) mRX7_59 ⟨by decide, by decide⟩ rfl rfl (Nat.le_of_ble_eq_true rfl) dX7_readCans_12 (fun r6 M7 => ?_)
      refine k_ldc X w_393 dX7_readCans_15 ?_
      refine k_icmp_eq X 36 dX7_readCans_17 (by decide) ?_ ?_
      · refine k_lv [0, 1] rfl ?_
        exact kb_Tape_readCans_b36 X  d1 hd1 M7
      · refine k_aload_n X 0 dX7_readCans_20 rfl rfl ?_
        refine k_aload_n X 1 dX7_readCans_21 rfl rfl ?_
        refine k_callVI X [.ref (ad E d1)] [] c_1 rfl (by decide) rfl (mt_Tape_readCan (zl Z) E d1 hd1 M7) mRX7_65 ⟨by decide, by decide⟩ rfl rfl (Nat.le_of_ble_eq_true rfl) dX7_readCans_22 (fun r8 M9 => ?_)
        refine k_if_ne X 30 dX7_readCans_25 (by decide) ?_ ?_
        · refine x_iinc X 1 2 [(0, .ref (ad E 1)), (1, .ref (ad E d1))] dX7_readCans_30 rfl (by decide) (by decide) rfl (fun x10_ => ?_)
          refine k_goto X 2 dX7_readCans_33 (by decide) ?_
          refine k_lv [1, 2, 0] rfl ?_
          exact ih d1 x10_ hd1 M9
        · refine k_iconst X (v := 0) dX7_readCans_28 (by decide) ?_
          exact k_zret X (by decide) dX7_readCans_29
theorem kw_Tape_readCans {Z : ZT} {E : En} (X : Cx Z E 3 cX7_readCans RX7 (some .boolean) 4 91) (d1 : Nat) (hd1 : isDay d1) (M : Mem) : Kj Z E 3 (QI Z E) (j_Tape_readCans d1 M) M 0 [(0, .ref (ad E 1)), (1, .ref (ad E d1))] [] := by
  unfold j_Tape_readCans
  refine k_iconst X (v := 0) dX7_readCans_0 (by decide) ?_
  refine x_istore_n X [(0, .ref (ad E 1)), (1, .ref (ad E d1))] dX7_readCans_1 rfl (by decide) rfl (fun x1_ => ?_)
  refine k_lv [1, 2, 0] rfl ?_
  exact kb_Tape_readCans_h2 X  FU d1 x1_ hd1 M
theorem mt_Tape_readCans (l : Launch) (E : En) (d1 : Nat) (hd1 : isDay d1) (M : Mem) : MI l E yX7_readCans cX7_readCans 3 (some .boolean) 4 91 [.ref (ad E 1), .ref (ad E d1)] M (j_Tape_readCans d1 M) := MI_of (by decide) (Nat.le_of_ble_eq_true rfl) (fun Z _ X => k_lv [0, 1] rfl (kw_Tape_readCans X d1 hd1 M))
-- FilmCans$Day.addTake
theorem kw_Day_addTake {Z : ZT} {E : En} (X : Cx Z E 4 cX1_addTake RX1 (some .int) 0 0) (d0 : Nat) (x1 : Int32) (x2 : Int32) (hd0 : isDay d0) (M : Mem) : Kj Z E 4 (QI Z E) (j_Day_addTake d0 x1 x2 M) M 0 [(0, .ref (ad E d0)), (1, .int x1), (2, .int x2)] [] := by
  unfold j_Day_addTake
  refine k_aload_n X 0 dX1_addTake_0 rfl rfl ?_
  refine k_getI X (day_C hd0) fRX1_53 dX1_addTake_1 ?_
  refine k_bipush X (v := 8) dX1_addTake_4 (by decide) ?_
  refine k_icmp_lt X 12 dX1_addTake_6 (by decide) ?_ ?_
  · refine k_aload_n X 0 dX1_addTake_12 rfl rfl ?_
    refine k_getI X (day_C hd0) fRX1_53 dX1_addTake_13 ?_
    refine x_istore_n X [(0, .ref (ad E d0)), (1, .int x1), (2, .int x2)] dX1_addTake_16 rfl (by decide) rfl (fun x1_ => ?_)
    refine k_aload_n X 1 dX1_addTake_17 rfl rfl ?_
    refine k_getR X (day_C hd0) fRX1_32 (day_R6 hd0) dX1_addTake_18 ?_
    refine k_iload_n X 0 dX1_addTake_21 rfl rfl ?_
    refine k_iload_n X 2 dX1_addTake_22 rfl rfl ?_
    refine k_iast X (day_A6 hd0) (day_L6 hd0) dX1_addTake_23 (fun hb2 => ?_)
    refine k_sq (fun M3 => ?_)
    refine k_aload_n X 1 dX1_addTake_24 rfl rfl ?_
    refine k_getR X (day_C hd0) fRX1_35 (day_R7 hd0) dX1_addTake_25 ?_
    refine k_iload_n X 0 dX1_addTake_28 rfl rfl ?_
    refine k_iload_n X 3 dX1_addTake_29 rfl rfl ?_
    refine k_iast X (day_A7 hd0) (day_L7 hd0) dX1_addTake_30 (fun hb4 => ?_)
    refine k_sq (fun M5 => ?_)
    refine k_aload_n X 1 dX1_addTake_31 rfl rfl ?_
    refine k_getR X (day_C hd0) fRX1_38 (day_R8 hd0) dX1_addTake_32 ?_
    refine k_iload_n X 0 dX1_addTake_35 rfl rfl ?_
    refine k_ldc X w_117 dX1_addTake_36 ?_
    refine k_iast X (day_A8 hd0) (day_L8 hd0) dX1_addTake_38 (fun hb6 => ?_)
    refine k_sq (fun M7 => ?_)
    refine k_aload_n X 1 dX1_addTake_39 rfl rfl ?_
    refine k_dup X dX1_addTake_40 rfl ?_
    refine k_getI X (day_C hd0) fRX1_53 dX1_addTake_41 ?_
    refine k_iconst X (v := 1) dX1_addTake_44 (by decide) ?_
    refine k_iadd X dX1_addTake_45 ?_
    refine k_putI X (day_C hd0) fRX1_53 dX1_addTake_46 ?_
    refine k_sq (fun M8 => ?_)
    refine k_iload_n X 0 dX1_addTake_49 rfl rfl ?_
    exact k_iret X dX1_addTake_50
  · refine k_ldc X w_117 dX1_addTake_9 ?_
    exact k_iret X dX1_addTake_11
theorem mt_Day_addTake (l : Launch) (E : En) (d0 : Nat) (x1 : Int32) (x2 : Int32) (hd0 : isDay d0) (M : Mem) : MI l E yX1_addTake cX1_addTake 4 (some .int) 0 0 [.ref (ad E d0), .int x1, .int x2] M (j_Day_addTake d0 x1 x2 M) := MI_of (by decide) (Nat.le_of_ble_eq_true rfl) (fun Z _ X => k_lv [0, 1, 2] rfl (kw_Day_addTake X d0 x1 x2 hd0 M))
-- FilmCans$Tape.readTake
theorem kw_Tape_readTake {Z : ZT} {E : En} (X : Cx Z E 4 cX7_readTake RX7 (some .boolean) 3 68) (d1 : Nat) (hd1 : isDay d1) (M : Mem) : Kj Z E 4 (QI Z E) (j_Tape_readTake d1 M) M 0 [(0, .ref (ad E 1)), (1, .ref (ad E d1))] [] := by
  unfold j_Tape_readTake
  refine k_aload_n X 1 dX7_readTake_0 rfl rfl ?_
  refine k_getI X (day_C hd1) fRX7_80 dX7_readTake_1 ?_
  refine k_bipush X (v := 8) dX7_readTake_4 (by decide) ?_
  refine k_icmp_lt X 15 dX7_readTake_6 (by decide) ?_ ?_
  · refine k_aload_n X 0 dX7_readTake_15 rfl rfl ?_
    refine k_dup X dX7_readTake_16 rfl ?_
    refine k_getI X c_1 fRX7_19 dX7_readTake_17 ?_
    refine k_iconst X (v := 1) dX7_readTake_20 (by decide) ?_
    refine k_iadd X dX7_readTake_21 ?_
    refine k_putI X c_1 fRX7_19 dX7_readTake_22 ?_
    refine k_sq (fun M1 => ?_)
    refine k_aload_n X 0 dX7_readTake_25 rfl rfl ?_
    refine k_iconst X (v := 0) dX7_readTake_26 (by decide) ?_
    refine k_iconst X (v := 5) dX7_readTake_27 (by decide) ?_
    refine k_callVI X [.int 0, .int 5] [] c_1 rfl (by decide) rfl (mt_Tape_readNumber (zl Z) E 0 5 M1) mRX7_47 ⟨by decide, by decide⟩ rfl rfl (Nat.le_of_ble_eq_true rfl) dX7_readTake_28 (fun r2 M3 => ?_)
    refine k_istore_n X [(2, .int r2), (0, .ref (ad E 1)), (1, .ref (ad E d1))] dX7_readTake_31 rfl (by decide) rfl ?_
    refine k_iload_n X 0 dX7_readTake_32 rfl rfl ?_
    refine k_ldc X w_393 dX7_readTake_33 ?_
    refine k_icmp_eq X 47 dX7_readTake_35 (by decide) ?_ ?_
    · refine k_iconst X (v := 0) dX7_readTake_47 (by decide) ?_
      exact k_zret X (by decide) dX7_readTake_48
    · refine k_aload_n X 1 dX7_readTake_38 rfl rfl ?_
      refine k_bipush X (v := 44) dX7_readTake_39 (by decide) ?_
      refine k_callVI X [.int 44] [] c_1 rfl (by decide) rfl (mt_Tape_pass (zl Z) E 44 M3) mRX7_37 ⟨by decide, by decide⟩ rfl rfl (Nat.le_of_ble_eq_true rfl) dX7_readTake_41 (fun r4 M5 => ?_)
      refine k_if_ne X 49 dX7_readTake_44 (by decide) ?_ ?_
      · refine k_aload_n X 1 dX7_readTake_49 rfl rfl ?_
        refine k_iconst X (v := 1) dX7_readTake_50 (by decide) ?_
        refine k_bipush X (v := 60) dX7_readTake_51 (by decide) ?_
        refine k_callVI X [.int 1, .int 60] [] c_1 rfl (by decide) rfl (mt_Tape_readNumber (zl Z) E 1 60 M5) mRX7_47 ⟨by decide, by decide⟩ rfl rfl (Nat.le_of_ble_eq_true rfl) dX7_readTake_53 (fun r6 M7 => ?_)
        refine k_istore_n X [(3, .int r6), (2, .int r2), (0, .ref (ad E 1)), (1, .ref (ad E d1))] dX7_readTake_56 rfl (by decide) rfl ?_
        refine k_iload_n X 0 dX7_readTake_57 rfl rfl ?_
        refine k_ldc X w_393 dX7_readTake_58 ?_
        refine k_icmp_eq X 72 dX7_readTake_60 (by decide) ?_ ?_
        · refine k_iconst X (v := 0) dX7_readTake_72 (by decide) ?_
          exact k_zret X (by decide) dX7_readTake_73
        · refine k_aload_n X 2 dX7_readTake_63 rfl rfl ?_
          refine k_bipush X (v := 59) dX7_readTake_64 (by decide) ?_
          refine k_callVI X [.int 59] [] c_1 rfl (by decide) rfl (mt_Tape_pass (zl Z) E 59 M7) mRX7_37 ⟨by decide, by decide⟩ rfl rfl (Nat.le_of_ble_eq_true rfl) dX7_readTake_66 (fun r8 M9 => ?_)
          refine k_if_ne X 74 dX7_readTake_69 (by decide) ?_ ?_
          · refine k_aload_n X 3 dX7_readTake_74 rfl rfl ?_
            refine k_iload_n X 1 dX7_readTake_75 rfl rfl ?_
            refine k_iload_n X 0 dX7_readTake_76 rfl rfl ?_
            refine k_callVI X [.int r2, .int r6] [] (day_C hd1) rfl (by decide) rfl (mt_Day_addTake (zl Z) E d1 r2 r6 hd1 M9) mRX7_83 ⟨by decide, by decide⟩ rfl rfl (Nat.le_of_ble_eq_true rfl) dX7_readTake_77 (fun r10 M11 => ?_)
            refine k_pop X dX7_readTake_80 rfl ?_
            refine k_iconst X (v := 1) dX7_readTake_81 (by decide) ?_
            exact k_zret X (by decide) dX7_readTake_82
          · refine k_iconst X (v := 0) dX7_readTake_72 (by decide) ?_
            exact k_zret X (by decide) dX7_readTake_73
      · refine k_iconst X (v := 0) dX7_readTake_47 (by decide) ?_
        exact k_zret X (by decide) dX7_readTake_48
  · refine k_aload_n X 0 dX7_readTake_9 rfl rfl ?_
    refine k_iconst X (v := 3) dX7_readTake_10 (by decide) ?_
    refine k_callVI X [.int 3] [] c_1 rfl (by decide) rfl (mt_Tape_refuse (zl Z) E 3 M) mRX7_71 ⟨by decide, by decide⟩ rfl rfl (Nat.le_of_ble_eq_true rfl) dX7_readTake_11 (fun r12 M13 => ?_)
    exact k_zretG X dX7_readTake_14
theorem mt_Tape_readTake (l : Launch) (E : En) (d1 : Nat) (hd1 : isDay d1) (M : Mem) : MI l E yX7_readTake cX7_readTake 4 (some .boolean) 3 68 [.ref (ad E 1), .ref (ad E d1)] M (j_Tape_readTake d1 M) := MI_of (by decide) (Nat.le_of_ble_eq_true rfl) (fun Z _ X => k_lv [0, 1] rfl (kw_Tape_readTake X d1 hd1 M))
-- FilmCans$Tape.readTakes
theorem kb_Tape_readTakes_b52 {Z : ZT} {E : En} (X : Cx Z E 3 cX7_readTakes RX7 (some .boolean) 4 91) (M : Mem) : Kj Z E 3 (QI Z E) (Tape_readTakes_b52 M) M 52 [] [] := by
  unfold Tape_readTakes_b52
  refine k_iconst X (v := 1) dX7_readTakes_52 (by decide) ?_
  refine k_goto X 57 dX7_readTakes_53 (by decide) ?_
  exact k_zret X (by decide) dX7_readTakes_57
theorem kb_Tape_readTakes_b33 {Z : ZT} {E : En} (X : Cx Z E 3 cX7_readTakes RX7 (some .boolean) 4 91) (M : Mem) : Kj Z E 3 (QI Z E) (Tape_readTakes_b33 M) M 33 [(0, .ref (ad E 1))] [] := by
  unfold Tape_readTakes_b33
  refine k_aload_n X 0 dX7_readTakes_33 rfl rfl ?_
  refine k_getI X c_1 fRX7_19 dX7_readTakes_34 ?_
  refine k_aload_n X 0 dX7_readTakes_37 rfl rfl ?_
  refine k_getI X c_1 fRX7_15 dX7_readTakes_38 ?_
  refine k_icmp_eq X 52 dX7_readTakes_41 (by decide) ?_ ?_
  · refine k_lv [] rfl ?_
    exact kb_Tape_readTakes_b52 X  M
  · refine k_aload_n X 0 dX7_readTakes_44 rfl rfl ?_
    refine k_iconst X (v := 1) dX7_readTakes_45 (by decide) ?_
    refine k_callVI X [.int 1] [] c_1 rfl (by decide) rfl (mt_Tape_refuse (zl Z) E 1 M) mRX7_71 ⟨by decide, by decide⟩ rfl rfl (Nat.le_of_ble_eq_true rfl) dX7_readTakes_46 (fun r2 M3 => ?_)
    refine k_if_eq X 56 dX7_readTakes_49 (by decide) ?_ ?_
    · refine k_iconst X (v := 0) dX7_readTakes_56 (by decide) ?_
      exact k_zret X (by decide) dX7_readTakes_57
    · refine k_lv [] rfl ?_
      exact kb_Tape_readTakes_b52 X  M3
theorem kb_Tape_readTakes_h2 {Z : ZT} {E : En} (X : Cx Z E 3 cX7_readTakes RX7 (some .boolean) 4 91)  : ∀ (n : Nat) (d1 : Nat) (x2 : Int32) (hd1 : isDay d1) (M : Mem), Kj Z E 3 (QI Z E) (Tape_readTakes_h2  n d1 x2 M) M 2 [(0, .ref (ad E 1)), (1, .ref (ad E d1)), (2, .int x2)] [] := by
  intro n
  induction n with
  | zero => intro d1 x2 hd1 M; exact k_none
  | succ n ih =>
    intro d1 x2 hd1 M
    rw [Tape_readTakes_h2]
    refine k_iload_n X 2 dX7_readTakes_2 rfl rfl ?_
    refine k_bipush X (v := 8) dX7_readTakes_3 (by decide) ?_
    refine k_icmp_gt X 33 dX7_readTakes_5 (by decide) ?_ ?_
    · refine k_lv [0] rfl ?_
      exact kb_Tape_readTakes_b33 X  M
    · refine k_aload_n X 0 dX7_readTakes_8 rfl rfl ?_
      refine k_callVI X [] [] c_1 rfl (by decide) rfl (mt_Tape_next (zl Z) E  M) mRX7_55 ⟨by decide, by decide⟩ rfl rfl (Nat.le_of_ble_eq_true rfl) dX7_readTakes_9 (fun r4 M5 => ?_)
      refine k_bipush X (v := 116) dX7_readTakes_12 (by decide) ?_
      refine k_icmp_ne X 33 dX7_readTakes_14 (by decide) ?_ ?_
      · refine k_lv [0] rfl ?_
        exact kb_Tape_readTakes_b33 X  M5
      · refine k_aload_n X 0 dX7_readTakes_17 rfl rfl ?_
        refine k_aload_n X 1 dX7_readTakes_18 rfl rfl ?_
        refine k_callVI X [.ref (ad E d1)] [] c_1 rfl (by decide) rfl (mt_Tape_readTake (zl Z) E d1 hd1 M5) mRX7_77 ⟨by decide, by decide⟩ rfl rfl (Nat.le_of_ble_eq_true rfl) dX7_readTakes_19 (fun r6 M7 => ?_)
        refine k_if_ne X 27 dX7_readTakes_22 (by decide) ?_ ?_
        · refine x_iinc X 1 2 [(0, .ref (ad E 1)), (1, .ref (ad E d1))] dX7_readTakes_27 rfl (by decide) (by decide) rfl (fun x8_ => ?_)
          refine k_goto X 2 dX7_readTakes_30 (by decide) ?_
          refine k_lv [1, 2, 0] rfl ?_
          exact ih d1 x8_ hd1 M7
        · refine k_iconst X (v := 0) dX7_readTakes_25 (by decide) ?_
          exact k_zret X (by decide) dX7_readTakes_26
theorem kw_Tape_readTakes {Z : ZT} {E : En} (X : Cx Z E 3 cX7_readTakes RX7 (some .boolean) 4 91) (d1 : Nat) (hd1 : isDay d1) (M : Mem) : Kj Z E 3 (QI Z E) (j_Tape_readTakes d1 M) M 0 [(0, .ref (ad E 1)), (1, .ref (ad E d1))] [] := by
  unfold j_Tape_readTakes
  refine k_iconst X (v := 0) dX7_readTakes_0 (by decide) ?_
  refine x_istore_n X [(0, .ref (ad E 1)), (1, .ref (ad E d1))] dX7_readTakes_1 rfl (by decide) rfl (fun x1_ => ?_)
  refine k_lv [1, 2, 0] rfl ?_
  exact kb_Tape_readTakes_h2 X  FU d1 x1_ hd1 M
theorem mt_Tape_readTakes (l : Launch) (E : En) (d1 : Nat) (hd1 : isDay d1) (M : Mem) : MI l E yX7_readTakes cX7_readTakes 3 (some .boolean) 4 91 [.ref (ad E 1), .ref (ad E d1)] M (j_Tape_readTakes d1 M) := MI_of (by decide) (Nat.le_of_ble_eq_true rfl) (fun Z _ X => k_lv [0, 1] rfl (kw_Tape_readTakes X d1 hd1 M))
-- FilmCans$Tape.readInto
theorem kb_Tape_readInto_b37 {Z : ZT} {E : En} (X : Cx Z E 3 cX7_readInto RX7 (some .boolean) 5 113) (M : Mem) : Kj Z E 3 (QI Z E) (Tape_readInto_b37 M) M 37 [(0, .ref (ad E 1))] [] := by
  unfold Tape_readInto_b37
  refine k_iconst X (v := 0) dX7_readInto_37 (by decide) ?_
  refine x_istore_n X [(0, .ref (ad E 1))] dX7_readInto_38 rfl (by decide) rfl (fun x6_ => ?_)
  refine k_aload_n X 1 dX7_readInto_39 rfl rfl ?_
  refine k_iconst X (v := 0) dX7_readInto_40 (by decide) ?_
  refine k_putI X c_1 fRX7_15 dX7_readInto_41 ?_
  refine k_sq (fun M7 => ?_)
  refine k_iload_n X 0 dX7_readInto_44 rfl rfl ?_
  exact k_zretG X dX7_readInto_45
theorem kw_Tape_readInto {Z : ZT} {E : En} (X : Cx Z E 3 cX7_readInto RX7 (some .boolean) 5 113) (d1 : Nat) (hd1 : isDay d1) (M : Mem) : Kj Z E 3 (QI Z E) (j_Tape_readInto d1 M) M 0 [(0, .ref (ad E 1)), (1, .ref (ad E d1))] [] := by
  unfold j_Tape_readInto
  refine k_aload_n X 0 dX7_readInto_0 rfl rfl ?_
  refine k_iconst X (v := 0) dX7_readInto_1 (by decide) ?_
  refine k_putI X c_1 fRX7_19 dX7_readInto_2 ?_
  refine k_sq (fun M1 => ?_)
  refine k_aload_n X 1 dX7_readInto_5 rfl rfl ?_
  refine k_callVV X [] [] (day_C hd1) rfl (by decide) rfl (mt_Day_clear (zl Z) E d1 hd1 M1) mRX7_22 ⟨by decide, by decide⟩ rfl rfl (Nat.le_of_ble_eq_true rfl) dX7_readInto_6 (fun _ M3 => ?_)
  refine k_aload_n X 0 dX7_readInto_9 rfl rfl ?_
  refine k_aload_n X 1 dX7_readInto_10 rfl rfl ?_
  refine k_callVI X [.ref (ad E d1)] [] c_1 rfl (by decide) rfl (mt_Tape_readLaws (zl Z) E d1 hd1 M3) mRX7_27 ⟨by decide, by decide⟩ rfl rfl (Nat.le_of_ble_eq_true rfl) dX7_readInto_11 (fun r4 M5 => ?_)
  refine k_if_eq X 37 dX7_readInto_14 (by decide) ?_ ?_
  · refine k_lv [0] rfl ?_
    exact kb_Tape_readInto_b37 X  M5
  · refine k_aload_n X 0 dX7_readInto_17 rfl rfl ?_
    refine k_aload_n X 1 dX7_readInto_18 rfl rfl ?_
    refine k_callVI X [.ref (ad E d1)] [] c_1 rfl (by decide) rfl (mt_Tape_readCans (zl Z) E d1 hd1 M5) mRX7_31 ⟨by decide, by decide⟩ rfl rfl (Nat.le_of_ble_eq_true rfl) dX7_readInto_19 (fun r8 M9 => ?_)
    refine k_if_eq X 37 dX7_readInto_22 (by decide) ?_ ?_
    · refine k_lv [0] rfl ?_
      exact kb_Tape_readInto_b37 X  M9
    · refine k_aload_n X 0 dX7_readInto_25 rfl rfl ?_
      refine k_aload_n X 1 dX7_readInto_26 rfl rfl ?_
      refine k_callVI X [.ref (ad E d1)] [] c_1 rfl (by decide) rfl (mt_Tape_readTakes (zl Z) E d1 hd1 M9) mRX7_34 ⟨by decide, by decide⟩ rfl rfl (Nat.le_of_ble_eq_true rfl) dX7_readInto_27 (fun r10 M11 => ?_)
      refine k_if_eq X 37 dX7_readInto_30 (by decide) ?_ ?_
      · refine k_lv [0] rfl ?_
        exact kb_Tape_readInto_b37 X  M11
      · refine k_iconst X (v := 1) dX7_readInto_33 (by decide) ?_
        refine k_goto X 38 dX7_readInto_34 (by decide) ?_
        refine x_istore_n X [(0, .ref (ad E 1)), (1, .ref (ad E d1))] dX7_readInto_38 rfl (by decide) rfl (fun x12_ => ?_)
        refine k_aload_n X 1 dX7_readInto_39 rfl rfl ?_
        refine k_iconst X (v := 0) dX7_readInto_40 (by decide) ?_
        refine k_putI X c_1 fRX7_15 dX7_readInto_41 ?_
        refine k_sq (fun M13 => ?_)
        refine k_iload_n X 0 dX7_readInto_44 rfl rfl ?_
        exact k_zretG X dX7_readInto_45
theorem mt_Tape_readInto (l : Launch) (E : En) (d1 : Nat) (hd1 : isDay d1) (M : Mem) : MI l E yX7_readInto cX7_readInto 3 (some .boolean) 5 113 [.ref (ad E 1), .ref (ad E d1)] M (j_Tape_readInto d1 M) := MI_of (by decide) (Nat.le_of_ble_eq_true rfl) (fun Z _ X => k_lv [0, 1] rfl (kw_Tape_readInto X d1 hd1 M))
-- FilmCans$Day.copyFrom
theorem kw_Day_copyFrom {Z : ZT} {E : En} (X : Cx Z E 2 cX1_copyFrom RX1 none 1 26) (d0 : Nat) (d1 : Nat) (hd0 : isDay d0) (hd1 : isDay d1) (M : Mem) : Kj Z E 2 (QV Z E) (j_Day_copyFrom d0 d1 M) M 0 [(0, .ref (ad E d0)), (1, .ref (ad E d1))] [] := by
  unfold j_Day_copyFrom
  refine k_aload_n X 0 dX1_copyFrom_0 rfl rfl ?_
  refine k_aload_n X 1 dX1_copyFrom_1 rfl rfl ?_
  refine k_getI X (day_C hd1) fRX1_50 dX1_copyFrom_2 ?_
  refine k_putI X (day_C hd0) fRX1_50 dX1_copyFrom_5 ?_
  refine k_sq (fun M1 => ?_)
  refine k_aload_n X 0 dX1_copyFrom_8 rfl rfl ?_
  refine k_aload_n X 1 dX1_copyFrom_9 rfl rfl ?_
  refine k_getI X (day_C hd1) fRX1_53 dX1_copyFrom_10 ?_
  refine k_putI X (day_C hd0) fRX1_53 dX1_copyFrom_13 ?_
  refine k_sq (fun M2 => ?_)
  refine k_aload_n X 0 dX1_copyFrom_16 rfl rfl ?_
  refine k_aload_n X 1 dX1_copyFrom_17 rfl rfl ?_
  refine k_getI X (day_C hd1) fRX1_56 dX1_copyFrom_18 ?_
  refine k_putI X (day_C hd0) fRX1_56 dX1_copyFrom_21 ?_
  refine k_sq (fun M3 => ?_)
  refine k_aload_n X 0 dX1_copyFrom_24 rfl rfl ?_
  refine k_aload_n X 1 dX1_copyFrom_25 rfl rfl ?_
  refine k_getI X (day_C hd1) fRX1_10 dX1_copyFrom_26 ?_
  refine k_putI X (day_C hd0) fRX1_10 dX1_copyFrom_29 ?_
  refine k_sq (fun M4 => ?_)
  refine k_aload_n X 0 dX1_copyFrom_32 rfl rfl ?_
  refine k_aload_n X 1 dX1_copyFrom_33 rfl rfl ?_
  refine k_getI X (day_C hd1) fRX1_59 dX1_copyFrom_34 ?_
  refine k_putI X (day_C hd0) fRX1_59 dX1_copyFrom_37 ?_
  refine k_sq (fun M5 => ?_)
  refine k_aload_n X 0 dX1_copyFrom_40 rfl rfl ?_
  refine k_aload_n X 1 dX1_copyFrom_41 rfl rfl ?_
  refine k_getI X (day_C hd1) fRX1_62 dX1_copyFrom_42 ?_
  refine k_putI X (day_C hd0) fRX1_62 dX1_copyFrom_45 ?_
  refine k_sq (fun M6 => ?_)
  refine k_aload_n X 0 dX1_copyFrom_48 rfl rfl ?_
  refine k_aload_n X 1 dX1_copyFrom_49 rfl rfl ?_
  refine k_getI X (day_C hd1) fRX1_65 dX1_copyFrom_50 ?_
  refine k_putI X (day_C hd0) fRX1_65 dX1_copyFrom_53 ?_
  refine k_sq (fun M7 => ?_)
  refine k_aload_n X 0 dX1_copyFrom_56 rfl rfl ?_
  refine k_aload_n X 1 dX1_copyFrom_57 rfl rfl ?_
  refine k_getI X (day_C hd1) fRX1_68 dX1_copyFrom_58 ?_
  refine k_putI X (day_C hd0) fRX1_68 dX1_copyFrom_61 ?_
  refine k_sq (fun M8 => ?_)
  refine k_aload_n X 0 dX1_copyFrom_64 rfl rfl ?_
  refine k_aload_n X 1 dX1_copyFrom_65 rfl rfl ?_
  refine k_getI X (day_C hd1) fRX1_71 dX1_copyFrom_66 ?_
  refine k_putI X (day_C hd0) fRX1_71 dX1_copyFrom_69 ?_
  refine k_sq (fun M9 => ?_)
  refine k_aload_n X 1 dX1_copyFrom_72 rfl rfl ?_
  refine k_getR X (day_C hd1) fRX1_16 (day_R1 hd1) dX1_copyFrom_73 ?_
  refine k_iconst X (v := 0) dX1_copyFrom_76 (by decide) ?_
  refine k_aload_n X 0 dX1_copyFrom_77 rfl rfl ?_
  refine k_getR X (day_C hd0) fRX1_16 (day_R1 hd0) dX1_copyFrom_78 ?_
  refine k_iconst X (v := 0) dX1_copyFrom_81 (by decide) ?_
  refine k_iconst X (v := 4) dX1_copyFrom_82 (by decide) ?_
  refine k_copy X 0 0 4 w_443 w_445 w_444 w_76 (day_A1 hd1) (day_A1 hd0) (day_L1 hd1) (day_L1 hd0) (by decide) (by decide) (by decide) (by decide) (by decide) (by decide) (by decide) (by decide) (by decide) (Nat.le_of_ble_eq_true rfl) dX1_copyFrom_83 ?_
  refine k_sq (fun M10 => ?_)
  refine k_aload_n X 1 dX1_copyFrom_86 rfl rfl ?_
  refine k_getR X (day_C hd1) fRX1_20 (day_R2 hd1) dX1_copyFrom_87 ?_
  refine k_iconst X (v := 0) dX1_copyFrom_90 (by decide) ?_
  refine k_aload_n X 0 dX1_copyFrom_91 rfl rfl ?_
  refine k_getR X (day_C hd0) fRX1_20 (day_R2 hd0) dX1_copyFrom_92 ?_
  refine k_iconst X (v := 0) dX1_copyFrom_95 (by decide) ?_
  refine k_bipush X (v := 6) dX1_copyFrom_96 (by decide) ?_
  refine k_copy X 0 0 6 w_443 w_445 w_444 w_76 (day_A2 hd1) (day_A2 hd0) (day_L2 hd1) (day_L2 hd0) (by decide) (by decide) (by decide) (by decide) (by decide) (by decide) (by decide) (by decide) (by decide) (Nat.le_of_ble_eq_true rfl) dX1_copyFrom_98 ?_
  refine k_sq (fun M11 => ?_)
  refine k_aload_n X 1 dX1_copyFrom_101 rfl rfl ?_
  refine k_getR X (day_C hd1) fRX1_23 (day_R3 hd1) dX1_copyFrom_102 ?_
  refine k_iconst X (v := 0) dX1_copyFrom_105 (by decide) ?_
  refine k_aload_n X 0 dX1_copyFrom_106 rfl rfl ?_
  refine k_getR X (day_C hd0) fRX1_23 (day_R3 hd0) dX1_copyFrom_107 ?_
  refine k_iconst X (v := 0) dX1_copyFrom_110 (by decide) ?_
  refine k_bipush X (v := 6) dX1_copyFrom_111 (by decide) ?_
  refine k_copy X 0 0 6 w_443 w_445 w_444 w_76 (day_A3 hd1) (day_A3 hd0) (day_L3 hd1) (day_L3 hd0) (by decide) (by decide) (by decide) (by decide) (by decide) (by decide) (by decide) (by decide) (by decide) (Nat.le_of_ble_eq_true rfl) dX1_copyFrom_113 ?_
  refine k_sq (fun M12 => ?_)
  refine k_aload_n X 1 dX1_copyFrom_116 rfl rfl ?_
  refine k_getR X (day_C hd1) fRX1_26 (day_R4 hd1) dX1_copyFrom_117 ?_
  refine k_iconst X (v := 0) dX1_copyFrom_120 (by decide) ?_
  refine k_aload_n X 0 dX1_copyFrom_121 rfl rfl ?_
  refine k_getR X (day_C hd0) fRX1_26 (day_R4 hd0) dX1_copyFrom_122 ?_
  refine k_iconst X (v := 0) dX1_copyFrom_125 (by decide) ?_
  refine k_bipush X (v := 6) dX1_copyFrom_126 (by decide) ?_
  refine k_copy X 0 0 6 w_443 w_445 w_444 w_76 (day_A4 hd1) (day_A4 hd0) (day_L4 hd1) (day_L4 hd0) (by decide) (by decide) (by decide) (by decide) (by decide) (by decide) (by decide) (by decide) (by decide) (Nat.le_of_ble_eq_true rfl) dX1_copyFrom_128 ?_
  refine k_sq (fun M13 => ?_)
  refine k_aload_n X 1 dX1_copyFrom_131 rfl rfl ?_
  refine k_getR X (day_C hd1) fRX1_29 (day_R5 hd1) dX1_copyFrom_132 ?_
  refine k_iconst X (v := 0) dX1_copyFrom_135 (by decide) ?_
  refine k_aload_n X 0 dX1_copyFrom_136 rfl rfl ?_
  refine k_getR X (day_C hd0) fRX1_29 (day_R5 hd0) dX1_copyFrom_137 ?_
  refine k_iconst X (v := 0) dX1_copyFrom_140 (by decide) ?_
  refine k_bipush X (v := 6) dX1_copyFrom_141 (by decide) ?_
  refine k_copy X 0 0 6 w_443 w_445 w_444 w_76 (day_A5 hd1) (day_A5 hd0) (day_L5 hd1) (day_L5 hd0) (by decide) (by decide) (by decide) (by decide) (by decide) (by decide) (by decide) (by decide) (by decide) (Nat.le_of_ble_eq_true rfl) dX1_copyFrom_143 ?_
  refine k_sq (fun M14 => ?_)
  refine k_aload_n X 1 dX1_copyFrom_146 rfl rfl ?_
  refine k_getR X (day_C hd1) fRX1_32 (day_R6 hd1) dX1_copyFrom_147 ?_
  refine k_iconst X (v := 0) dX1_copyFrom_150 (by decide) ?_
  refine k_aload_n X 0 dX1_copyFrom_151 rfl rfl ?_
  refine k_getR X (day_C hd0) fRX1_32 (day_R6 hd0) dX1_copyFrom_152 ?_
  refine k_iconst X (v := 0) dX1_copyFrom_155 (by decide) ?_
  refine k_bipush X (v := 8) dX1_copyFrom_156 (by decide) ?_
  refine k_copy X 0 0 8 w_443 w_445 w_444 w_76 (day_A6 hd1) (day_A6 hd0) (day_L6 hd1) (day_L6 hd0) (by decide) (by decide) (by decide) (by decide) (by decide) (by decide) (by decide) (by decide) (by decide) (Nat.le_of_ble_eq_true rfl) dX1_copyFrom_158 ?_
  refine k_sq (fun M15 => ?_)
  refine k_aload_n X 1 dX1_copyFrom_161 rfl rfl ?_
  refine k_getR X (day_C hd1) fRX1_35 (day_R7 hd1) dX1_copyFrom_162 ?_
  refine k_iconst X (v := 0) dX1_copyFrom_165 (by decide) ?_
  refine k_aload_n X 0 dX1_copyFrom_166 rfl rfl ?_
  refine k_getR X (day_C hd0) fRX1_35 (day_R7 hd0) dX1_copyFrom_167 ?_
  refine k_iconst X (v := 0) dX1_copyFrom_170 (by decide) ?_
  refine k_bipush X (v := 8) dX1_copyFrom_171 (by decide) ?_
  refine k_copy X 0 0 8 w_443 w_445 w_444 w_76 (day_A7 hd1) (day_A7 hd0) (day_L7 hd1) (day_L7 hd0) (by decide) (by decide) (by decide) (by decide) (by decide) (by decide) (by decide) (by decide) (by decide) (Nat.le_of_ble_eq_true rfl) dX1_copyFrom_173 ?_
  refine k_sq (fun M16 => ?_)
  refine k_aload_n X 1 dX1_copyFrom_176 rfl rfl ?_
  refine k_getR X (day_C hd1) fRX1_38 (day_R8 hd1) dX1_copyFrom_177 ?_
  refine k_iconst X (v := 0) dX1_copyFrom_180 (by decide) ?_
  refine k_aload_n X 0 dX1_copyFrom_181 rfl rfl ?_
  refine k_getR X (day_C hd0) fRX1_38 (day_R8 hd0) dX1_copyFrom_182 ?_
  refine k_iconst X (v := 0) dX1_copyFrom_185 (by decide) ?_
  refine k_bipush X (v := 8) dX1_copyFrom_186 (by decide) ?_
  refine k_copy X 0 0 8 w_443 w_445 w_444 w_76 (day_A8 hd1) (day_A8 hd0) (day_L8 hd1) (day_L8 hd0) (by decide) (by decide) (by decide) (by decide) (by decide) (by decide) (by decide) (by decide) (by decide) (Nat.le_of_ble_eq_true rfl) dX1_copyFrom_188 ?_
  refine k_sq (fun M17 => ?_)
  refine k_aload_n X 1 dX1_copyFrom_191 rfl rfl ?_
  refine k_getR X (day_C hd1) fRX1_41 (day_R9 hd1) dX1_copyFrom_192 ?_
  refine k_iconst X (v := 0) dX1_copyFrom_195 (by decide) ?_
  refine k_aload_n X 0 dX1_copyFrom_196 rfl rfl ?_
  refine k_getR X (day_C hd0) fRX1_41 (day_R9 hd0) dX1_copyFrom_197 ?_
  refine k_iconst X (v := 0) dX1_copyFrom_200 (by decide) ?_
  refine k_bipush X (v := 8) dX1_copyFrom_201 (by decide) ?_
  refine k_copy X 0 0 8 w_443 w_445 w_444 w_76 (day_A9 hd1) (day_A9 hd0) (day_L9 hd1) (day_L9 hd0) (by decide) (by decide) (by decide) (by decide) (by decide) (by decide) (by decide) (by decide) (by decide) (Nat.le_of_ble_eq_true rfl) dX1_copyFrom_203 ?_
  refine k_sq (fun M18 => ?_)
  refine k_aload_n X 1 dX1_copyFrom_206 rfl rfl ?_
  refine k_getR X (day_C hd1) fRX1_44 (day_R10 hd1) dX1_copyFrom_207 ?_
  refine k_iconst X (v := 0) dX1_copyFrom_210 (by decide) ?_
  refine k_aload_n X 0 dX1_copyFrom_211 rfl rfl ?_
  refine k_getR X (day_C hd0) fRX1_44 (day_R10 hd0) dX1_copyFrom_212 ?_
  refine k_iconst X (v := 0) dX1_copyFrom_215 (by decide) ?_
  refine k_bipush X (v := 8) dX1_copyFrom_216 (by decide) ?_
  refine k_copy X 0 0 8 w_443 w_445 w_444 w_76 (day_A10 hd1) (day_A10 hd0) (day_L10 hd1) (day_L10 hd0) (by decide) (by decide) (by decide) (by decide) (by decide) (by decide) (by decide) (by decide) (by decide) (Nat.le_of_ble_eq_true rfl) dX1_copyFrom_218 ?_
  refine k_sq (fun M19 => ?_)
  refine k_aload_n X 1 dX1_copyFrom_221 rfl rfl ?_
  refine k_getR X (day_C hd1) fRX1_47 (day_R11 hd1) dX1_copyFrom_222 ?_
  refine k_iconst X (v := 0) dX1_copyFrom_225 (by decide) ?_
  refine k_aload_n X 0 dX1_copyFrom_226 rfl rfl ?_
  refine k_getR X (day_C hd0) fRX1_47 (day_R11 hd0) dX1_copyFrom_227 ?_
  refine k_iconst X (v := 0) dX1_copyFrom_230 (by decide) ?_
  refine k_bipush X (v := 8) dX1_copyFrom_231 (by decide) ?_
  refine k_copy X 0 0 8 w_443 w_445 w_444 w_76 (day_A11 hd1) (day_A11 hd0) (day_L11 hd1) (day_L11 hd0) (by decide) (by decide) (by decide) (by decide) (by decide) (by decide) (by decide) (by decide) (by decide) (Nat.le_of_ble_eq_true rfl) dX1_copyFrom_233 ?_
  refine k_sq (fun M20 => ?_)
  exact k_vret X dX1_copyFrom_236
theorem mt_Day_copyFrom (l : Launch) (E : En) (d0 : Nat) (d1 : Nat) (hd0 : isDay d0) (hd1 : isDay d1) (M : Mem) : MV l E yX1_copyFrom cX1_copyFrom 2 none 1 26 [.ref (ad E d0), .ref (ad E d1)] M (j_Day_copyFrom d0 d1 M) := MV_of (by decide) (Nat.le_of_ble_eq_true rfl) (fun Z _ X => k_lv [0, 1] rfl (kw_Day_copyFrom X d0 d1 hd0 hd1 M))
-- FilmCans$History.forget
theorem kw_Hist_forget {Z : ZT} {E : En} (X : Cx Z E 1 cX2_forget RX2 none 0 0) (M : Mem) : Kj Z E 1 (QV Z E) (j_Hist_forget M) M 0 [(0, .ref (ad E 27))] [] := by
  unfold j_Hist_forget
  refine k_aload_n X 0 dX2_forget_0 rfl rfl ?_
  refine k_iconst X (v := 0) dX2_forget_1 (by decide) ?_
  refine k_putI X c_27 fRX2_26 dX2_forget_2 ?_
  refine k_sq (fun M1 => ?_)
  exact k_vret X dX2_forget_5
theorem mt_Hist_forget (l : Launch) (E : En) (M : Mem) : MV l E yX2_forget cX2_forget 1 none 0 0 [.ref (ad E 27)] M (j_Hist_forget M) := MV_of (by decide) (Nat.le_of_ble_eq_true rfl) (fun Z _ X => k_lv [0] rfl (kw_Hist_forget X M))
-- FilmCans.book
theorem kw_Fc_book {Z : ZT} {E : En} (X : Cx Z E 1 cX8_book RX8 (some .int) 6 135) (M : Mem) : Kj Z E 1 (QI Z E) (j_Fc_book M) M 0 [(0, .ref (ad E 0))] [] := by
  unfold j_Fc_book
  refine k_aload_n X 0 dX8_book_0 rfl rfl ?_
  refine k_getR X c_0 fRX8_10 r_0_0 dX8_book_1 ?_
  refine k_aload_n X 0 dX8_book_4 rfl rfl ?_
  refine k_getR X c_0 fRX8_23 r_0_2 dX8_book_5 ?_
  refine k_callVI X [.ref (ad E 15)] [] c_1 rfl (by decide) rfl (mt_Tape_readInto (zl Z) E 15 day_15 M) mRX8_75 ⟨by decide, by decide⟩ rfl rfl (Nat.le_of_ble_eq_true rfl) dX8_book_8 (fun r1 M2 => ?_)
  refine k_if_ne X 25 dX8_book_11 (by decide) ?_ ?_
  · refine k_aload_n X 0 dX8_book_25 rfl rfl ?_
    refine k_getR X c_0 fRX8_19 r_0_1 dX8_book_26 ?_
    refine k_aload_n X 0 dX8_book_29 rfl rfl ?_
    refine k_getR X c_0 fRX8_23 r_0_2 dX8_book_30 ?_
    refine k_callVV X [.ref (ad E 15)] [] c_3 rfl (by decide) rfl (mt_Day_copyFrom (zl Z) E 3 15 day_3 day_15 M2) mRX8_83 ⟨by decide, by decide⟩ rfl rfl (Nat.le_of_ble_eq_true rfl) dX8_book_33 (fun _ M4 => ?_)
    refine k_aload_n X 0 dX8_book_36 rfl rfl ?_
    refine k_getR X c_0 fRX8_29 r_0_3 dX8_book_37 ?_
    refine k_callVV X [] [] c_27 rfl (by decide) rfl (mt_Hist_forget (zl Z) E  M4) mRX8_87 ⟨by decide, by decide⟩ rfl rfl (Nat.le_of_ble_eq_true rfl) dX8_book_40 (fun _ M6 => ?_)
    refine k_aload_n X 0 dX8_book_43 rfl rfl ?_
    refine k_getR X c_0 fRX8_19 r_0_1 dX8_book_44 ?_
    refine k_getI X c_3 fRX8_90 dX8_book_47 ?_
    exact k_iret X dX8_book_50
  · refine k_ldc X w_438 dX8_book_14 ?_
    refine k_aload_n X 0 dX8_book_16 rfl rfl ?_
    refine k_getR X c_0 fRX8_10 r_0_0 dX8_book_17 ?_
    refine k_getI X c_1 fRX8_80 dX8_book_20 ?_
    refine k_isub X dX8_book_23 ?_
    exact k_iret X dX8_book_24
theorem mt_Fc_book (l : Launch) (E : En) (M : Mem) : MI l E yX8_book cX8_book 1 (some .int) 6 135 [.ref (ad E 0)] M (j_Fc_book M) := MI_of (by decide) (Nat.le_of_ble_eq_true rfl) (fun Z _ X => k_lv [0] rfl (kw_Fc_book X M))
-- FilmCans.fault
theorem kw_Fc_fault {Z : ZT} {E : En} (X : Cx Z E 1 cX8_fault RX8 (some .int) 0 0) (M : Mem) : Kj Z E 1 (QI Z E) (j_Fc_fault M) M 0 [(0, .ref (ad E 0))] [] := by
  unfold j_Fc_fault
  refine k_aload_n X 0 dX8_fault_0 rfl rfl ?_
  refine k_getR X c_0 fRX8_10 r_0_0 dX8_fault_1 ?_
  refine k_getI X c_1 fRX8_93 dX8_fault_4 ?_
  exact k_iret X dX8_fault_7
theorem mt_Fc_fault (l : Launch) (E : En) (M : Mem) : MI l E yX8_fault cX8_fault 1 (some .int) 0 0 [.ref (ad E 0)] M (j_Fc_fault M) := MI_of (by decide) (Nat.le_of_ble_eq_true rfl) (fun Z _ X => k_lv [0] rfl (kw_Fc_fault X M))
-- FilmCans$History.stepBack
theorem kb_Hist_stepBack_b28 {Z : ZT} {E : En} (X : Cx Z E 2 cX2_stepBack RX2 (some .boolean) 2 47) (d1 : Nat) (xs0 : Int32) (hd1 : isDay d1) (M : Mem) : Kj Z E 2 (QI Z E) (Hist_stepBack_b28 d1 xs0 M) M 28 [(0, .ref (ad E 27)), (1, .ref (ad E d1))] [.int xs0, .ref (ad E 27)] := by
  unfold Hist_stepBack_b28
  refine k_putI X c_27 fRX2_18 dX2_stepBack_28 ?_
  refine k_sq (fun M1 => ?_)
  refine k_aload_n X 0 dX2_stepBack_31 rfl rfl ?_
  refine k_dup X dX2_stepBack_32 rfl ?_
  refine k_getI X c_27 fRX2_26 dX2_stepBack_33 ?_
  refine k_iconst X (v := 1) dX2_stepBack_36 (by decide) ?_
  refine k_isub X dX2_stepBack_37 ?_
  refine k_putI X c_27 fRX2_26 dX2_stepBack_38 ?_
  refine k_sq (fun M2 => ?_)
  refine k_aload_n X 1 dX2_stepBack_41 rfl rfl ?_
  refine k_aload_n X 0 dX2_stepBack_42 rfl rfl ?_
  refine k_getR X c_27 fRX2_11 r_27_0 dX2_stepBack_43 ?_
  refine k_aload_n X 0 dX2_stepBack_46 rfl rfl ?_
  refine k_getI X c_27 fRX2_18 dX2_stepBack_47 ?_
  refine k_aaldY X (f := fun j => 29 + 12 * j) c_28 l_28 ring_rf dX2_stepBack_50 (fun hb3 => ?_)
  refine k_callVV X [.ref (ad E (29 + 12 * ix (gi M2 27 1)))] [] (day_C hd1) rfl (by decide) rfl (mt_Day_copyFrom (zl Z) E d1 (29 + 12 * ix (gi M2 27 1)) hd1 (ring_day hb3) M2) mRX2_22 ⟨by decide, by decide⟩ rfl rfl (Nat.le_of_ble_eq_true rfl) dX2_stepBack_51 (fun _ M5 => ?_)
  refine k_iconst X (v := 1) dX2_stepBack_54 (by decide) ?_
  exact k_zret X (by decide) dX2_stepBack_55
theorem kw_Hist_stepBack {Z : ZT} {E : En} (X : Cx Z E 2 cX2_stepBack RX2 (some .boolean) 2 47) (d1 : Nat) (hd1 : isDay d1) (M : Mem) : Kj Z E 2 (QI Z E) (j_Hist_stepBack d1 M) M 0 [(0, .ref (ad E 27)), (1, .ref (ad E d1))] [] := by
  unfold j_Hist_stepBack
  refine k_aload_n X 0 dX2_stepBack_0 rfl rfl ?_
  refine k_getI X c_27 fRX2_26 dX2_stepBack_1 ?_
  refine k_if_ne X 9 dX2_stepBack_4 (by decide) ?_ ?_
  · refine k_aload_n X 0 dX2_stepBack_9 rfl rfl ?_
    refine k_aload_n X 0 dX2_stepBack_10 rfl rfl ?_
    refine k_getI X c_27 fRX2_18 dX2_stepBack_11 ?_
    refine k_if_le X 26 dX2_stepBack_14 (by decide) ?_ ?_
    · refine k_bipush X (v := 19) dX2_stepBack_26 (by decide) ?_
      refine k_lv [0, 1] rfl ?_
      exact kb_Hist_stepBack_b28 X  d1 19 hd1 M
    · refine k_aload_n X 0 dX2_stepBack_17 rfl rfl ?_
      refine k_getI X c_27 fRX2_18 dX2_stepBack_18 ?_
      refine k_iconst X (v := 1) dX2_stepBack_21 (by decide) ?_
      refine k_isub X dX2_stepBack_22 ?_
      refine k_goto X 28 dX2_stepBack_23 (by decide) ?_
      refine k_lv [0, 1] rfl ?_
      exact kb_Hist_stepBack_b28 X  d1 ((gi M 27 1) - 1) hd1 M
  · refine k_iconst X (v := 0) dX2_stepBack_7 (by decide) ?_
    exact k_zret X (by decide) dX2_stepBack_8
theorem mt_Hist_stepBack (l : Launch) (E : En) (d1 : Nat) (hd1 : isDay d1) (M : Mem) : MI l E yX2_stepBack cX2_stepBack 2 (some .boolean) 2 47 [.ref (ad E 27), .ref (ad E d1)] M (j_Hist_stepBack d1 M) := MI_of (by decide) (Nat.le_of_ble_eq_true rfl) (fun Z _ X => k_lv [0, 1] rfl (kw_Hist_stepBack X d1 hd1 M))
-- FilmCans.undo
theorem kw_Fc_undo {Z : ZT} {E : En} (X : Cx Z E 1 cX8_undo RX8 (some .int) 3 68) (M : Mem) : Kj Z E 1 (QI Z E) (j_Fc_undo M) M 0 [(0, .ref (ad E 0))] [] := by
  unfold j_Fc_undo
  refine k_aload_n X 0 dX8_undo_0 rfl rfl ?_
  refine k_getR X c_0 fRX8_29 r_0_3 dX8_undo_1 ?_
  refine k_aload_n X 0 dX8_undo_4 rfl rfl ?_
  refine k_getR X c_0 fRX8_19 r_0_1 dX8_undo_5 ?_
  refine k_callVI X [.ref (ad E 3)] [] c_27 rfl (by decide) rfl (mt_Hist_stepBack (zl Z) E 3 day_3 M) mRX8_96 ⟨by decide, by decide⟩ rfl rfl (Nat.le_of_ble_eq_true rfl) dX8_undo_8 (fun r1 M2 => ?_)
  refine k_if_eq X 24 dX8_undo_11 (by decide) ?_ ?_
  · refine k_ldc X w_463 dX8_undo_24 ?_
    exact k_iret X dX8_undo_26
  · refine k_aload_n X 0 dX8_undo_14 rfl rfl ?_
    refine k_getR X c_0 fRX8_29 r_0_3 dX8_undo_15 ?_
    refine k_getI X c_27 fRX8_99 dX8_undo_18 ?_
    refine k_goto X 26 dX8_undo_21 (by decide) ?_
    exact k_iret X dX8_undo_26
theorem mt_Fc_undo (l : Launch) (E : En) (M : Mem) : MI l E yX8_undo cX8_undo 1 (some .int) 3 68 [.ref (ad E 0)] M (j_Fc_undo M) := MI_of (by decide) (Nat.le_of_ble_eq_true rfl) (fun Z _ X => k_lv [0] rfl (kw_Fc_undo X M))
-- FilmCans$Day.hasCan
theorem kw_Day_hasCan {Z : ZT} {E : En} (X : Cx Z E 2 cX1_hasCan RX1 (some .boolean) 0 0) (d0 : Nat) (x1 : Int32) (hd0 : isDay d0) (M : Mem) : Kj Z E 2 (QI Z E) (j_Day_hasCan d0 x1 M) M 0 [(0, .ref (ad E d0)), (1, .int x1)] [] := by
  unfold j_Day_hasCan
  refine k_iload_n X 1 dX1_hasCan_0 rfl rfl ?_
  refine k_if_lt X 16 dX1_hasCan_1 (by decide) ?_ ?_
  · refine k_iconst X (v := 0) dX1_hasCan_16 (by decide) ?_
    exact k_zret X (by decide) dX1_hasCan_17
  · refine k_iload_n X 1 dX1_hasCan_4 rfl rfl ?_
    refine k_aload_n X 0 dX1_hasCan_5 rfl rfl ?_
    refine k_getI X (day_C hd0) fRX1_50 dX1_hasCan_6 ?_
    refine k_icmp_ge X 16 dX1_hasCan_9 (by decide) ?_ ?_
    · refine k_iconst X (v := 0) dX1_hasCan_16 (by decide) ?_
      exact k_zret X (by decide) dX1_hasCan_17
    · refine k_iconst X (v := 1) dX1_hasCan_12 (by decide) ?_
      refine k_goto X 17 dX1_hasCan_13 (by decide) ?_
      exact k_zret X (by decide) dX1_hasCan_17
theorem mt_Day_hasCan (l : Launch) (E : En) (d0 : Nat) (x1 : Int32) (hd0 : isDay d0) (M : Mem) : MI l E yX1_hasCan cX1_hasCan 2 (some .boolean) 0 0 [.ref (ad E d0), .int x1] M (j_Day_hasCan d0 x1 M) := MI_of (by decide) (Nat.le_of_ble_eq_true rfl) (fun Z _ X => k_lv [0, 1] rfl (kw_Day_hasCan X d0 x1 hd0 M))
-- FilmCans$Kinds.isKind
theorem kw_Kinds_isKind {Z : ZT} {E : En} (X : Cx Z E 1 cX3_isKind RX3 (some .boolean) 0 0) (x0 : Int32) (M : Mem) : Kj Z E 1 (QI Z E) (j_Kinds_isKind x0 M) M 0 [(0, .int x0)] [] := by
  unfold j_Kinds_isKind
  refine k_iload_n X 0 dX3_isKind_0 rfl rfl ?_
  refine k_if_lt X 16 dX3_isKind_1 (by decide) ?_ ?_
  · refine k_iconst X (v := 0) dX3_isKind_16 (by decide) ?_
    exact k_zret X (by decide) dX3_isKind_17
  · refine k_iload_n X 0 dX3_isKind_4 rfl rfl ?_
    refine k_gets2 X w_486 dX3_isKind_5 ?_
    refine k_stlen2 X dX3_isKind_8 ?_
    refine k_icmp_ge X 16 dX3_isKind_9 (by decide) ?_ ?_
    · refine k_iconst X (v := 0) dX3_isKind_16 (by decide) ?_
      exact k_zret X (by decide) dX3_isKind_17
    · refine k_iconst X (v := 1) dX3_isKind_12 (by decide) ?_
      refine k_goto X 17 dX3_isKind_13 (by decide) ?_
      exact k_zret X (by decide) dX3_isKind_17
theorem mt_Kinds_isKind (l : Launch) (E : En) (x0 : Int32) (M : Mem) : MI l E yX3_isKind cX3_isKind 1 (some .boolean) 0 0 [.int x0] M (j_Kinds_isKind x0 M) := MI_of (by decide) (Nat.le_of_ble_eq_true rfl) (fun Z _ X => k_lv [0] rfl (kw_Kinds_isKind X x0 M))
-- FilmCans$Kinds.isOf
theorem kw_Kinds_isOf {Z : ZT} {E : En} (X : Cx Z E 2 cX3_isOf RX3 (some .boolean) 1 20) (x0 : Int32) (x1 : Int32) (M : Mem) : Kj Z E 2 (QI Z E) (j_Kinds_isOf x0 x1 M) M 0 [(0, .int x0), (1, .int x1)] [] := by
  unfold j_Kinds_isOf
  refine k_iload_n X 0 dX3_isOf_0 rfl rfl ?_
  refine k_callSI X [.int x0] [] (mt_Kinds_isKind (zl Z) E x0 M) mRX3_15 ⟨by decide, by decide⟩ rfl rfl (Nat.le_of_ble_eq_true rfl) dX3_isOf_1 (fun r1 M2 => ?_)
  refine k_if_eq X 31 dX3_isOf_4 (by decide) ?_ ?_
  · refine k_iconst X (v := 0) dX3_isOf_31 (by decide) ?_
    exact k_zret X (by decide) dX3_isOf_32
  · refine k_iload_n X 1 dX3_isOf_7 rfl rfl ?_
    refine k_callSI X [.int x1] [] (mt_Kinds_isKind (zl Z) E x1 M2) mRX3_15 ⟨by decide, by decide⟩ rfl rfl (Nat.le_of_ble_eq_true rfl) dX3_isOf_8 (fun r3 M4 => ?_)
    refine k_if_eq X 31 dX3_isOf_11 (by decide) ?_ ?_
    · refine k_iconst X (v := 0) dX3_isOf_31 (by decide) ?_
      exact k_zret X (by decide) dX3_isOf_32
    · refine k_gets2 X w_486 dX3_isOf_14 ?_
      refine k_iload_n X 0 dX3_isOf_17 rfl rfl ?_
      refine k_st2 X dX3_isOf_18 (fun hb5 => ?_)
      refine k_iload_n X 1 dX3_isOf_19 rfl rfl ?_
      refine k_ishr X dX3_isOf_20 ?_
      refine k_iconst X (v := 1) dX3_isOf_21 (by decide) ?_
      refine k_iand X dX3_isOf_22 ?_
      refine k_iconst X (v := 1) dX3_isOf_23 (by decide) ?_
      refine k_icmp_ne X 31 dX3_isOf_24 (by decide) ?_ ?_
      · refine k_iconst X (v := 0) dX3_isOf_31 (by decide) ?_
        exact k_zret X (by decide) dX3_isOf_32
      · refine k_iconst X (v := 1) dX3_isOf_27 (by decide) ?_
        refine k_goto X 32 dX3_isOf_28 (by decide) ?_
        exact k_zret X (by decide) dX3_isOf_32
theorem mt_Kinds_isOf (l : Launch) (E : En) (x0 : Int32) (x1 : Int32) (M : Mem) : MI l E yX3_isOf cX3_isOf 2 (some .boolean) 1 20 [.int x0, .int x1] M (j_Kinds_isOf x0 x1 M) := MI_of (by decide) (Nat.le_of_ble_eq_true rfl) (fun Z _ X => k_lv [0, 1] rfl (kw_Kinds_isOf X x0 x1 M))
-- FilmCans$Kinds.leadOf
theorem kw_Kinds_leadOf {Z : ZT} {E : En} (X : Cx Z E 2 cX3_leadOf RX3 (some .int) 2 41) (x0 : Int32) (x1 : Int32) (M : Mem) : Kj Z E 2 (QI Z E) (j_Kinds_leadOf x0 x1 M) M 0 [(0, .int x0), (1, .int x1)] [] := by
  unfold j_Kinds_leadOf
  refine k_iload_n X 0 dX3_leadOf_0 rfl rfl ?_
  refine k_iconst X (v := 4) dX3_leadOf_1 (by decide) ?_
  refine k_callSI X [.int x0, .int 4] [] (mt_Kinds_isOf (zl Z) E x0 4 M) mRX3_19 ⟨by decide, by decide⟩ rfl rfl (Nat.le_of_ble_eq_true rfl) dX3_leadOf_2 (fun r1 M2 => ?_)
  refine k_if_eq X 14 dX3_leadOf_5 (by decide) ?_ ?_
  · refine k_iload_n X 1 dX3_leadOf_14 rfl rfl ?_
    exact k_iret X dX3_leadOf_15
  · refine k_iconst X (v := 2) dX3_leadOf_8 (by decide) ?_
    refine k_iload_n X 1 dX3_leadOf_9 rfl rfl ?_
    refine k_imul X dX3_leadOf_10 ?_
    refine k_goto X 15 dX3_leadOf_11 (by decide) ?_
    exact k_iret X dX3_leadOf_15
theorem mt_Kinds_leadOf (l : Launch) (E : En) (x0 : Int32) (x1 : Int32) (M : Mem) : MI l E yX3_leadOf cX3_leadOf 2 (some .int) 2 41 [.int x0, .int x1] M (j_Kinds_leadOf x0 x1 M) := MI_of (by decide) (Nat.le_of_ble_eq_true rfl) (fun Z _ X => k_lv [0, 1] rfl (kw_Kinds_leadOf X x0 x1 M))
-- FilmCans$Day.leadOf
theorem kw_Day_leadOf {Z : ZT} {E : En} (X : Cx Z E 2 cX1_leadOf RX1 (some .int) 3 62) (d0 : Nat) (x1 : Int32) (hd0 : isDay d0) (M : Mem) : Kj Z E 2 (QI Z E) (j_Day_leadOf d0 x1 M) M 0 [(0, .ref (ad E d0)), (1, .int x1)] [] := by
  unfold j_Day_leadOf
  refine k_aload_n X 0 dX1_leadOf_0 rfl rfl ?_
  refine k_getR X (day_C hd0) fRX1_20 (day_R2 hd0) dX1_leadOf_1 ?_
  refine k_iload_n X 1 dX1_leadOf_4 rfl rfl ?_
  refine k_iald X (day_A2 hd0) (day_L2 hd0) dX1_leadOf_5 (fun hb1 => ?_)
  refine k_aload_n X 0 dX1_leadOf_6 rfl rfl ?_
  refine k_getR X (day_C hd0) fRX1_16 (day_R1 hd0) dX1_leadOf_7 ?_
  refine k_iconst X (v := 0) dX1_leadOf_10 (by decide) ?_
  refine k_ialdC X 0 (day_A1 hd0) (day_L1 hd0) (by decide) (by decide) dX1_leadOf_11 ?_
  refine k_callSI X [.int (gi M (d0 + 2) (ix x1)), .int (gi M (d0 + 1) 0)] [] (mt_Kinds_leadOf (zl Z) E (gi M (d0 + 2) (ix x1)) (gi M (d0 + 1) 0) M) mRX1_86 ⟨by decide, by decide⟩ rfl rfl (Nat.le_of_ble_eq_true rfl) dX1_leadOf_12 (fun r3 M4 => ?_)
  exact k_iret X dX1_leadOf_15
theorem mt_Day_leadOf (l : Launch) (E : En) (d0 : Nat) (x1 : Int32) (hd0 : isDay d0) (M : Mem) : MI l E yX1_leadOf cX1_leadOf 2 (some .int) 3 62 [.ref (ad E d0), .int x1] M (j_Day_leadOf d0 x1 M) := MI_of (by decide) (Nat.le_of_ble_eq_true rfl) (fun Z _ X => k_lv [0, 1] rfl (kw_Day_leadOf X d0 x1 hd0 M))
-- FilmCans$History.keep
theorem kb_Hist_keep_b35 {Z : ZT} {E : En} (X : Cx Z E 2 cX2_keep RX2 none 2 47) (xs0 : Int32) (M : Mem) : Kj Z E 2 (QV Z E) (Hist_keep_b35 xs0 M) M 35 [(0, .ref (ad E 27))] [.int xs0, .ref (ad E 27)] := by
  unfold Hist_keep_b35
  refine k_putI X c_27 fRX2_18 dX2_keep_35 ?_
  refine k_sq (fun M4 => ?_)
  refine k_aload_n X 0 dX2_keep_38 rfl rfl ?_
  refine k_aload_n X 0 dX2_keep_39 rfl rfl ?_
  refine k_getI X c_27 fRX2_26 dX2_keep_40 ?_
  refine k_iconst X (v := 1) dX2_keep_43 (by decide) ?_
  refine k_iadd X dX2_keep_44 ?_
  refine k_bipush X (v := 20) dX2_keep_45 (by decide) ?_
  refine k_mn X wm_ml492 wm_st493 w_77 wm_cd494 (by decide) (Nat.le_of_ble_eq_true rfl) dX2_keep_47 ?_
  refine k_putI X c_27 fRX2_26 dX2_keep_50 ?_
  refine k_sq (fun M5 => ?_)
  exact k_vret X dX2_keep_53
theorem kw_Hist_keep {Z : ZT} {E : En} (X : Cx Z E 2 cX2_keep RX2 none 2 47) (d1 : Nat) (hd1 : isDay d1) (M : Mem) : Kj Z E 2 (QV Z E) (j_Hist_keep d1 M) M 0 [(0, .ref (ad E 27)), (1, .ref (ad E d1))] [] := by
  unfold j_Hist_keep
  refine k_aload_n X 0 dX2_keep_0 rfl rfl ?_
  refine k_getR X c_27 fRX2_11 r_27_0 dX2_keep_1 ?_
  refine k_aload_n X 0 dX2_keep_4 rfl rfl ?_
  refine k_getI X c_27 fRX2_18 dX2_keep_5 ?_
  refine k_aaldY X (f := fun j => 29 + 12 * j) c_28 l_28 ring_rf dX2_keep_8 (fun hb1 => ?_)
  refine k_aload_n X 1 dX2_keep_9 rfl rfl ?_
  refine k_callVV X [.ref (ad E d1)] [] (day_C (ring_day hb1)) rfl (by decide) rfl (mt_Day_copyFrom (zl Z) E (29 + 12 * ix (gi M 27 1)) d1 (ring_day hb1) hd1 M) mRX2_22 ⟨by decide, by decide⟩ rfl rfl (Nat.le_of_ble_eq_true rfl) dX2_keep_10 (fun _ M3 => ?_)
  refine k_aload_n X 0 dX2_keep_13 rfl rfl ?_
  refine k_aload_n X 0 dX2_keep_14 rfl rfl ?_
  refine k_getI X c_27 fRX2_18 dX2_keep_15 ?_
  refine k_iconst X (v := 1) dX2_keep_18 (by decide) ?_
  refine k_iadd X dX2_keep_19 ?_
  refine k_bipush X (v := 20) dX2_keep_20 (by decide) ?_
  refine k_icmp_ge X 34 dX2_keep_22 (by decide) ?_ ?_
  · refine k_iconst X (v := 0) dX2_keep_34 (by decide) ?_
    refine k_lv [0] rfl ?_
    exact kb_Hist_keep_b35 X  0 M3
  · refine k_aload_n X 0 dX2_keep_25 rfl rfl ?_
    refine k_getI X c_27 fRX2_18 dX2_keep_26 ?_
    refine k_iconst X (v := 1) dX2_keep_29 (by decide) ?_
    refine k_iadd X dX2_keep_30 ?_
    refine k_goto X 35 dX2_keep_31 (by decide) ?_
    refine k_lv [0] rfl ?_
    exact kb_Hist_keep_b35 X  ((gi M3 27 1) + 1) M3
theorem mt_Hist_keep (l : Launch) (E : En) (d1 : Nat) (hd1 : isDay d1) (M : Mem) : MV l E yX2_keep cX2_keep 2 none 2 47 [.ref (ad E 27), .ref (ad E d1)] M (j_Hist_keep d1 M) := MV_of (by decide) (Nat.le_of_ble_eq_true rfl) (fun Z _ X => k_lv [0, 1] rfl (kw_Hist_keep X d1 hd1 M))
-- FilmCans$Day.thread
theorem kw_Day_thread {Z : ZT} {E : En} (X : Cx Z E 3 cX1_thread RX1 none 4 83) (d0 : Nat) (x1 : Int32) (hd0 : isDay d0) (M : Mem) : Kj Z E 3 (QV Z E) (j_Day_thread d0 x1 M) M 0 [(0, .ref (ad E d0)), (1, .int x1)] [] := by
  unfold j_Day_thread
  refine k_aload_n X 0 dX1_thread_0 rfl rfl ?_
  refine k_iload_n X 1 dX1_thread_1 rfl rfl ?_
  refine k_callVI X [.int x1] [] (day_C hd0) rfl (by decide) rfl (mt_Day_leadOf (zl Z) E d0 x1 hd0 M) mRX1_104 ⟨by decide, by decide⟩ rfl rfl (Nat.le_of_ble_eq_true rfl) dX1_thread_2 (fun r1 M2 => ?_)
  refine k_istore_n X [(2, .int r1), (0, .ref (ad E d0)), (1, .int x1)] dX1_thread_5 rfl (by decide) rfl ?_
  refine k_aload_n X 1 dX1_thread_6 rfl rfl ?_
  refine k_getR X (day_C hd0) fRX1_26 (day_R4 hd0) dX1_thread_7 ?_
  refine k_iload_n X 2 dX1_thread_10 rfl rfl ?_
  refine k_iconst X (v := 1) dX1_thread_11 (by decide) ?_
  refine k_iast X (day_A4 hd0) (day_L4 hd0) dX1_thread_12 (fun hb3 => ?_)
  refine k_sq (fun M4 => ?_)
  refine k_aload_n X 1 dX1_thread_13 rfl rfl ?_
  refine k_getR X (day_C hd0) fRX1_23 (day_R3 hd0) dX1_thread_14 ?_
  refine k_iload_n X 2 dX1_thread_17 rfl rfl ?_
  refine k_dup2 X dX1_thread_18 rfl rfl ?_
  refine k_iald X (day_A3 hd0) (day_L3 hd0) dX1_thread_19 (fun hb5 => ?_)
  refine k_iload_n X 0 dX1_thread_20 rfl rfl ?_
  refine k_isub X dX1_thread_21 ?_
  refine k_iast X (day_A3 hd0) (day_L3 hd0) dX1_thread_22 (fun hb6 => ?_)
  refine k_sq (fun M7 => ?_)
  refine k_aload_n X 1 dX1_thread_23 rfl rfl ?_
  refine k_dup X dX1_thread_24 rfl ?_
  refine k_getI X (day_C hd0) fRX1_68 dX1_thread_25 ?_
  refine k_iload_n X 0 dX1_thread_28 rfl rfl ?_
  refine k_iadd X dX1_thread_29 ?_
  refine k_putI X (day_C hd0) fRX1_68 dX1_thread_30 ?_
  refine k_sq (fun M8 => ?_)
  refine k_aload_n X 1 dX1_thread_33 rfl rfl ?_
  refine k_iload_n X 2 dX1_thread_34 rfl rfl ?_
  refine k_putI X (day_C hd0) fRX1_10 dX1_thread_35 ?_
  refine k_sq (fun M9 => ?_)
  refine k_aload_n X 1 dX1_thread_38 rfl rfl ?_
  refine k_iconst X (v := 0) dX1_thread_39 (by decide) ?_
  refine k_putI X (day_C hd0) fRX1_59 dX1_thread_40 ?_
  refine k_sq (fun M10 => ?_)
  exact k_vret X dX1_thread_43
theorem mt_Day_thread (l : Launch) (E : En) (d0 : Nat) (x1 : Int32) (hd0 : isDay d0) (M : Mem) : MV l E yX1_thread cX1_thread 3 none 4 83 [.ref (ad E d0), .int x1] M (j_Day_thread d0 x1 M) := MV_of (by decide) (Nat.le_of_ble_eq_true rfl) (fun Z _ X => k_lv [0, 1] rfl (kw_Day_thread X d0 x1 hd0 M))
-- FilmCans.load
theorem kw_Fc_load {Z : ZT} {E : En} (X : Cx Z E 2 cX8_load RX8 (some .int) 5 105) (x1 : Int32) (M : Mem) : Kj Z E 2 (QI Z E) (j_Fc_load x1 M) M 0 [(0, .ref (ad E 0)), (1, .int x1)] [] := by
  unfold j_Fc_load
  refine k_aload_n X 0 dX8_load_0 rfl rfl ?_
  refine k_getR X c_0 fRX8_19 r_0_1 dX8_load_1 ?_
  refine k_iload_n X 1 dX8_load_4 rfl rfl ?_
  refine k_callVI X [.int x1] [] c_3 rfl (by decide) rfl (mt_Day_hasCan (zl Z) E 3 x1 day_3 M) mRX8_103 ⟨by decide, by decide⟩ rfl rfl (Nat.le_of_ble_eq_true rfl) dX8_load_5 (fun r1 M2 => ?_)
  refine k_if_ne X 14 dX8_load_8 (by decide) ?_ ?_
  · refine k_aload_n X 0 dX8_load_14 rfl rfl ?_
    refine k_getR X c_0 fRX8_19 r_0_1 dX8_load_15 ?_
    refine k_getI X c_3 fRX8_106 dX8_load_18 ?_
    refine k_ldc X w_472 dX8_load_21 ?_
    refine k_icmp_ne X 58 dX8_load_23 (by decide) ?_ ?_
    · refine k_ldc X w_463 dX8_load_58 ?_
      exact k_iret X dX8_load_60
    · refine k_aload_n X 0 dX8_load_26 rfl rfl ?_
      refine k_getR X c_0 fRX8_19 r_0_1 dX8_load_27 ?_
      refine k_getR X c_3 fRX8_110 r_3_12 dX8_load_30 ?_
      refine k_iload_n X 1 dX8_load_33 rfl rfl ?_
      refine k_iald X c_7 l_7 dX8_load_34 (fun hb3 => ?_)
      refine k_if_ne X 58 dX8_load_35 (by decide) ?_ ?_
      · refine k_ldc X w_463 dX8_load_58 ?_
        exact k_iret X dX8_load_60
      · refine k_aload_n X 0 dX8_load_38 rfl rfl ?_
        refine k_getR X c_0 fRX8_19 r_0_1 dX8_load_39 ?_
        refine k_getR X c_3 fRX8_114 r_3_11 dX8_load_42 ?_
        refine k_iload_n X 1 dX8_load_45 rfl rfl ?_
        refine k_iald X c_6 l_6 dX8_load_46 (fun hb4 => ?_)
        refine k_aload_n X 0 dX8_load_47 rfl rfl ?_
        refine k_getR X c_0 fRX8_19 r_0_1 dX8_load_48 ?_
        refine k_iload_n X 1 dX8_load_51 rfl rfl ?_
        refine k_callVI X [.int x1] [.int (gi M2 6 (ix x1))] c_3 rfl (by decide) rfl (mt_Day_leadOf (zl Z) E 3 x1 day_3 M2) mRX8_117 ⟨by decide, by decide⟩ rfl rfl (Nat.le_of_ble_eq_true rfl) dX8_load_52 (fun r5 M6 => ?_)
        refine k_icmp_ge X 61 dX8_load_55 (by decide) ?_ ?_
        · refine k_aload_n X 0 dX8_load_61 rfl rfl ?_
          refine k_getR X c_0 fRX8_29 r_0_3 dX8_load_62 ?_
          refine k_aload_n X 0 dX8_load_65 rfl rfl ?_
          refine k_getR X c_0 fRX8_19 r_0_1 dX8_load_66 ?_
          refine k_callVV X [.ref (ad E 3)] [] c_27 rfl (by decide) rfl (mt_Hist_keep (zl Z) E 3 day_3 M6) mRX8_121 ⟨by decide, by decide⟩ rfl rfl (Nat.le_of_ble_eq_true rfl) dX8_load_69 (fun _ M8 => ?_)
          refine k_aload_n X 0 dX8_load_72 rfl rfl ?_
          refine k_getR X c_0 fRX8_19 r_0_1 dX8_load_73 ?_
          refine k_iload_n X 1 dX8_load_76 rfl rfl ?_
          refine k_callVV X [.int x1] [] c_3 rfl (by decide) rfl (mt_Day_thread (zl Z) E 3 x1 day_3 M8) mRX8_124 ⟨by decide, by decide⟩ rfl rfl (Nat.le_of_ble_eq_true rfl) dX8_load_77 (fun _ M10 => ?_)
          refine k_aload_n X 0 dX8_load_80 rfl rfl ?_
          refine k_getR X c_0 fRX8_19 r_0_1 dX8_load_81 ?_
          refine k_getR X c_3 fRX8_114 r_3_11 dX8_load_84 ?_
          refine k_iload_n X 1 dX8_load_87 rfl rfl ?_
          refine k_iald X c_6 l_6 dX8_load_88 (fun hb11 => ?_)
          exact k_iret X dX8_load_89
        · refine k_ldc X w_463 dX8_load_58 ?_
          exact k_iret X dX8_load_60
  · refine k_ldc X w_359 dX8_load_11 ?_
    exact k_iret X dX8_load_13
theorem mt_Fc_load (l : Launch) (E : En) (x1 : Int32) (M : Mem) : MI l E yX8_load cX8_load 2 (some .int) 5 105 [.ref (ad E 0), .int x1] M (j_Fc_load x1 M) := MI_of (by decide) (Nat.le_of_ble_eq_true rfl) (fun Z _ X => k_lv [0, 1] rfl (kw_Fc_load X x1 M))
-- FilmCans$Day.hasTake
theorem kw_Day_hasTake {Z : ZT} {E : En} (X : Cx Z E 2 cX1_hasTake RX1 (some .boolean) 0 0) (d0 : Nat) (x1 : Int32) (hd0 : isDay d0) (M : Mem) : Kj Z E 2 (QI Z E) (j_Day_hasTake d0 x1 M) M 0 [(0, .ref (ad E d0)), (1, .int x1)] [] := by
  unfold j_Day_hasTake
  refine k_iload_n X 1 dX1_hasTake_0 rfl rfl ?_
  refine k_if_lt X 16 dX1_hasTake_1 (by decide) ?_ ?_
  · refine k_iconst X (v := 0) dX1_hasTake_16 (by decide) ?_
    exact k_zret X (by decide) dX1_hasTake_17
  · refine k_iload_n X 1 dX1_hasTake_4 rfl rfl ?_
    refine k_aload_n X 0 dX1_hasTake_5 rfl rfl ?_
    refine k_getI X (day_C hd0) fRX1_53 dX1_hasTake_6 ?_
    refine k_icmp_ge X 16 dX1_hasTake_9 (by decide) ?_ ?_
    · refine k_iconst X (v := 0) dX1_hasTake_16 (by decide) ?_
      exact k_zret X (by decide) dX1_hasTake_17
    · refine k_iconst X (v := 1) dX1_hasTake_12 (by decide) ?_
      refine k_goto X 17 dX1_hasTake_13 (by decide) ?_
      exact k_zret X (by decide) dX1_hasTake_17
theorem mt_Day_hasTake (l : Launch) (E : En) (d0 : Nat) (x1 : Int32) (hd0 : isDay d0) (M : Mem) : MI l E yX1_hasTake cX1_hasTake 2 (some .boolean) 0 0 [.ref (ad E d0), .int x1] M (j_Day_hasTake d0 x1 M) := MI_of (by decide) (Nat.le_of_ble_eq_true rfl) (fun Z _ X => k_lv [0, 1] rfl (kw_Day_hasTake X d0 x1 hd0 M))
-- FilmCans$Day.isOpen
theorem kw_Day_isOpen {Z : ZT} {E : En} (X : Cx Z E 2 cX1_isOpen RX1 (some .boolean) 0 0) (d0 : Nat) (x1 : Int32) (hd0 : isDay d0) (M : Mem) : Kj Z E 2 (QI Z E) (j_Day_isOpen d0 x1 M) M 0 [(0, .ref (ad E d0)), (1, .int x1)] [] := by
  unfold j_Day_isOpen
  refine k_aload_n X 0 dX1_isOpen_0 rfl rfl ?_
  refine k_getR X (day_C hd0) fRX1_38 (day_R8 hd0) dX1_isOpen_1 ?_
  refine k_iload_n X 1 dX1_isOpen_4 rfl rfl ?_
  refine k_iald X (day_A8 hd0) (day_L8 hd0) dX1_isOpen_5 (fun hb1 => ?_)
  refine k_ldc X w_117 dX1_isOpen_6 ?_
  refine k_icmp_ne X 15 dX1_isOpen_8 (by decide) ?_ ?_
  · refine k_iconst X (v := 0) dX1_isOpen_15 (by decide) ?_
    exact k_zret X (by decide) dX1_isOpen_16
  · refine k_iconst X (v := 1) dX1_isOpen_11 (by decide) ?_
    refine k_goto X 16 dX1_isOpen_12 (by decide) ?_
    exact k_zret X (by decide) dX1_isOpen_16
theorem mt_Day_isOpen (l : Launch) (E : En) (d0 : Nat) (x1 : Int32) (hd0 : isDay d0) (M : Mem) : MI l E yX1_isOpen cX1_isOpen 2 (some .boolean) 0 0 [.ref (ad E d0), .int x1] M (j_Day_isOpen d0 x1 M) := MI_of (by decide) (Nat.le_of_ble_eq_true rfl) (fun Z _ X => k_lv [0, 1] rfl (kw_Day_isOpen X d0 x1 hd0 M))
-- FilmCans$Day.serves
theorem kw_Day_serves {Z : ZT} {E : En} (X : Cx Z E 3 cX1_serves RX1 (some .boolean) 2 41) (d0 : Nat) (x1 : Int32) (x2 : Int32) (hd0 : isDay d0) (M : Mem) : Kj Z E 3 (QI Z E) (j_Day_serves d0 x1 x2 M) M 0 [(0, .ref (ad E d0)), (1, .int x1), (2, .int x2)] [] := by
  unfold j_Day_serves
  refine k_aload_n X 0 dX1_serves_0 rfl rfl ?_
  refine k_getR X (day_C hd0) fRX1_20 (day_R2 hd0) dX1_serves_1 ?_
  refine k_iload_n X 1 dX1_serves_4 rfl rfl ?_
  refine k_iald X (day_A2 hd0) (day_L2 hd0) dX1_serves_5 (fun hb1 => ?_)
  refine k_aload_n X 0 dX1_serves_6 rfl rfl ?_
  refine k_getR X (day_C hd0) fRX1_32 (day_R6 hd0) dX1_serves_7 ?_
  refine k_iload_n X 2 dX1_serves_10 rfl rfl ?_
  refine k_iald X (day_A6 hd0) (day_L6 hd0) dX1_serves_11 (fun hb2 => ?_)
  refine k_callSI X [.int (gi M (d0 + 2) (ix x1)), .int (gi M (d0 + 6) (ix x2))] [] (mt_Kinds_isOf (zl Z) E (gi M (d0 + 2) (ix x1)) (gi M (d0 + 6) (ix x2)) M) mRX1_80 ⟨by decide, by decide⟩ rfl rfl (Nat.le_of_ble_eq_true rfl) dX1_serves_12 (fun r3 M4 => ?_)
  exact k_zretG X dX1_serves_15
theorem mt_Day_serves (l : Launch) (E : En) (d0 : Nat) (x1 : Int32) (x2 : Int32) (hd0 : isDay d0) (M : Mem) : MI l E yX1_serves cX1_serves 3 (some .boolean) 2 41 [.ref (ad E d0), .int x1, .int x2] M (j_Day_serves d0 x1 x2 M) := MI_of (by decide) (Nat.le_of_ble_eq_true rfl) (fun Z _ X => k_lv [0, 1, 2] rfl (kw_Day_serves X d0 x1 x2 hd0 M))
-- FilmCans$Kinds.slateOf
theorem kw_Kinds_slateOf {Z : ZT} {E : En} (X : Cx Z E 1 cX3_slateOf RX3 (some .int) 2 41) (x0 : Int32) (M : Mem) : Kj Z E 1 (QI Z E) (j_Kinds_slateOf x0 M) M 0 [(0, .int x0)] [] := by
  unfold j_Kinds_slateOf
  refine k_iload_n X 0 dX3_slateOf_0 rfl rfl ?_
  refine k_iconst X (v := 3) dX3_slateOf_1 (by decide) ?_
  refine k_callSI X [.int x0, .int 3] [] (mt_Kinds_isOf (zl Z) E x0 3 M) mRX3_19 ⟨by decide, by decide⟩ rfl rfl (Nat.le_of_ble_eq_true rfl) dX3_slateOf_2 (fun r1 M2 => ?_)
  refine k_if_eq X 12 dX3_slateOf_5 (by decide) ?_ ?_
  · refine k_iconst X (v := 0) dX3_slateOf_12 (by decide) ?_
    exact k_iret X dX3_slateOf_13
  · refine k_iconst X (v := 1) dX3_slateOf_8 (by decide) ?_
    refine k_goto X 13 dX3_slateOf_9 (by decide) ?_
    exact k_iret X dX3_slateOf_13
theorem mt_Kinds_slateOf (l : Launch) (E : En) (x0 : Int32) (M : Mem) : MI l E yX3_slateOf cX3_slateOf 1 (some .int) 2 41 [.int x0] M (j_Kinds_slateOf x0 M) := MI_of (by decide) (Nat.le_of_ble_eq_true rfl) (fun Z _ X => k_lv [0] rfl (kw_Kinds_slateOf X x0 M))
-- FilmCans$Day.expose
theorem kw_Day_expose {Z : ZT} {E : En} (X : Cx Z E 5 cX1_expose RX1 none 3 61) (d0 : Nat) (x1 : Int32) (x2 : Int32) (hd0 : isDay d0) (M : Mem) : Kj Z E 5 (QV Z E) (j_Day_expose d0 x1 x2 M) M 0 [(0, .ref (ad E d0)), (1, .int x1), (2, .int x2)] [] := by
  unfold j_Day_expose
  refine k_aload_n X 0 dX1_expose_0 rfl rfl ?_
  refine k_getR X (day_C hd0) fRX1_35 (day_R7 hd0) dX1_expose_1 ?_
  refine k_iload_n X 2 dX1_expose_4 rfl rfl ?_
  refine k_iald X (day_A7 hd0) (day_L7 hd0) dX1_expose_5 (fun hb1 => ?_)
  refine x_istore_n X [(0, .ref (ad E d0)), (1, .int x1), (2, .int x2)] dX1_expose_6 rfl (by decide) rfl (fun x2_ => ?_)
  refine k_aload_n X 1 dX1_expose_7 rfl rfl ?_
  refine k_getR X (day_C hd0) fRX1_20 (day_R2 hd0) dX1_expose_8 ?_
  refine k_iload_n X 2 dX1_expose_11 rfl rfl ?_
  refine k_iald X (day_A2 hd0) (day_L2 hd0) dX1_expose_12 (fun hb3 => ?_)
  refine k_callSI X [.int (gi M (d0 + 2) (ix x1))] [] (mt_Kinds_slateOf (zl Z) E (gi M (d0 + 2) (ix x1)) M) mRX1_106 ⟨by decide, by decide⟩ rfl rfl (Nat.le_of_ble_eq_true rfl) dX1_expose_13 (fun r4 M5 => ?_)
  refine k_istore X [(4, .int r4), (3, .int x2_), (0, .ref (ad E d0)), (1, .int x1), (2, .int x2)] dX1_expose_16 (by decide) rfl ?_
  refine k_aload_n X 2 dX1_expose_18 rfl rfl ?_
  refine k_getR X (day_C hd0) fRX1_23 (day_R3 hd0) dX1_expose_19 ?_
  refine k_iload_n X 3 dX1_expose_22 rfl rfl ?_
  refine k_dup2 X dX1_expose_23 rfl rfl ?_
  refine k_iald X (day_A3 hd0) (day_L3 hd0) dX1_expose_24 (fun hb6 => ?_)
  refine k_iload_n X 1 dX1_expose_25 rfl rfl ?_
  refine k_iload X 0 dX1_expose_26 rfl ?_
  refine k_iadd X dX1_expose_28 ?_
  refine k_isub X dX1_expose_29 ?_
  refine k_iast X (day_A3 hd0) (day_L3 hd0) dX1_expose_30 (fun hb7 => ?_)
  refine k_sq (fun M8 => ?_)
  refine k_aload_n X 2 dX1_expose_31 rfl rfl ?_
  refine k_dup X dX1_expose_32 rfl ?_
  refine k_getI X (day_C hd0) fRX1_65 dX1_expose_33 ?_
  refine k_iload_n X 1 dX1_expose_36 rfl rfl ?_
  refine k_iadd X dX1_expose_37 ?_
  refine k_putI X (day_C hd0) fRX1_65 dX1_expose_38 ?_
  refine k_sq (fun M9 => ?_)
  refine k_aload_n X 2 dX1_expose_41 rfl rfl ?_
  refine k_dup X dX1_expose_42 rfl ?_
  refine k_getI X (day_C hd0) fRX1_68 dX1_expose_43 ?_
  refine k_iload X 0 dX1_expose_46 rfl ?_
  refine k_iadd X dX1_expose_48 ?_
  refine k_putI X (day_C hd0) fRX1_68 dX1_expose_49 ?_
  refine k_sq (fun M10 => ?_)
  refine k_aload_n X 2 dX1_expose_52 rfl rfl ?_
  refine k_dup X dX1_expose_53 rfl ?_
  refine k_getI X (day_C hd0) fRX1_59 dX1_expose_54 ?_
  refine k_iload_n X 1 dX1_expose_57 rfl rfl ?_
  refine k_iadd X dX1_expose_58 ?_
  refine k_putI X (day_C hd0) fRX1_59 dX1_expose_59 ?_
  refine k_sq (fun M11 => ?_)
  refine k_aload_n X 2 dX1_expose_62 rfl rfl ?_
  refine k_getR X (day_C hd0) fRX1_38 (day_R8 hd0) dX1_expose_63 ?_
  refine k_iload_n X 4 dX1_expose_66 rfl rfl ?_
  refine k_iload_n X 3 dX1_expose_67 rfl rfl ?_
  refine k_iast X (day_A8 hd0) (day_L8 hd0) dX1_expose_68 (fun hb12 => ?_)
  refine k_sq (fun M13 => ?_)
  exact k_vret X dX1_expose_69
theorem mt_Day_expose (l : Launch) (E : En) (d0 : Nat) (x1 : Int32) (x2 : Int32) (hd0 : isDay d0) (M : Mem) : MV l E yX1_expose cX1_expose 5 none 3 61 [.ref (ad E d0), .int x1, .int x2] M (j_Day_expose d0 x1 x2 M) := MV_of (by decide) (Nat.le_of_ble_eq_true rfl) (fun Z _ X => k_lv [0, 1, 2] rfl (kw_Day_expose X d0 x1 x2 hd0 M))
-- FilmCans.shoot
theorem kw_Fc_shoot {Z : ZT} {E : En} (X : Cx Z E 3 cX8_shoot RX8 (some .int) 4 85) (x1 : Int32) (M : Mem) : Kj Z E 3 (QI Z E) (j_Fc_shoot x1 M) M 0 [(0, .ref (ad E 0)), (1, .int x1)] [] := by
  unfold j_Fc_shoot
  refine k_aload_n X 0 dX8_shoot_0 rfl rfl ?_
  refine k_getR X c_0 fRX8_19 r_0_1 dX8_shoot_1 ?_
  refine k_iload_n X 1 dX8_shoot_4 rfl rfl ?_
  refine k_callVI X [.int x1] [] c_3 rfl (by decide) rfl (mt_Day_hasTake (zl Z) E 3 x1 day_3 M) mRX8_128 ⟨by decide, by decide⟩ rfl rfl (Nat.le_of_ble_eq_true rfl) dX8_shoot_5 (fun r1 M2 => ?_)
  refine k_if_ne X 14 dX8_shoot_8 (by decide) ?_ ?_
  · refine k_aload_n X 0 dX8_shoot_14 rfl rfl ?_
    refine k_getR X c_0 fRX8_19 r_0_1 dX8_shoot_15 ?_
    refine k_getI X c_3 fRX8_106 dX8_shoot_18 ?_
    refine x_istore_n X [(0, .ref (ad E 0)), (1, .int x1)] dX8_shoot_21 rfl (by decide) rfl (fun x3_ => ?_)
    refine k_aload_n X 1 dX8_shoot_22 rfl rfl ?_
    refine k_getR X c_0 fRX8_19 r_0_1 dX8_shoot_23 ?_
    refine k_iload_n X 0 dX8_shoot_26 rfl rfl ?_
    refine k_callVI X [.int x3_] [] c_3 rfl (by decide) rfl (mt_Day_hasCan (zl Z) E 3 x3_ day_3 M2) mRX8_103 ⟨by decide, by decide⟩ rfl rfl (Nat.le_of_ble_eq_true rfl) dX8_shoot_27 (fun r4 M5 => ?_)
    refine k_if_eq X 56 dX8_shoot_30 (by decide) ?_ ?_
    · refine k_ldc X w_463 dX8_shoot_56 ?_
      exact k_iret X dX8_shoot_58
    · refine k_aload_n X 1 dX8_shoot_33 rfl rfl ?_
      refine k_getR X c_0 fRX8_19 r_0_1 dX8_shoot_34 ?_
      refine k_iload_n X 2 dX8_shoot_37 rfl rfl ?_
      refine k_callVI X [.int x1] [] c_3 rfl (by decide) rfl (mt_Day_isOpen (zl Z) E 3 x1 day_3 M5) mRX8_131 ⟨by decide, by decide⟩ rfl rfl (Nat.le_of_ble_eq_true rfl) dX8_shoot_38 (fun r6 M7 => ?_)
      refine k_if_eq X 56 dX8_shoot_41 (by decide) ?_ ?_
      · refine k_ldc X w_463 dX8_shoot_56 ?_
        exact k_iret X dX8_shoot_58
      · refine k_aload_n X 1 dX8_shoot_44 rfl rfl ?_
        refine k_getR X c_0 fRX8_19 r_0_1 dX8_shoot_45 ?_
        refine k_iload_n X 0 dX8_shoot_48 rfl rfl ?_
        refine k_iload_n X 2 dX8_shoot_49 rfl rfl ?_
        refine k_callVI X [.int x3_, .int x1] [] c_3 rfl (by decide) rfl (mt_Day_serves (zl Z) E 3 x3_ x1 day_3 M7) mRX8_134 ⟨by decide, by decide⟩ rfl rfl (Nat.le_of_ble_eq_true rfl) dX8_shoot_50 (fun r8 M9 => ?_)
        refine k_if_ne X 59 dX8_shoot_53 (by decide) ?_ ?_
        · refine k_aload_n X 1 dX8_shoot_59 rfl rfl ?_
          refine k_getR X c_0 fRX8_19 r_0_1 dX8_shoot_60 ?_
          refine k_getR X c_3 fRX8_114 r_3_11 dX8_shoot_63 ?_
          refine k_iload_n X 0 dX8_shoot_66 rfl rfl ?_
          refine k_iald X c_6 l_6 dX8_shoot_67 (fun hb10 => ?_)
          refine k_aload_n X 1 dX8_shoot_68 rfl rfl ?_
          refine k_getR X c_0 fRX8_19 r_0_1 dX8_shoot_69 ?_
          refine k_getR X c_3 fRX8_138 r_3_15 dX8_shoot_72 ?_
          refine k_iload_n X 2 dX8_shoot_75 rfl rfl ?_
          refine k_iald X c_10 l_10 dX8_shoot_76 (fun hb11 => ?_)
          refine k_aload_n X 1 dX8_shoot_77 rfl rfl ?_
          refine k_getR X c_0 fRX8_19 r_0_1 dX8_shoot_78 ?_
          refine k_getR X c_3 fRX8_141 r_3_10 dX8_shoot_81 ?_
          refine k_iload_n X 0 dX8_shoot_84 rfl rfl ?_
          refine k_iald X c_5 l_5 dX8_shoot_85 (fun hb12 => ?_)
          refine k_callSI X [.int (gi M9 5 (ix x3_))] [.int (gi M9 10 (ix x1)), .int (gi M9 6 (ix x3_))] (mt_Kinds_slateOf (zl Z) E (gi M9 5 (ix x3_)) M9) mRX8_144 ⟨by decide, by decide⟩ rfl rfl (Nat.le_of_ble_eq_true rfl) dX8_shoot_86 (fun r13 M14 => ?_)
          refine k_iadd X dX8_shoot_89 ?_
          refine k_icmp_ge X 96 dX8_shoot_90 (by decide) ?_ ?_
          · refine k_aload_n X 1 dX8_shoot_96 rfl rfl ?_
            refine k_getR X c_0 fRX8_29 r_0_3 dX8_shoot_97 ?_
            refine k_aload_n X 1 dX8_shoot_100 rfl rfl ?_
            refine k_getR X c_0 fRX8_19 r_0_1 dX8_shoot_101 ?_
            refine k_callVV X [.ref (ad E 3)] [] c_27 rfl (by decide) rfl (mt_Hist_keep (zl Z) E 3 day_3 M14) mRX8_121 ⟨by decide, by decide⟩ rfl rfl (Nat.le_of_ble_eq_true rfl) dX8_shoot_104 (fun _ M16 => ?_)
            refine k_aload_n X 1 dX8_shoot_107 rfl rfl ?_
            refine k_getR X c_0 fRX8_19 r_0_1 dX8_shoot_108 ?_
            refine k_iload_n X 0 dX8_shoot_111 rfl rfl ?_
            refine k_iload_n X 2 dX8_shoot_112 rfl rfl ?_
            refine k_callVV X [.int x3_, .int x1] [] c_3 rfl (by decide) rfl (mt_Day_expose (zl Z) E 3 x3_ x1 day_3 M16) mRX8_149 ⟨by decide, by decide⟩ rfl rfl (Nat.le_of_ble_eq_true rfl) dX8_shoot_113 (fun _ M18 => ?_)
            refine k_aload_n X 1 dX8_shoot_116 rfl rfl ?_
            refine k_getR X c_0 fRX8_19 r_0_1 dX8_shoot_117 ?_
            refine k_getR X c_3 fRX8_114 r_3_11 dX8_shoot_120 ?_
            refine k_iload_n X 0 dX8_shoot_123 rfl rfl ?_
            refine k_iald X c_6 l_6 dX8_shoot_124 (fun hb19 => ?_)
            exact k_iret X dX8_shoot_125
          · refine k_ldc X w_364 dX8_shoot_93 ?_
            exact k_iret X dX8_shoot_95
        · refine k_ldc X w_463 dX8_shoot_56 ?_
          exact k_iret X dX8_shoot_58
  · refine k_ldc X w_359 dX8_shoot_11 ?_
    exact k_iret X dX8_shoot_13
theorem mt_Fc_shoot (l : Launch) (E : En) (x1 : Int32) (M : Mem) : MI l E yX8_shoot cX8_shoot 3 (some .int) 4 85 [.ref (ad E 0), .int x1] M (j_Fc_shoot x1 M) := MI_of (by decide) (Nat.le_of_ble_eq_true rfl) (fun Z _ X => k_lv [0, 1] rfl (kw_Fc_shoot X x1 M))
-- FilmCans$Kinds.familyOf
theorem kw_Kinds_familyOf {Z : ZT} {E : En} (X : Cx Z E 1 cX3_familyOf RX3 (some .int) 2 41) (x0 : Int32) (M : Mem) : Kj Z E 1 (QI Z E) (j_Kinds_familyOf x0 M) M 0 [(0, .int x0)] [] := by
  unfold j_Kinds_familyOf
  refine k_iload_n X 0 dX3_familyOf_0 rfl rfl ?_
  refine k_iconst X (v := 4) dX3_familyOf_1 (by decide) ?_
  refine k_callSI X [.int x0, .int 4] [] (mt_Kinds_isOf (zl Z) E x0 4 M) mRX3_19 ⟨by decide, by decide⟩ rfl rfl (Nat.le_of_ble_eq_true rfl) dX3_familyOf_2 (fun r1 M2 => ?_)
  refine k_if_eq X 12 dX3_familyOf_5 (by decide) ?_ ?_
  · refine k_iconst X (v := 0) dX3_familyOf_12 (by decide) ?_
    exact k_iret X dX3_familyOf_13
  · refine k_iconst X (v := 1) dX3_familyOf_8 (by decide) ?_
    refine k_goto X 13 dX3_familyOf_9 (by decide) ?_
    exact k_iret X dX3_familyOf_13
theorem mt_Kinds_familyOf (l : Launch) (E : En) (x0 : Int32) (M : Mem) : MI l E yX3_familyOf cX3_familyOf 1 (some .int) 2 41 [.int x0] M (j_Kinds_familyOf x0 M) := MI_of (by decide) (Nat.le_of_ble_eq_true rfl) (fun Z _ X => k_lv [0] rfl (kw_Kinds_familyOf X x0 M))
-- FilmCans$Kinds.leastKept
theorem kb_Kinds_leastKept_b27 {Z : ZT} {E : En} (X : Cx Z E 2 cX3_leastKept RX3 (some .int) 2 41) (xs0 : Int32) (xs1 : Int32) (M : Mem) : Kj Z E 2 (QI Z E) (Kinds_leastKept_b27 xs0 xs1 M) M 27 [] [.int xs0, .int xs1] := by
  unfold Kinds_leastKept_b27
  refine k_mx X wm_ml543 wm_st544 w_77 wm_cd545 (by decide) (Nat.le_of_ble_eq_true rfl) dX3_leastKept_27 ?_
  exact k_iret X dX3_leastKept_30
theorem kw_Kinds_leastKept {Z : ZT} {E : En} (X : Cx Z E 2 cX3_leastKept RX3 (some .int) 2 41) (x0 : Int32) (x1 : Int32) (M : Mem) : Kj Z E 2 (QI Z E) (j_Kinds_leastKept x0 x1 M) M 0 [(0, .int x0), (1, .int x1)] [] := by
  unfold j_Kinds_leastKept
  refine k_iload_n X 0 dX3_leastKept_0 rfl rfl ?_
  refine k_iconst X (v := 5) dX3_leastKept_1 (by decide) ?_
  refine k_callSI X [.int x0, .int 5] [] (mt_Kinds_isOf (zl Z) E x0 5 M) mRX3_19 ⟨by decide, by decide⟩ rfl rfl (Nat.le_of_ble_eq_true rfl) dX3_leastKept_2 (fun r1 M2 => ?_)
  refine k_if_eq X 11 dX3_leastKept_5 (by decide) ?_ ?_
  · refine k_iconst X (v := 1) dX3_leastKept_11 (by decide) ?_
    refine k_iload_n X 0 dX3_leastKept_12 rfl rfl ?_
    refine k_iconst X (v := 2) dX3_leastKept_13 (by decide) ?_
    refine k_callSI X [.int x0, .int 2] [.int 1] (mt_Kinds_isOf (zl Z) E x0 2 M2) mRX3_19 ⟨by decide, by decide⟩ rfl rfl (Nat.le_of_ble_eq_true rfl) dX3_leastKept_14 (fun r3 M4 => ?_)
    refine k_if_eq X 26 dX3_leastKept_17 (by decide) ?_ ?_
    · refine k_iload_n X 1 dX3_leastKept_26 rfl rfl ?_
      refine k_lv [] rfl ?_
      exact kb_Kinds_leastKept_b27 X  x1 1 M4
    · refine k_iload_n X 1 dX3_leastKept_20 rfl rfl ?_
      refine k_iconst X (v := 2) dX3_leastKept_21 (by decide) ?_
      refine k_idiv X dX3_leastKept_22 (by decide) ?_
      refine k_goto X 27 dX3_leastKept_23 (by decide) ?_
      refine k_lv [] rfl ?_
      exact kb_Kinds_leastKept_b27 X  (x1 / 2) 1 M4
  · refine k_ldc X w_417 dX3_leastKept_8 ?_
    exact k_iret X dX3_leastKept_10
theorem mt_Kinds_leastKept (l : Launch) (E : En) (x0 : Int32) (x1 : Int32) (M : Mem) : MI l E yX3_leastKept cX3_leastKept 2 (some .int) 2 41 [.int x0, .int x1] M (j_Kinds_leastKept x0 x1 M) := MI_of (by decide) (Nat.le_of_ble_eq_true rfl) (fun Z _ X => k_lv [0, 1] rfl (kw_Kinds_leastKept X x0 x1 M))
-- FilmCans$Day.leastKeptOf
theorem kw_Day_leastKeptOf {Z : ZT} {E : En} (X : Cx Z E 2 cX1_leastKeptOf RX1 (some .int) 3 62) (d0 : Nat) (x1 : Int32) (hd0 : isDay d0) (M : Mem) : Kj Z E 2 (QI Z E) (j_Day_leastKeptOf d0 x1 M) M 0 [(0, .ref (ad E d0)), (1, .int x1)] [] := by
  unfold j_Day_leastKeptOf
  refine k_aload_n X 0 dX1_leastKeptOf_0 rfl rfl ?_
  refine k_getR X (day_C hd0) fRX1_20 (day_R2 hd0) dX1_leastKeptOf_1 ?_
  refine k_iload_n X 1 dX1_leastKeptOf_4 rfl rfl ?_
  refine k_iald X (day_A2 hd0) (day_L2 hd0) dX1_leastKeptOf_5 (fun hb1 => ?_)
  refine k_aload_n X 0 dX1_leastKeptOf_6 rfl rfl ?_
  refine k_getR X (day_C hd0) fRX1_16 (day_R1 hd0) dX1_leastKeptOf_7 ?_
  refine k_iconst X (v := 1) dX1_leastKeptOf_10 (by decide) ?_
  refine k_ialdC X 1 (day_A1 hd0) (day_L1 hd0) (by decide) (by decide) dX1_leastKeptOf_11 ?_
  refine k_callSI X [.int (gi M (d0 + 2) (ix x1)), .int (gi M (d0 + 1) 1)] [] (mt_Kinds_leastKept (zl Z) E (gi M (d0 + 2) (ix x1)) (gi M (d0 + 1) 1) M) mRX1_90 ⟨by decide, by decide⟩ rfl rfl (Nat.le_of_ble_eq_true rfl) dX1_leastKeptOf_12 (fun r3 M4 => ?_)
  exact k_iret X dX1_leastKeptOf_15
theorem mt_Day_leastKeptOf (l : Launch) (E : En) (d0 : Nat) (x1 : Int32) (hd0 : isDay d0) (M : Mem) : MI l E yX1_leastKeptOf cX1_leastKeptOf 2 (some .int) 3 62 [.ref (ad E d0), .int x1] M (j_Day_leastKeptOf d0 x1 M) := MI_of (by decide) (Nat.le_of_ble_eq_true rfl) (fun Z _ X => k_lv [0, 1] rfl (kw_Day_leastKeptOf X d0 x1 hd0 M))
-- FilmCans$Kinds.isKept
theorem kw_Kinds_isKept {Z : ZT} {E : En} (X : Cx Z E 2 cX3_isKept RX3 (some .boolean) 0 0) (x0 : Int32) (x1 : Int32) (M : Mem) : Kj Z E 2 (QI Z E) (j_Kinds_isKept x0 x1 M) M 0 [(0, .int x0), (1, .int x1)] [] := by
  unfold j_Kinds_isKept
  refine k_iload_n X 1 dX3_isKept_0 rfl rfl ?_
  refine k_ldc X w_417 dX3_isKept_1 ?_
  refine k_icmp_eq X 15 dX3_isKept_3 (by decide) ?_ ?_
  · refine k_iconst X (v := 0) dX3_isKept_15 (by decide) ?_
    exact k_zret X (by decide) dX3_isKept_16
  · refine k_iload_n X 0 dX3_isKept_6 rfl rfl ?_
    refine k_iload_n X 1 dX3_isKept_7 rfl rfl ?_
    refine k_icmp_lt X 15 dX3_isKept_8 (by decide) ?_ ?_
    · refine k_iconst X (v := 0) dX3_isKept_15 (by decide) ?_
      exact k_zret X (by decide) dX3_isKept_16
    · refine k_iconst X (v := 1) dX3_isKept_11 (by decide) ?_
      refine k_goto X 16 dX3_isKept_12 (by decide) ?_
      exact k_zret X (by decide) dX3_isKept_16
theorem mt_Kinds_isKept (l : Launch) (E : En) (x0 : Int32) (x1 : Int32) (M : Mem) : MI l E yX3_isKept cX3_isKept 2 (some .boolean) 0 0 [.int x0, .int x1] M (j_Kinds_isKept x0 x1 M) := MI_of (by decide) (Nat.le_of_ble_eq_true rfl) (fun Z _ X => k_lv [0, 1] rfl (kw_Kinds_isKept X x0 x1 M))
-- FilmCans$Day.takeOut
theorem kb_Day_takeOut_b67 {Z : ZT} {E : En} (X : Cx Z E 2 cX1_takeOut RX1 none 4 83) (d0 : Nat) (x1 : Int32) (hd0 : isDay d0) (M : Mem) : Kj Z E 2 (QV Z E) (Day_takeOut_b67 d0 x1 M) M 67 [(0, .ref (ad E d0)), (1, .int x1)] [] := by
  unfold Day_takeOut_b67
  refine k_aload_n X 0 dX1_takeOut_67 rfl rfl ?_
  refine k_iconst X (v := 0) dX1_takeOut_68 (by decide) ?_
  refine k_putI X (day_C hd0) fRX1_59 dX1_takeOut_69 ?_
  refine k_sq (fun M1 => ?_)
  refine k_aload_n X 0 dX1_takeOut_72 rfl rfl ?_
  refine k_ldc X w_117 dX1_takeOut_73 ?_
  refine k_putI X (day_C hd0) fRX1_10 dX1_takeOut_75 ?_
  refine k_sq (fun M2 => ?_)
  refine k_aload_n X 0 dX1_takeOut_78 rfl rfl ?_
  refine k_getR X (day_C hd0) fRX1_23 (day_R3 hd0) dX1_takeOut_79 ?_
  refine k_iload_n X 1 dX1_takeOut_82 rfl rfl ?_
  refine k_iald X (day_A3 hd0) (day_L3 hd0) dX1_takeOut_83 (fun hb3 => ?_)
  refine k_aload_n X 0 dX1_takeOut_84 rfl rfl ?_
  refine k_iload_n X 1 dX1_takeOut_85 rfl rfl ?_
  refine k_callVI X [.int x1] [.int (gi M2 (d0 + 3) (ix x1))] (day_C hd0) rfl (by decide) rfl (mt_Day_leastKeptOf (zl Z) E d0 x1 hd0 M2) mRX1_112 ⟨by decide, by decide⟩ rfl rfl (Nat.le_of_ble_eq_true rfl) dX1_takeOut_86 (fun r4 M5 => ?_)
  refine k_callSI X [.int (gi M2 (d0 + 3) (ix x1)), .int r4] [] (mt_Kinds_isKept (zl Z) E (gi M2 (d0 + 3) (ix x1)) r4 M5) mRX1_115 ⟨by decide, by decide⟩ rfl rfl (Nat.le_of_ble_eq_true rfl) dX1_takeOut_89 (fun r6 M7 => ?_)
  refine k_if_eq X 112 dX1_takeOut_92 (by decide) ?_ ?_
  · refine k_aload_n X 0 dX1_takeOut_112 rfl rfl ?_
    refine k_dup X dX1_takeOut_113 rfl ?_
    refine k_getI X (day_C hd0) fRX1_68 dX1_takeOut_114 ?_
    refine k_aload_n X 0 dX1_takeOut_117 rfl rfl ?_
    refine k_getR X (day_C hd0) fRX1_23 (day_R3 hd0) dX1_takeOut_118 ?_
    refine k_iload_n X 1 dX1_takeOut_121 rfl rfl ?_
    refine k_iald X (day_A3 hd0) (day_L3 hd0) dX1_takeOut_122 (fun hb8 => ?_)
    refine k_iadd X dX1_takeOut_123 ?_
    refine k_putI X (day_C hd0) fRX1_68 dX1_takeOut_124 ?_
    refine k_sq (fun M9 => ?_)
    refine k_aload_n X 0 dX1_takeOut_127 rfl rfl ?_
    refine k_getR X (day_C hd0) fRX1_23 (day_R3 hd0) dX1_takeOut_128 ?_
    refine k_iload_n X 1 dX1_takeOut_131 rfl rfl ?_
    refine k_iconst X (v := 0) dX1_takeOut_132 (by decide) ?_
    refine k_iast X (day_A3 hd0) (day_L3 hd0) dX1_takeOut_133 (fun hb10 => ?_)
    refine k_sq (fun M11 => ?_)
    refine k_aload_n X 0 dX1_takeOut_134 rfl rfl ?_
    refine k_getR X (day_C hd0) fRX1_26 (day_R4 hd0) dX1_takeOut_135 ?_
    refine k_iload_n X 1 dX1_takeOut_138 rfl rfl ?_
    refine k_iconst X (v := 2) dX1_takeOut_139 (by decide) ?_
    refine k_iast X (day_A4 hd0) (day_L4 hd0) dX1_takeOut_140 (fun hb12 => ?_)
    refine k_sq (fun M13 => ?_)
    exact k_vret X dX1_takeOut_141
  · refine k_aload_n X 0 dX1_takeOut_95 rfl rfl ?_
    refine k_getR X (day_C hd0) fRX1_26 (day_R4 hd0) dX1_takeOut_96 ?_
    refine k_iload_n X 1 dX1_takeOut_99 rfl rfl ?_
    refine k_iconst X (v := 0) dX1_takeOut_100 (by decide) ?_
    refine k_iast X (day_A4 hd0) (day_L4 hd0) dX1_takeOut_101 (fun hb14 => ?_)
    refine k_sq (fun M15 => ?_)
    refine k_aload_n X 0 dX1_takeOut_102 rfl rfl ?_
    refine k_getR X (day_C hd0) fRX1_29 (day_R5 hd0) dX1_takeOut_103 ?_
    refine k_iload_n X 1 dX1_takeOut_106 rfl rfl ?_
    refine k_iconst X (v := 1) dX1_takeOut_107 (by decide) ?_
    refine k_iast X (day_A5 hd0) (day_L5 hd0) dX1_takeOut_108 (fun hb16 => ?_)
    refine k_sq (fun M17 => ?_)
    refine k_goto X 141 dX1_takeOut_109 (by decide) ?_
    exact k_vret X dX1_takeOut_141
theorem kw_Day_takeOut {Z : ZT} {E : En} (X : Cx Z E 2 cX1_takeOut RX1 none 4 83) (d0 : Nat) (x1 : Int32) (hd0 : isDay d0) (M : Mem) : Kj Z E 2 (QV Z E) (j_Day_takeOut d0 x1 M) M 0 [(0, .ref (ad E d0)), (1, .int x1)] [] := by
  unfold j_Day_takeOut
  refine k_aload_n X 0 dX1_takeOut_0 rfl rfl ?_
  refine k_getI X (day_C hd0) fRX1_59 dX1_takeOut_1 ?_
  refine k_if_le X 67 dX1_takeOut_4 (by decide) ?_ ?_
  · refine k_lv [0, 1] rfl ?_
    exact kb_Day_takeOut_b67 X  d0 x1 hd0 M
  · refine k_aload_n X 0 dX1_takeOut_7 rfl rfl ?_
    refine k_getI X (day_C hd0) fRX1_56 dX1_takeOut_8 ?_
    refine k_bipush X (v := 8) dX1_takeOut_11 (by decide) ?_
    refine k_icmp_ge X 67 dX1_takeOut_13 (by decide) ?_ ?_
    · refine k_lv [0, 1] rfl ?_
      exact kb_Day_takeOut_b67 X  d0 x1 hd0 M
    · refine k_aload_n X 0 dX1_takeOut_16 rfl rfl ?_
      refine k_getR X (day_C hd0) fRX1_41 (day_R9 hd0) dX1_takeOut_17 ?_
      refine k_aload_n X 0 dX1_takeOut_20 rfl rfl ?_
      refine k_getI X (day_C hd0) fRX1_56 dX1_takeOut_21 ?_
      refine k_iload_n X 1 dX1_takeOut_24 rfl rfl ?_
      refine k_iast X (day_A9 hd0) (day_L9 hd0) dX1_takeOut_25 (fun hb18 => ?_)
      refine k_sq (fun M19 => ?_)
      refine k_aload_n X 0 dX1_takeOut_26 rfl rfl ?_
      refine k_getR X (day_C hd0) fRX1_44 (day_R10 hd0) dX1_takeOut_27 ?_
      refine k_aload_n X 0 dX1_takeOut_30 rfl rfl ?_
      refine k_getI X (day_C hd0) fRX1_56 dX1_takeOut_31 ?_
      refine k_aload_n X 0 dX1_takeOut_34 rfl rfl ?_
      refine k_getI X (day_C hd0) fRX1_59 dX1_takeOut_35 ?_
      refine k_iast X (day_A10 hd0) (day_L10 hd0) dX1_takeOut_38 (fun hb20 => ?_)
      refine k_sq (fun M21 => ?_)
      refine k_aload_n X 0 dX1_takeOut_39 rfl rfl ?_
      refine k_getR X (day_C hd0) fRX1_47 (day_R11 hd0) dX1_takeOut_40 ?_
      refine k_aload_n X 0 dX1_takeOut_43 rfl rfl ?_
      refine k_getI X (day_C hd0) fRX1_56 dX1_takeOut_44 ?_
      refine k_aload_n X 0 dX1_takeOut_47 rfl rfl ?_
      refine k_getR X (day_C hd0) fRX1_20 (day_R2 hd0) dX1_takeOut_48 ?_
      refine k_iload_n X 1 dX1_takeOut_51 rfl rfl ?_
      refine k_iald X (day_A2 hd0) (day_L2 hd0) dX1_takeOut_52 (fun hb22 => ?_)
      refine k_callSI X [.int (gi M21 (d0 + 2) (ix x1))] [.int (gi M21 d0 2), .ref (ad E (d0 + 11))] (mt_Kinds_familyOf (zl Z) E (gi M21 (d0 + 2) (ix x1)) M21) mRX1_109 ⟨by decide, by decide⟩ rfl rfl (Nat.le_of_ble_eq_true rfl) dX1_takeOut_53 (fun r23 M24 => ?_)
      refine k_iast X (day_A11 hd0) (day_L11 hd0) dX1_takeOut_56 (fun hb25 => ?_)
      refine k_sq (fun M26 => ?_)
      refine k_aload_n X 0 dX1_takeOut_57 rfl rfl ?_
      refine k_dup X dX1_takeOut_58 rfl ?_
      refine k_getI X (day_C hd0) fRX1_56 dX1_takeOut_59 ?_
      refine k_iconst X (v := 1) dX1_takeOut_62 (by decide) ?_
      refine k_iadd X dX1_takeOut_63 ?_
      refine k_putI X (day_C hd0) fRX1_56 dX1_takeOut_64 ?_
      refine k_sq (fun M27 => ?_)
      refine k_lv [0, 1] rfl ?_
      exact kb_Day_takeOut_b67 X  d0 x1 hd0 M27
theorem mt_Day_takeOut (l : Launch) (E : En) (d0 : Nat) (x1 : Int32) (hd0 : isDay d0) (M : Mem) : MV l E yX1_takeOut cX1_takeOut 2 none 4 83 [.ref (ad E d0), .int x1] M (j_Day_takeOut d0 x1 M) := MV_of (by decide) (Nat.le_of_ble_eq_true rfl) (fun Z _ X => k_lv [0, 1] rfl (kw_Day_takeOut X d0 x1 hd0 M))
-- FilmCans.unload
theorem kb_Fc_unload_b47 {Z : ZT} {E : En} (X : Cx Z E 2 cX8_unload RX8 (some .int) 5 104) (x1 : Int32) (M : Mem) : Kj Z E 2 (QI Z E) (Fc_unload_b47 x1 M) M 47 [(0, .ref (ad E 0)), (1, .int x1)] [] := by
  unfold Fc_unload_b47
  refine k_aload_n X 0 dX8_unload_47 rfl rfl ?_
  refine k_getR X c_0 fRX8_29 r_0_3 dX8_unload_48 ?_
  refine k_aload_n X 0 dX8_unload_51 rfl rfl ?_
  refine k_getR X c_0 fRX8_19 r_0_1 dX8_unload_52 ?_
  refine k_callVV X [.ref (ad E 3)] [] c_27 rfl (by decide) rfl (mt_Hist_keep (zl Z) E 3 day_3 M) mRX8_121 ⟨by decide, by decide⟩ rfl rfl (Nat.le_of_ble_eq_true rfl) dX8_unload_55 (fun _ M5 => ?_)
  refine k_aload_n X 0 dX8_unload_58 rfl rfl ?_
  refine k_getR X c_0 fRX8_19 r_0_1 dX8_unload_59 ?_
  refine k_iload_n X 1 dX8_unload_62 rfl rfl ?_
  refine k_callVV X [.int x1] [] c_3 rfl (by decide) rfl (mt_Day_takeOut (zl Z) E 3 x1 day_3 M5) mRX8_159 ⟨by decide, by decide⟩ rfl rfl (Nat.le_of_ble_eq_true rfl) dX8_unload_63 (fun _ M7 => ?_)
  refine k_aload_n X 0 dX8_unload_66 rfl rfl ?_
  refine k_getR X c_0 fRX8_19 r_0_1 dX8_unload_67 ?_
  refine k_getR X c_3 fRX8_114 r_3_11 dX8_unload_70 ?_
  refine k_iload_n X 1 dX8_unload_73 rfl rfl ?_
  refine k_iald X c_6 l_6 dX8_unload_74 (fun hb8 => ?_)
  exact k_iret X dX8_unload_75
theorem kw_Fc_unload {Z : ZT} {E : En} (X : Cx Z E 2 cX8_unload RX8 (some .int) 5 104) (M : Mem) : Kj Z E 2 (QI Z E) (j_Fc_unload M) M 0 [(0, .ref (ad E 0))] [] := by
  unfold j_Fc_unload
  refine k_aload_n X 0 dX8_unload_0 rfl rfl ?_
  refine k_getR X c_0 fRX8_19 r_0_1 dX8_unload_1 ?_
  refine k_getI X c_3 fRX8_106 dX8_unload_4 ?_
  refine x_istore_n X [(0, .ref (ad E 0))] dX8_unload_7 rfl (by decide) rfl (fun x1_ => ?_)
  refine k_aload_n X 1 dX8_unload_8 rfl rfl ?_
  refine k_getR X c_0 fRX8_19 r_0_1 dX8_unload_9 ?_
  refine k_iload_n X 0 dX8_unload_12 rfl rfl ?_
  refine k_callVI X [.int x1_] [] c_3 rfl (by decide) rfl (mt_Day_hasCan (zl Z) E 3 x1_ day_3 M) mRX8_103 ⟨by decide, by decide⟩ rfl rfl (Nat.le_of_ble_eq_true rfl) dX8_unload_13 (fun r2 M3 => ?_)
  refine k_if_ne X 22 dX8_unload_16 (by decide) ?_ ?_
  · refine k_aload_n X 1 dX8_unload_22 rfl rfl ?_
    refine k_getR X c_0 fRX8_19 r_0_1 dX8_unload_23 ?_
    refine k_getI X c_3 fRX8_153 dX8_unload_26 ?_
    refine k_if_le X 47 dX8_unload_29 (by decide) ?_ ?_
    · refine k_lv [1, 0] rfl ?_
      exact kb_Fc_unload_b47 X  x1_ M3
    · refine k_aload_n X 1 dX8_unload_32 rfl rfl ?_
      refine k_getR X c_0 fRX8_19 r_0_1 dX8_unload_33 ?_
      refine k_getI X c_3 fRX8_156 dX8_unload_36 ?_
      refine k_bipush X (v := 8) dX8_unload_39 (by decide) ?_
      refine k_icmp_lt X 47 dX8_unload_41 (by decide) ?_ ?_
      · refine k_lv [1, 0] rfl ?_
        exact kb_Fc_unload_b47 X  x1_ M3
      · refine k_ldc X w_364 dX8_unload_44 ?_
        exact k_iret X dX8_unload_46
  · refine k_ldc X w_463 dX8_unload_19 ?_
    exact k_iret X dX8_unload_21
theorem mt_Fc_unload (l : Launch) (E : En) (M : Mem) : MI l E yX8_unload cX8_unload 2 (some .int) 5 104 [.ref (ad E 0)] M (j_Fc_unload M) := MI_of (by decide) (Nat.le_of_ble_eq_true rfl) (fun Z _ X => k_lv [0] rfl (kw_Fc_unload X M))
-- FilmCans$Laboratory.firstWithRoom
theorem kb_Lab_firstWithRoom_b51 {Z : ZT} {E : En} (X : Cx Z E 5 cX4_firstWithRoom RX4 (some .int) 0 0) (k3 : Nat → Int32 → Int32 → Int32 → Mem → Option (Int32 × Mem)) (hk3 : ∀ (d1 : Nat) (x2 : Int32) (x3 : Int32) (x4 : Int32) (hd1 : isDay d1) (M : Mem), Kj Z E 5 (QI Z E) (k3 d1 x2 x3 x4 M) M 3 [(0, .ref (ad E 294)), (1, .ref (ad E d1)), (2, .int x2), (3, .int x3), (4, .int x4)] []) (d1 : Nat) (x2 : Int32) (x3 : Int32) (x4 : Int32) (hd1 : isDay d1) (M : Mem) : Kj Z E 5 (QI Z E) (Lab_firstWithRoom_b51 k3 d1 x2 x3 x4 M) M 51 [(0, .ref (ad E 294)), (1, .ref (ad E d1)), (2, .int x2), (3, .int x3), (4, .int x4)] [] := by
  unfold Lab_firstWithRoom_b51
  refine x_iinc X 1 4 [(0, .ref (ad E 294)), (1, .ref (ad E d1)), (2, .int x2), (3, .int x3)] dX4_firstWithRoom_51 rfl (by decide) (by decide) rfl (fun x4_ => ?_)
  refine k_goto X 3 dX4_firstWithRoom_54 (by decide) ?_
  refine k_lv [1, 2, 3, 4, 0] rfl ?_
  exact hk3 d1 x2 x3 x4_ hd1 M
theorem kb_Lab_firstWithRoom_h3 {Z : ZT} {E : En} (X : Cx Z E 5 cX4_firstWithRoom RX4 (some .int) 0 0)  : ∀ (n : Nat) (d1 : Nat) (x2 : Int32) (x3 : Int32) (x4 : Int32) (hd1 : isDay d1) (M : Mem), Kj Z E 5 (QI Z E) (Lab_firstWithRoom_h3  n d1 x2 x3 x4 M) M 3 [(0, .ref (ad E 294)), (1, .ref (ad E d1)), (2, .int x2), (3, .int x3), (4, .int x4)] [] := by
  intro n
  induction n with
  | zero => intro d1 x2 x3 x4 hd1 M; exact k_none
  | succ n ih =>
    intro d1 x2 x3 x4 hd1 M
    rw [Lab_firstWithRoom_h3]
    refine k_iload X 4 dX4_firstWithRoom_3 rfl ?_
    refine k_iload_n X 3 dX4_firstWithRoom_5 rfl rfl ?_
    refine k_icmp_ge X 57 dX4_firstWithRoom_6 (by decide) ?_ ?_
    · refine k_iload_n X 3 dX4_firstWithRoom_57 rfl rfl ?_
      exact k_iret X dX4_firstWithRoom_58
    · refine k_aload_n X 0 dX4_firstWithRoom_9 rfl rfl ?_
      refine k_getR X c_294 fRX4_15 r_294_1 dX4_firstWithRoom_10 ?_
      refine k_iload X 4 dX4_firstWithRoom_13 rfl ?_
      refine k_iald X c_296 l_296 dX4_firstWithRoom_15 (fun hb2 => ?_)
      refine k_aload_n X 1 dX4_firstWithRoom_16 rfl rfl ?_
      refine k_getR X (day_C hd1) fRX4_34 (day_R11 hd1) dX4_firstWithRoom_17 ?_
      refine k_iload_n X 2 dX4_firstWithRoom_20 rfl rfl ?_
      refine k_iald X (day_A11 hd1) (day_L11 hd1) dX4_firstWithRoom_21 (fun hb3 => ?_)
      refine k_icmp_ne X 51 dX4_firstWithRoom_22 (by decide) ?_ ?_
      · refine k_lv [0, 1, 2, 3, 4] rfl ?_
        exact kb_Lab_firstWithRoom_b51 X (fun d1 x2 x3 x4 M => Lab_firstWithRoom_h3 n d1 x2 x3 x4 M) (fun d1 x2 x3 x4 hd1 M => ih d1 x2 x3 x4 hd1 M) d1 x2 x3 x4 hd1 M
      · refine k_aload_n X 0 dX4_firstWithRoom_25 rfl rfl ?_
        refine k_getR X c_294 fRX4_9 r_294_0 dX4_firstWithRoom_26 ?_
        refine k_iload X 4 dX4_firstWithRoom_29 rfl ?_
        refine k_iald X c_295 l_295 dX4_firstWithRoom_31 (fun hb5 => ?_)
        refine k_aload_n X 1 dX4_firstWithRoom_32 rfl rfl ?_
        refine k_getR X (day_C hd1) fRX4_37 (day_R10 hd1) dX4_firstWithRoom_33 ?_
        refine k_iload_n X 2 dX4_firstWithRoom_36 rfl rfl ?_
        refine k_iald X (day_A10 hd1) (day_L10 hd1) dX4_firstWithRoom_37 (fun hb6 => ?_)
        refine k_iadd X dX4_firstWithRoom_38 ?_
        refine k_aload_n X 1 dX4_firstWithRoom_39 rfl rfl ?_
        refine k_getR X (day_C hd1) fRX4_40 (day_R1 hd1) dX4_firstWithRoom_40 ?_
        refine k_iconst X (v := 2) dX4_firstWithRoom_43 (by decide) ?_
        refine k_ialdC X 2 (day_A1 hd1) (day_L1 hd1) (by decide) (by decide) dX4_firstWithRoom_44 ?_
        refine k_icmp_gt X 51 dX4_firstWithRoom_45 (by decide) ?_ ?_
        · refine k_lv [0, 1, 2, 3, 4] rfl ?_
          exact kb_Lab_firstWithRoom_b51 X (fun d1 x2 x3 x4 M => Lab_firstWithRoom_h3 n d1 x2 x3 x4 M) (fun d1 x2 x3 x4 hd1 M => ih d1 x2 x3 x4 hd1 M) d1 x2 x3 x4 hd1 M
        · refine k_iload X 4 dX4_firstWithRoom_48 rfl ?_
          exact k_iret X dX4_firstWithRoom_50
theorem kw_Lab_firstWithRoom {Z : ZT} {E : En} (X : Cx Z E 5 cX4_firstWithRoom RX4 (some .int) 0 0) (d1 : Nat) (x2 : Int32) (x3 : Int32) (hd1 : isDay d1) (M : Mem) : Kj Z E 5 (QI Z E) (j_Lab_firstWithRoom d1 x2 x3 M) M 0 [(0, .ref (ad E 294)), (1, .ref (ad E d1)), (2, .int x2), (3, .int x3)] [] := by
  unfold j_Lab_firstWithRoom
  refine k_iconst X (v := 0) dX4_firstWithRoom_0 (by decide) ?_
  refine x_istore X [(0, .ref (ad E 294)), (1, .ref (ad E d1)), (2, .int x2), (3, .int x3)] dX4_firstWithRoom_1 (by decide) rfl (fun x1_ => ?_)
  refine k_lv [1, 2, 3, 4, 0] rfl ?_
  exact kb_Lab_firstWithRoom_h3 X  FU d1 x2 x3 x1_ hd1 M
theorem mt_Lab_firstWithRoom (l : Launch) (E : En) (d1 : Nat) (x2 : Int32) (x3 : Int32) (hd1 : isDay d1) (M : Mem) : MI l E yX4_firstWithRoom cX4_firstWithRoom 5 (some .int) 0 0 [.ref (ad E 294), .ref (ad E d1), .int x2, .int x3] M (j_Lab_firstWithRoom d1 x2 x3 M) := MI_of (by decide) (Nat.le_of_ble_eq_true rfl) (fun Z _ X => k_lv [0, 1, 2, 3] rfl (kw_Lab_firstWithRoom X d1 x2 x3 hd1 M))
-- FilmCans$Laboratory.byLab
theorem kb_Lab_byLab_b51 {Z : ZT} {E : En} (X : Cx Z E 5 cX4_byLab RX4 (some .int) 1 24) (k4 : Nat → Int32 → Int32 → Mem → Option (Int32 × Mem)) (hk4 : ∀ (d1 : Nat) (x2 : Int32) (x3 : Int32) (hd1 : isDay d1) (M : Mem), Kj Z E 5 (QI Z E) (k4 d1 x2 x3 M) M 4 [(0, .ref (ad E 294)), (1, .ref (ad E d1)), (2, .int x2), (3, .int x3)] []) (d1 : Nat) (x2 : Int32) (x3 : Int32) (x4 : Int32) (hd1 : isDay d1) (M : Mem) : Kj Z E 5 (QI Z E) (Lab_byLab_b51 k4 d1 x2 x3 x4 M) M 51 [(0, .ref (ad E 294)), (1, .ref (ad E d1)), (2, .int x2), (3, .int x3), (4, .int x4)] [] := by
  unfold Lab_byLab_b51
  refine k_aload_n X 0 dX4_byLab_51 rfl rfl ?_
  refine k_getR X c_294 fRX4_9 r_294_0 dX4_byLab_52 ?_
  refine k_iload X 4 dX4_byLab_55 rfl ?_
  refine k_dup2 X dX4_byLab_57 rfl rfl ?_
  refine k_iald X c_295 l_295 dX4_byLab_58 (fun hb5 => ?_)
  refine k_aload_n X 1 dX4_byLab_59 rfl rfl ?_
  refine k_getR X (day_C hd1) fRX4_37 (day_R10 hd1) dX4_byLab_60 ?_
  refine k_iload_n X 3 dX4_byLab_63 rfl rfl ?_
  refine k_iald X (day_A10 hd1) (day_L10 hd1) dX4_byLab_64 (fun hb6 => ?_)
  refine k_iadd X dX4_byLab_65 ?_
  refine k_iast X c_295 l_295 dX4_byLab_66 (fun hb7 => ?_)
  refine k_sq (fun M8 => ?_)
  refine x_iinc X 1 3 [(0, .ref (ad E 294)), (1, .ref (ad E d1)), (2, .int x2), (4, .int x4)] dX4_byLab_67 rfl (by decide) (by decide) rfl (fun x9_ => ?_)
  refine k_goto X 4 dX4_byLab_70 (by decide) ?_
  refine k_lv [1, 2, 3, 0] rfl ?_
  exact hk4 d1 x2 x9_ hd1 M8
theorem kb_Lab_byLab_h4 {Z : ZT} {E : En} (X : Cx Z E 5 cX4_byLab RX4 (some .int) 1 24)  : ∀ (n : Nat) (d1 : Nat) (x2 : Int32) (x3 : Int32) (hd1 : isDay d1) (M : Mem), Kj Z E 5 (QI Z E) (Lab_byLab_h4  n d1 x2 x3 M) M 4 [(0, .ref (ad E 294)), (1, .ref (ad E d1)), (2, .int x2), (3, .int x3)] [] := by
  intro n
  induction n with
  | zero => intro d1 x2 x3 hd1 M; exact k_none
  | succ n ih =>
    intro d1 x2 x3 hd1 M
    rw [Lab_byLab_h4]
    refine k_iload_n X 3 dX4_byLab_4 rfl rfl ?_
    refine k_aload_n X 1 dX4_byLab_5 rfl rfl ?_
    refine k_getI X (day_C hd1) fRX4_24 dX4_byLab_6 ?_
    refine k_icmp_ge X 73 dX4_byLab_9 (by decide) ?_ ?_
    · refine k_iload_n X 2 dX4_byLab_73 rfl rfl ?_
      exact k_iret X dX4_byLab_74
    · refine k_aload_n X 0 dX4_byLab_12 rfl rfl ?_
      refine k_aload_n X 1 dX4_byLab_13 rfl rfl ?_
      refine k_iload_n X 3 dX4_byLab_14 rfl rfl ?_
      refine k_iload_n X 2 dX4_byLab_15 rfl rfl ?_
      refine k_callVI X [.ref (ad E d1), .int x3, .int x2] [] c_294 rfl (by decide) rfl (mt_Lab_firstWithRoom (zl Z) E d1 x3 x2 hd1 M) mRX4_30 ⟨by decide, by decide⟩ rfl rfl (Nat.le_of_ble_eq_true rfl) dX4_byLab_16 (fun r3 M4 => ?_)
      refine k_istore X [(4, .int r3), (0, .ref (ad E 294)), (1, .ref (ad E d1)), (2, .int x2), (3, .int x3)] dX4_byLab_19 (by decide) rfl ?_
      refine k_iload X 0 dX4_byLab_21 rfl ?_
      refine k_iload_n X 3 dX4_byLab_23 rfl rfl ?_
      refine k_icmp_ne X 51 dX4_byLab_24 (by decide) ?_ ?_
      · refine k_lv [1, 2, 3, 4, 0] rfl ?_
        exact kb_Lab_byLab_b51 X (fun d1 x2 x3 M => Lab_byLab_h4 n d1 x2 x3 M) (fun d1 x2 x3 hd1 M => ih d1 x2 x3 hd1 M) d1 x2 x3 r3 hd1 M4
      · refine k_aload_n X 1 dX4_byLab_27 rfl rfl ?_
        refine k_getR X c_294 fRX4_9 r_294_0 dX4_byLab_28 ?_
        refine k_iload X 0 dX4_byLab_31 rfl ?_
        refine k_iconst X (v := 0) dX4_byLab_33 (by decide) ?_
        refine k_iast X c_295 l_295 dX4_byLab_34 (fun hb10 => ?_)
        refine k_sq (fun M11 => ?_)
        refine k_aload_n X 1 dX4_byLab_35 rfl rfl ?_
        refine k_getR X c_294 fRX4_15 r_294_1 dX4_byLab_36 ?_
        refine k_iload X 0 dX4_byLab_39 rfl ?_
        refine k_aload_n X 2 dX4_byLab_41 rfl rfl ?_
        refine k_getR X (day_C hd1) fRX4_34 (day_R11 hd1) dX4_byLab_42 ?_
        refine k_iload_n X 4 dX4_byLab_45 rfl rfl ?_
        refine k_iald X (day_A11 hd1) (day_L11 hd1) dX4_byLab_46 (fun hb12 => ?_)
        refine k_iast X c_296 l_296 dX4_byLab_47 (fun hb13 => ?_)
        refine k_sq (fun M14 => ?_)
        refine x_iinc X 1 3 [(4, .int r3), (0, .ref (ad E 294)), (1, .ref (ad E d1)), (3, .int x3)] dX4_byLab_48 rfl (by decide) (by decide) rfl (fun x15_ => ?_)
        refine k_lv [2, 3, 0, 4, 1] rfl ?_
        exact kb_Lab_byLab_b51 X (fun d1 x2 x3 M => Lab_byLab_h4 n d1 x2 x3 M) (fun d1 x2 x3 hd1 M => ih d1 x2 x3 hd1 M) d1 x15_ x3 r3 hd1 M14
theorem kw_Lab_byLab {Z : ZT} {E : En} (X : Cx Z E 5 cX4_byLab RX4 (some .int) 1 24) (d1 : Nat) (hd1 : isDay d1) (M : Mem) : Kj Z E 5 (QI Z E) (j_Lab_byLab d1 M) M 0 [(0, .ref (ad E 294)), (1, .ref (ad E d1))] [] := by
  unfold j_Lab_byLab
  refine k_iconst X (v := 0) dX4_byLab_0 (by decide) ?_
  refine x_istore_n X [(0, .ref (ad E 294)), (1, .ref (ad E d1))] dX4_byLab_1 rfl (by decide) rfl (fun x1_ => ?_)
  refine k_iconst X (v := 0) dX4_byLab_2 (by decide) ?_
  refine x_istore_n X [(2, .int x1_), (0, .ref (ad E 294)), (1, .ref (ad E d1))] dX4_byLab_3 rfl (by decide) rfl (fun x2_ => ?_)
  refine k_lv [2, 3, 1, 0] rfl ?_
  exact kb_Lab_byLab_h4 X  FU d1 x1_ x2_ hd1 M
theorem mt_Lab_byLab (l : Launch) (E : En) (d1 : Nat) (hd1 : isDay d1) (M : Mem) : MI l E yX4_byLab cX4_byLab 5 (some .int) 1 24 [.ref (ad E 294), .ref (ad E d1)] M (j_Lab_byLab d1 M) := MI_of (by decide) (Nat.le_of_ble_eq_true rfl) (fun Z _ X => k_lv [0, 1] rfl (kw_Lab_byLab X d1 hd1 M))
-- FilmCans$Day.feetThatWait
theorem kb_Day_feetThatWait_h4 {Z : ZT} {E : En} (X : Cx Z E 3 cX1_feetThatWait RX1 (some .int) 0 0)  : ∀ (n : Nat) (d0 : Nat) (x1 : Int32) (x2 : Int32) (hd0 : isDay d0) (M : Mem), Kj Z E 3 (QI Z E) (Day_feetThatWait_h4  n d0 x1 x2 M) M 4 [(0, .ref (ad E d0)), (1, .int x1), (2, .int x2)] [] := by
  intro n
  induction n with
  | zero => intro d0 x1 x2 hd0 M; exact k_none
  | succ n ih =>
    intro d0 x1 x2 hd0 M
    rw [Day_feetThatWait_h4]
    refine k_iload_n X 2 dX1_feetThatWait_4 rfl rfl ?_
    refine k_aload_n X 0 dX1_feetThatWait_5 rfl rfl ?_
    refine k_getI X (day_C hd0) fRX1_56 dX1_feetThatWait_6 ?_
    refine k_icmp_ge X 27 dX1_feetThatWait_9 (by decide) ?_ ?_
    · refine k_iload_n X 1 dX1_feetThatWait_27 rfl rfl ?_
      exact k_iret X dX1_feetThatWait_28
    · refine k_iload_n X 1 dX1_feetThatWait_12 rfl rfl ?_
      refine k_aload_n X 0 dX1_feetThatWait_13 rfl rfl ?_
      refine k_getR X (day_C hd0) fRX1_44 (day_R10 hd0) dX1_feetThatWait_14 ?_
      refine k_iload_n X 2 dX1_feetThatWait_17 rfl rfl ?_
      refine k_iald X (day_A10 hd0) (day_L10 hd0) dX1_feetThatWait_18 (fun hb3 => ?_)
      refine k_iadd X dX1_feetThatWait_19 ?_
      refine x_istore_n X [(0, .ref (ad E d0)), (2, .int x2)] dX1_feetThatWait_20 rfl (by decide) rfl (fun x4_ => ?_)
      refine x_iinc X 1 2 [(1, .int x4_), (0, .ref (ad E d0))] dX1_feetThatWait_21 rfl (by decide) (by decide) rfl (fun x5_ => ?_)
      refine k_goto X 4 dX1_feetThatWait_24 (by decide) ?_
      refine k_lv [2, 1, 0] rfl ?_
      exact ih d0 x4_ x5_ hd0 M
theorem kw_Day_feetThatWait {Z : ZT} {E : En} (X : Cx Z E 3 cX1_feetThatWait RX1 (some .int) 0 0) (d0 : Nat) (hd0 : isDay d0) (M : Mem) : Kj Z E 3 (QI Z E) (j_Day_feetThatWait d0 M) M 0 [(0, .ref (ad E d0))] [] := by
  unfold j_Day_feetThatWait
  refine k_iconst X (v := 0) dX1_feetThatWait_0 (by decide) ?_
  refine x_istore_n X [(0, .ref (ad E d0))] dX1_feetThatWait_1 rfl (by decide) rfl (fun x1_ => ?_)
  refine k_iconst X (v := 0) dX1_feetThatWait_2 (by decide) ?_
  refine x_istore_n X [(1, .int x1_), (0, .ref (ad E d0))] dX1_feetThatWait_3 rfl (by decide) rfl (fun x2_ => ?_)
  refine k_lv [2, 1, 0] rfl ?_
  exact kb_Day_feetThatWait_h4 X  FU d0 x1_ x2_ hd0 M
theorem mt_Day_feetThatWait (l : Launch) (E : En) (d0 : Nat) (hd0 : isDay d0) (M : Mem) : MI l E yX1_feetThatWait cX1_feetThatWait 3 (some .int) 0 0 [.ref (ad E d0)] M (j_Day_feetThatWait d0 M) := MI_of (by decide) (Nat.le_of_ble_eq_true rfl) (fun Z _ X => k_lv [0] rfl (kw_Day_feetThatWait X d0 hd0 M))
-- FilmCans$Day.develop
theorem kw_Day_develop {Z : ZT} {E : En} (X : Cx Z E 2 cX1_develop RX1 none 1 22) (d0 : Nat) (x1 : Int32) (hd0 : isDay d0) (M : Mem) : Kj Z E 2 (QV Z E) (j_Day_develop d0 x1 M) M 0 [(0, .ref (ad E d0)), (1, .int x1)] [] := by
  unfold j_Day_develop
  refine k_aload_n X 0 dX1_develop_0 rfl rfl ?_
  refine k_dup X dX1_develop_1 rfl ?_
  refine k_getI X (day_C hd0) fRX1_71 dX1_develop_2 ?_
  refine k_aload_n X 0 dX1_develop_5 rfl rfl ?_
  refine k_getR X (day_C hd0) fRX1_16 (day_R1 hd0) dX1_develop_6 ?_
  refine k_iconst X (v := 3) dX1_develop_9 (by decide) ?_
  refine k_ialdC X 3 (day_A1 hd0) (day_L1 hd0) (by decide) (by decide) dX1_develop_10 ?_
  refine k_iload_n X 1 dX1_develop_11 rfl rfl ?_
  refine k_imul X dX1_develop_12 ?_
  refine k_aload_n X 0 dX1_develop_13 rfl rfl ?_
  refine k_callVI X [] [.int ((gi M (d0 + 1) 3) * x1), .int (gi M d0 8), .ref (ad E d0)] (day_C hd0) rfl (by decide) rfl (mt_Day_feetThatWait (zl Z) E d0 hd0 M) mRX1_118 ⟨by decide, by decide⟩ rfl rfl (Nat.le_of_ble_eq_true rfl) dX1_develop_14 (fun r2 M3 => ?_)
  refine k_iadd X dX1_develop_17 ?_
  refine k_iadd X dX1_develop_18 ?_
  refine k_putI X (day_C hd0) fRX1_71 dX1_develop_19 ?_
  refine k_sq (fun M4 => ?_)
  refine k_aload_n X 0 dX1_develop_22 rfl rfl ?_
  refine k_iconst X (v := 0) dX1_develop_23 (by decide) ?_
  refine k_putI X (day_C hd0) fRX1_56 dX1_develop_24 ?_
  refine k_sq (fun M5 => ?_)
  exact k_vret X dX1_develop_27
theorem mt_Day_develop (l : Launch) (E : En) (d0 : Nat) (x1 : Int32) (hd0 : isDay d0) (M : Mem) : MV l E yX1_develop cX1_develop 2 none 1 22 [.ref (ad E d0), .int x1] M (j_Day_develop d0 x1 M) := MV_of (by decide) (Nat.le_of_ble_eq_true rfl) (fun Z _ X => k_lv [0, 1] rfl (kw_Day_develop X d0 x1 hd0 M))
-- FilmCans.lab
theorem kw_Fc_lab {Z : ZT} {E : En} (X : Cx Z E 2 cX8_lab RX8 (some .int) 3 68) (M : Mem) : Kj Z E 2 (QI Z E) (j_Fc_lab M) M 0 [(0, .ref (ad E 0))] [] := by
  unfold j_Fc_lab
  refine k_aload_n X 0 dX8_lab_0 rfl rfl ?_
  refine k_getR X c_0 fRX8_19 r_0_1 dX8_lab_1 ?_
  refine k_getI X c_3 fRX8_156 dX8_lab_4 ?_
  refine k_if_ne X 13 dX8_lab_7 (by decide) ?_ ?_
  · refine k_aload_n X 0 dX8_lab_13 rfl rfl ?_
    refine k_getR X c_0 fRX8_29 r_0_3 dX8_lab_14 ?_
    refine k_aload_n X 0 dX8_lab_17 rfl rfl ?_
    refine k_getR X c_0 fRX8_19 r_0_1 dX8_lab_18 ?_
    refine k_callVV X [.ref (ad E 3)] [] c_27 rfl (by decide) rfl (mt_Hist_keep (zl Z) E 3 day_3 M) mRX8_121 ⟨by decide, by decide⟩ rfl rfl (Nat.le_of_ble_eq_true rfl) dX8_lab_21 (fun _ M2 => ?_)
    refine k_aload_n X 0 dX8_lab_24 rfl rfl ?_
    refine k_getR X c_0 fRX8_40 r_0_5 dX8_lab_25 ?_
    refine k_aload_n X 0 dX8_lab_28 rfl rfl ?_
    refine k_getR X c_0 fRX8_19 r_0_1 dX8_lab_29 ?_
    refine k_callVI X [.ref (ad E 3)] [] c_294 rfl (by decide) rfl (mt_Lab_byLab (zl Z) E 3 day_3 M2) mRX8_162 ⟨by decide, by decide⟩ rfl rfl (Nat.le_of_ble_eq_true rfl) dX8_lab_32 (fun r3 M4 => ?_)
    refine k_istore_n X [(1, .int r3), (0, .ref (ad E 0))] dX8_lab_35 rfl (by decide) rfl ?_
    refine k_aload_n X 1 dX8_lab_36 rfl rfl ?_
    refine k_getR X c_0 fRX8_19 r_0_1 dX8_lab_37 ?_
    refine k_iload_n X 0 dX8_lab_40 rfl rfl ?_
    refine k_callVV X [.int r3] [] c_3 rfl (by decide) rfl (mt_Day_develop (zl Z) E 3 r3 day_3 M4) mRX8_166 ⟨by decide, by decide⟩ rfl rfl (Nat.le_of_ble_eq_true rfl) dX8_lab_41 (fun _ M6 => ?_)
    refine k_iload_n X 0 dX8_lab_44 rfl rfl ?_
    exact k_iret X dX8_lab_45
  · refine k_ldc X w_463 dX8_lab_10 ?_
    exact k_iret X dX8_lab_12
theorem mt_Fc_lab (l : Launch) (E : En) (M : Mem) : MI l E yX8_lab cX8_lab 2 (some .int) 3 68 [.ref (ad E 0)] M (j_Fc_lab M) := MI_of (by decide) (Nat.le_of_ble_eq_true rfl) (fun Z _ X => k_lv [0] rfl (kw_Fc_lab X M))
-- FilmCans$Day.reopen
theorem kw_Day_reopen {Z : ZT} {E : En} (X : Cx Z E 2 cX1_reopen RX1 none 0 0) (d0 : Nat) (x1 : Int32) (hd0 : isDay d0) (M : Mem) : Kj Z E 2 (QV Z E) (j_Day_reopen d0 x1 M) M 0 [(0, .ref (ad E d0)), (1, .int x1)] [] := by
  unfold j_Day_reopen
  refine k_aload_n X 0 dX1_reopen_0 rfl rfl ?_
  refine k_dup X dX1_reopen_1 rfl ?_
  refine k_getI X (day_C hd0) fRX1_65 dX1_reopen_2 ?_
  refine k_aload_n X 0 dX1_reopen_5 rfl rfl ?_
  refine k_getR X (day_C hd0) fRX1_35 (day_R7 hd0) dX1_reopen_6 ?_
  refine k_iload_n X 1 dX1_reopen_9 rfl rfl ?_
  refine k_iald X (day_A7 hd0) (day_L7 hd0) dX1_reopen_10 (fun hb1 => ?_)
  refine k_isub X dX1_reopen_11 ?_
  refine k_putI X (day_C hd0) fRX1_65 dX1_reopen_12 ?_
  refine k_sq (fun M2 => ?_)
  refine k_aload_n X 0 dX1_reopen_15 rfl rfl ?_
  refine k_dup X dX1_reopen_16 rfl ?_
  refine k_getI X (day_C hd0) fRX1_68 dX1_reopen_17 ?_
  refine k_aload_n X 0 dX1_reopen_20 rfl rfl ?_
  refine k_getR X (day_C hd0) fRX1_35 (day_R7 hd0) dX1_reopen_21 ?_
  refine k_iload_n X 1 dX1_reopen_24 rfl rfl ?_
  refine k_iald X (day_A7 hd0) (day_L7 hd0) dX1_reopen_25 (fun hb3 => ?_)
  refine k_iadd X dX1_reopen_26 ?_
  refine k_putI X (day_C hd0) fRX1_68 dX1_reopen_27 ?_
  refine k_sq (fun M4 => ?_)
  refine k_aload_n X 0 dX1_reopen_30 rfl rfl ?_
  refine k_getR X (day_C hd0) fRX1_38 (day_R8 hd0) dX1_reopen_31 ?_
  refine k_iload_n X 1 dX1_reopen_34 rfl rfl ?_
  refine k_ldc X w_117 dX1_reopen_35 ?_
  refine k_iast X (day_A8 hd0) (day_L8 hd0) dX1_reopen_37 (fun hb5 => ?_)
  refine k_sq (fun M6 => ?_)
  exact k_vret X dX1_reopen_38
theorem mt_Day_reopen (l : Launch) (E : En) (d0 : Nat) (x1 : Int32) (hd0 : isDay d0) (M : Mem) : MV l E yX1_reopen cX1_reopen 2 none 0 0 [.ref (ad E d0), .int x1] M (j_Day_reopen d0 x1 M) := MV_of (by decide) (Nat.le_of_ble_eq_true rfl) (fun Z _ X => k_lv [0, 1] rfl (kw_Day_reopen X d0 x1 hd0 M))
-- FilmCans.again
theorem kw_Fc_again {Z : ZT} {E : En} (X : Cx Z E 3 cX8_again RX8 (some .int) 3 68) (x1 : Int32) (M : Mem) : Kj Z E 3 (QI Z E) (j_Fc_again x1 M) M 0 [(0, .ref (ad E 0)), (1, .int x1)] [] := by
  unfold j_Fc_again
  refine k_aload_n X 0 dX8_again_0 rfl rfl ?_
  refine k_getR X c_0 fRX8_19 r_0_1 dX8_again_1 ?_
  refine k_iload_n X 1 dX8_again_4 rfl rfl ?_
  refine k_callVI X [.int x1] [] c_3 rfl (by decide) rfl (mt_Day_hasTake (zl Z) E 3 x1 day_3 M) mRX8_128 ⟨by decide, by decide⟩ rfl rfl (Nat.le_of_ble_eq_true rfl) dX8_again_5 (fun r1 M2 => ?_)
  refine k_if_ne X 14 dX8_again_8 (by decide) ?_ ?_
  · refine k_aload_n X 0 dX8_again_14 rfl rfl ?_
    refine k_getR X c_0 fRX8_19 r_0_1 dX8_again_15 ?_
    refine k_iload_n X 1 dX8_again_18 rfl rfl ?_
    refine k_callVI X [.int x1] [] c_3 rfl (by decide) rfl (mt_Day_isOpen (zl Z) E 3 x1 day_3 M2) mRX8_131 ⟨by decide, by decide⟩ rfl rfl (Nat.le_of_ble_eq_true rfl) dX8_again_19 (fun r3 M4 => ?_)
    refine k_if_eq X 28 dX8_again_22 (by decide) ?_ ?_
    · refine k_aload_n X 0 dX8_again_28 rfl rfl ?_
      refine k_getR X c_0 fRX8_29 r_0_3 dX8_again_29 ?_
      refine k_aload_n X 0 dX8_again_32 rfl rfl ?_
      refine k_getR X c_0 fRX8_19 r_0_1 dX8_again_33 ?_
      refine k_callVV X [.ref (ad E 3)] [] c_27 rfl (by decide) rfl (mt_Hist_keep (zl Z) E 3 day_3 M4) mRX8_121 ⟨by decide, by decide⟩ rfl rfl (Nat.le_of_ble_eq_true rfl) dX8_again_36 (fun _ M6 => ?_)
      refine k_aload_n X 0 dX8_again_39 rfl rfl ?_
      refine k_getR X c_0 fRX8_19 r_0_1 dX8_again_40 ?_
      refine k_getR X c_3 fRX8_169 r_3_16 dX8_again_43 ?_
      refine k_iload_n X 1 dX8_again_46 rfl rfl ?_
      refine k_iald X c_11 l_11 dX8_again_47 (fun hb7 => ?_)
      refine x_istore_n X [(0, .ref (ad E 0)), (1, .int x1)] dX8_again_48 rfl (by decide) rfl (fun x8_ => ?_)
      refine k_aload_n X 1 dX8_again_49 rfl rfl ?_
      refine k_getR X c_0 fRX8_19 r_0_1 dX8_again_50 ?_
      refine k_iload_n X 2 dX8_again_53 rfl rfl ?_
      refine k_callVV X [.int x1] [] c_3 rfl (by decide) rfl (mt_Day_reopen (zl Z) E 3 x1 day_3 M6) mRX8_172 ⟨by decide, by decide⟩ rfl rfl (Nat.le_of_ble_eq_true rfl) dX8_again_54 (fun _ M10 => ?_)
      refine k_iload_n X 0 dX8_again_57 rfl rfl ?_
      exact k_iret X dX8_again_58
    · refine k_ldc X w_463 dX8_again_25 ?_
      exact k_iret X dX8_again_27
  · refine k_ldc X w_359 dX8_again_11 ?_
    exact k_iret X dX8_again_13
theorem mt_Fc_again (l : Launch) (E : En) (x1 : Int32) (M : Mem) : MI l E yX8_again cX8_again 3 (some .int) 3 68 [.ref (ad E 0), .int x1] M (j_Fc_again x1 M) := MI_of (by decide) (Nat.le_of_ble_eq_true rfl) (fun Z _ X => k_lv [0, 1] rfl (kw_Fc_again X x1 M))
-- FilmCans$Day.isEmpty
theorem kw_Day_isEmpty {Z : ZT} {E : En} (X : Cx Z E 1 cX1_isEmpty RX1 (some .boolean) 0 0) (d0 : Nat) (hd0 : isDay d0) (M : Mem) : Kj Z E 1 (QI Z E) (j_Day_isEmpty d0 M) M 0 [(0, .ref (ad E d0))] [] := by
  unfold j_Day_isEmpty
  refine k_aload_n X 0 dX1_isEmpty_0 rfl rfl ?_
  refine k_getI X (day_C hd0) fRX1_50 dX1_isEmpty_1 ?_
  refine k_if_ne X 11 dX1_isEmpty_4 (by decide) ?_ ?_
  · refine k_iconst X (v := 0) dX1_isEmpty_11 (by decide) ?_
    exact k_zret X (by decide) dX1_isEmpty_12
  · refine k_iconst X (v := 1) dX1_isEmpty_7 (by decide) ?_
    refine k_goto X 12 dX1_isEmpty_8 (by decide) ?_
    exact k_zret X (by decide) dX1_isEmpty_12
theorem mt_Day_isEmpty (l : Launch) (E : En) (d0 : Nat) (hd0 : isDay d0) (M : Mem) : MI l E yX1_isEmpty cX1_isEmpty 1 (some .boolean) 0 0 [.ref (ad E d0)] M (j_Day_isEmpty d0 M) := MI_of (by decide) (Nat.le_of_ble_eq_true rfl) (fun Z _ X => k_lv [0] rfl (kw_Day_isEmpty X d0 hd0 M))
-- FilmCans.hasNoBook
theorem kw_Fc_hasNoBook {Z : ZT} {E : En} (X : Cx Z E 1 cX8_hasNoBook RX8 (some .boolean) 1 20) (M : Mem) : Kj Z E 1 (QI Z E) (j_Fc_hasNoBook M) M 0 [(0, .ref (ad E 0))] [] := by
  unfold j_Fc_hasNoBook
  refine k_aload_n X 0 dX8_hasNoBook_0 rfl rfl ?_
  refine k_getR X c_0 fRX8_19 r_0_1 dX8_hasNoBook_1 ?_
  refine k_callVI X [] [] c_3 rfl (by decide) rfl (mt_Day_isEmpty (zl Z) E 3 day_3 M) mRX8_358 ⟨by decide, by decide⟩ rfl rfl (Nat.le_of_ble_eq_true rfl) dX8_hasNoBook_4 (fun r1 M2 => ?_)
  exact k_zretG X dX8_hasNoBook_7
theorem mt_Fc_hasNoBook (l : Launch) (E : En) (M : Mem) : MI l E yX8_hasNoBook cX8_hasNoBook 1 (some .boolean) 1 20 [.ref (ad E 0)] M (j_Fc_hasNoBook M) := MI_of (by decide) (Nat.le_of_ble_eq_true rfl) (fun Z _ X => k_lv [0] rfl (kw_Fc_hasNoBook X M))
-- FilmCans.isCanKind
theorem kw_Fc_isCanKind {Z : ZT} {E : En} (X : Cx Z E 1 cX8_isCanKind RX8 (some .boolean) 1 20) (x0 : Int32) (M : Mem) : Kj Z E 1 (QI Z E) (j_Fc_isCanKind x0 M) M 0 [(0, .int x0)] [] := by
  unfold j_Fc_isCanKind
  refine k_iload_n X 0 dX8_isCanKind_0 rfl rfl ?_
  refine k_if_eq X 15 dX8_isCanKind_1 (by decide) ?_ ?_
  · refine k_iconst X (v := 0) dX8_isCanKind_15 (by decide) ?_
    exact k_zret X (by decide) dX8_isCanKind_16
  · refine k_iload_n X 0 dX8_isCanKind_4 rfl rfl ?_
    refine k_callSI X [.int x0] [] (mt_Kinds_isKind (zl Z) E x0 M) mRX8_189 ⟨by decide, by decide⟩ rfl rfl (Nat.le_of_ble_eq_true rfl) dX8_isCanKind_5 (fun r1 M2 => ?_)
    refine k_if_eq X 15 dX8_isCanKind_8 (by decide) ?_ ?_
    · refine k_iconst X (v := 0) dX8_isCanKind_15 (by decide) ?_
      exact k_zret X (by decide) dX8_isCanKind_16
    · refine k_iconst X (v := 1) dX8_isCanKind_11 (by decide) ?_
      refine k_goto X 16 dX8_isCanKind_12 (by decide) ?_
      exact k_zret X (by decide) dX8_isCanKind_16
theorem mt_Fc_isCanKind (l : Launch) (E : En) (x0 : Int32) (M : Mem) : MI l E yX8_isCanKind cX8_isCanKind 1 (some .boolean) 1 20 [.int x0] M (j_Fc_isCanKind x0 M) := MI_of (by decide) (Nat.le_of_ble_eq_true rfl) (fun Z _ X => k_lv [0] rfl (kw_Fc_isCanKind X x0 M))
-- FilmCans.isCanFeet
theorem kw_Fc_isCanFeet {Z : ZT} {E : En} (X : Cx Z E 1 cX8_isCanFeet RX8 (some .boolean) 0 0) (x0 : Int32) (M : Mem) : Kj Z E 1 (QI Z E) (j_Fc_isCanFeet x0 M) M 0 [(0, .int x0)] [] := by
  unfold j_Fc_isCanFeet
  refine k_iload_n X 0 dX8_isCanFeet_0 rfl rfl ?_
  refine k_iconst X (v := 1) dX8_isCanFeet_1 (by decide) ?_
  refine k_icmp_lt X 15 dX8_isCanFeet_2 (by decide) ?_ ?_
  · refine k_iconst X (v := 0) dX8_isCanFeet_15 (by decide) ?_
    exact k_zret X (by decide) dX8_isCanFeet_16
  · refine k_iload_n X 0 dX8_isCanFeet_5 rfl rfl ?_
    refine k_bipush X (v := 99) dX8_isCanFeet_6 (by decide) ?_
    refine k_icmp_gt X 15 dX8_isCanFeet_8 (by decide) ?_ ?_
    · refine k_iconst X (v := 0) dX8_isCanFeet_15 (by decide) ?_
      exact k_zret X (by decide) dX8_isCanFeet_16
    · refine k_iconst X (v := 1) dX8_isCanFeet_11 (by decide) ?_
      refine k_goto X 16 dX8_isCanFeet_12 (by decide) ?_
      exact k_zret X (by decide) dX8_isCanFeet_16
theorem mt_Fc_isCanFeet (l : Launch) (E : En) (x0 : Int32) (M : Mem) : MI l E yX8_isCanFeet cX8_isCanFeet 1 (some .boolean) 0 0 [.int x0] M (j_Fc_isCanFeet x0 M) := MI_of (by decide) (Nat.le_of_ble_eq_true rfl) (fun Z _ X => k_lv [0] rfl (kw_Fc_isCanFeet X x0 M))
-- FilmCans.buy
theorem kw_Fc_buy {Z : ZT} {E : En} (X : Cx Z E 3 cX8_buy RX8 (some .int) 3 68) (x1 : Int32) (x2 : Int32) (M : Mem) : Kj Z E 3 (QI Z E) (j_Fc_buy x1 x2 M) M 0 [(0, .ref (ad E 0)), (1, .int x1), (2, .int x2)] [] := by
  unfold j_Fc_buy
  refine k_aload_n X 0 dX8_buy_0 rfl rfl ?_
  refine k_callVI X [] [] c_0 rfl (by decide) rfl (mt_Fc_hasNoBook (zl Z) E  M) mRX8_175 ⟨by decide, by decide⟩ rfl rfl (Nat.le_of_ble_eq_true rfl) dX8_buy_1 (fun r1 M2 => ?_)
  refine k_if_eq X 10 dX8_buy_4 (by decide) ?_ ?_
  · refine k_iload_n X 1 dX8_buy_10 rfl rfl ?_
    refine k_callSI X [.int x1] [] (mt_Fc_isCanKind (zl Z) E x1 M2) mRX8_179 ⟨by decide, by decide⟩ rfl rfl (Nat.le_of_ble_eq_true rfl) dX8_buy_11 (fun r3 M4 => ?_)
    refine k_if_eq X 24 dX8_buy_14 (by decide) ?_ ?_
    · refine k_ldc X w_359 dX8_buy_24 ?_
      exact k_iret X dX8_buy_26
    · refine k_iload_n X 2 dX8_buy_17 rfl rfl ?_
      refine k_callSI X [.int x2] [] (mt_Fc_isCanFeet (zl Z) E x2 M4) mRX8_182 ⟨by decide, by decide⟩ rfl rfl (Nat.le_of_ble_eq_true rfl) dX8_buy_18 (fun r5 M6 => ?_)
      refine k_if_ne X 27 dX8_buy_21 (by decide) ?_ ?_
      · refine k_aload_n X 0 dX8_buy_27 rfl rfl ?_
        refine k_getR X c_0 fRX8_19 r_0_1 dX8_buy_28 ?_
        refine k_getI X c_3 fRX8_90 dX8_buy_31 ?_
        refine k_bipush X (v := 6) dX8_buy_34 (by decide) ?_
        refine k_icmp_lt X 42 dX8_buy_36 (by decide) ?_ ?_
        · refine k_aload_n X 0 dX8_buy_42 rfl rfl ?_
          refine k_getR X c_0 fRX8_29 r_0_3 dX8_buy_43 ?_
          refine k_aload_n X 0 dX8_buy_46 rfl rfl ?_
          refine k_getR X c_0 fRX8_19 r_0_1 dX8_buy_47 ?_
          refine k_callVV X [.ref (ad E 3)] [] c_27 rfl (by decide) rfl (mt_Hist_keep (zl Z) E 3 day_3 M6) mRX8_121 ⟨by decide, by decide⟩ rfl rfl (Nat.le_of_ble_eq_true rfl) dX8_buy_50 (fun _ M8 => ?_)
          refine k_aload_n X 0 dX8_buy_53 rfl rfl ?_
          refine k_getR X c_0 fRX8_19 r_0_1 dX8_buy_54 ?_
          refine k_iload_n X 1 dX8_buy_57 rfl rfl ?_
          refine k_iload_n X 2 dX8_buy_58 rfl rfl ?_
          refine k_callVI X [.int x1, .int x2] [] c_3 rfl (by decide) rfl (mt_Day_addCan (zl Z) E 3 x1 x2 day_3 M8) mRX8_185 ⟨by decide, by decide⟩ rfl rfl (Nat.le_of_ble_eq_true rfl) dX8_buy_59 (fun r9 M10 => ?_)
          exact k_iret X dX8_buy_62
        · refine k_ldc X w_364 dX8_buy_39 ?_
          exact k_iret X dX8_buy_41
      · refine k_ldc X w_359 dX8_buy_24 ?_
        exact k_iret X dX8_buy_26
  · refine k_ldc X w_463 dX8_buy_7 ?_
    exact k_iret X dX8_buy_9
theorem mt_Fc_buy (l : Launch) (E : En) (x1 : Int32) (x2 : Int32) (M : Mem) : MI l E yX8_buy cX8_buy 3 (some .int) 3 68 [.ref (ad E 0), .int x1, .int x2] M (j_Fc_buy x1 x2 M) := MI_of (by decide) (Nat.le_of_ble_eq_true rfl) (fun Z _ X => k_lv [0, 1, 2] rfl (kw_Fc_buy X x1 x2 M))
-- FilmCans.isTakeFeet
theorem kw_Fc_isTakeFeet {Z : ZT} {E : En} (X : Cx Z E 1 cX8_isTakeFeet RX8 (some .boolean) 0 0) (x0 : Int32) (M : Mem) : Kj Z E 1 (QI Z E) (j_Fc_isTakeFeet x0 M) M 0 [(0, .int x0)] [] := by
  unfold j_Fc_isTakeFeet
  refine k_iload_n X 0 dX8_isTakeFeet_0 rfl rfl ?_
  refine k_iconst X (v := 1) dX8_isTakeFeet_1 (by decide) ?_
  refine k_icmp_lt X 15 dX8_isTakeFeet_2 (by decide) ?_ ?_
  · refine k_iconst X (v := 0) dX8_isTakeFeet_15 (by decide) ?_
    exact k_zret X (by decide) dX8_isTakeFeet_16
  · refine k_iload_n X 0 dX8_isTakeFeet_5 rfl rfl ?_
    refine k_bipush X (v := 60) dX8_isTakeFeet_6 (by decide) ?_
    refine k_icmp_gt X 15 dX8_isTakeFeet_8 (by decide) ?_ ?_
    · refine k_iconst X (v := 0) dX8_isTakeFeet_15 (by decide) ?_
      exact k_zret X (by decide) dX8_isTakeFeet_16
    · refine k_iconst X (v := 1) dX8_isTakeFeet_11 (by decide) ?_
      refine k_goto X 16 dX8_isTakeFeet_12 (by decide) ?_
      exact k_zret X (by decide) dX8_isTakeFeet_16
theorem mt_Fc_isTakeFeet (l : Launch) (E : En) (x0 : Int32) (M : Mem) : MI l E yX8_isTakeFeet cX8_isTakeFeet 1 (some .boolean) 0 0 [.int x0] M (j_Fc_isTakeFeet x0 M) := MI_of (by decide) (Nat.le_of_ble_eq_true rfl) (fun Z _ X => k_lv [0] rfl (kw_Fc_isTakeFeet X x0 M))
-- FilmCans.ask
theorem kw_Fc_ask {Z : ZT} {E : En} (X : Cx Z E 3 cX8_ask RX8 (some .int) 3 68) (x1 : Int32) (x2 : Int32) (M : Mem) : Kj Z E 3 (QI Z E) (j_Fc_ask x1 x2 M) M 0 [(0, .ref (ad E 0)), (1, .int x1), (2, .int x2)] [] := by
  unfold j_Fc_ask
  refine k_aload_n X 0 dX8_ask_0 rfl rfl ?_
  refine k_callVI X [] [] c_0 rfl (by decide) rfl (mt_Fc_hasNoBook (zl Z) E  M) mRX8_175 ⟨by decide, by decide⟩ rfl rfl (Nat.le_of_ble_eq_true rfl) dX8_ask_1 (fun r1 M2 => ?_)
  refine k_if_eq X 10 dX8_ask_4 (by decide) ?_ ?_
  · refine k_iload_n X 1 dX8_ask_10 rfl rfl ?_
    refine k_callSI X [.int x1] [] (mt_Kinds_isKind (zl Z) E x1 M2) mRX8_189 ⟨by decide, by decide⟩ rfl rfl (Nat.le_of_ble_eq_true rfl) dX8_ask_11 (fun r3 M4 => ?_)
    refine k_if_eq X 24 dX8_ask_14 (by decide) ?_ ?_
    · refine k_ldc X w_359 dX8_ask_24 ?_
      exact k_iret X dX8_ask_26
    · refine k_iload_n X 2 dX8_ask_17 rfl rfl ?_
      refine k_callSI X [.int x2] [] (mt_Fc_isTakeFeet (zl Z) E x2 M4) mRX8_192 ⟨by decide, by decide⟩ rfl rfl (Nat.le_of_ble_eq_true rfl) dX8_ask_18 (fun r5 M6 => ?_)
      refine k_if_ne X 27 dX8_ask_21 (by decide) ?_ ?_
      · refine k_aload_n X 0 dX8_ask_27 rfl rfl ?_
        refine k_getR X c_0 fRX8_19 r_0_1 dX8_ask_28 ?_
        refine k_getI X c_3 fRX8_195 dX8_ask_31 ?_
        refine k_bipush X (v := 8) dX8_ask_34 (by decide) ?_
        refine k_icmp_lt X 42 dX8_ask_36 (by decide) ?_ ?_
        · refine k_aload_n X 0 dX8_ask_42 rfl rfl ?_
          refine k_getR X c_0 fRX8_29 r_0_3 dX8_ask_43 ?_
          refine k_aload_n X 0 dX8_ask_46 rfl rfl ?_
          refine k_getR X c_0 fRX8_19 r_0_1 dX8_ask_47 ?_
          refine k_callVV X [.ref (ad E 3)] [] c_27 rfl (by decide) rfl (mt_Hist_keep (zl Z) E 3 day_3 M6) mRX8_121 ⟨by decide, by decide⟩ rfl rfl (Nat.le_of_ble_eq_true rfl) dX8_ask_50 (fun _ M8 => ?_)
          refine k_aload_n X 0 dX8_ask_53 rfl rfl ?_
          refine k_getR X c_0 fRX8_19 r_0_1 dX8_ask_54 ?_
          refine k_iload_n X 1 dX8_ask_57 rfl rfl ?_
          refine k_iload_n X 2 dX8_ask_58 rfl rfl ?_
          refine k_callVI X [.int x1, .int x2] [] c_3 rfl (by decide) rfl (mt_Day_addTake (zl Z) E 3 x1 x2 day_3 M8) mRX8_198 ⟨by decide, by decide⟩ rfl rfl (Nat.le_of_ble_eq_true rfl) dX8_ask_59 (fun r9 M10 => ?_)
          exact k_iret X dX8_ask_62
        · refine k_ldc X w_364 dX8_ask_39 ?_
          exact k_iret X dX8_ask_41
      · refine k_ldc X w_359 dX8_ask_24 ?_
        exact k_iret X dX8_ask_26
  · refine k_ldc X w_463 dX8_ask_7 ?_
    exact k_iret X dX8_ask_9
theorem mt_Fc_ask (l : Launch) (E : En) (x1 : Int32) (x2 : Int32) (M : Mem) : MI l E yX8_ask cX8_ask 3 (some .int) 3 68 [.ref (ad E 0), .int x1, .int x2] M (j_Fc_ask x1 x2 M) := MI_of (by decide) (Nat.le_of_ble_eq_true rfl) (fun Z _ X => k_lv [0, 1, 2] rfl (kw_Fc_ask X x1 x2 M))
-- FilmCans.become
theorem kw_Fc_become {Z : ZT} {E : En} (X : Cx Z E 4 cX8_become RX8 (some .int) 3 68) (x1 : Int32) (x2 : Int32) (M : Mem) : Kj Z E 4 (QI Z E) (j_Fc_become x1 x2 M) M 0 [(0, .ref (ad E 0)), (1, .int x1), (2, .int x2)] [] := by
  unfold j_Fc_become
  refine k_aload_n X 0 dX8_become_0 rfl rfl ?_
  refine k_getR X c_0 fRX8_19 r_0_1 dX8_become_1 ?_
  refine k_iload_n X 1 dX8_become_4 rfl rfl ?_
  refine k_callVI X [.int x1] [] c_3 rfl (by decide) rfl (mt_Day_hasCan (zl Z) E 3 x1 day_3 M) mRX8_103 ⟨by decide, by decide⟩ rfl rfl (Nat.le_of_ble_eq_true rfl) dX8_become_5 (fun r1 M2 => ?_)
  refine k_if_eq X 18 dX8_become_8 (by decide) ?_ ?_
  · refine k_ldc X w_359 dX8_become_18 ?_
    exact k_iret X dX8_become_20
  · refine k_iload_n X 2 dX8_become_11 rfl rfl ?_
    refine k_callSI X [.int x2] [] (mt_Fc_isCanKind (zl Z) E x2 M2) mRX8_179 ⟨by decide, by decide⟩ rfl rfl (Nat.le_of_ble_eq_true rfl) dX8_become_12 (fun r3 M4 => ?_)
    refine k_if_ne X 21 dX8_become_15 (by decide) ?_ ?_
    · refine k_aload_n X 0 dX8_become_21 rfl rfl ?_
      refine k_getR X c_0 fRX8_19 r_0_1 dX8_become_22 ?_
      refine k_getR X c_3 fRX8_141 r_3_10 dX8_become_25 ?_
      refine k_iload_n X 1 dX8_become_28 rfl rfl ?_
      refine k_iald X c_5 l_5 dX8_become_29 (fun hb5 => ?_)
      refine x_istore_n X [(0, .ref (ad E 0)), (1, .int x1), (2, .int x2)] dX8_become_30 rfl (by decide) rfl (fun x6_ => ?_)
      refine k_iload_n X 0 dX8_become_31 rfl rfl ?_
      refine k_iload_n X 3 dX8_become_32 rfl rfl ?_
      refine k_icmp_eq X 48 dX8_become_33 (by decide) ?_ ?_
      · refine k_ldc X w_463 dX8_become_48 ?_
        exact k_iret X dX8_become_50
      · refine k_aload_n X 1 dX8_become_36 rfl rfl ?_
        refine k_getR X c_0 fRX8_19 r_0_1 dX8_become_37 ?_
        refine k_getR X c_3 fRX8_110 r_3_12 dX8_become_40 ?_
        refine k_iload_n X 2 dX8_become_43 rfl rfl ?_
        refine k_iald X c_7 l_7 dX8_become_44 (fun hb7 => ?_)
        refine k_if_eq X 51 dX8_become_45 (by decide) ?_ ?_
        · refine k_aload_n X 1 dX8_become_51 rfl rfl ?_
          refine k_getR X c_0 fRX8_29 r_0_3 dX8_become_52 ?_
          refine k_aload_n X 1 dX8_become_55 rfl rfl ?_
          refine k_getR X c_0 fRX8_19 r_0_1 dX8_become_56 ?_
          refine k_callVV X [.ref (ad E 3)] [] c_27 rfl (by decide) rfl (mt_Hist_keep (zl Z) E 3 day_3 M4) mRX8_121 ⟨by decide, by decide⟩ rfl rfl (Nat.le_of_ble_eq_true rfl) dX8_become_59 (fun _ M9 => ?_)
          refine k_aload_n X 1 dX8_become_62 rfl rfl ?_
          refine k_getR X c_0 fRX8_19 r_0_1 dX8_become_63 ?_
          refine k_getR X c_3 fRX8_141 r_3_10 dX8_become_66 ?_
          refine k_iload_n X 2 dX8_become_69 rfl rfl ?_
          refine k_iload_n X 3 dX8_become_70 rfl rfl ?_
          refine k_iast X c_5 l_5 dX8_become_71 (fun hb10 => ?_)
          refine k_sq (fun M11 => ?_)
          refine k_iload_n X 0 dX8_become_72 rfl rfl ?_
          exact k_iret X dX8_become_73
        · refine k_ldc X w_463 dX8_become_48 ?_
          exact k_iret X dX8_become_50
    · refine k_ldc X w_359 dX8_become_18 ?_
      exact k_iret X dX8_become_20
theorem mt_Fc_become (l : Launch) (E : En) (x1 : Int32) (x2 : Int32) (M : Mem) : MI l E yX8_become cX8_become 4 (some .int) 3 68 [.ref (ad E 0), .int x1, .int x2] M (j_Fc_become x1 x2 M) := MI_of (by decide) (Nat.le_of_ble_eq_true rfl) (fun Z _ X => k_lv [0, 1, 2] rfl (kw_Fc_become X x1 x2 M))
-- FilmCans.demand
theorem kw_Fc_demand {Z : ZT} {E : En} (X : Cx Z E 5 cX8_demand RX8 (some .int) 3 68) (x1 : Int32) (x2 : Int32) (x3 : Int32) (M : Mem) : Kj Z E 5 (QI Z E) (j_Fc_demand x1 x2 x3 M) M 0 [(0, .ref (ad E 0)), (1, .int x1), (2, .int x2), (3, .int x3)] [] := by
  unfold j_Fc_demand
  refine k_aload_n X 0 dX8_demand_0 rfl rfl ?_
  refine k_getR X c_0 fRX8_19 r_0_1 dX8_demand_1 ?_
  refine k_iload_n X 1 dX8_demand_4 rfl rfl ?_
  refine k_callVI X [.int x1] [] c_3 rfl (by decide) rfl (mt_Day_hasTake (zl Z) E 3 x1 day_3 M) mRX8_128 ⟨by decide, by decide⟩ rfl rfl (Nat.le_of_ble_eq_true rfl) dX8_demand_5 (fun r1 M2 => ?_)
  refine k_if_eq X 25 dX8_demand_8 (by decide) ?_ ?_
  · refine k_ldc X w_359 dX8_demand_25 ?_
    exact k_iret X dX8_demand_27
  · refine k_iload_n X 2 dX8_demand_11 rfl rfl ?_
    refine k_callSI X [.int x2] [] (mt_Kinds_isKind (zl Z) E x2 M2) mRX8_189 ⟨by decide, by decide⟩ rfl rfl (Nat.le_of_ble_eq_true rfl) dX8_demand_12 (fun r3 M4 => ?_)
    refine k_if_eq X 25 dX8_demand_15 (by decide) ?_ ?_
    · refine k_ldc X w_359 dX8_demand_25 ?_
      exact k_iret X dX8_demand_27
    · refine k_iload_n X 3 dX8_demand_18 rfl rfl ?_
      refine k_callSI X [.int x3] [] (mt_Fc_isTakeFeet (zl Z) E x3 M4) mRX8_192 ⟨by decide, by decide⟩ rfl rfl (Nat.le_of_ble_eq_true rfl) dX8_demand_19 (fun r5 M6 => ?_)
      refine k_if_ne X 28 dX8_demand_22 (by decide) ?_ ?_
      · refine k_aload_n X 0 dX8_demand_28 rfl rfl ?_
        refine k_getR X c_0 fRX8_19 r_0_1 dX8_demand_29 ?_
        refine k_iload_n X 1 dX8_demand_32 rfl rfl ?_
        refine k_callVI X [.int x1] [] c_3 rfl (by decide) rfl (mt_Day_isOpen (zl Z) E 3 x1 day_3 M6) mRX8_131 ⟨by decide, by decide⟩ rfl rfl (Nat.le_of_ble_eq_true rfl) dX8_demand_33 (fun r7 M8 => ?_)
        refine k_if_ne X 42 dX8_demand_36 (by decide) ?_ ?_
        · refine k_aload_n X 0 dX8_demand_42 rfl rfl ?_
          refine k_getR X c_0 fRX8_29 r_0_3 dX8_demand_43 ?_
          refine k_aload_n X 0 dX8_demand_46 rfl rfl ?_
          refine k_getR X c_0 fRX8_19 r_0_1 dX8_demand_47 ?_
          refine k_callVV X [.ref (ad E 3)] [] c_27 rfl (by decide) rfl (mt_Hist_keep (zl Z) E 3 day_3 M8) mRX8_121 ⟨by decide, by decide⟩ rfl rfl (Nat.le_of_ble_eq_true rfl) dX8_demand_50 (fun _ M10 => ?_)
          refine k_aload_n X 0 dX8_demand_53 rfl rfl ?_
          refine k_getR X c_0 fRX8_19 r_0_1 dX8_demand_54 ?_
          refine k_getR X c_3 fRX8_138 r_3_15 dX8_demand_57 ?_
          refine k_iload_n X 1 dX8_demand_60 rfl rfl ?_
          refine k_iald X c_10 l_10 dX8_demand_61 (fun hb11 => ?_)
          refine x_istore X [(0, .ref (ad E 0)), (1, .int x1), (2, .int x2), (3, .int x3)] dX8_demand_62 (by decide) rfl (fun x12_ => ?_)
          refine k_aload_n X 1 dX8_demand_64 rfl rfl ?_
          refine k_getR X c_0 fRX8_19 r_0_1 dX8_demand_65 ?_
          refine k_getR X c_3 fRX8_201 r_3_14 dX8_demand_68 ?_
          refine k_iload_n X 2 dX8_demand_71 rfl rfl ?_
          refine k_iload_n X 3 dX8_demand_72 rfl rfl ?_
          refine k_iast X c_9 l_9 dX8_demand_73 (fun hb13 => ?_)
          refine k_sq (fun M14 => ?_)
          refine k_aload_n X 1 dX8_demand_74 rfl rfl ?_
          refine k_getR X c_0 fRX8_19 r_0_1 dX8_demand_75 ?_
          refine k_getR X c_3 fRX8_138 r_3_15 dX8_demand_78 ?_
          refine k_iload_n X 2 dX8_demand_81 rfl rfl ?_
          refine k_iload_n X 4 dX8_demand_82 rfl rfl ?_
          refine k_iast X c_10 l_10 dX8_demand_83 (fun hb15 => ?_)
          refine k_sq (fun M16 => ?_)
          refine k_iload X 0 dX8_demand_84 rfl ?_
          exact k_iret X dX8_demand_86
        · refine k_ldc X w_463 dX8_demand_39 ?_
          exact k_iret X dX8_demand_41
      · refine k_ldc X w_359 dX8_demand_25 ?_
        exact k_iret X dX8_demand_27
theorem mt_Fc_demand (l : Launch) (E : En) (x1 : Int32) (x2 : Int32) (x3 : Int32) (M : Mem) : MI l E yX8_demand cX8_demand 5 (some .int) 3 68 [.ref (ad E 0), .int x1, .int x2, .int x3] M (j_Fc_demand x1 x2 x3 M) := MI_of (by decide) (Nat.le_of_ble_eq_true rfl) (fun Z _ X => k_lv [0, 1, 2, 3] rfl (kw_Fc_demand X x1 x2 x3 M))
-- FilmCans.law
theorem kw_Fc_law {Z : ZT} {E : En} (X : Cx Z E 4 cX8_law RX8 (some .int) 3 68) (x1 : Int32) (x2 : Int32) (M : Mem) : Kj Z E 4 (QI Z E) (j_Fc_law x1 x2 M) M 0 [(0, .ref (ad E 0)), (1, .int x1), (2, .int x2)] [] := by
  unfold j_Fc_law
  refine k_aload_n X 0 dX8_law_0 rfl rfl ?_
  refine k_callVI X [] [] c_0 rfl (by decide) rfl (mt_Fc_hasNoBook (zl Z) E  M) mRX8_175 ⟨by decide, by decide⟩ rfl rfl (Nat.le_of_ble_eq_true rfl) dX8_law_1 (fun r1 M2 => ?_)
  refine k_if_eq X 10 dX8_law_4 (by decide) ?_ ?_
  · refine k_iload_n X 1 dX8_law_10 rfl rfl ?_
    refine k_if_lt X 37 dX8_law_11 (by decide) ?_ ?_
    · refine k_ldc X w_359 dX8_law_37 ?_
      exact k_iret X dX8_law_39
    · refine k_iload_n X 1 dX8_law_14 rfl rfl ?_
      refine k_iconst X (v := 4) dX8_law_15 (by decide) ?_
      refine k_icmp_ge X 37 dX8_law_16 (by decide) ?_ ?_
      · refine k_ldc X w_359 dX8_law_37 ?_
        exact k_iret X dX8_law_39
      · refine k_iload_n X 2 dX8_law_19 rfl rfl ?_
        refine k_gets0 X w_617 dX8_law_20 ?_
        refine k_iload_n X 1 dX8_law_23 rfl rfl ?_
        refine k_st0 X dX8_law_24 (fun hb3 => ?_)
        refine k_icmp_lt X 37 dX8_law_25 (by decide) ?_ ?_
        · refine k_ldc X w_359 dX8_law_37 ?_
          exact k_iret X dX8_law_39
        · refine k_iload_n X 2 dX8_law_28 rfl rfl ?_
          refine k_gets1 X w_618 dX8_law_29 ?_
          refine k_iload_n X 1 dX8_law_32 rfl rfl ?_
          refine k_st1 X dX8_law_33 (fun hb4 => ?_)
          refine k_icmp_le X 40 dX8_law_34 (by decide) ?_ ?_
          · refine k_aload_n X 0 dX8_law_40 rfl rfl ?_
            refine k_getR X c_0 fRX8_29 r_0_3 dX8_law_41 ?_
            refine k_aload_n X 0 dX8_law_44 rfl rfl ?_
            refine k_getR X c_0 fRX8_19 r_0_1 dX8_law_45 ?_
            refine k_callVV X [.ref (ad E 3)] [] c_27 rfl (by decide) rfl (mt_Hist_keep (zl Z) E 3 day_3 M2) mRX8_121 ⟨by decide, by decide⟩ rfl rfl (Nat.le_of_ble_eq_true rfl) dX8_law_48 (fun _ M6 => ?_)
            refine k_aload_n X 0 dX8_law_51 rfl rfl ?_
            refine k_getR X c_0 fRX8_19 r_0_1 dX8_law_52 ?_
            refine k_getR X c_3 fRX8_210 r_3_9 dX8_law_55 ?_
            refine k_iload_n X 1 dX8_law_58 rfl rfl ?_
            refine k_iald X c_4 l_4 dX8_law_59 (fun hb7 => ?_)
            refine x_istore_n X [(0, .ref (ad E 0)), (1, .int x1), (2, .int x2)] dX8_law_60 rfl (by decide) rfl (fun x8_ => ?_)
            refine k_aload_n X 1 dX8_law_61 rfl rfl ?_
            refine k_getR X c_0 fRX8_19 r_0_1 dX8_law_62 ?_
            refine k_getR X c_3 fRX8_210 r_3_9 dX8_law_65 ?_
            refine k_iload_n X 2 dX8_law_68 rfl rfl ?_
            refine k_iload_n X 3 dX8_law_69 rfl rfl ?_
            refine k_iast X c_4 l_4 dX8_law_70 (fun hb9 => ?_)
            refine k_sq (fun M10 => ?_)
            refine k_iload_n X 0 dX8_law_71 rfl rfl ?_
            exact k_iret X dX8_law_72
          · refine k_ldc X w_359 dX8_law_37 ?_
            exact k_iret X dX8_law_39
  · refine k_ldc X w_463 dX8_law_7 ?_
    exact k_iret X dX8_law_9
theorem mt_Fc_law (l : Launch) (E : En) (x1 : Int32) (x2 : Int32) (M : Mem) : MI l E yX8_law cX8_law 4 (some .int) 3 68 [.ref (ad E 0), .int x1, .int x2] M (j_Fc_law x1 x2 M) := MI_of (by decide) (Nat.le_of_ble_eq_true rfl) (fun Z _ X => k_lv [0, 1, 2] rfl (kw_Fc_law X x1 x2 M))
-- FilmCans$Day.takesShotOn
theorem kb_Day_takesShotOn_b28 {Z : ZT} {E : En} (X : Cx Z E 4 cX1_takesShotOn RX1 (some .int) 0 0) (k4 : Nat → Int32 → Int32 → Int32 → Mem → Option (Int32 × Mem)) (hk4 : ∀ (d0 : Nat) (x1 : Int32) (x2 : Int32) (x3 : Int32) (hd0 : isDay d0) (M : Mem), Kj Z E 4 (QI Z E) (k4 d0 x1 x2 x3 M) M 4 [(0, .ref (ad E d0)), (1, .int x1), (2, .int x2), (3, .int x3)] []) (d0 : Nat) (x1 : Int32) (x2 : Int32) (x3 : Int32) (hd0 : isDay d0) (M : Mem) : Kj Z E 4 (QI Z E) (Day_takesShotOn_b28 k4 d0 x1 x2 x3 M) M 28 [(0, .ref (ad E d0)), (1, .int x1), (2, .int x2), (3, .int x3)] [] := by
  unfold Day_takesShotOn_b28
  refine x_iinc X 1 3 [(0, .ref (ad E d0)), (1, .int x1), (2, .int x2)] dX1_takesShotOn_28 rfl (by decide) (by decide) rfl (fun x4_ => ?_)
  refine k_goto X 4 dX1_takesShotOn_31 (by decide) ?_
  refine k_lv [1, 2, 3, 0] rfl ?_
  exact hk4 d0 x1 x2 x4_ hd0 M
theorem kb_Day_takesShotOn_h4 {Z : ZT} {E : En} (X : Cx Z E 4 cX1_takesShotOn RX1 (some .int) 0 0)  : ∀ (n : Nat) (d0 : Nat) (x1 : Int32) (x2 : Int32) (x3 : Int32) (hd0 : isDay d0) (M : Mem), Kj Z E 4 (QI Z E) (Day_takesShotOn_h4  n d0 x1 x2 x3 M) M 4 [(0, .ref (ad E d0)), (1, .int x1), (2, .int x2), (3, .int x3)] [] := by
  intro n
  induction n with
  | zero => intro d0 x1 x2 x3 hd0 M; exact k_none
  | succ n ih =>
    intro d0 x1 x2 x3 hd0 M
    rw [Day_takesShotOn_h4]
    refine k_iload_n X 3 dX1_takesShotOn_4 rfl rfl ?_
    refine k_aload_n X 0 dX1_takesShotOn_5 rfl rfl ?_
    refine k_getI X (day_C hd0) fRX1_53 dX1_takesShotOn_6 ?_
    refine k_icmp_ge X 34 dX1_takesShotOn_9 (by decide) ?_ ?_
    · refine k_iload_n X 2 dX1_takesShotOn_34 rfl rfl ?_
      exact k_iret X dX1_takesShotOn_35
    · refine k_aload_n X 0 dX1_takesShotOn_12 rfl rfl ?_
      refine k_getR X (day_C hd0) fRX1_38 (day_R8 hd0) dX1_takesShotOn_13 ?_
      refine k_iload_n X 3 dX1_takesShotOn_16 rfl rfl ?_
      refine k_iald X (day_A8 hd0) (day_L8 hd0) dX1_takesShotOn_17 (fun hb3 => ?_)
      refine k_iload_n X 1 dX1_takesShotOn_18 rfl rfl ?_
      refine k_icmp_ne X 28 dX1_takesShotOn_19 (by decide) ?_ ?_
      · refine k_lv [0, 1, 2, 3] rfl ?_
        exact kb_Day_takesShotOn_b28 X (fun d0 x1 x2 x3 M => Day_takesShotOn_h4 n d0 x1 x2 x3 M) (fun d0 x1 x2 x3 hd0 M => ih d0 x1 x2 x3 hd0 M) d0 x1 x2 x3 hd0 M
      · refine k_iload_n X 2 dX1_takesShotOn_22 rfl rfl ?_
        refine k_iconst X (v := 1) dX1_takesShotOn_23 (by decide) ?_
        refine k_iload_n X 3 dX1_takesShotOn_24 rfl rfl ?_
        refine k_ishl X dX1_takesShotOn_25 ?_
        refine k_ior X dX1_takesShotOn_26 ?_
        refine x_istore_n X [(0, .ref (ad E d0)), (1, .int x1), (3, .int x3)] dX1_takesShotOn_27 rfl (by decide) rfl (fun x5_ => ?_)
        refine k_lv [1, 2, 0, 3] rfl ?_
        exact kb_Day_takesShotOn_b28 X (fun d0 x1 x2 x3 M => Day_takesShotOn_h4 n d0 x1 x2 x3 M) (fun d0 x1 x2 x3 hd0 M => ih d0 x1 x2 x3 hd0 M) d0 x1 x5_ x3 hd0 M
theorem kw_Day_takesShotOn {Z : ZT} {E : En} (X : Cx Z E 4 cX1_takesShotOn RX1 (some .int) 0 0) (d0 : Nat) (x1 : Int32) (hd0 : isDay d0) (M : Mem) : Kj Z E 4 (QI Z E) (j_Day_takesShotOn d0 x1 M) M 0 [(0, .ref (ad E d0)), (1, .int x1)] [] := by
  unfold j_Day_takesShotOn
  refine k_iconst X (v := 0) dX1_takesShotOn_0 (by decide) ?_
  refine x_istore_n X [(0, .ref (ad E d0)), (1, .int x1)] dX1_takesShotOn_1 rfl (by decide) rfl (fun x1_ => ?_)
  refine k_iconst X (v := 0) dX1_takesShotOn_2 (by decide) ?_
  refine x_istore_n X [(2, .int x1_), (0, .ref (ad E d0)), (1, .int x1)] dX1_takesShotOn_3 rfl (by decide) rfl (fun x2_ => ?_)
  refine k_lv [2, 3, 1, 0] rfl ?_
  exact kb_Day_takesShotOn_h4 X  FU d0 x1 x1_ x2_ hd0 M
theorem mt_Day_takesShotOn (l : Launch) (E : En) (d0 : Nat) (x1 : Int32) (hd0 : isDay d0) (M : Mem) : MI l E yX1_takesShotOn cX1_takesShotOn 4 (some .int) 0 0 [.ref (ad E d0), .int x1] M (j_Day_takesShotOn d0 x1 M) := MI_of (by decide) (Nat.le_of_ble_eq_true rfl) (fun Z _ X => k_lv [0, 1] rfl (kw_Day_takesShotOn X d0 x1 hd0 M))
-- FilmCans.can
theorem kw_Fc_can {Z : ZT} {E : En} (X : Cx Z E 3 cX8_can RX8 (some .int) 4 83) (x1 : Int32) (x2 : Int32) (M : Mem) : Kj Z E 3 (QI Z E) (j_Fc_can x1 x2 M) M 0 [(0, .ref (ad E 0)), (1, .int x1), (2, .int x2)] [] := by
  unfold j_Fc_can
  refine k_aload_n X 0 dX8_can_0 rfl rfl ?_
  refine k_getR X c_0 fRX8_19 r_0_1 dX8_can_1 ?_
  refine k_iload_n X 1 dX8_can_4 rfl rfl ?_
  refine k_callVI X [.int x1] [] c_3 rfl (by decide) rfl (mt_Day_hasCan (zl Z) E 3 x1 day_3 M) mRX8_103 ⟨by decide, by decide⟩ rfl rfl (Nat.le_of_ble_eq_true rfl) dX8_can_5 (fun r1 M2 => ?_)
  refine k_if_ne X 14 dX8_can_8 (by decide) ?_ ?_
  · refine k_iload_n X 2 dX8_can_14 rfl rfl ?_
    refine k_if (fun hs0 => ?_) (fun hs0 => ?_)
    · refine k_lt_in X 0 (off := 45) 60 dX8_can_15 hs0 (by decide) (by decide) (by decide) (by decide) ?_
      refine k_aload_n X 0 dX8_can_60 rfl rfl ?_
      refine k_getR X c_0 fRX8_19 r_0_1 dX8_can_61 ?_
      refine k_getR X c_3 fRX8_141 r_3_10 dX8_can_64 ?_
      refine k_iload_n X 1 dX8_can_67 rfl rfl ?_
      refine k_iald X c_5 l_5 dX8_can_68 (fun hb3 => ?_)
      exact k_iret X dX8_can_69
    · refine k_if (fun hs1 => ?_) (fun hs1 => ?_)
      · refine k_lt_in X 1 (off := 55) 70 dX8_can_15 hs1 (by decide) (by decide) (by decide) (by decide) ?_
        refine k_aload_n X 0 dX8_can_70 rfl rfl ?_
        refine k_getR X c_0 fRX8_19 r_0_1 dX8_can_71 ?_
        refine k_getR X c_3 fRX8_114 r_3_11 dX8_can_74 ?_
        refine k_iload_n X 1 dX8_can_77 rfl rfl ?_
        refine k_iald X c_6 l_6 dX8_can_78 (fun hb4 => ?_)
        exact k_iret X dX8_can_79
      · refine k_if (fun hs2 => ?_) (fun hs2 => ?_)
        · refine k_lt_in X 2 (off := 65) 80 dX8_can_15 hs2 (by decide) (by decide) (by decide) (by decide) ?_
          refine k_aload_n X 0 dX8_can_80 rfl rfl ?_
          refine k_getR X c_0 fRX8_19 r_0_1 dX8_can_81 ?_
          refine k_getR X c_3 fRX8_110 r_3_12 dX8_can_84 ?_
          refine k_iload_n X 1 dX8_can_87 rfl rfl ?_
          refine k_iald X c_7 l_7 dX8_can_88 (fun hb5 => ?_)
          exact k_iret X dX8_can_89
        · refine k_if (fun hs3 => ?_) (fun hs3 => ?_)
          · refine k_lt_in X 3 (off := 75) 90 dX8_can_15 hs3 (by decide) (by decide) (by decide) (by decide) ?_
            refine k_aload_n X 0 dX8_can_90 rfl rfl ?_
            refine k_getR X c_0 fRX8_19 r_0_1 dX8_can_91 ?_
            refine k_getR X c_3 fRX8_213 r_3_13 dX8_can_94 ?_
            refine k_iload_n X 1 dX8_can_97 rfl rfl ?_
            refine k_iald X c_8 l_8 dX8_can_98 (fun hb6 => ?_)
            exact k_iret X dX8_can_99
          · refine k_if (fun hs4 => ?_) (fun hs4 => ?_)
            · refine k_lt_in X 4 (off := 85) 100 dX8_can_15 hs4 (by decide) (by decide) (by decide) (by decide) ?_
              refine k_aload_n X 0 dX8_can_100 rfl rfl ?_
              refine k_getR X c_0 fRX8_19 r_0_1 dX8_can_101 ?_
              refine k_iload_n X 1 dX8_can_104 rfl rfl ?_
              refine k_callVI X [.int x1] [] c_3 rfl (by decide) rfl (mt_Day_takesShotOn (zl Z) E 3 x1 day_3 M2) mRX8_216 ⟨by decide, by decide⟩ rfl rfl (Nat.le_of_ble_eq_true rfl) dX8_can_105 (fun r7 M8 => ?_)
              exact k_iret X dX8_can_108
            · refine k_if (fun hs5 => ?_) (fun hs5 => ?_)
              · refine k_lt_in X 5 (off := 94) 109 dX8_can_15 hs5 (by decide) (by decide) (by decide) (by decide) ?_
                refine k_aload_n X 0 dX8_can_109 rfl rfl ?_
                refine k_getR X c_0 fRX8_19 r_0_1 dX8_can_110 ?_
                refine k_iload_n X 1 dX8_can_113 rfl rfl ?_
                refine k_callVI X [.int x1] [] c_3 rfl (by decide) rfl (mt_Day_leadOf (zl Z) E 3 x1 day_3 M2) mRX8_117 ⟨by decide, by decide⟩ rfl rfl (Nat.le_of_ble_eq_true rfl) dX8_can_114 (fun r9 M10 => ?_)
                exact k_iret X dX8_can_117
              · refine k_if (fun hs6 => ?_) (fun hs6 => ?_)
                · refine k_lt_in X 6 (off := 103) 118 dX8_can_15 hs6 (by decide) (by decide) (by decide) (by decide) ?_
                  refine k_aload_n X 0 dX8_can_118 rfl rfl ?_
                  refine k_getR X c_0 fRX8_19 r_0_1 dX8_can_119 ?_
                  refine k_getR X c_3 fRX8_141 r_3_10 dX8_can_122 ?_
                  refine k_iload_n X 1 dX8_can_125 rfl rfl ?_
                  refine k_iald X c_5 l_5 dX8_can_126 (fun hb11 => ?_)
                  refine k_callSI X [.int (gi M2 5 (ix x1))] [] (mt_Kinds_slateOf (zl Z) E (gi M2 5 (ix x1)) M2) mRX8_144 ⟨by decide, by decide⟩ rfl rfl (Nat.le_of_ble_eq_true rfl) dX8_can_127 (fun r12 M13 => ?_)
                  exact k_iret X dX8_can_130
                · refine k_if (fun hs7 => ?_) (fun hs7 => ?_)
                  · refine k_lt_in X 7 (off := 116) 131 dX8_can_15 hs7 (by decide) (by decide) (by decide) (by decide) ?_
                    refine k_aload_n X 0 dX8_can_131 rfl rfl ?_
                    refine k_getR X c_0 fRX8_19 r_0_1 dX8_can_132 ?_
                    refine k_iload_n X 1 dX8_can_135 rfl rfl ?_
                    refine k_callVI X [.int x1] [] c_3 rfl (by decide) rfl (mt_Day_leastKeptOf (zl Z) E 3 x1 day_3 M2) mRX8_219 ⟨by decide, by decide⟩ rfl rfl (Nat.le_of_ble_eq_true rfl) dX8_can_136 (fun r14 M15 => ?_)
                    exact k_iret X dX8_can_139
                  · refine k_lt_out X 140 dX8_can_15 (tsw_out 0 8 (by decide) (by decide) (by decide) (lt_s (lt_s (lt_s (lt_s (lt_s (lt_s (lt_s (lt_s lt_0 hs0) hs1) hs2) hs3) hs4) hs5) hs6) hs7)) (by decide) ?_
                    refine k_ldc X w_359 dX8_can_140 ?_
                    exact k_iret X dX8_can_142
  · refine k_ldc X w_359 dX8_can_11 ?_
    exact k_iret X dX8_can_13
theorem mt_Fc_can (l : Launch) (E : En) (x1 : Int32) (x2 : Int32) (M : Mem) : MI l E yX8_can cX8_can 3 (some .int) 4 83 [.ref (ad E 0), .int x1, .int x2] M (j_Fc_can x1 x2 M) := MI_of (by decide) (Nat.le_of_ble_eq_true rfl) (fun Z _ X => k_lv [0, 1, 2] rfl (kw_Fc_can X x1 x2 M))
-- FilmCans$Day.cansThatServe
theorem kb_Day_cansThatServe_b27 {Z : ZT} {E : En} (X : Cx Z E 4 cX1_cansThatServe RX1 (some .int) 3 63) (k4 : Nat → Int32 → Int32 → Int32 → Mem → Option (Int32 × Mem)) (hk4 : ∀ (d0 : Nat) (x1 : Int32) (x2 : Int32) (x3 : Int32) (hd0 : isDay d0) (M : Mem), Kj Z E 4 (QI Z E) (k4 d0 x1 x2 x3 M) M 4 [(0, .ref (ad E d0)), (1, .int x1), (2, .int x2), (3, .int x3)] []) (d0 : Nat) (x1 : Int32) (x2 : Int32) (x3 : Int32) (hd0 : isDay d0) (M : Mem) : Kj Z E 4 (QI Z E) (Day_cansThatServe_b27 k4 d0 x1 x2 x3 M) M 27 [(0, .ref (ad E d0)), (1, .int x1), (2, .int x2), (3, .int x3)] [] := by
  unfold Day_cansThatServe_b27
  refine x_iinc X 1 3 [(0, .ref (ad E d0)), (1, .int x1), (2, .int x2)] dX1_cansThatServe_27 rfl (by decide) (by decide) rfl (fun x5_ => ?_)
  refine k_goto X 4 dX1_cansThatServe_30 (by decide) ?_
  refine k_lv [1, 2, 3, 0] rfl ?_
  exact hk4 d0 x1 x2 x5_ hd0 M
theorem kb_Day_cansThatServe_h4 {Z : ZT} {E : En} (X : Cx Z E 4 cX1_cansThatServe RX1 (some .int) 3 63)  : ∀ (n : Nat) (d0 : Nat) (x1 : Int32) (x2 : Int32) (x3 : Int32) (hd0 : isDay d0) (M : Mem), Kj Z E 4 (QI Z E) (Day_cansThatServe_h4  n d0 x1 x2 x3 M) M 4 [(0, .ref (ad E d0)), (1, .int x1), (2, .int x2), (3, .int x3)] [] := by
  intro n
  induction n with
  | zero => intro d0 x1 x2 x3 hd0 M; exact k_none
  | succ n ih =>
    intro d0 x1 x2 x3 hd0 M
    rw [Day_cansThatServe_h4]
    refine k_iload_n X 3 dX1_cansThatServe_4 rfl rfl ?_
    refine k_aload_n X 0 dX1_cansThatServe_5 rfl rfl ?_
    refine k_getI X (day_C hd0) fRX1_50 dX1_cansThatServe_6 ?_
    refine k_icmp_ge X 33 dX1_cansThatServe_9 (by decide) ?_ ?_
    · refine k_iload_n X 2 dX1_cansThatServe_33 rfl rfl ?_
      exact k_iret X dX1_cansThatServe_34
    · refine k_aload_n X 0 dX1_cansThatServe_12 rfl rfl ?_
      refine k_iload_n X 3 dX1_cansThatServe_13 rfl rfl ?_
      refine k_iload_n X 1 dX1_cansThatServe_14 rfl rfl ?_
      refine k_callVI X [.int x3, .int x1] [] (day_C hd0) rfl (by decide) rfl (mt_Day_serves (zl Z) E d0 x3 x1 hd0 M) mRX1_97 ⟨by decide, by decide⟩ rfl rfl (Nat.le_of_ble_eq_true rfl) dX1_cansThatServe_15 (fun r3 M4 => ?_)
      refine k_if_eq X 27 dX1_cansThatServe_18 (by decide) ?_ ?_
      · refine k_lv [0, 1, 2, 3] rfl ?_
        exact kb_Day_cansThatServe_b27 X (fun d0 x1 x2 x3 M => Day_cansThatServe_h4 n d0 x1 x2 x3 M) (fun d0 x1 x2 x3 hd0 M => ih d0 x1 x2 x3 hd0 M) d0 x1 x2 x3 hd0 M4
      · refine k_iload_n X 2 dX1_cansThatServe_21 rfl rfl ?_
        refine k_iconst X (v := 1) dX1_cansThatServe_22 (by decide) ?_
        refine k_iload_n X 3 dX1_cansThatServe_23 rfl rfl ?_
        refine k_ishl X dX1_cansThatServe_24 ?_
        refine k_ior X dX1_cansThatServe_25 ?_
        refine x_istore_n X [(0, .ref (ad E d0)), (1, .int x1), (3, .int x3)] dX1_cansThatServe_26 rfl (by decide) rfl (fun x6_ => ?_)
        refine k_lv [1, 2, 0, 3] rfl ?_
        exact kb_Day_cansThatServe_b27 X (fun d0 x1 x2 x3 M => Day_cansThatServe_h4 n d0 x1 x2 x3 M) (fun d0 x1 x2 x3 hd0 M => ih d0 x1 x2 x3 hd0 M) d0 x1 x6_ x3 hd0 M4
theorem kw_Day_cansThatServe {Z : ZT} {E : En} (X : Cx Z E 4 cX1_cansThatServe RX1 (some .int) 3 63) (d0 : Nat) (x1 : Int32) (hd0 : isDay d0) (M : Mem) : Kj Z E 4 (QI Z E) (j_Day_cansThatServe d0 x1 M) M 0 [(0, .ref (ad E d0)), (1, .int x1)] [] := by
  unfold j_Day_cansThatServe
  refine k_iconst X (v := 0) dX1_cansThatServe_0 (by decide) ?_
  refine x_istore_n X [(0, .ref (ad E d0)), (1, .int x1)] dX1_cansThatServe_1 rfl (by decide) rfl (fun x1_ => ?_)
  refine k_iconst X (v := 0) dX1_cansThatServe_2 (by decide) ?_
  refine x_istore_n X [(2, .int x1_), (0, .ref (ad E d0)), (1, .int x1)] dX1_cansThatServe_3 rfl (by decide) rfl (fun x2_ => ?_)
  refine k_lv [2, 3, 1, 0] rfl ?_
  exact kb_Day_cansThatServe_h4 X  FU d0 x1 x1_ x2_ hd0 M
theorem mt_Day_cansThatServe (l : Launch) (E : En) (d0 : Nat) (x1 : Int32) (hd0 : isDay d0) (M : Mem) : MI l E yX1_cansThatServe cX1_cansThatServe 4 (some .int) 3 63 [.ref (ad E d0), .int x1] M (j_Day_cansThatServe d0 x1 M) := MI_of (by decide) (Nat.le_of_ble_eq_true rfl) (fun Z _ X => k_lv [0, 1] rfl (kw_Day_cansThatServe X d0 x1 hd0 M))
-- FilmCans.take
theorem kw_Fc_take {Z : ZT} {E : En} (X : Cx Z E 3 cX8_take RX8 (some .int) 4 86) (x1 : Int32) (x2 : Int32) (M : Mem) : Kj Z E 3 (QI Z E) (j_Fc_take x1 x2 M) M 0 [(0, .ref (ad E 0)), (1, .int x1), (2, .int x2)] [] := by
  unfold j_Fc_take
  refine k_aload_n X 0 dX8_take_0 rfl rfl ?_
  refine k_getR X c_0 fRX8_19 r_0_1 dX8_take_1 ?_
  refine k_iload_n X 1 dX8_take_4 rfl rfl ?_
  refine k_callVI X [.int x1] [] c_3 rfl (by decide) rfl (mt_Day_hasTake (zl Z) E 3 x1 day_3 M) mRX8_128 ⟨by decide, by decide⟩ rfl rfl (Nat.le_of_ble_eq_true rfl) dX8_take_5 (fun r1 M2 => ?_)
  refine k_if_ne X 14 dX8_take_8 (by decide) ?_ ?_
  · refine k_iload_n X 2 dX8_take_14 rfl rfl ?_
    refine k_if (fun hs0 => ?_) (fun hs0 => ?_)
    · refine k_lt_in X 0 (off := 29) 44 dX8_take_15 hs0 (by decide) (by decide) (by decide) (by decide) ?_
      refine k_aload_n X 0 dX8_take_44 rfl rfl ?_
      refine k_getR X c_0 fRX8_19 r_0_1 dX8_take_45 ?_
      refine k_getR X c_3 fRX8_201 r_3_14 dX8_take_48 ?_
      refine k_iload_n X 1 dX8_take_51 rfl rfl ?_
      refine k_iald X c_9 l_9 dX8_take_52 (fun hb3 => ?_)
      exact k_iret X dX8_take_53
    · refine k_if (fun hs1 => ?_) (fun hs1 => ?_)
      · refine k_lt_in X 1 (off := 39) 54 dX8_take_15 hs1 (by decide) (by decide) (by decide) (by decide) ?_
        refine k_aload_n X 0 dX8_take_54 rfl rfl ?_
        refine k_getR X c_0 fRX8_19 r_0_1 dX8_take_55 ?_
        refine k_getR X c_3 fRX8_138 r_3_15 dX8_take_58 ?_
        refine k_iload_n X 1 dX8_take_61 rfl rfl ?_
        refine k_iald X c_10 l_10 dX8_take_62 (fun hb4 => ?_)
        exact k_iret X dX8_take_63
      · refine k_if (fun hs2 => ?_) (fun hs2 => ?_)
        · refine k_lt_in X 2 (off := 49) 64 dX8_take_15 hs2 (by decide) (by decide) (by decide) (by decide) ?_
          refine k_aload_n X 0 dX8_take_64 rfl rfl ?_
          refine k_getR X c_0 fRX8_19 r_0_1 dX8_take_65 ?_
          refine k_getR X c_3 fRX8_169 r_3_16 dX8_take_68 ?_
          refine k_iload_n X 1 dX8_take_71 rfl rfl ?_
          refine k_iald X c_11 l_11 dX8_take_72 (fun hb5 => ?_)
          exact k_iret X dX8_take_73
        · refine k_if (fun hs3 => ?_) (fun hs3 => ?_)
          · refine k_lt_in X 3 (off := 59) 74 dX8_take_15 hs3 (by decide) (by decide) (by decide) (by decide) ?_
            refine k_aload_n X 0 dX8_take_74 rfl rfl ?_
            refine k_getR X c_0 fRX8_19 r_0_1 dX8_take_75 ?_
            refine k_iload_n X 1 dX8_take_78 rfl rfl ?_
            refine k_callVI X [.int x1] [] c_3 rfl (by decide) rfl (mt_Day_cansThatServe (zl Z) E 3 x1 day_3 M2) mRX8_222 ⟨by decide, by decide⟩ rfl rfl (Nat.le_of_ble_eq_true rfl) dX8_take_79 (fun r6 M7 => ?_)
            exact k_iret X dX8_take_82
          · refine k_lt_out X 83 dX8_take_15 (tsw_out 0 4 (by decide) (by decide) (by decide) (lt_s (lt_s (lt_s (lt_s lt_0 hs0) hs1) hs2) hs3)) (by decide) ?_
            refine k_ldc X w_359 dX8_take_83 ?_
            exact k_iret X dX8_take_85
  · refine k_ldc X w_359 dX8_take_11 ?_
    exact k_iret X dX8_take_13
theorem mt_Fc_take (l : Launch) (E : En) (x1 : Int32) (x2 : Int32) (M : Mem) : MI l E yX8_take cX8_take 3 (some .int) 4 86 [.ref (ad E 0), .int x1, .int x2] M (j_Fc_take x1 x2 M) := MI_of (by decide) (Nat.le_of_ble_eq_true rfl) (fun Z _ X => k_lv [0, 1, 2] rfl (kw_Fc_take X x1 x2 M))
-- FilmCans.roll
theorem kw_Fc_roll {Z : ZT} {E : En} (X : Cx Z E 3 cX8_roll RX8 (some .int) 0 0) (x1 : Int32) (x2 : Int32) (M : Mem) : Kj Z E 3 (QI Z E) (j_Fc_roll x1 x2 M) M 0 [(0, .ref (ad E 0)), (1, .int x1), (2, .int x2)] [] := by
  unfold j_Fc_roll
  refine k_iload_n X 1 dX8_roll_0 rfl rfl ?_
  refine k_if_lt X 15 dX8_roll_1 (by decide) ?_ ?_
  · refine k_ldc X w_359 dX8_roll_15 ?_
    exact k_iret X dX8_roll_17
  · refine k_iload_n X 1 dX8_roll_4 rfl rfl ?_
    refine k_aload_n X 0 dX8_roll_5 rfl rfl ?_
    refine k_getR X c_0 fRX8_19 r_0_1 dX8_roll_6 ?_
    refine k_getI X c_3 fRX8_156 dX8_roll_9 ?_
    refine k_icmp_lt X 18 dX8_roll_12 (by decide) ?_ ?_
    · refine k_iload_n X 2 dX8_roll_18 rfl rfl ?_
      refine k_if (fun hs0 => ?_) (fun hs0 => ?_)
      · refine k_lt_in X 0 (off := 25) 44 dX8_roll_19 hs0 (by decide) (by decide) (by decide) (by decide) ?_
        refine k_aload_n X 0 dX8_roll_44 rfl rfl ?_
        refine k_getR X c_0 fRX8_19 r_0_1 dX8_roll_45 ?_
        refine k_getR X c_3 fRX8_225 r_3_17 dX8_roll_48 ?_
        refine k_iload_n X 1 dX8_roll_51 rfl rfl ?_
        refine k_iald X c_12 l_12 dX8_roll_52 (fun hb1 => ?_)
        exact k_iret X dX8_roll_53
      · refine k_if (fun hs1 => ?_) (fun hs1 => ?_)
        · refine k_lt_in X 1 (off := 35) 54 dX8_roll_19 hs1 (by decide) (by decide) (by decide) (by decide) ?_
          refine k_aload_n X 0 dX8_roll_54 rfl rfl ?_
          refine k_getR X c_0 fRX8_19 r_0_1 dX8_roll_55 ?_
          refine k_getR X c_3 fRX8_228 r_3_18 dX8_roll_58 ?_
          refine k_iload_n X 1 dX8_roll_61 rfl rfl ?_
          refine k_iald X c_13 l_13 dX8_roll_62 (fun hb2 => ?_)
          exact k_iret X dX8_roll_63
        · refine k_if (fun hs2 => ?_) (fun hs2 => ?_)
          · refine k_lt_in X 2 (off := 45) 64 dX8_roll_19 hs2 (by decide) (by decide) (by decide) (by decide) ?_
            refine k_aload_n X 0 dX8_roll_64 rfl rfl ?_
            refine k_getR X c_0 fRX8_19 r_0_1 dX8_roll_65 ?_
            refine k_getR X c_3 fRX8_231 r_3_19 dX8_roll_68 ?_
            refine k_iload_n X 1 dX8_roll_71 rfl rfl ?_
            refine k_iald X c_14 l_14 dX8_roll_72 (fun hb3 => ?_)
            exact k_iret X dX8_roll_73
          · refine k_lt_out X 74 dX8_roll_19 (tsw_out 0 3 (by decide) (by decide) (by decide) (lt_s (lt_s (lt_s lt_0 hs0) hs1) hs2)) (by decide) ?_
            refine k_ldc X w_359 dX8_roll_74 ?_
            exact k_iret X dX8_roll_76
    · refine k_ldc X w_359 dX8_roll_15 ?_
      exact k_iret X dX8_roll_17
theorem mt_Fc_roll (l : Launch) (E : En) (x1 : Int32) (x2 : Int32) (M : Mem) : MI l E yX8_roll cX8_roll 3 (some .int) 0 0 [.ref (ad E 0), .int x1, .int x2] M (j_Fc_roll x1 x2 M) := MI_of (by decide) (Nat.le_of_ble_eq_true rfl) (fun Z _ X => k_lv [0, 1, 2] rfl (kw_Fc_roll X x1 x2 M))
