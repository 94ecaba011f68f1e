-- FilmCans$Reach.leastRest
theorem kb_Reach_leastRest_b75 {Z : ZT} {E : En} (X : Cx Z E 8 cX5_leastRest RX5 (some .int) 1 22) (k7 : Int32 → Int32 → Int32 → Int32 → Int32 → Mem → Option (Int32 × Mem)) (hk7 : ∀ (x2 : Int32) (x3 : Int32) (x4 : Int32) (x5 : Int32) (x6 : Int32) (M : Mem), Kj Z E 8 (QI Z E) (k7 x2 x3 x4 x5 x6 M) M 7 [(0, .ref (ad E 323)), (1, .ref (ad E 299)), (2, .int x2), (3, .int x3), (4, .int x4), (5, .int x5), (6, .int x6)] []) (x2 : Int32) (x3 : Int32) (x4 : Int32) (x5 : Int32) (x6 : Int32) (M : Mem) : Kj Z E 8 (QI Z E) (Reach_leastRest_b75 k7 x2 x3 x4 x5 x6 M) M 75 [(0, .ref (ad E 323)), (1, .ref (ad E 299)), (2, .int x2), (3, .int x3), (4, .int x4), (5, .int x5), (6, .int x6)] [] := by
  unfold Reach_leastRest_b75
  refine x_iinc X 1 6 [(0, .ref (ad E 323)), (1, .ref (ad E 299)), (2, .int x2), (3, .int x3), (4, .int x4), (5, .int x5)] dX5_leastRest_75 rfl (by decide) (by decide) rfl (fun x3_ => ?_)
  refine k_goto X 7 dX5_leastRest_78 (by decide) ?_
  refine k_lv [1, 2, 3, 4, 5, 6, 0] rfl ?_
  exact hk7 x2 x3 x4 x5 x3_ M
theorem kb_Reach_leastRest_h7 {Z : ZT} {E : En} (X : Cx Z E 8 cX5_leastRest RX5 (some .int) 1 22)  : ∀ (n : Nat) (x2 : Int32) (x3 : Int32) (x4 : Int32) (x5 : Int32) (x6 : Int32) (M : Mem), Kj Z E 8 (QI Z E) (Reach_leastRest_h7  n x2 x3 x4 x5 x6 M) M 7 [(0, .ref (ad E 323)), (1, .ref (ad E 299)), (2, .int x2), (3, .int x3), (4, .int x4), (5, .int x5), (6, .int x6)] [] := by
  intro n
  induction n with
  | zero => intro x2 x3 x4 x5 x6 M; exact k_none
  | succ n ih =>
    intro x2 x3 x4 x5 x6 M
    rw [Reach_leastRest_h7]
    refine k_iload X 6 dX5_leastRest_7 rfl ?_
    refine k_aload_n X 1 dX5_leastRest_9 rfl rfl ?_
    refine k_getI X c_299 fRX5_21 dX5_leastRest_10 ?_
    refine k_icmp_gt X 81 dX5_leastRest_13 (by decide) ?_ ?_
    · refine k_iload X 5 dX5_leastRest_81 rfl ?_
      exact k_iret X dX5_leastRest_83
    · refine k_iload X 6 dX5_leastRest_16 rfl ?_
      refine k_aload_n X 1 dX5_leastRest_18 rfl rfl ?_
      refine k_getI X c_299 fRX5_21 dX5_leastRest_19 ?_
      refine k_iload_n X 2 dX5_leastRest_22 rfl rfl ?_
      refine k_iand X dX5_leastRest_23 ?_
      refine k_iconst X (v := (-1)) dX5_leastRest_24 (by decide) ?_
      refine k_ixor X dX5_leastRest_25 ?_
      refine k_iand X dX5_leastRest_26 ?_
      refine k_if_ne X 75 dX5_leastRest_27 (by decide) ?_ ?_
      · refine k_lv [0, 1, 2, 3, 4, 5, 6] rfl ?_
        exact kb_Reach_leastRest_b75 X (fun x2 x3 x4 x5 x6 M => Reach_leastRest_h7 n x2 x3 x4 x5 x6 M) (fun x2 x3 x4 x5 x6 M => ih x2 x3 x4 x5 x6 M) x2 x3 x4 x5 x6 M
      · refine k_aload_n X 0 dX5_leastRest_30 rfl rfl ?_
        refine k_aload_n X 1 dX5_leastRest_31 rfl rfl ?_
        refine k_getI X c_299 fRX5_21 dX5_leastRest_32 ?_
        refine k_iload X 6 dX5_leastRest_35 rfl ?_
        refine k_ixor X dX5_leastRest_37 ?_
        refine k_bipush X (v := 63) dX5_leastRest_38 (by decide) ?_
        refine k_callVI X [.int ((gi M 299 1) ^^^ x6), .int 63] [] c_323 rfl (by decide) rfl (mt_Reach_isPlaced (zl Z) E ((gi M 299 1) ^^^ x6) 63 M) mRX5_46 ⟨by decide, by decide⟩ rfl rfl (Nat.le_of_ble_eq_true rfl) dX5_leastRest_40 (fun r4 M5 => ?_)
        refine k_if_eq X 75 dX5_leastRest_43 (by decide) ?_ ?_
        · refine k_lv [0, 1, 2, 3, 4, 5, 6] rfl ?_
          exact kb_Reach_leastRest_b75 X (fun x2 x3 x4 x5 x6 M => Reach_leastRest_h7 n x2 x3 x4 x5 x6 M) (fun x2 x3 x4 x5 x6 M => ih x2 x3 x4 x5 x6 M) x2 x3 x4 x5 x6 M5
        · refine k_iload_n X 3 dX5_leastRest_46 rfl rfl ?_
          refine k_iload X 4 dX5_leastRest_47 rfl ?_
          refine k_iload X 6 dX5_leastRest_49 rfl ?_
          refine k_callSI X [.int x6] [.int x4, .int x3] (mt_Integer_bitCount (zl Z) E x6 M5) mRX5_56 ⟨by decide, by decide⟩ rfl rfl (Nat.le_of_ble_eq_true rfl) dX5_leastRest_51 (fun r6 M7 => ?_)
          refine k_imul X dX5_leastRest_54 ?_
          refine k_iadd X dX5_leastRest_55 ?_
          refine k_aload_n X 1 dX5_leastRest_56 rfl rfl ?_
          refine k_getR X c_299 fRX5_80 r_299_8 dX5_leastRest_57 ?_
          refine k_iload X 6 dX5_leastRest_60 rfl ?_
          refine k_iald X c_306 l_306 dX5_leastRest_62 (fun hb8 => ?_)
          refine k_iadd X dX5_leastRest_63 ?_
          refine x_istore X [(0, .ref (ad E 323)), (1, .ref (ad E 299)), (2, .int x2), (3, .int x3), (4, .int x4), (5, .int x5), (6, .int x6)] dX5_leastRest_64 (by decide) rfl (fun x9_ => ?_)
          refine k_iload X 6 dX5_leastRest_66 rfl ?_
          refine k_iload X 0 dX5_leastRest_68 rfl ?_
          refine k_mn X wm_ml883 wm_st493 w_77 wm_cd494 (by decide) (Nat.le_of_ble_eq_true rfl) dX5_leastRest_70 ?_
          refine x_istore X [(7, .int x9_), (0, .ref (ad E 323)), (1, .ref (ad E 299)), (2, .int x2), (3, .int x3), (4, .int x4), (6, .int x6)] dX5_leastRest_73 (by decide) rfl (fun x10_ => ?_)
          refine k_lv [2, 3, 4, 5, 6, 0, 7] rfl ?_
          exact kb_Reach_leastRest_b75 X (fun x2 x3 x4 x5 x6 M => Reach_leastRest_h7 n x2 x3 x4 x5 x6 M) (fun x2 x3 x4 x5 x6 M => ih x2 x3 x4 x5 x6 M) x2 x3 x4 x10_ x6 M7
theorem kw_Reach_leastRest {Z : ZT} {E : En} (X : Cx Z E 8 cX5_leastRest RX5 (some .int) 1 22) (x2 : Int32) (x3 : Int32) (x4 : Int32) (M : Mem) : Kj Z E 8 (QI Z E) (j_Reach_leastRest x2 x3 x4 M) M 0 [(0, .ref (ad E 323)), (1, .ref (ad E 299)), (2, .int x2), (3, .int x3), (4, .int x4)] [] := by
  unfold j_Reach_leastRest
  refine k_bipush X (v := 100) dX5_leastRest_0 (by decide) ?_
  refine x_istore X [(0, .ref (ad E 323)), (1, .ref (ad E 299)), (2, .int x2), (3, .int x3), (4, .int x4)] dX5_leastRest_2 (by decide) rfl (fun x1_ => ?_)
  refine k_iconst X (v := 1) dX5_leastRest_4 (by decide) ?_
  refine x_istore X [(5, .int x1_), (0, .ref (ad E 323)), (1, .ref (ad E 299)), (2, .int x2), (3, .int x3), (4, .int x4)] dX5_leastRest_5 (by decide) rfl (fun x2_ => ?_)
  refine k_lv [2, 3, 4, 5, 6, 1, 0] rfl ?_
  exact kb_Reach_leastRest_h7 X  FU x2 x3 x4 x1_ x2_ M
theorem mt_Reach_leastRest (l : Launch) (E : En) (x2 : Int32) (x3 : Int32) (x4 : Int32) (M : Mem) : MI l E yX5_leastRest cX5_leastRest 8 (some .int) 1 22 [.ref (ad E 323), .ref (ad E 299), .int x2, .int x3, .int x4] M (j_Reach_leastRest x2 x3 x4 M) := MI_of (by decide) (Nat.le_of_ble_eq_true rfl) (fun Z _ X => k_lv [0, 1, 2, 3, 4] rfl (kw_Reach_leastRest X x2 x3 x4 M))
-- FilmCans.more
theorem kw_Fc_more {Z : ZT} {E : En} (X : Cx Z E 4 cX8_more RX8 (some .int) 6 130) (x1 : Int32) (M : Mem) : Kj Z E 4 (QI Z E) (j_Fc_more x1 M) M 0 [(0, .ref (ad E 0)), (1, .int x1)] [] := by
  unfold j_Fc_more
  refine k_aload_n X 0 dX8_more_0 rfl rfl ?_
  refine k_callVI X [] [] c_0 rfl (by decide) rfl (mt_Fc_hasNoBook (zl Z) E  M) mRX8_175 ⟨by decide, by decide⟩ rfl rfl (Nat.le_of_ble_eq_true rfl) dX8_more_1 (fun r1 M2 => ?_)
  refine k_if_eq X 10 dX8_more_4 (by decide) ?_ ?_
  · refine k_iload_n X 1 dX8_more_10 rfl rfl ?_
    refine k_callSI X [.int x1] [] (mt_Fc_isCanKind (zl Z) E x1 M2) mRX8_179 ⟨by decide, by decide⟩ rfl rfl (Nat.le_of_ble_eq_true rfl) dX8_more_11 (fun r3 M4 => ?_)
    refine k_if_ne X 20 dX8_more_14 (by decide) ?_ ?_
    · refine k_aload_n X 0 dX8_more_20 rfl rfl ?_
      refine k_callVV X [] [] c_0 rfl (by decide) rfl (mt_Fc_lookAhead (zl Z) E  M4) mRX8_291 ⟨by decide, by decide⟩ rfl rfl (Nat.le_of_ble_eq_true rfl) dX8_more_21 (fun _ M6 => ?_)
      refine k_aload_n X 0 dX8_more_24 rfl rfl ?_
      refine k_getR X c_0 fRX8_61 r_0_8 dX8_more_25 ?_
      refine k_aload_n X 0 dX8_more_28 rfl rfl ?_
      refine k_getR X c_0 fRX8_47 r_0_6 dX8_more_29 ?_
      refine k_callVI X [.ref (ad E 299)] [] c_323 rfl (by decide) rfl (mt_Reach_canPlaceAll (zl Z) E  M6) mRX8_303 ⟨by decide, by decide⟩ rfl rfl (Nat.le_of_ble_eq_true rfl) dX8_more_32 (fun r7 M8 => ?_)
      refine k_if_eq X 40 dX8_more_35 (by decide) ?_ ?_
      · refine k_iload_n X 1 dX8_more_40 rfl rfl ?_
        refine k_aload_n X 0 dX8_more_41 rfl rfl ?_
        refine k_getR X c_0 fRX8_19 r_0_1 dX8_more_42 ?_
        refine k_getR X c_3 fRX8_210 r_3_9 dX8_more_45 ?_
        refine k_iconst X (v := 0) dX8_more_48 (by decide) ?_
        refine k_ialdC X 0 c_4 l_4 (by decide) (by decide) dX8_more_49 ?_
        refine k_callSI X [.int x1, .int (gi M8 4 0)] [] (mt_Kinds_leadOf (zl Z) E x1 (gi M8 4 0) M8) mRX8_307 ⟨by decide, by decide⟩ rfl rfl (Nat.le_of_ble_eq_true rfl) dX8_more_50 (fun r10 M11 => ?_)
        refine k_istore_n X [(2, .int r10), (0, .ref (ad E 0)), (1, .int x1)] dX8_more_53 rfl (by decide) rfl ?_
        refine k_aload_n X 1 dX8_more_54 rfl rfl ?_
        refine k_getR X c_0 fRX8_61 r_0_8 dX8_more_55 ?_
        refine k_aload_n X 1 dX8_more_58 rfl rfl ?_
        refine k_getR X c_0 fRX8_47 r_0_6 dX8_more_59 ?_
        refine k_aload_n X 1 dX8_more_62 rfl rfl ?_
        refine k_getR X c_0 fRX8_19 r_0_1 dX8_more_63 ?_
        refine k_iload_n X 2 dX8_more_66 rfl rfl ?_
        refine k_callVI X [.int x1] [.ref (ad E 299), .ref (ad E 323)] c_3 rfl (by decide) rfl (mt_Day_takesServedBy (zl Z) E 3 x1 day_3 M11) mRX8_309 ⟨by decide, by decide⟩ rfl rfl (Nat.le_of_ble_eq_true rfl) dX8_more_67 (fun r12 M13 => ?_)
        refine k_iload_n X 0 dX8_more_70 rfl rfl ?_
        refine k_iload_n X 2 dX8_more_71 rfl rfl ?_
        refine k_callSI X [.int x1] [.int r10, .int r12, .ref (ad E 299), .ref (ad E 323)] (mt_Kinds_slateOf (zl Z) E x1 M13) mRX8_144 ⟨by decide, by decide⟩ rfl rfl (Nat.le_of_ble_eq_true rfl) dX8_more_72 (fun r14 M15 => ?_)
        refine k_callVI X [.ref (ad E 299), .int r12, .int r10, .int r14] [] c_323 rfl (by decide) rfl (mt_Reach_leastRest (zl Z) E r12 r10 r14 M15) mRX8_312 ⟨by decide, by decide⟩ rfl rfl (Nat.le_of_ble_eq_true rfl) dX8_more_75 (fun r16 M17 => ?_)
        refine k_istore_n X [(3, .int r16), (2, .int r10), (0, .ref (ad E 0)), (1, .int x1)] dX8_more_78 rfl (by decide) rfl ?_
        refine k_iload_n X 0 dX8_more_79 rfl rfl ?_
        refine k_bipush X (v := 99) dX8_more_80 (by decide) ?_
        refine k_icmp_le X 90 dX8_more_82 (by decide) ?_ ?_
        · refine k_iload_n X 0 dX8_more_90 rfl rfl ?_
          exact k_iret X dX8_more_91
        · refine k_ldc X w_472 dX8_more_85 ?_
          refine k_goto X 91 dX8_more_87 (by decide) ?_
          exact k_iret X dX8_more_91
      · refine k_iconst X (v := 0) dX8_more_38 (by decide) ?_
        exact k_iret X dX8_more_39
    · refine k_ldc X w_359 dX8_more_17 ?_
      exact k_iret X dX8_more_19
  · refine k_ldc X w_463 dX8_more_7 ?_
    exact k_iret X dX8_more_9
theorem mt_Fc_more (l : Launch) (E : En) (x1 : Int32) (M : Mem) : MI l E yX8_more cX8_more 4 (some .int) 6 130 [.ref (ad E 0), .int x1] M (j_Fc_more x1 M) := MI_of (by decide) (Nat.le_of_ble_eq_true rfl) (fun Z _ X => k_lv [0, 1] rfl (kw_Fc_more X x1 M))
-- FilmCans$Reach.roomsNeeded
theorem kb_Reach_roomsNeeded_b41 {Z : ZT} {E : En} (X : Cx Z E 4 cX5_roomsNeeded RX5 (some .int) 1 22) (k4 : Int32 → Int32 → Mem → Option (Int32 × Mem)) (hk4 : ∀ (x2 : Int32) (x3 : Int32) (M : Mem), Kj Z E 4 (QI Z E) (k4 x2 x3 M) M 4 [(0, .ref (ad E 323)), (1, .ref (ad E 299)), (2, .int x2), (3, .int x3)] []) (x2 : Int32) (x3 : Int32) (M : Mem) : Kj Z E 4 (QI Z E) (Reach_roomsNeeded_b41 k4 x2 x3 M) M 41 [(0, .ref (ad E 323)), (1, .ref (ad E 299)), (2, .int x2), (3, .int x3)] [] := by
  unfold Reach_roomsNeeded_b41
  refine x_iinc X 1 3 [(0, .ref (ad E 323)), (1, .ref (ad E 299)), (2, .int x2)] dX5_roomsNeeded_41 rfl (by decide) (by decide) rfl (fun x5_ => ?_)
  refine k_goto X 4 dX5_roomsNeeded_44 (by decide) ?_
  refine k_lv [1, 2, 3, 0] rfl ?_
  exact hk4 x2 x5_ M
theorem kb_Reach_roomsNeeded_h4 {Z : ZT} {E : En} (X : Cx Z E 4 cX5_roomsNeeded RX5 (some .int) 1 22)  : ∀ (n : Nat) (x2 : Int32) (x3 : Int32) (M : Mem), Kj Z E 4 (QI Z E) (Reach_roomsNeeded_h4  n x2 x3 M) M 4 [(0, .ref (ad E 323)), (1, .ref (ad E 299)), (2, .int x2), (3, .int x3)] [] := by
  intro n
  induction n with
  | zero => intro x2 x3 M; exact k_none
  | succ n ih =>
    intro x2 x3 M
    rw [Reach_roomsNeeded_h4]
    refine k_iload_n X 3 dX5_roomsNeeded_4 rfl rfl ?_
    refine k_bipush X (v := 6) dX5_roomsNeeded_5 (by decide) ?_
    refine k_icmp_ge X 47 dX5_roomsNeeded_7 (by decide) ?_ ?_
    · refine k_iload_n X 2 dX5_roomsNeeded_47 rfl rfl ?_
      exact k_iret X dX5_roomsNeeded_48
    · refine k_aload_n X 1 dX5_roomsNeeded_10 rfl rfl ?_
      refine k_iload_n X 3 dX5_roomsNeeded_11 rfl rfl ?_
      refine k_callVI X [.int x3] [] c_299 rfl (by decide) rfl (mt_Rooms_has (zl Z) E x3 M) mRX5_49 ⟨by decide, by decide⟩ rfl rfl (Nat.le_of_ble_eq_true rfl) dX5_roomsNeeded_12 (fun r3 M4 => ?_)
      refine k_if_eq X 41 dX5_roomsNeeded_15 (by decide) ?_ ?_
      · refine k_lv [0, 1, 2, 3] rfl ?_
        exact kb_Reach_roomsNeeded_b41 X (fun x2 x3 M => Reach_roomsNeeded_h4 n x2 x3 M) (fun x2 x3 M => ih x2 x3 M) x2 x3 M4
      · refine k_aload_n X 0 dX5_roomsNeeded_18 rfl rfl ?_
        refine k_aload_n X 1 dX5_roomsNeeded_19 rfl rfl ?_
        refine k_getI X c_299 fRX5_21 dX5_roomsNeeded_20 ?_
        refine k_bipush X (v := 63) dX5_roomsNeeded_23 (by decide) ?_
        refine k_iconst X (v := 1) dX5_roomsNeeded_25 (by decide) ?_
        refine k_iload_n X 3 dX5_roomsNeeded_26 rfl rfl ?_
        refine k_ishl X dX5_roomsNeeded_27 ?_
        refine k_ixor X dX5_roomsNeeded_28 ?_
        refine k_callVI X [.int (gi M4 299 1), .int ((63 : Int32) ^^^ ((1 : Int32) <<< (x3 &&& 31)))] [] c_323 rfl (by decide) rfl (mt_Reach_isPlaced (zl Z) E (gi M4 299 1) ((63 : Int32) ^^^ ((1 : Int32) <<< (x3 &&& 31))) M4) mRX5_46 ⟨by decide, by decide⟩ rfl rfl (Nat.le_of_ble_eq_true rfl) dX5_roomsNeeded_29 (fun r6 M7 => ?_)
        refine k_if_ne X 41 dX5_roomsNeeded_32 (by decide) ?_ ?_
        · refine k_lv [0, 1, 2, 3] rfl ?_
          exact kb_Reach_roomsNeeded_b41 X (fun x2 x3 M => Reach_roomsNeeded_h4 n x2 x3 M) (fun x2 x3 M => ih x2 x3 M) x2 x3 M7
        · refine k_iload_n X 2 dX5_roomsNeeded_35 rfl rfl ?_
          refine k_iconst X (v := 1) dX5_roomsNeeded_36 (by decide) ?_
          refine k_iload_n X 3 dX5_roomsNeeded_37 rfl rfl ?_
          refine k_ishl X dX5_roomsNeeded_38 ?_
          refine k_ior X dX5_roomsNeeded_39 ?_
          refine x_istore_n X [(0, .ref (ad E 323)), (1, .ref (ad E 299)), (3, .int x3)] dX5_roomsNeeded_40 rfl (by decide) rfl (fun x8_ => ?_)
          refine k_lv [1, 2, 0, 3] rfl ?_
          exact kb_Reach_roomsNeeded_b41 X (fun x2 x3 M => Reach_roomsNeeded_h4 n x2 x3 M) (fun x2 x3 M => ih x2 x3 M) x8_ x3 M7
theorem kw_Reach_roomsNeeded {Z : ZT} {E : En} (X : Cx Z E 4 cX5_roomsNeeded RX5 (some .int) 1 22) (M : Mem) : Kj Z E 4 (QI Z E) (j_Reach_roomsNeeded M) M 0 [(0, .ref (ad E 323)), (1, .ref (ad E 299))] [] := by
  unfold j_Reach_roomsNeeded
  refine k_iconst X (v := 0) dX5_roomsNeeded_0 (by decide) ?_
  refine x_istore_n X [(0, .ref (ad E 323)), (1, .ref (ad E 299))] dX5_roomsNeeded_1 rfl (by decide) rfl (fun x1_ => ?_)
  refine k_iconst X (v := 0) dX5_roomsNeeded_2 (by decide) ?_
  refine x_istore_n X [(2, .int x1_), (0, .ref (ad E 323)), (1, .ref (ad E 299))] dX5_roomsNeeded_3 rfl (by decide) rfl (fun x2_ => ?_)
  refine k_lv [2, 3, 1, 0] rfl ?_
  exact kb_Reach_roomsNeeded_h4 X  FU x1_ x2_ M
theorem mt_Reach_roomsNeeded (l : Launch) (E : En) (M : Mem) : MI l E yX5_roomsNeeded cX5_roomsNeeded 4 (some .int) 1 22 [.ref (ad E 323), .ref (ad E 299)] M (j_Reach_roomsNeeded M) := MI_of (by decide) (Nat.le_of_ble_eq_true rfl) (fun Z _ X => k_lv [0, 1] rfl (kw_Reach_roomsNeeded X M))
-- FilmCans.needed
theorem kw_Fc_needed {Z : ZT} {E : En} (X : Cx Z E 1 cX8_needed RX8 (some .int) 6 130) (M : Mem) : Kj Z E 1 (QI Z E) (j_Fc_needed M) M 0 [(0, .ref (ad E 0))] [] := by
  unfold j_Fc_needed
  refine k_aload_n X 0 dX8_needed_0 rfl rfl ?_
  refine k_callVI X [] [] c_0 rfl (by decide) rfl (mt_Fc_hasNoBook (zl Z) E  M) mRX8_175 ⟨by decide, by decide⟩ rfl rfl (Nat.le_of_ble_eq_true rfl) dX8_needed_1 (fun r1 M2 => ?_)
  refine k_if_eq X 10 dX8_needed_4 (by decide) ?_ ?_
  · refine k_aload_n X 0 dX8_needed_10 rfl rfl ?_
    refine k_callVV X [] [] c_0 rfl (by decide) rfl (mt_Fc_lookAhead (zl Z) E  M2) mRX8_291 ⟨by decide, by decide⟩ rfl rfl (Nat.le_of_ble_eq_true rfl) dX8_needed_11 (fun _ M4 => ?_)
    refine k_aload_n X 0 dX8_needed_14 rfl rfl ?_
    refine k_getR X c_0 fRX8_61 r_0_8 dX8_needed_15 ?_
    refine k_aload_n X 0 dX8_needed_18 rfl rfl ?_
    refine k_getR X c_0 fRX8_47 r_0_6 dX8_needed_19 ?_
    refine k_callVI X [.ref (ad E 299)] [] c_323 rfl (by decide) rfl (mt_Reach_canPlaceAll (zl Z) E  M4) mRX8_303 ⟨by decide, by decide⟩ rfl rfl (Nat.le_of_ble_eq_true rfl) dX8_needed_22 (fun r5 M6 => ?_)
    refine k_if_eq X 42 dX8_needed_25 (by decide) ?_ ?_
    · refine k_ldc X w_472 dX8_needed_42 ?_
      exact k_iret X dX8_needed_44
    · refine k_aload_n X 0 dX8_needed_28 rfl rfl ?_
      refine k_getR X c_0 fRX8_61 r_0_8 dX8_needed_29 ?_
      refine k_aload_n X 0 dX8_needed_32 rfl rfl ?_
      refine k_getR X c_0 fRX8_47 r_0_6 dX8_needed_33 ?_
      refine k_callVI X [.ref (ad E 299)] [] c_323 rfl (by decide) rfl (mt_Reach_roomsNeeded (zl Z) E  M6) mRX8_316 ⟨by decide, by decide⟩ rfl rfl (Nat.le_of_ble_eq_true rfl) dX8_needed_36 (fun r7 M8 => ?_)
      refine k_goto X 44 dX8_needed_39 (by decide) ?_
      exact k_iret X dX8_needed_44
  · refine k_ldc X w_463 dX8_needed_7 ?_
    exact k_iret X dX8_needed_9
theorem mt_Fc_needed (l : Launch) (E : En) (M : Mem) : MI l E yX8_needed cX8_needed 1 (some .int) 6 130 [.ref (ad E 0)] M (j_Fc_needed M) := MI_of (by decide) (Nat.le_of_ble_eq_true rfl) (fun Z _ X => k_lv [0] rfl (kw_Fc_needed X M))
-- FilmCans.power
theorem kb_Fc_power_h5 {Z : ZT} {E : En} (X : Cx Z E 5 cX8_power RX8 (some .long) 0 0)  : ∀ (n : Nat) (x0 : Int32) (x1 : Int32) (y2 : Int64) (x4 : Int32) (M : Mem), Kj Z E 5 (QL Z E) (Fc_power_h5  n x0 x1 y2 x4 M) M 5 [(0, .int x0), (1, .int x1), (2, .long y2), (4, .int x4)] [] := by
  intro n
  induction n with
  | zero => intro x0 x1 y2 x4 M; exact k_none
  | succ n ih =>
    intro x0 x1 y2 x4 M
    rw [Fc_power_h5]
    refine k_iload X 3 dX8_power_5 rfl ?_
    refine k_iload_n X 1 dX8_power_7 rfl rfl ?_
    refine k_icmp_ge X 22 dX8_power_8 (by decide) ?_ ?_
    · refine k_lload_n X 2 dX8_power_22 rfl rfl ?_
      exact k_lret X dX8_power_23
    · refine k_lload_n X 2 dX8_power_11 rfl rfl ?_
      refine k_iload_n X 0 dX8_power_12 rfl rfl ?_
      refine k_i2l X dX8_power_13 ?_
      refine k_lmul X dX8_power_14 ?_
      refine x_lstore_n X [(0, .int x0), (1, .int x1), (4, .int x4)] dX8_power_15 rfl (by decide) rfl (fun y3_ => ?_)
      refine x_iinc X 1 3 [(2, .long y3_), (0, .int x0), (1, .int x1)] dX8_power_16 rfl (by decide) (by decide) rfl (fun x4_ => ?_)
      refine k_goto X 5 dX8_power_19 (by decide) ?_
      refine k_lv [2, 3, 1, 0] rfl ?_
      exact ih x0 x1 y3_ x4_ M
theorem kw_Fc_power {Z : ZT} {E : En} (X : Cx Z E 5 cX8_power RX8 (some .long) 0 0) (x0 : Int32) (x1 : Int32) (M : Mem) : Kj Z E 5 (QL Z E) (j_Fc_power x0 x1 M) M 0 [(0, .int x0), (1, .int x1)] [] := by
  unfold j_Fc_power
  refine k_lconst X (v := 1) dX8_power_0 (by decide) ?_
  refine x_lstore_n X [(0, .int x0), (1, .int x1)] dX8_power_1 rfl (by decide) rfl (fun y1_ => ?_)
  refine k_iconst X (v := 0) dX8_power_2 (by decide) ?_
  refine x_istore X [(2, .long y1_), (0, .int x0), (1, .int x1)] dX8_power_3 (by decide) rfl (fun x2_ => ?_)
  refine k_lv [2, 3, 1, 0] rfl ?_
  exact kb_Fc_power_h5 X  FU x0 x1 y1_ x2_ M
theorem mt_Fc_power (l : Launch) (E : En) (x0 : Int32) (x1 : Int32) (M : Mem) : ML l E yX8_power cX8_power 5 (some .long) 0 0 [.int x0, .int x1] M (j_Fc_power x0 x1 M) := ML_of (by decide) (Nat.le_of_ble_eq_true rfl) (fun Z _ X => k_lv [0, 1] rfl (kw_Fc_power X x0 x1 M))
-- FilmCans$Reach.casesAmongTens
theorem kb_Reach_casesAmongTens_b71 {Z : ZT} {E : En} (X : Cx Z E 7 cX5_casesAmongTens RX5 (some .long) 1 24) (k5 : Int32 → Int64 → Int32 → Mem → Option (Int64 × Mem)) (hk5 : ∀ (x2 : Int32) (y3 : Int64) (x5 : Int32) (M : Mem), Kj Z E 7 (QL Z E) (k5 x2 y3 x5 M) M 5 [(0, .ref (ad E 323)), (1, .ref (ad E 299)), (2, .int x2), (3, .long y3), (5, .int x5)] []) (x2 : Int32) (y3 : Int64) (x5 : Int32) (M : Mem) : Kj Z E 7 (QL Z E) (Reach_casesAmongTens_b71 k5 x2 y3 x5 M) M 71 [(0, .ref (ad E 323)), (1, .ref (ad E 299)), (2, .int x2), (3, .long y3), (5, .int x5)] [] := by
  unfold Reach_casesAmongTens_b71
  refine x_iinc X 1 4 [(0, .ref (ad E 323)), (1, .ref (ad E 299)), (2, .int x2), (3, .long y3)] dX5_casesAmongTens_71 rfl (by decide) (by decide) rfl (fun x3_ => ?_)
  refine k_goto X 5 dX5_casesAmongTens_74 (by decide) ?_
  refine k_lv [1, 2, 3, 4, 0] rfl ?_
  exact hk5 x2 y3 x3_ M
theorem kb_Reach_casesAmongTens_h5 {Z : ZT} {E : En} (X : Cx Z E 7 cX5_casesAmongTens RX5 (some .long) 1 24)  : ∀ (n : Nat) (x2 : Int32) (y3 : Int64) (x5 : Int32) (M : Mem), Kj Z E 7 (QL Z E) (Reach_casesAmongTens_h5  n x2 y3 x5 M) M 5 [(0, .ref (ad E 323)), (1, .ref (ad E 299)), (2, .int x2), (3, .long y3), (5, .int x5)] [] := by
  intro n
  induction n with
  | zero => intro x2 y3 x5 M; exact k_none
  | succ n ih =>
    intro x2 y3 x5 M
    rw [Reach_casesAmongTens_h5]
    refine k_iload X 4 dX5_casesAmongTens_5 rfl ?_
    refine k_bipush X (v := 64) dX5_casesAmongTens_7 (by decide) ?_
    refine k_icmp_ge X 77 dX5_casesAmongTens_9 (by decide) ?_ ?_
    · refine k_lload_n X 3 dX5_casesAmongTens_77 rfl rfl ?_
      exact k_lret X dX5_casesAmongTens_78
    · refine k_iload X 4 dX5_casesAmongTens_12 rfl ?_
      refine k_aload_n X 1 dX5_casesAmongTens_14 rfl rfl ?_
      refine k_getI X c_299 fRX5_53 dX5_casesAmongTens_15 ?_
      refine k_iconst X (v := (-1)) dX5_casesAmongTens_18 (by decide) ?_
      refine k_ixor X dX5_casesAmongTens_19 ?_
      refine k_iand X dX5_casesAmongTens_20 ?_
      refine k_if_ne X 71 dX5_casesAmongTens_21 (by decide) ?_ ?_
      · refine k_lv [0, 1, 2, 3, 4] rfl ?_
        exact kb_Reach_casesAmongTens_b71 X (fun x2 y3 x5 M => Reach_casesAmongTens_h5 n x2 y3 x5 M) (fun x2 y3 x5 M => ih x2 y3 x5 M) x2 y3 x5 M
      · refine k_aload_n X 0 dX5_casesAmongTens_24 rfl rfl ?_
        refine k_aload_n X 1 dX5_casesAmongTens_25 rfl rfl ?_
        refine k_getI X c_299 fRX5_21 dX5_casesAmongTens_26 ?_
        refine k_iload X 4 dX5_casesAmongTens_29 rfl ?_
        refine k_callVI X [.int (gi M 299 1), .int x5] [] c_323 rfl (by decide) rfl (mt_Reach_isPlaced (zl Z) E (gi M 299 1) x5 M) mRX5_46 ⟨by decide, by decide⟩ rfl rfl (Nat.le_of_ble_eq_true rfl) dX5_casesAmongTens_31 (fun r4 M5 => ?_)
        refine k_if_eq X 71 dX5_casesAmongTens_34 (by decide) ?_ ?_
        · refine k_lv [0, 1, 2, 3, 4] rfl ?_
          exact kb_Reach_casesAmongTens_b71 X (fun x2 y3 x5 M => Reach_casesAmongTens_h5 n x2 y3 x5 M) (fun x2 y3 x5 M => ih x2 y3 x5 M) x2 y3 x5 M5
        · refine k_iload X 4 dX5_casesAmongTens_37 rfl ?_
          refine k_callSI X [.int x5] [] (mt_Integer_bitCount (zl Z) E x5 M5) mRX5_56 ⟨by decide, by decide⟩ rfl rfl (Nat.le_of_ble_eq_true rfl) dX5_casesAmongTens_39 (fun r6 M7 => ?_)
          refine k_istore X [(6, .int r6), (0, .ref (ad E 323)), (1, .ref (ad E 299)), (2, .int x2), (3, .long y3), (5, .int x5)] dX5_casesAmongTens_42 (by decide) rfl ?_
          refine k_lload_n X 4 dX5_casesAmongTens_44 rfl rfl ?_
          refine k_bipush X (v := 10) dX5_casesAmongTens_45 (by decide) ?_
          refine k_iload_n X 3 dX5_casesAmongTens_47 rfl rfl ?_
          refine k_isub X dX5_casesAmongTens_48 ?_
          refine k_iload X 0 dX5_casesAmongTens_49 rfl ?_
          refine k_callNL X [.int ((10 : Int32) - x2), .int r6] [.long y3] (mt_Fc_power (zl Z) E ((10 : Int32) - x2) r6 M7) mRX5_62 ⟨by decide, by decide⟩ rfl rfl (Nat.le_of_ble_eq_true rfl) dX5_casesAmongTens_51 (fun r8 M9 => ?_)
          refine k_iload_n X 3 dX5_casesAmongTens_54 rfl rfl ?_
          refine k_aload_n X 2 dX5_casesAmongTens_55 rfl rfl ?_
          refine k_getI X c_299 fRX5_53 dX5_casesAmongTens_56 ?_
          refine k_callSI X [.int (gi M9 299 0)] [.int x2, .long r8, .long y3] (mt_Integer_bitCount (zl Z) E (gi M9 299 0) M9) mRX5_56 ⟨by decide, by decide⟩ rfl rfl (Nat.le_of_ble_eq_true rfl) dX5_casesAmongTens_59 (fun r10 M11 => ?_)
          refine k_iload X 0 dX5_casesAmongTens_62 rfl ?_
          refine k_isub X dX5_casesAmongTens_64 ?_
          refine k_callNL X [.int x2, .int (r10 - r6)] [.long r8, .long y3] (mt_Fc_power (zl Z) E x2 (r10 - r6) M11) mRX5_62 ⟨by decide, by decide⟩ rfl rfl (Nat.le_of_ble_eq_true rfl) dX5_casesAmongTens_65 (fun r12 M13 => ?_)
          refine k_lmul X dX5_casesAmongTens_68 ?_
          refine k_ladd X dX5_casesAmongTens_69 ?_
          refine x_lstore_n X [(6, .int r6), (0, .ref (ad E 323)), (1, .ref (ad E 299)), (2, .int x2), (5, .int x5)] dX5_casesAmongTens_70 rfl (by decide) rfl (fun y14_ => ?_)
          refine k_lv [2, 3, 4, 0, 5] rfl ?_
          exact kb_Reach_casesAmongTens_b71 X (fun x2 y3 x5 M => Reach_casesAmongTens_h5 n x2 y3 x5 M) (fun x2 y3 x5 M => ih x2 y3 x5 M) x2 y14_ x5 M13
theorem kw_Reach_casesAmongTens {Z : ZT} {E : En} (X : Cx Z E 7 cX5_casesAmongTens RX5 (some .long) 1 24) (x2 : Int32) (M : Mem) : Kj Z E 7 (QL Z E) (j_Reach_casesAmongTens x2 M) M 0 [(0, .ref (ad E 323)), (1, .ref (ad E 299)), (2, .int x2)] [] := by
  unfold j_Reach_casesAmongTens
  refine k_lconst X (v := 0) dX5_casesAmongTens_0 (by decide) ?_
  refine x_lstore_n X [(0, .ref (ad E 323)), (1, .ref (ad E 299)), (2, .int x2)] dX5_casesAmongTens_1 rfl (by decide) rfl (fun y1_ => ?_)
  refine k_iconst X (v := 0) dX5_casesAmongTens_2 (by decide) ?_
  refine x_istore X [(3, .long y1_), (0, .ref (ad E 323)), (1, .ref (ad E 299)), (2, .int x2)] dX5_casesAmongTens_3 (by decide) rfl (fun x2_ => ?_)
  refine k_lv [2, 3, 4, 1, 0] rfl ?_
  exact kb_Reach_casesAmongTens_h5 X  FU x2 y1_ x2_ M
theorem mt_Reach_casesAmongTens (l : Launch) (E : En) (x2 : Int32) (M : Mem) : ML l E yX5_casesAmongTens cX5_casesAmongTens 7 (some .long) 1 24 [.ref (ad E 323), .ref (ad E 299), .int x2] M (j_Reach_casesAmongTens x2 M) := ML_of (by decide) (Nat.le_of_ble_eq_true rfl) (fun Z _ X => k_lv [0, 1, 2] rfl (kw_Reach_casesAmongTens X x2 M))
-- FilmCans.greatestDivisor
theorem kb_Fc_greatestDivisor_h3 {Z : ZT} {E : En} (X : Cx Z E 7 cX8_greatestDivisor RX8 (some .long) 0 0)  : ∀ (n : Nat) (y0 : Int64) (y2 : Int64) (x4 : Int32) (M : Mem), Kj Z E 7 (QL Z E) (Fc_greatestDivisor_h3  n y0 y2 x4 M) M 3 [(0, .long y0), (2, .long y2), (4, .int x4)] [] := by
  intro n
  induction n with
  | zero => intro y0 y2 x4 M; exact k_none
  | succ n ih =>
    intro y0 y2 x4 M
    rw [Fc_greatestDivisor_h3]
    refine k_iload X 2 dX8_greatestDivisor_3 rfl ?_
    refine k_bipush X (v := 100) dX8_greatestDivisor_5 (by decide) ?_
    refine k_icmp_ge X 32 dX8_greatestDivisor_7 (by decide) ?_ ?_
    · refine k_lload_n X 0 dX8_greatestDivisor_32 rfl rfl ?_
      exact k_lret X dX8_greatestDivisor_33
    · refine k_lload_n X 1 dX8_greatestDivisor_10 rfl rfl ?_
      refine k_lconst X (v := 0) dX8_greatestDivisor_11 (by decide) ?_
      refine k_leq X 32 dX8_greatestDivisor_12 dX8_greatestDivisor_13 (by decide) ?_ ?_
      · refine k_lload_n X 0 dX8_greatestDivisor_32 rfl rfl ?_
        exact k_lret X dX8_greatestDivisor_33
      · refine k_lload_n X 0 dX8_greatestDivisor_16 rfl rfl ?_
        refine k_lload_n X 1 dX8_greatestDivisor_17 rfl rfl ?_
        refine k_lremG X dX8_greatestDivisor_18 ?_
        refine x_lstore X [(0, .long y0), (2, .long y2), (4, .int x4)] dX8_greatestDivisor_19 (by decide) rfl (fun y2_ => ?_)
        refine k_lload_n X 2 dX8_greatestDivisor_21 rfl rfl ?_
        refine k_lstore_n X [(0, .long y2), (5, .long y2_), (2, .long y2), (4, .int x4)] dX8_greatestDivisor_22 rfl (by decide) rfl ?_
        refine k_lload X 1 dX8_greatestDivisor_23 rfl ?_
        refine k_lstore_n X [(2, .long y2_), (0, .long y2), (5, .long y2_), (4, .int x4)] dX8_greatestDivisor_25 rfl (by decide) rfl ?_
        refine x_iinc X 1 3 [(2, .long y2_), (0, .long y2), (5, .long y2_)] dX8_greatestDivisor_26 rfl (by decide) (by decide) rfl (fun x3_ => ?_)
        refine k_goto X 3 dX8_greatestDivisor_29 (by decide) ?_
        refine k_lv [2, 1, 0] rfl ?_
        exact ih y2 y2_ x3_ M
theorem kw_Fc_greatestDivisor {Z : ZT} {E : En} (X : Cx Z E 7 cX8_greatestDivisor RX8 (some .long) 0 0) (y0 : Int64) (y2 : Int64) (M : Mem) : Kj Z E 7 (QL Z E) (j_Fc_greatestDivisor y0 y2 M) M 0 [(0, .long y0), (2, .long y2)] [] := by
  unfold j_Fc_greatestDivisor
  refine k_iconst X (v := 0) dX8_greatestDivisor_0 (by decide) ?_
  refine x_istore X [(0, .long y0), (2, .long y2)] dX8_greatestDivisor_1 (by decide) rfl (fun x1_ => ?_)
  refine k_lv [1, 2, 0] rfl ?_
  exact kb_Fc_greatestDivisor_h3 X  FU y0 y2 x1_ M
theorem mt_Fc_greatestDivisor (l : Launch) (E : En) (y0 : Int64) (y2 : Int64) (M : Mem) : ML l E yX8_greatestDivisor cX8_greatestDivisor 7 (some .long) 0 0 [.long y0, .long y2] M (j_Fc_greatestDivisor y0 y2 M) := ML_of (by decide) (Nat.le_of_ble_eq_true rfl) (fun Z _ X => k_lv [0, 1] rfl (kw_Fc_greatestDivisor X y0 y2 M))
-- FilmCans.fogged
theorem kw_Fc_fogged {Z : ZT} {E : En} (X : Cx Z E 9 cX8_fogged RX8 (some .long) 6 130) (x1 : Int32) (x2 : Int32) (M : Mem) : Kj Z E 9 (QL Z E) (j_Fc_fogged x1 x2 M) M 0 [(0, .ref (ad E 0)), (1, .int x1), (2, .int x2)] [] := by
  unfold j_Fc_fogged
  refine k_aload_n X 0 dX8_fogged_0 rfl rfl ?_
  refine k_callVI X [] [] c_0 rfl (by decide) rfl (mt_Fc_hasNoBook (zl Z) E  M) mRX8_175 ⟨by decide, by decide⟩ rfl rfl (Nat.le_of_ble_eq_true rfl) dX8_fogged_1 (fun r1 M2 => ?_)
  refine k_if_eq X 11 dX8_fogged_4 (by decide) ?_ ?_
  · refine k_iload_n X 1 dX8_fogged_11 rfl rfl ?_
    refine k_if_lt X 28 dX8_fogged_12 (by decide) ?_ ?_
    · refine k_ldc2 X w_898 dX8_fogged_28 ?_
      exact k_lret X dX8_fogged_31
    · refine k_iload_n X 1 dX8_fogged_15 rfl rfl ?_
      refine k_bipush X (v := 10) dX8_fogged_16 (by decide) ?_
      refine k_icmp_gt X 28 dX8_fogged_18 (by decide) ?_ ?_
      · refine k_ldc2 X w_898 dX8_fogged_28 ?_
        exact k_lret X dX8_fogged_31
      · refine k_iload_n X 2 dX8_fogged_21 rfl rfl ?_
        refine k_callSI X [.int x2] [] (mt_Fc_isZeroOrOne (zl Z) E x2 M2) mRX8_275 ⟨by decide, by decide⟩ rfl rfl (Nat.le_of_ble_eq_true rfl) dX8_fogged_22 (fun r3 M4 => ?_)
        refine k_if_ne X 32 dX8_fogged_25 (by decide) ?_ ?_
        · refine k_aload_n X 0 dX8_fogged_32 rfl rfl ?_
          refine k_callVV X [] [] c_0 rfl (by decide) rfl (mt_Fc_lookAhead (zl Z) E  M4) mRX8_291 ⟨by decide, by decide⟩ rfl rfl (Nat.le_of_ble_eq_true rfl) dX8_fogged_33 (fun _ M6 => ?_)
          refine k_aload_n X 0 dX8_fogged_36 rfl rfl ?_
          refine k_getR X c_0 fRX8_61 r_0_8 dX8_fogged_37 ?_
          refine k_aload_n X 0 dX8_fogged_40 rfl rfl ?_
          refine k_getR X c_0 fRX8_47 r_0_6 dX8_fogged_41 ?_
          refine k_iload_n X 1 dX8_fogged_44 rfl rfl ?_
          refine k_callVL X [.ref (ad E 299), .int x1] [] c_323 rfl (by decide) rfl (mt_Reach_casesAmongTens (zl Z) E x1 M6) mRX8_324 ⟨by decide, by decide⟩ rfl rfl (Nat.le_of_ble_eq_true rfl) dX8_fogged_45 (fun r7 M8 => ?_)
          refine k_lstore_n X [(3, .long r7), (0, .ref (ad E 0)), (1, .int x1), (2, .int x2)] dX8_fogged_48 rfl (by decide) rfl ?_
          refine k_bipush X (v := 10) dX8_fogged_49 (by decide) ?_
          refine k_aload_n X 1 dX8_fogged_51 rfl rfl ?_
          refine k_getR X c_0 fRX8_47 r_0_6 dX8_fogged_52 ?_
          refine k_getI X c_299 fRX8_328 dX8_fogged_55 ?_
          refine k_callSI X [.int (gi M8 299 0)] [.int 10] (mt_Integer_bitCount (zl Z) E (gi M8 299 0) M8) mRX8_331 ⟨by decide, by decide⟩ rfl rfl (Nat.le_of_ble_eq_true rfl) dX8_fogged_58 (fun r9 M10 => ?_)
          refine k_callSL X [.int 10, .int r9] [] (mt_Fc_power (zl Z) E 10 r9 M10) mRX8_336 ⟨by decide, by decide⟩ rfl rfl (Nat.le_of_ble_eq_true rfl) dX8_fogged_61 (fun r11 M12 => ?_)
          refine k_lstore X [(5, .long r11), (3, .long r7), (0, .ref (ad E 0)), (1, .int x1), (2, .int x2)] dX8_fogged_64 (by decide) rfl ?_
          refine k_lload_n X 1 dX8_fogged_66 rfl rfl ?_
          refine k_lload X 0 dX8_fogged_67 rfl ?_
          refine k_callSL X [.long r7, .long r11] [] (mt_Fc_greatestDivisor (zl Z) E r7 r11 M12) mRX8_340 ⟨by decide, by decide⟩ rfl rfl (Nat.le_of_ble_eq_true rfl) dX8_fogged_69 (fun r13 M14 => ?_)
          refine k_lstore X [(7, .long r13), (5, .long r11), (3, .long r7), (0, .ref (ad E 0)), (1, .int x1), (2, .int x2)] dX8_fogged_72 (by decide) rfl ?_
          refine k_lload X 0 dX8_fogged_74 rfl ?_
          refine k_lconst X (v := 1) dX8_fogged_76 (by decide) ?_
          refine k_lge X 85 dX8_fogged_77 dX8_fogged_78 (by decide) ?_ ?_
          · refine k_iload_n X 5 dX8_fogged_85 rfl rfl ?_
            refine k_if_ne X 96 dX8_fogged_86 (by decide) ?_ ?_
            · refine k_lload X 1 dX8_fogged_96 rfl ?_
              refine k_lload X 0 dX8_fogged_98 rfl ?_
              refine k_ldivG X dX8_fogged_100 ?_
              exact k_lret X dX8_fogged_101
            · refine k_lload_n X 2 dX8_fogged_89 rfl rfl ?_
              refine k_lload X 0 dX8_fogged_90 rfl ?_
              refine k_ldivG X dX8_fogged_92 ?_
              refine k_goto X 101 dX8_fogged_93 (by decide) ?_
              exact k_lret X dX8_fogged_101
          · refine k_ldc2 X w_898 dX8_fogged_81 ?_
            exact k_lret X dX8_fogged_84
        · refine k_ldc2 X w_898 dX8_fogged_28 ?_
          exact k_lret X dX8_fogged_31
  · refine k_ldc2 X w_897 dX8_fogged_7 ?_
    exact k_lret X dX8_fogged_10
theorem mt_Fc_fogged (l : Launch) (E : En) (x1 : Int32) (x2 : Int32) (M : Mem) : ML l E yX8_fogged cX8_fogged 9 (some .long) 6 130 [.ref (ad E 0), .int x1, .int x2] M (j_Fc_fogged x1 x2 M) := ML_of (by decide) (Nat.le_of_ble_eq_true rfl) (fun Z _ X => k_lv [0, 1, 2] rfl (kw_Fc_fogged X x1 x2 M))
-- FilmCans$Rooms.drawLength
theorem kb_Rooms_drawLength_b72 {Z : ZT} {E : En} (X : Cx Z E 6 cX6_drawLength RX6 none 3 66) (k29 : Int64 → Int32 → Int32 → Mem → Option (Unit × Mem)) (hk29 : ∀ (y1 : Int64) (x4 : Int32) (x5 : Int32) (M : Mem), Kj Z E 6 (QV Z E) (k29 y1 x4 x5 M) M 29 [(0, .ref (ad E 299)), (1, .long y1), (4, .int x4), (5, .int x5)] []) (y1 : Int64) (x4 : Int32) (x5 : Int32) (M : Mem) : Kj Z E 6 (QV Z E) (Rooms_drawLength_b72 k29 y1 x4 x5 M) M 72 [(0, .ref (ad E 299)), (1, .long y1), (4, .int x4), (5, .int x5)] [] := by
  unfold Rooms_drawLength_b72
  refine x_iinc X 1 3 [(0, .ref (ad E 299)), (1, .long y1), (4, .int x4)] dX6_drawLength_72 rfl (by decide) (by decide) rfl (fun x9_ => ?_)
  refine k_goto X 29 dX6_drawLength_75 (by decide) ?_
  refine k_lv [1, 2, 3, 0] rfl ?_
  exact hk29 y1 x4 x9_ M
theorem kb_Rooms_drawLength_b69 {Z : ZT} {E : En} (X : Cx Z E 6 cX6_drawLength RX6 none 3 66) (k29 : Int64 → Int32 → Int32 → Mem → Option (Unit × Mem)) (hk29 : ∀ (y1 : Int64) (x4 : Int32) (x5 : Int32) (M : Mem), Kj Z E 6 (QV Z E) (k29 y1 x4 x5 M) M 29 [(0, .ref (ad E 299)), (1, .long y1), (4, .int x4), (5, .int x5)] []) (y1 : Int64) (x4 : Int32) (x5 : Int32) (M : Mem) : Kj Z E 6 (QV Z E) (Rooms_drawLength_b69 k29 y1 x4 x5 M) M 69 [(0, .ref (ad E 299)), (1, .long y1), (4, .int x4), (5, .int x5)] [] := by
  unfold Rooms_drawLength_b69
  refine x_iinc X (-1) 2 [(0, .ref (ad E 299)), (1, .long y1), (5, .int x5)] dX6_drawLength_69 rfl (by decide) (by decide) rfl (fun x10_ => ?_)
  refine k_lv [1, 2, 0, 3] rfl ?_
  exact kb_Rooms_drawLength_b72 X k29 hk29 y1 x10_ x5 M
theorem kb_Rooms_drawLength_h29 {Z : ZT} {E : En} (X : Cx Z E 6 cX6_drawLength RX6 none 3 66)  : ∀ (n : Nat) (y1 : Int64) (x4 : Int32) (x5 : Int32) (M : Mem), Kj Z E 6 (QV Z E) (Rooms_drawLength_h29  n y1 x4 x5 M) M 29 [(0, .ref (ad E 299)), (1, .long y1), (4, .int x4), (5, .int x5)] [] := by
  intro n
  induction n with
  | zero => intro y1 x4 x5 M; exact k_none
  | succ n ih =>
    intro y1 x4 x5 M
    rw [Rooms_drawLength_h29]
    refine k_iload X 3 dX6_drawLength_29 rfl ?_
    refine k_bipush X (v := 8) dX6_drawLength_31 (by decide) ?_
    refine k_icmp_ge X 78 dX6_drawLength_33 (by decide) ?_ ?_
    · refine k_aload_n X 0 dX6_drawLength_78 rfl rfl ?_
      refine k_callVV X [] [] c_299 rfl (by decide) rfl (mt_Rooms_measure (zl Z) E  M) mRX6_66 ⟨by decide, by decide⟩ rfl rfl (Nat.le_of_ble_eq_true rfl) dX6_drawLength_79 (fun _ M6 => ?_)
      exact k_vret X dX6_drawLength_82
    · refine k_aload_n X 0 dX6_drawLength_36 rfl rfl ?_
      refine k_iload X 3 dX6_drawLength_37 rfl ?_
      refine k_callVI X [.int x5] [] c_299 rfl (by decide) rfl (mt_Rooms_isOpen (zl Z) E x5 M) mRX6_61 ⟨by decide, by decide⟩ rfl rfl (Nat.le_of_ble_eq_true rfl) dX6_drawLength_39 (fun r7 M8 => ?_)
      refine k_if_eq X 72 dX6_drawLength_42 (by decide) ?_ ?_
      · refine k_lv [0, 1, 2, 3] rfl ?_
        exact kb_Rooms_drawLength_b72 X (fun y1 x4 x5 M => Rooms_drawLength_h29 n y1 x4 x5 M) (fun y1 x4 x5 M => ih y1 x4 x5 M) y1 x4 x5 M8
      · refine k_iload X 2 dX6_drawLength_45 rfl ?_
        refine k_if_ne X 69 dX6_drawLength_47 (by decide) ?_ ?_
        · refine k_lv [0, 1, 2, 3] rfl ?_
          exact kb_Rooms_drawLength_b69 X (fun y1 x4 x5 M => Rooms_drawLength_h29 n y1 x4 x5 M) (fun y1 x4 x5 M => ih y1 x4 x5 M) y1 x4 x5 M8
        · refine k_aload_n X 0 dX6_drawLength_50 rfl rfl ?_
          refine k_getR X c_299 fRX6_27 r_299_7 dX6_drawLength_51 ?_
          refine k_iload X 3 dX6_drawLength_54 rfl ?_
          refine k_iconst X (v := 1) dX6_drawLength_56 (by decide) ?_
          refine k_lload_n X 1 dX6_drawLength_57 rfl rfl ?_
          refine k_ldc2 X w_922 dX6_drawLength_58 ?_
          refine k_ldiv X dX6_drawLength_61 (by decide) ?_
          refine k_ldc2 X w_923 dX6_drawLength_62 ?_
          refine k_lrem X dX6_drawLength_65 (by decide) ?_
          refine k_l2i X dX6_drawLength_66 ?_
          refine k_iadd X dX6_drawLength_67 ?_
          refine k_iast X c_305 l_305 dX6_drawLength_68 (fun hb11 => ?_)
          refine k_sq (fun M12 => ?_)
          refine k_lv [0, 1, 2, 3] rfl ?_
          exact kb_Rooms_drawLength_b69 X (fun y1 x4 x5 M => Rooms_drawLength_h29 n y1 x4 x5 M) (fun y1 x4 x5 M => ih y1 x4 x5 M) y1 x4 x5 M12
theorem kw_Rooms_drawLength {Z : ZT} {E : En} (X : Cx Z E 6 cX6_drawLength RX6 none 3 66) (y1 : Int64) (M : Mem) : Kj Z E 6 (QV Z E) (j_Rooms_drawLength y1 M) M 0 [(0, .ref (ad E 299)), (1, .long y1)] [] := by
  unfold j_Rooms_drawLength
  refine k_aload_n X 0 dX6_drawLength_0 rfl rfl ?_
  refine k_getI X c_299 fRX6_54 dX6_drawLength_1 ?_
  refine k_callSI X [.int (gi M 299 1)] [] (mt_Integer_bitCount (zl Z) E (gi M 299 1) M) mRX6_101 ⟨by decide, by decide⟩ rfl rfl (Nat.le_of_ble_eq_true rfl) dX6_drawLength_4 (fun r1 M2 => ?_)
  refine k_istore_n X [(3, .int r1), (0, .ref (ad E 299)), (1, .long y1)] dX6_drawLength_7 rfl (by decide) rfl ?_
  refine k_iload_n X 0 dX6_drawLength_8 rfl rfl ?_
  refine k_if_eq X 18 dX6_drawLength_9 (by decide) ?_ ?_
  · exact k_vret X dX6_drawLength_18
  · refine k_lload_n X 2 dX6_drawLength_12 rfl rfl ?_
    refine k_lconst X (v := 0) dX6_drawLength_13 (by decide) ?_
    refine k_lge X 19 dX6_drawLength_14 dX6_drawLength_15 (by decide) ?_ ?_
    · refine k_lload_n X 2 dX6_drawLength_19 rfl rfl ?_
      refine k_iload_n X 0 dX6_drawLength_20 rfl rfl ?_
      refine k_i2l X dX6_drawLength_21 ?_
      refine k_lremG X dX6_drawLength_22 ?_
      refine k_l2i X dX6_drawLength_23 ?_
      refine x_istore X [(3, .int r1), (0, .ref (ad E 299)), (1, .long y1)] dX6_drawLength_24 (by decide) rfl (fun x3_ => ?_)
      refine k_iconst X (v := 0) dX6_drawLength_26 (by decide) ?_
      refine x_istore X [(4, .int x3_), (3, .int r1), (0, .ref (ad E 299)), (1, .long y1)] dX6_drawLength_27 (by decide) rfl (fun x4_ => ?_)
      refine k_lv [3, 4, 1, 0] rfl ?_
      exact kb_Rooms_drawLength_h29 X  FU y1 x3_ x4_ M2
    · exact k_vret X dX6_drawLength_18
theorem mt_Rooms_drawLength (l : Launch) (E : En) (y1 : Int64) (M : Mem) : MV l E yX6_drawLength cX6_drawLength 6 none 3 66 [.ref (ad E 299), .long y1] M (j_Rooms_drawLength y1 M) := MV_of (by decide) (Nat.le_of_ble_eq_true rfl) (fun Z _ X => k_lv [0, 1] rfl (kw_Rooms_drawLength X y1 M))
-- FilmCans.drawn
theorem kb_Fc_drawn_b125 {Z : ZT} {E : En} (X : Cx Z E 9 cX8_drawn RX8 (some .int) 5 120) (k66 : Int32 → Int32 → Int64 → Int32 → Int32 → Int32 → Mem → Option (Int32 × Mem)) (hk66 : ∀ (x1 : Int32) (x3 : Int32) (y4 : Int64) (x6 : Int32) (x7 : Int32) (x8 : Int32) (M : Mem), Kj Z E 9 (QI Z E) (k66 x1 x3 y4 x6 x7 x8 M) M 66 [(0, .ref (ad E 0)), (1, .int x1), (3, .int x3), (4, .long y4), (6, .int x6), (7, .int x7), (8, .int x8)] []) (x1 : Int32) (x3 : Int32) (y4 : Int64) (x6 : Int32) (x7 : Int32) (x8 : Int32) (M : Mem) : Kj Z E 9 (QI Z E) (Fc_drawn_b125 k66 x1 x3 y4 x6 x7 x8 M) M 125 [(0, .ref (ad E 0)), (1, .int x1), (3, .int x3), (4, .long y4), (6, .int x6), (7, .int x7), (8, .int x8)] [] := by
  unfold Fc_drawn_b125
  refine x_iinc X 1 6 [(0, .ref (ad E 0)), (1, .int x1), (3, .int x3), (4, .long y4), (6, .int x6), (7, .int x7)] dX8_drawn_125 rfl (by decide) (by decide) rfl (fun x17_ => ?_)
  refine k_goto X 66 dX8_drawn_128 (by decide) ?_
  refine k_lv [1, 2, 3, 4, 5, 6, 0] rfl ?_
  exact hk66 x1 x3 y4 x6 x7 x17_ M
theorem kb_Fc_drawn_h66 {Z : ZT} {E : En} (X : Cx Z E 9 cX8_drawn RX8 (some .int) 5 120)  : ∀ (n : Nat) (x1 : Int32) (x3 : Int32) (y4 : Int64) (x6 : Int32) (x7 : Int32) (x8 : Int32) (M : Mem), Kj Z E 9 (QI Z E) (Fc_drawn_h66  n x1 x3 y4 x6 x7 x8 M) M 66 [(0, .ref (ad E 0)), (1, .int x1), (3, .int x3), (4, .long y4), (6, .int x6), (7, .int x7), (8, .int x8)] [] := by
  intro n
  induction n with
  | zero => intro x1 x3 y4 x6 x7 x8 M; exact k_none
  | succ n ih =>
    intro x1 x3 y4 x6 x7 x8 M
    rw [Fc_drawn_h66]
    refine k_iload X 6 dX8_drawn_66 rfl ?_
    refine k_iload_n X 1 dX8_drawn_68 rfl rfl ?_
    refine k_icmp_ge X 131 dX8_drawn_69 (by decide) ?_ ?_
    · refine k_iload_n X 2 dX8_drawn_131 rfl rfl ?_
      refine k_if_ne X 140 dX8_drawn_132 (by decide) ?_ ?_
      · refine k_iload X 5 dX8_drawn_140 rfl ?_
        exact k_iret X dX8_drawn_142
      · refine k_iload X 4 dX8_drawn_135 rfl ?_
        refine k_goto X 142 dX8_drawn_137 (by decide) ?_
        exact k_iret X dX8_drawn_142
    · refine k_lload X 3 dX8_drawn_72 rfl ?_
      refine k_ldc2 X w_916 dX8_drawn_74 ?_
      refine k_lmul X dX8_drawn_77 ?_
      refine k_ldc2 X w_917 dX8_drawn_78 ?_
      refine k_lrem X dX8_drawn_81 (by decide) ?_
      refine x_lstore X [(0, .ref (ad E 0)), (1, .int x1), (3, .int x3), (6, .int x6), (7, .int x7), (8, .int x8)] dX8_drawn_82 (by decide) rfl (fun y11_ => ?_)
      refine k_aload_n X 1 dX8_drawn_84 rfl rfl ?_
      refine k_getR X c_0 fRX8_47 r_0_6 dX8_drawn_85 ?_
      refine k_lload X 0 dX8_drawn_88 rfl ?_
      refine k_callVV X [.long y11_] [] c_299 rfl (by decide) rfl (mt_Rooms_drawLength (zl Z) E y11_ M) mRX8_349 ⟨by decide, by decide⟩ rfl rfl (Nat.le_of_ble_eq_true rfl) dX8_drawn_90 (fun _ M13 => ?_)
      refine k_aload_n X 1 dX8_drawn_93 rfl rfl ?_
      refine k_getR X c_0 fRX8_54 r_0_7 dX8_drawn_94 ?_
      refine k_aload_n X 1 dX8_drawn_97 rfl rfl ?_
      refine k_getR X c_0 fRX8_47 r_0_6 dX8_drawn_98 ?_
      refine k_callVI X [.ref (ad E 299)] [] c_315 rfl (by decide) rfl (mt_Best_place (zl Z) E  M13) mRX8_353 ⟨by decide, by decide⟩ rfl rfl (Nat.le_of_ble_eq_true rfl) dX8_drawn_101 (fun r14 M15 => ?_)
      refine k_if_eq X 122 dX8_drawn_104 (by decide) ?_ ?_
      · refine x_iinc X 1 5 [(4, .long y11_), (0, .ref (ad E 0)), (1, .int x1), (3, .int x3), (6, .int x6), (8, .int x8)] dX8_drawn_122 rfl (by decide) (by decide) rfl (fun x16_ => ?_)
        refine k_lv [2, 3, 4, 1, 5, 0, 6] rfl ?_
        exact kb_Fc_drawn_b125 X (fun x1 x3 y4 x6 x7 x8 M => Fc_drawn_h66 n x1 x3 y4 x6 x7 x8 M) (fun x1 x3 y4 x6 x7 x8 M => ih x1 x3 y4 x6 x7 x8 M) x1 x3 y11_ x6 x16_ x8 M15
      · refine k_iload X 4 dX8_drawn_107 rfl ?_
        refine k_aload_n X 1 dX8_drawn_109 rfl rfl ?_
        refine k_getR X c_0 fRX8_47 r_0_6 dX8_drawn_110 ?_
        refine k_callVI X [] [.int x6] c_299 rfl (by decide) rfl (mt_Rooms_losses (zl Z) E  M15) mRX8_355 ⟨by decide, by decide⟩ rfl rfl (Nat.le_of_ble_eq_true rfl) dX8_drawn_113 (fun r18 M19 => ?_)
        refine k_iadd X dX8_drawn_116 ?_
        refine x_istore X [(4, .long y11_), (0, .ref (ad E 0)), (1, .int x1), (3, .int x3), (7, .int x7), (8, .int x8)] dX8_drawn_117 (by decide) rfl (fun x20_ => ?_)
        refine k_goto X 125 dX8_drawn_119 (by decide) ?_
        refine k_lv [2, 3, 4, 1, 0, 5, 6] rfl ?_
        exact kb_Fc_drawn_b125 X (fun x1 x3 y4 x6 x7 x8 M => Fc_drawn_h66 n x1 x3 y4 x6 x7 x8 M) (fun x1 x3 y4 x6 x7 x8 M => ih x1 x3 y4 x6 x7 x8 M) x1 x3 y11_ x20_ x7 x8 M19
theorem kw_Fc_drawn {Z : ZT} {E : En} (X : Cx Z E 9 cX8_drawn RX8 (some .int) 5 120) (x1 : Int32) (x2 : Int32) (x3 : Int32) (M : Mem) : Kj Z E 9 (QI Z E) (j_Fc_drawn x1 x2 x3 M) M 0 [(0, .ref (ad E 0)), (1, .int x1), (2, .int x2), (3, .int x3)] [] := by
  unfold j_Fc_drawn
  refine k_aload_n X 0 dX8_drawn_0 rfl rfl ?_
  refine k_callVI X [] [] c_0 rfl (by decide) rfl (mt_Fc_hasNoBook (zl Z) E  M) mRX8_175 ⟨by decide, by decide⟩ rfl rfl (Nat.le_of_ble_eq_true rfl) dX8_drawn_1 (fun r1 M2 => ?_)
  refine k_if_eq X 10 dX8_drawn_4 (by decide) ?_ ?_
  · refine k_iload_n X 1 dX8_drawn_10 rfl rfl ?_
    refine k_if_lt X 39 dX8_drawn_11 (by decide) ?_ ?_
    · refine k_ldc X w_359 dX8_drawn_39 ?_
      exact k_iret X dX8_drawn_41
    · refine k_iload_n X 1 dX8_drawn_14 rfl rfl ?_
      refine k_bipush X (v := 20) dX8_drawn_15 (by decide) ?_
      refine k_icmp_gt X 39 dX8_drawn_17 (by decide) ?_ ?_
      · refine k_ldc X w_359 dX8_drawn_39 ?_
        exact k_iret X dX8_drawn_41
      · refine k_iload_n X 2 dX8_drawn_20 rfl rfl ?_
        refine k_iconst X (v := 1) dX8_drawn_21 (by decide) ?_
        refine k_icmp_lt X 39 dX8_drawn_22 (by decide) ?_ ?_
        · refine k_ldc X w_359 dX8_drawn_39 ?_
          exact k_iret X dX8_drawn_41
        · refine k_iload_n X 2 dX8_drawn_25 rfl rfl ?_
          refine k_ldcw X w_915 dX8_drawn_26 ?_
          refine k_icmp_gt X 39 dX8_drawn_29 (by decide) ?_ ?_
          · refine k_ldc X w_359 dX8_drawn_39 ?_
            exact k_iret X dX8_drawn_41
          · refine k_iload_n X 3 dX8_drawn_32 rfl rfl ?_
            refine k_callSI X [.int x3] [] (mt_Fc_isZeroOrOne (zl Z) E x3 M2) mRX8_275 ⟨by decide, by decide⟩ rfl rfl (Nat.le_of_ble_eq_true rfl) dX8_drawn_33 (fun r3 M4 => ?_)
            refine k_if_ne X 42 dX8_drawn_36 (by decide) ?_ ?_
            · refine k_aload_n X 0 dX8_drawn_42 rfl rfl ?_
              refine k_getR X c_0 fRX8_47 r_0_6 dX8_drawn_43 ?_
              refine k_aload_n X 0 dX8_drawn_46 rfl rfl ?_
              refine k_getR X c_0 fRX8_19 r_0_1 dX8_drawn_47 ?_
              refine k_callVV X [.ref (ad E 3)] [] c_299 rfl (by decide) rfl (mt_Rooms_lookAt (zl Z) E 3 day_3 M4) mRX8_265 ⟨by decide, by decide⟩ rfl rfl (Nat.le_of_ble_eq_true rfl) dX8_drawn_50 (fun _ M6 => ?_)
              refine k_iload_n X 2 dX8_drawn_53 rfl rfl ?_
              refine k_i2l X dX8_drawn_54 ?_
              refine x_lstore X [(0, .ref (ad E 0)), (1, .int x1), (2, .int x2), (3, .int x3)] dX8_drawn_55 (by decide) rfl (fun y7_ => ?_)
              refine k_iconst X (v := 0) dX8_drawn_57 (by decide) ?_
              refine x_istore X [(4, .long y7_), (0, .ref (ad E 0)), (1, .int x1), (2, .int x2), (3, .int x3)] dX8_drawn_58 (by decide) rfl (fun x8_ => ?_)
              refine k_iconst X (v := 0) dX8_drawn_60 (by decide) ?_
              refine x_istore X [(6, .int x8_), (4, .long y7_), (0, .ref (ad E 0)), (1, .int x1), (2, .int x2), (3, .int x3)] dX8_drawn_61 (by decide) rfl (fun x9_ => ?_)
              refine k_iconst X (v := 0) dX8_drawn_63 (by decide) ?_
              refine x_istore X [(7, .int x9_), (6, .int x8_), (4, .long y7_), (0, .ref (ad E 0)), (1, .int x1), (2, .int x2), (3, .int x3)] dX8_drawn_64 (by decide) rfl (fun x10_ => ?_)
              refine k_lv [4, 5, 7, 3, 2, 1, 0] rfl ?_
              exact kb_Fc_drawn_h66 X  FU x1 x3 y7_ x8_ x9_ x10_ M6
            · refine k_ldc X w_359 dX8_drawn_39 ?_
              exact k_iret X dX8_drawn_41
  · refine k_ldc X w_463 dX8_drawn_7 ?_
    exact k_iret X dX8_drawn_9
theorem mt_Fc_drawn (l : Launch) (E : En) (x1 : Int32) (x2 : Int32) (x3 : Int32) (M : Mem) : MI l E yX8_drawn cX8_drawn 9 (some .int) 5 120 [.ref (ad E 0), .int x1, .int x2, .int x3] M (j_Fc_drawn x1 x2 x3 M) := MI_of (by decide) (Nat.le_of_ble_eq_true rfl) (fun Z _ X => k_lv [0, 1, 2, 3] rfl (kw_Fc_drawn X x1 x2 x3 M))
-- FilmCans.image
theorem kw_Fc_image {Z : ZT} {E : En} (X : Cx Z E 2 cX8_image RX8 (some .int) 2 47) (x1 : Int32) (M : Mem) : Kj Z E 2 (QI Z E) (j_Fc_image x1 M) M 0 [(0, .ref (ad E 0)), (1, .int x1)] [] := by
  unfold j_Fc_image
  refine k_iload_n X 1 dX8_image_0 rfl rfl ?_
  refine k_if_lt X 9 dX8_image_1 (by decide) ?_ ?_
  · refine k_ldc X w_359 dX8_image_9 ?_
    exact k_iret X dX8_image_11
  · refine k_iload_n X 1 dX8_image_4 rfl rfl ?_
    refine k_iconst X (v := 2) dX8_image_5 (by decide) ?_
    refine k_icmp_lt X 12 dX8_image_6 (by decide) ?_ ?_
    · refine k_aload_n X 0 dX8_image_12 rfl rfl ?_
      refine k_callVI X [] [] c_0 rfl (by decide) rfl (mt_Fc_hasNoBook (zl Z) E  M) mRX8_175 ⟨by decide, by decide⟩ rfl rfl (Nat.le_of_ble_eq_true rfl) dX8_image_13 (fun r1 M2 => ?_)
      refine k_if_eq X 22 dX8_image_16 (by decide) ?_ ?_
      · refine k_aload_n X 0 dX8_image_22 rfl rfl ?_
        refine k_getR X c_0 fRX8_33 r_0_4 dX8_image_23 ?_
        refine k_iload_n X 1 dX8_image_26 rfl rfl ?_
        refine k_aaldY X (f := fun j => 270 + 12 * j) c_269 l_269 img_rf dX8_image_27 (fun hb3 => ?_)
        refine k_aload_n X 0 dX8_image_28 rfl rfl ?_
        refine k_getR X c_0 fRX8_19 r_0_1 dX8_image_29 ?_
        refine k_callVV X [.ref (ad E 3)] [] (day_C (img_day hb3)) rfl (by decide) rfl (mt_Day_copyFrom (zl Z) E (270 + 12 * ix x1) 3 (img_day hb3) day_3 M2) mRX8_83 ⟨by decide, by decide⟩ rfl rfl (Nat.le_of_ble_eq_true rfl) dX8_image_32 (fun _ M5 => ?_)
        refine k_iconst X (v := 1) dX8_image_35 (by decide) ?_
        exact k_iret X dX8_image_36
      · refine k_ldc X w_463 dX8_image_19 ?_
        exact k_iret X dX8_image_21
    · refine k_ldc X w_359 dX8_image_9 ?_
      exact k_iret X dX8_image_11
theorem mt_Fc_image (l : Launch) (E : En) (x1 : Int32) (M : Mem) : MI l E yX8_image cX8_image 2 (some .int) 2 47 [.ref (ad E 0), .int x1] M (j_Fc_image x1 M) := MI_of (by decide) (Nat.le_of_ble_eq_true rfl) (fun Z _ X => k_lv [0, 1] rfl (kw_Fc_image X x1 M))
-- FilmCans.restore
theorem kw_Fc_restore {Z : ZT} {E : En} (X : Cx Z E 2 cX8_restore RX8 (some .int) 2 47) (x1 : Int32) (M : Mem) : Kj Z E 2 (QI Z E) (j_Fc_restore x1 M) M 0 [(0, .ref (ad E 0)), (1, .int x1)] [] := by
  unfold j_Fc_restore
  refine k_iload_n X 1 dX8_restore_0 rfl rfl ?_
  refine k_if_lt X 9 dX8_restore_1 (by decide) ?_ ?_
  · refine k_ldc X w_359 dX8_restore_9 ?_
    exact k_iret X dX8_restore_11
  · refine k_iload_n X 1 dX8_restore_4 rfl rfl ?_
    refine k_iconst X (v := 2) dX8_restore_5 (by decide) ?_
    refine k_icmp_lt X 12 dX8_restore_6 (by decide) ?_ ?_
    · refine k_aload_n X 0 dX8_restore_12 rfl rfl ?_
      refine k_getR X c_0 fRX8_33 r_0_4 dX8_restore_13 ?_
      refine k_iload_n X 1 dX8_restore_16 rfl rfl ?_
      refine k_aaldY X (f := fun j => 270 + 12 * j) c_269 l_269 img_rf dX8_restore_17 (fun hb1 => ?_)
      refine k_callVI X [] [] (day_C (img_day hb1)) rfl (by decide) rfl (mt_Day_isEmpty (zl Z) E (270 + 12 * ix x1) (img_day hb1) M) mRX8_358 ⟨by decide, by decide⟩ rfl rfl (Nat.le_of_ble_eq_true rfl) dX8_restore_18 (fun r2 M3 => ?_)
      refine k_if_eq X 27 dX8_restore_21 (by decide) ?_ ?_
      · refine k_aload_n X 0 dX8_restore_27 rfl rfl ?_
        refine k_getR X c_0 fRX8_19 r_0_1 dX8_restore_28 ?_
        refine k_aload_n X 0 dX8_restore_31 rfl rfl ?_
        refine k_getR X c_0 fRX8_33 r_0_4 dX8_restore_32 ?_
        refine k_iload_n X 1 dX8_restore_35 rfl rfl ?_
        refine k_aaldY X (f := fun j => 270 + 12 * j) c_269 l_269 img_rf dX8_restore_36 (fun hb4 => ?_)
        refine k_callVV X [.ref (ad E (270 + 12 * ix x1))] [] c_3 rfl (by decide) rfl (mt_Day_copyFrom (zl Z) E 3 (270 + 12 * ix x1) day_3 (img_day hb4) M3) mRX8_83 ⟨by decide, by decide⟩ rfl rfl (Nat.le_of_ble_eq_true rfl) dX8_restore_37 (fun _ M6 => ?_)
        refine k_aload_n X 0 dX8_restore_40 rfl rfl ?_
        refine k_getR X c_0 fRX8_29 r_0_3 dX8_restore_41 ?_
        refine k_callVV X [] [] c_27 rfl (by decide) rfl (mt_Hist_forget (zl Z) E  M6) mRX8_87 ⟨by decide, by decide⟩ rfl rfl (Nat.le_of_ble_eq_true rfl) dX8_restore_44 (fun _ M8 => ?_)
        refine k_iconst X (v := 1) dX8_restore_47 (by decide) ?_
        exact k_iret X dX8_restore_48
      · refine k_ldc X w_463 dX8_restore_24 ?_
        exact k_iret X dX8_restore_26
    · refine k_ldc X w_359 dX8_restore_9 ?_
      exact k_iret X dX8_restore_11
theorem mt_Fc_restore (l : Launch) (E : En) (x1 : Int32) (M : Mem) : MI l E yX8_restore cX8_restore 2 (some .int) 2 47 [.ref (ad E 0), .int x1] M (j_Fc_restore x1 M) := MI_of (by decide) (Nat.le_of_ble_eq_true rfl) (fun Z _ X => k_lv [0, 1] rfl (kw_Fc_restore X x1 M))
-- FilmCans.count
theorem kw_Fc_count {Z : ZT} {E : En} (X : Cx Z E 2 cX8_count RX8 (some .int) 2 43) (x1 : Int32) (M : Mem) : Kj Z E 2 (QI Z E) (j_Fc_count x1 M) M 0 [(0, .ref (ad E 0)), (1, .int x1)] [] := by
  unfold j_Fc_count
  refine k_iload_n X 1 dX8_count_0 rfl rfl ?_
  refine k_if (fun hs0 => ?_) (fun hs0 => ?_)
  · refine k_lt_in X 0 (off := 43) 44 dX8_count_1 hs0 (by decide) (by decide) (by decide) (by decide) ?_
    refine k_aload_n X 0 dX8_count_44 rfl rfl ?_
    refine k_getR X c_0 fRX8_19 r_0_1 dX8_count_45 ?_
    refine k_getI X c_3 fRX8_90 dX8_count_48 ?_
    exact k_iret X dX8_count_51
  · refine k_if (fun hs1 => ?_) (fun hs1 => ?_)
    · refine k_lt_in X 1 (off := 51) 52 dX8_count_1 hs1 (by decide) (by decide) (by decide) (by decide) ?_
      refine k_aload_n X 0 dX8_count_52 rfl rfl ?_
      refine k_getR X c_0 fRX8_19 r_0_1 dX8_count_53 ?_
      refine k_getI X c_3 fRX8_195 dX8_count_56 ?_
      exact k_iret X dX8_count_59
    · refine k_if (fun hs2 => ?_) (fun hs2 => ?_)
      · refine k_lt_in X 2 (off := 59) 60 dX8_count_1 hs2 (by decide) (by decide) (by decide) (by decide) ?_
        refine k_aload_n X 0 dX8_count_60 rfl rfl ?_
        refine k_getR X c_0 fRX8_19 r_0_1 dX8_count_61 ?_
        refine k_callVI X [] [] c_3 rfl (by decide) rfl (mt_Day_openTakes (zl Z) E 3 day_3 M) mRX8_259 ⟨by decide, by decide⟩ rfl rfl (Nat.le_of_ble_eq_true rfl) dX8_count_64 (fun r1 M2 => ?_)
        refine k_callSI X [.int r1] [] (mt_Integer_bitCount (zl Z) E r1 M2) mRX8_331 ⟨by decide, by decide⟩ rfl rfl (Nat.le_of_ble_eq_true rfl) dX8_count_67 (fun r3 M4 => ?_)
        exact k_iret X dX8_count_70
      · refine k_if (fun hs3 => ?_) (fun hs3 => ?_)
        · refine k_lt_in X 3 (off := 70) 71 dX8_count_1 hs3 (by decide) (by decide) (by decide) (by decide) ?_
          refine k_aload_n X 0 dX8_count_71 rfl rfl ?_
          refine k_getR X c_0 fRX8_19 r_0_1 dX8_count_72 ?_
          refine k_callVI X [] [] c_3 rfl (by decide) rfl (mt_Day_rooms (zl Z) E 3 day_3 M) mRX8_361 ⟨by decide, by decide⟩ rfl rfl (Nat.le_of_ble_eq_true rfl) dX8_count_75 (fun r5 M6 => ?_)
          refine k_callSI X [.int r5] [] (mt_Integer_bitCount (zl Z) E r5 M6) mRX8_331 ⟨by decide, by decide⟩ rfl rfl (Nat.le_of_ble_eq_true rfl) dX8_count_78 (fun r7 M8 => ?_)
          exact k_iret X dX8_count_81
        · refine k_if (fun hs4 => ?_) (fun hs4 => ?_)
          · refine k_lt_in X 4 (off := 81) 82 dX8_count_1 hs4 (by decide) (by decide) (by decide) (by decide) ?_
            refine k_aload_n X 0 dX8_count_82 rfl rfl ?_
            refine k_getR X c_0 fRX8_19 r_0_1 dX8_count_83 ?_
            refine k_getI X c_3 fRX8_156 dX8_count_86 ?_
            exact k_iret X dX8_count_89
          · refine k_if (fun hs5 => ?_) (fun hs5 => ?_)
            · refine k_lt_in X 5 (off := 89) 90 dX8_count_1 hs5 (by decide) (by decide) (by decide) (by decide) ?_
              refine k_aload_n X 0 dX8_count_90 rfl rfl ?_
              refine k_getR X c_0 fRX8_29 r_0_3 dX8_count_91 ?_
              refine k_getI X c_27 fRX8_99 dX8_count_94 ?_
              exact k_iret X dX8_count_97
            · refine k_if (fun hs6 => ?_) (fun hs6 => ?_)
              · refine k_lt_in X 6 (off := 97) 98 dX8_count_1 hs6 (by decide) (by decide) (by decide) (by decide) ?_
                refine k_aload_n X 0 dX8_count_98 rfl rfl ?_
                refine k_getR X c_0 fRX8_10 r_0_0 dX8_count_99 ?_
                refine k_getI X c_1 fRX8_70 dX8_count_102 ?_
                exact k_iret X dX8_count_105
              · refine k_lt_out X 106 dX8_count_1 (tsw_out 0 7 (by decide) (by decide) (by decide) (lt_s (lt_s (lt_s (lt_s (lt_s (lt_s (lt_s lt_0 hs0) hs1) hs2) hs3) hs4) hs5) hs6)) (by decide) ?_
                refine k_ldc X w_359 dX8_count_106 ?_
                exact k_iret X dX8_count_108
theorem mt_Fc_count (l : Launch) (E : En) (x1 : Int32) (M : Mem) : MI l E yX8_count cX8_count 2 (some .int) 2 43 [.ref (ad E 0), .int x1] M (j_Fc_count x1 M) := MI_of (by decide) (Nat.le_of_ble_eq_true rfl) (fun Z _ X => k_lv [0, 1] rfl (kw_Fc_count X x1 M))
-- FilmCansModel.in
theorem kw_Md_in {Z : ZT} {E : En} (X : Cx Z E 6 cX9_in RX9 (some .boolean) 0 0) (y0 : Int64) (y2 : Int64) (y4 : Int64) (M : Mem) : Kj Z E 6 (QI Z E) (j_Md_in y0 y2 y4 M) M 0 [(0, .long y0), (2, .long y2), (4, .long y4)] [] := by
  unfold j_Md_in
  refine k_lload_n X 0 dX9_in_0 rfl rfl ?_
  refine k_lload_n X 1 dX9_in_1 rfl rfl ?_
  refine k_llt X 17 dX9_in_2 dX9_in_3 (by decide) ?_ ?_
  · refine k_iconst X (v := 0) dX9_in_17 (by decide) ?_
    exact k_zret X (by decide) dX9_in_18
  · refine k_lload_n X 0 dX9_in_6 rfl rfl ?_
    refine k_lload X 2 dX9_in_7 rfl ?_
    refine k_lgt X 17 dX9_in_9 dX9_in_10 (by decide) ?_ ?_
    · refine k_iconst X (v := 0) dX9_in_17 (by decide) ?_
      exact k_zret X (by decide) dX9_in_18
    · refine k_iconst X (v := 1) dX9_in_13 (by decide) ?_
      refine k_goto X 18 dX9_in_14 (by decide) ?_
      exact k_zret X (by decide) dX9_in_18
theorem mt_Md_in (l : Launch) (E : En) (y0 : Int64) (y2 : Int64) (y4 : Int64) (M : Mem) : MI l E yX9_in cX9_in 6 (some .boolean) 0 0 [.long y0, .long y2, .long y4] M (j_Md_in y0 y2 y4 M) := MI_of (by decide) (Nat.le_of_ble_eq_true rfl) (fun Z _ X => k_lv [0, 1, 2] rfl (kw_Md_in X y0 y2 y4 M))
-- FilmCansModel.has
theorem kw_Md_has {Z : ZT} {E : En} (X : Cx Z E 2 cX9_has RX9 (some .boolean) 0 0) (x0 : Int32) (x1 : Int32) (M : Mem) : Kj Z E 2 (QI Z E) (j_Md_has x0 x1 M) M 0 [(0, .int x0), (1, .int x1)] [] := by
  unfold j_Md_has
  refine k_iload_n X 0 dX9_has_0 rfl rfl ?_
  refine k_iload_n X 1 dX9_has_1 rfl rfl ?_
  refine k_ishr X dX9_has_2 ?_
  refine k_iconst X (v := 1) dX9_has_3 (by decide) ?_
  refine k_iand X dX9_has_4 ?_
  refine k_iconst X (v := 1) dX9_has_5 (by decide) ?_
  refine k_icmp_ne X 13 dX9_has_6 (by decide) ?_ ?_
  · refine k_iconst X (v := 0) dX9_has_13 (by decide) ?_
    exact k_zret X (by decide) dX9_has_14
  · refine k_iconst X (v := 1) dX9_has_9 (by decide) ?_
    refine k_goto X 14 dX9_has_10 (by decide) ?_
    exact k_zret X (by decide) dX9_has_14
theorem mt_Md_has (l : Launch) (E : En) (x0 : Int32) (x1 : Int32) (M : Mem) : MI l E yX9_has cX9_has 2 (some .boolean) 0 0 [.int x0, .int x1] M (j_Md_has x0 x1 M) := MI_of (by decide) (Nat.le_of_ble_eq_true rfl) (fun Z _ X => k_lv [0, 1] rfl (kw_Md_has X x0 x1 M))
-- FilmCansModel.copies
theorem kb_Md_copies_h3 {Z : ZT} {E : En} (X : Cx Z E 5 cX9_copies RX9 none 0 0)  : ∀ (n : Nat) (a0 : Nat) (x1 : Int32) (a2 : Nat) (x3 : Int32) (x4 : Int32) (ha0 : isC a0 9) (ha2 : isC a2 9) (M : Mem), Kj Z E 5 (QV Z E) (Md_copies_h3  n a0 x1 a2 x3 x4 M) M 3 [(0, .ref (ad E a0)), (1, .int x1), (2, .ref (ad E a2)), (3, .int x3), (4, .int x4)] [] := by
  intro n
  induction n with
  | zero => intro a0 x1 a2 x3 x4 ha0 ha2 M; exact k_none
  | succ n ih =>
    intro a0 x1 a2 x3 x4 ha0 ha2 M
    rw [Md_copies_h3]
    refine k_iload X 4 dX9_copies_3 rfl ?_
    refine k_bipush X (v := 89) dX9_copies_5 (by decide) ?_
    refine k_icmp_ge X 28 dX9_copies_7 (by decide) ?_ ?_
    · exact k_vret X dX9_copies_28
    · refine k_aload_n X 2 dX9_copies_10 rfl rfl ?_
      refine k_iload_n X 3 dX9_copies_11 rfl rfl ?_
      refine k_iload X 4 dX9_copies_12 rfl ?_
      refine k_iadd X dX9_copies_14 ?_
      refine k_aload_n X 0 dX9_copies_15 rfl rfl ?_
      refine k_iload_n X 1 dX9_copies_16 rfl rfl ?_
      refine k_iload X 4 dX9_copies_17 rfl ?_
      refine k_iadd X dX9_copies_19 ?_
      refine k_iald X ha0 rfl dX9_copies_20 (fun hb2 => ?_)
      refine k_iast X ha2 rfl dX9_copies_21 (fun hb3 => ?_)
      refine k_sq (fun M4 => ?_)
      refine x_iinc X 1 4 [(0, .ref (ad E a0)), (1, .int x1), (2, .ref (ad E a2)), (3, .int x3)] dX9_copies_22 rfl (by decide) (by decide) rfl (fun x5_ => ?_)
      refine k_goto X 3 dX9_copies_25 (by decide) ?_
      refine k_lv [1, 2, 3, 4, 0] rfl ?_
      exact ih a0 x1 a2 x3 x5_ ha0 ha2 M4
theorem kw_Md_copies {Z : ZT} {E : En} (X : Cx Z E 5 cX9_copies RX9 none 0 0) (a0 : Nat) (x1 : Int32) (a2 : Nat) (x3 : Int32) (ha0 : isC a0 9) (ha2 : isC a2 9) (M : Mem) : Kj Z E 5 (QV Z E) (j_Md_copies a0 x1 a2 x3 M) M 0 [(0, .ref (ad E a0)), (1, .int x1), (2, .ref (ad E a2)), (3, .int x3)] [] := by
  unfold j_Md_copies
  refine k_iconst X (v := 0) dX9_copies_0 (by decide) ?_
  refine x_istore X [(0, .ref (ad E a0)), (1, .int x1), (2, .ref (ad E a2)), (3, .int x3)] dX9_copies_1 (by decide) rfl (fun x1_ => ?_)
  refine k_lv [1, 2, 3, 4, 0] rfl ?_
  exact kb_Md_copies_h3 X  FU a0 x1 a2 x3 x1_ ha0 ha2 M
theorem mt_Md_copies (l : Launch) (E : En) (a0 : Nat) (x1 : Int32) (a2 : Nat) (x3 : Int32) (ha0 : isC a0 9) (ha2 : isC a2 9) (M : Mem) : MV l E yX9_copies cX9_copies 5 none 0 0 [.ref (ad E a0), .int x1, .ref (ad E a2), .int x3] M (j_Md_copies a0 x1 a2 x3 M) := MV_of (by decide) (Nat.le_of_ble_eq_true rfl) (fun Z _ X => k_lv [0, 1, 2, 3] rfl (kw_Md_copies X a0 x1 a2 x3 ha0 ha2 M))
-- FilmCansModel.isBook
theorem kw_Md_isBook {Z : ZT} {E : En} (X : Cx Z E 1 cX9_isBook RX9 (some .boolean) 0 0) (M : Mem) : Kj Z E 1 (QI Z E) (j_Md_isBook M) M 0 [(0, .ref (ad E 326))] [] := by
  unfold j_Md_isBook
  refine k_aload_n X 0 dX9_isBook_0 rfl rfl ?_
  refine k_getR X c_326 fRX9_7 r_326_0 dX9_isBook_1 ?_
  refine k_iconst X (v := 4) dX9_isBook_4 (by decide) ?_
  refine k_ialdC X 4 c_327 l_327 (by decide) (by decide) dX9_isBook_5 ?_
  refine k_if_le X 13 dX9_isBook_6 (by decide) ?_ ?_
  · refine k_iconst X (v := 0) dX9_isBook_13 (by decide) ?_
    exact k_zret X (by decide) dX9_isBook_14
  · refine k_iconst X (v := 1) dX9_isBook_9 (by decide) ?_
    refine k_goto X 14 dX9_isBook_10 (by decide) ?_
    exact k_zret X (by decide) dX9_isBook_14
theorem mt_Md_isBook (l : Launch) (E : En) (M : Mem) : MI l E yX9_isBook cX9_isBook 1 (some .boolean) 0 0 [.ref (ad E 326)] M (j_Md_isBook M) := MI_of (by decide) (Nat.le_of_ble_eq_true rfl) (fun Z _ X => k_lv [0] rfl (kw_Md_isBook X M))
-- FilmCansModel.isCan
theorem kw_Md_isCan {Z : ZT} {E : En} (X : Cx Z E 2 cX9_isCan RX9 (some .boolean) 1 25) (x1 : Int32) (M : Mem) : Kj Z E 2 (QI Z E) (j_Md_isCan x1 M) M 0 [(0, .ref (ad E 326)), (1, .int x1)] [] := by
  unfold j_Md_isCan
  refine k_iload_n X 1 dX9_isCan_0 rfl rfl ?_
  refine k_i2l X dX9_isCan_1 ?_
  refine k_lconst X (v := 0) dX9_isCan_2 (by decide) ?_
  refine k_aload_n X 0 dX9_isCan_3 rfl rfl ?_
  refine k_getR X c_326 fRX9_7 r_326_0 dX9_isCan_4 ?_
  refine k_iconst X (v := 4) dX9_isCan_7 (by decide) ?_
  refine k_ialdC X 4 c_327 l_327 (by decide) (by decide) dX9_isCan_8 ?_
  refine k_iconst X (v := 1) dX9_isCan_9 (by decide) ?_
  refine k_isub X dX9_isCan_10 ?_
  refine k_i2l X dX9_isCan_11 ?_
  refine k_callSI X [.long (Int32.toInt64 x1), .long 0, .long (Int32.toInt64 ((gi M 327 4) - 1))] [] (mt_Md_in (zl Z) E (Int32.toInt64 x1) 0 (Int32.toInt64 ((gi M 327 4) - 1)) M) mRX9_47 ⟨by decide, by decide⟩ rfl rfl (Nat.le_of_ble_eq_true rfl) dX9_isCan_12 (fun r2 M3 => ?_)
  exact k_zretG X dX9_isCan_15
theorem mt_Md_isCan (l : Launch) (E : En) (x1 : Int32) (M : Mem) : MI l E yX9_isCan cX9_isCan 2 (some .boolean) 1 25 [.ref (ad E 326), .int x1] M (j_Md_isCan x1 M) := MI_of (by decide) (Nat.le_of_ble_eq_true rfl) (fun Z _ X => k_lv [0, 1] rfl (kw_Md_isCan X x1 M))
-- FilmCansModel.isTake
theorem kw_Md_isTake {Z : ZT} {E : En} (X : Cx Z E 2 cX9_isTake RX9 (some .boolean) 1 25) (x1 : Int32) (M : Mem) : Kj Z E 2 (QI Z E) (j_Md_isTake x1 M) M 0 [(0, .ref (ad E 326)), (1, .int x1)] [] := by
  unfold j_Md_isTake
  refine k_iload_n X 1 dX9_isTake_0 rfl rfl ?_
  refine k_i2l X dX9_isTake_1 ?_
  refine k_lconst X (v := 0) dX9_isTake_2 (by decide) ?_
  refine k_aload_n X 0 dX9_isTake_3 rfl rfl ?_
  refine k_getR X c_326 fRX9_7 r_326_0 dX9_isTake_4 ?_
  refine k_iconst X (v := 5) dX9_isTake_7 (by decide) ?_
  refine k_ialdC X 5 c_327 l_327 (by decide) (by decide) dX9_isTake_8 ?_
  refine k_iconst X (v := 1) dX9_isTake_9 (by decide) ?_
  refine k_isub X dX9_isTake_10 ?_
  refine k_i2l X dX9_isTake_11 ?_
  refine k_callSI X [.long (Int32.toInt64 x1), .long 0, .long (Int32.toInt64 ((gi M 327 5) - 1))] [] (mt_Md_in (zl Z) E (Int32.toInt64 x1) 0 (Int32.toInt64 ((gi M 327 5) - 1)) M) mRX9_47 ⟨by decide, by decide⟩ rfl rfl (Nat.le_of_ble_eq_true rfl) dX9_isTake_12 (fun r2 M3 => ?_)
  exact k_zretG X dX9_isTake_15
theorem mt_Md_isTake (l : Launch) (E : En) (x1 : Int32) (M : Mem) : MI l E yX9_isTake cX9_isTake 2 (some .boolean) 1 25 [.ref (ad E 326), .int x1] M (j_Md_isTake x1 M) := MI_of (by decide) (Nat.le_of_ble_eq_true rfl) (fun Z _ X => k_lv [0, 1] rfl (kw_Md_isTake X x1 M))
-- FilmCansModel.kind
theorem kw_Md_kind {Z : ZT} {E : En} (X : Cx Z E 2 cX9_kind RX9 (some .int) 0 0) (a0 : Nat) (x1 : Int32) (ha0 : isC a0 9) (ka0 : ln a0 = 89) (M : Mem) : Kj Z E 2 (QI Z E) (j_Md_kind a0 x1 M) M 0 [(0, .ref (ad E a0)), (1, .int x1)] [] := by
  unfold j_Md_kind
  refine k_aload_n X 0 dX9_kind_0 rfl rfl ?_
  refine k_bipush X (v := 13) dX9_kind_1 (by decide) ?_
  refine k_iconst X (v := 4) dX9_kind_3 (by decide) ?_
  refine k_iload_n X 1 dX9_kind_4 rfl rfl ?_
  refine k_imul X dX9_kind_5 ?_
  refine k_iadd X dX9_kind_6 ?_
  refine k_iald X ha0 ka0 dX9_kind_7 (fun hb1 => ?_)
  exact k_iret X dX9_kind_8
theorem mt_Md_kind (l : Launch) (E : En) (a0 : Nat) (x1 : Int32) (ha0 : isC a0 9) (ka0 : ln a0 = 89) (M : Mem) : MI l E yX9_kind cX9_kind 2 (some .int) 0 0 [.ref (ad E a0), .int x1] M (j_Md_kind a0 x1 M) := MI_of (by decide) (Nat.le_of_ble_eq_true rfl) (fun Z _ X => k_lv [0, 1] rfl (kw_Md_kind X a0 x1 ha0 ka0 M))
-- FilmCansModel.feet
theorem kw_Md_feet {Z : ZT} {E : En} (X : Cx Z E 2 cX9_feet RX9 (some .int) 0 0) (a0 : Nat) (x1 : Int32) (ha0 : isC a0 9) (ka0 : ln a0 = 89) (M : Mem) : Kj Z E 2 (QI Z E) (j_Md_feet a0 x1 M) M 0 [(0, .ref (ad E a0)), (1, .int x1)] [] := by
  unfold j_Md_feet
  refine k_aload_n X 0 dX9_feet_0 rfl rfl ?_
  refine k_bipush X (v := 13) dX9_feet_1 (by decide) ?_
  refine k_iconst X (v := 4) dX9_feet_3 (by decide) ?_
  refine k_iload_n X 1 dX9_feet_4 rfl rfl ?_
  refine k_imul X dX9_feet_5 ?_
  refine k_iadd X dX9_feet_6 ?_
  refine k_iconst X (v := 1) dX9_feet_7 (by decide) ?_
  refine k_iadd X dX9_feet_8 ?_
  refine k_iald X ha0 ka0 dX9_feet_9 (fun hb1 => ?_)
  exact k_iret X dX9_feet_10
theorem mt_Md_feet (l : Launch) (E : En) (a0 : Nat) (x1 : Int32) (ha0 : isC a0 9) (ka0 : ln a0 = 89) (M : Mem) : MI l E yX9_feet cX9_feet 2 (some .int) 0 0 [.ref (ad E a0), .int x1] M (j_Md_feet a0 x1 M) := MI_of (by decide) (Nat.le_of_ble_eq_true rfl) (fun Z _ X => k_lv [0, 1] rfl (kw_Md_feet X a0 x1 ha0 ka0 M))
-- FilmCansModel.where
theorem kw_Md_where {Z : ZT} {E : En} (X : Cx Z E 2 cX9_where RX9 (some .int) 0 0) (a0 : Nat) (x1 : Int32) (ha0 : isC a0 9) (ka0 : ln a0 = 89) (M : Mem) : Kj Z E 2 (QI Z E) (j_Md_where a0 x1 M) M 0 [(0, .ref (ad E a0)), (1, .int x1)] [] := by
  unfold j_Md_where
  refine k_aload_n X 0 dX9_where_0 rfl rfl ?_
  refine k_bipush X (v := 13) dX9_where_1 (by decide) ?_
  refine k_iconst X (v := 4) dX9_where_3 (by decide) ?_
  refine k_iload_n X 1 dX9_where_4 rfl rfl ?_
  refine k_imul X dX9_where_5 ?_
  refine k_iadd X dX9_where_6 ?_
  refine k_iconst X (v := 2) dX9_where_7 (by decide) ?_
  refine k_iadd X dX9_where_8 ?_
  refine k_iald X ha0 ka0 dX9_where_9 (fun hb1 => ?_)
  exact k_iret X dX9_where_10
theorem mt_Md_where (l : Launch) (E : En) (a0 : Nat) (x1 : Int32) (ha0 : isC a0 9) (ka0 : ln a0 = 89) (M : Mem) : MI l E yX9_where cX9_where 2 (some .int) 0 0 [.ref (ad E a0), .int x1] M (j_Md_where a0 x1 M) := MI_of (by decide) (Nat.le_of_ble_eq_true rfl) (fun Z _ X => k_lv [0, 1] rfl (kw_Md_where X a0 x1 ha0 ka0 M))
-- FilmCansModel.isOpen
theorem kw_Md_isOpen {Z : ZT} {E : En} (X : Cx Z E 2 cX9_isOpen RX9 (some .boolean) 0 0) (a0 : Nat) (x1 : Int32) (ha0 : isC a0 9) (ka0 : ln a0 = 89) (M : Mem) : Kj Z E 2 (QI Z E) (j_Md_isOpen a0 x1 M) M 0 [(0, .ref (ad E a0)), (1, .int x1)] [] := by
  unfold j_Md_isOpen
  refine k_aload_n X 0 dX9_isOpen_0 rfl rfl ?_
  refine k_bipush X (v := 41) dX9_isOpen_1 (by decide) ?_
  refine k_iconst X (v := 3) dX9_isOpen_3 (by decide) ?_
  refine k_iload_n X 1 dX9_isOpen_4 rfl rfl ?_
  refine k_imul X dX9_isOpen_5 ?_
  refine k_iadd X dX9_isOpen_6 ?_
  refine k_iconst X (v := 2) dX9_isOpen_7 (by decide) ?_
  refine k_iadd X dX9_isOpen_8 ?_
  refine k_iald X ha0 ka0 dX9_isOpen_9 (fun hb1 => ?_)
  refine k_if_ge X 17 dX9_isOpen_10 (by decide) ?_ ?_
  · refine k_iconst X (v := 0) dX9_isOpen_17 (by decide) ?_
    exact k_zret X (by decide) dX9_isOpen_18
  · refine k_iconst X (v := 1) dX9_isOpen_13 (by decide) ?_
    refine k_goto X 18 dX9_isOpen_14 (by decide) ?_
    exact k_zret X (by decide) dX9_isOpen_18
theorem mt_Md_isOpen (l : Launch) (E : En) (a0 : Nat) (x1 : Int32) (ha0 : isC a0 9) (ka0 : ln a0 = 89) (M : Mem) : MI l E yX9_isOpen cX9_isOpen 2 (some .boolean) 0 0 [.ref (ad E a0), .int x1] M (j_Md_isOpen a0 x1 M) := MI_of (by decide) (Nat.le_of_ble_eq_true rfl) (fun Z _ X => k_lv [0, 1] rfl (kw_Md_isOpen X a0 x1 ha0 ka0 M))
-- FilmCansModel.isOf
theorem kb_Md_isOf_b34 {Z : ZT} {E : En} (X : Cx Z E 2 cX9_isOf RX9 (some .boolean) 0 0) (M : Mem) : Kj Z E 2 (QI Z E) (Md_isOf_b34 M) M 34 [] [] := by
  unfold Md_isOf_b34
  refine k_iconst X (v := 1) dX9_isOf_34 (by decide) ?_
  refine k_goto X 39 dX9_isOf_35 (by decide) ?_
  exact k_zret X (by decide) dX9_isOf_39
theorem kb_Md_isOf_b24 {Z : ZT} {E : En} (X : Cx Z E 2 cX9_isOf RX9 (some .boolean) 0 0) (x0 : Int32) (x1 : Int32) (M : Mem) : Kj Z E 2 (QI Z E) (Md_isOf_b24 x0 x1 M) M 24 [(0, .int x0), (1, .int x1)] [] := by
  unfold Md_isOf_b24
  refine k_iload_n X 1 dX9_isOf_24 rfl rfl ?_
  refine k_iconst X (v := 4) dX9_isOf_25 (by decide) ?_
  refine k_icmp_ne X 38 dX9_isOf_26 (by decide) ?_ ?_
  · refine k_iconst X (v := 0) dX9_isOf_38 (by decide) ?_
    exact k_zret X (by decide) dX9_isOf_39
  · refine k_iload_n X 0 dX9_isOf_29 rfl rfl ?_
    refine k_iconst X (v := 5) dX9_isOf_30 (by decide) ?_
    refine k_icmp_ne X 38 dX9_isOf_31 (by decide) ?_ ?_
    · refine k_iconst X (v := 0) dX9_isOf_38 (by decide) ?_
      exact k_zret X (by decide) dX9_isOf_39
    · refine k_lv [] rfl ?_
      exact kb_Md_isOf_b34 X  M
theorem kw_Md_isOf {Z : ZT} {E : En} (X : Cx Z E 2 cX9_isOf RX9 (some .boolean) 0 0) (x0 : Int32) (x1 : Int32) (M : Mem) : Kj Z E 2 (QI Z E) (j_Md_isOf x0 x1 M) M 0 [(0, .int x0), (1, .int x1)] [] := by
  unfold j_Md_isOf
  refine k_iload_n X 1 dX9_isOf_0 rfl rfl ?_
  refine k_if_eq X 34 dX9_isOf_1 (by decide) ?_ ?_
  · refine k_lv [] rfl ?_
    exact kb_Md_isOf_b34 X  M
  · refine k_iload_n X 0 dX9_isOf_4 rfl rfl ?_
    refine k_iload_n X 1 dX9_isOf_5 rfl rfl ?_
    refine k_icmp_eq X 34 dX9_isOf_6 (by decide) ?_ ?_
    · refine k_lv [] rfl ?_
      exact kb_Md_isOf_b34 X  M
    · refine k_iload_n X 1 dX9_isOf_9 rfl rfl ?_
      refine k_iconst X (v := 1) dX9_isOf_10 (by decide) ?_
      refine k_icmp_ne X 24 dX9_isOf_11 (by decide) ?_ ?_
      · refine k_lv [0, 1] rfl ?_
        exact kb_Md_isOf_b24 X  x0 x1 M
      · refine k_iload_n X 0 dX9_isOf_14 rfl rfl ?_
        refine k_iconst X (v := 2) dX9_isOf_15 (by decide) ?_
        refine k_icmp_eq X 34 dX9_isOf_16 (by decide) ?_ ?_
        · refine k_lv [] rfl ?_
          exact kb_Md_isOf_b34 X  M
        · refine k_iload_n X 0 dX9_isOf_19 rfl rfl ?_
          refine k_iconst X (v := 3) dX9_isOf_20 (by decide) ?_
          refine k_icmp_eq X 34 dX9_isOf_21 (by decide) ?_ ?_
          · refine k_lv [] rfl ?_
            exact kb_Md_isOf_b34 X  M
          · refine k_lv [0, 1] rfl ?_
            exact kb_Md_isOf_b24 X  x0 x1 M
theorem mt_Md_isOf (l : Launch) (E : En) (x0 : Int32) (x1 : Int32) (M : Mem) : MI l E yX9_isOf cX9_isOf 2 (some .boolean) 0 0 [.int x0, .int x1] M (j_Md_isOf x0 x1 M) := MI_of (by decide) (Nat.le_of_ble_eq_true rfl) (fun Z _ X => k_lv [0, 1] rfl (kw_Md_isOf X x0 x1 M))
-- FilmCansModel.serves
theorem kw_Md_serves {Z : ZT} {E : En} (X : Cx Z E 3 cX9_serves RX9 (some .boolean) 1 21) (a0 : Nat) (x1 : Int32) (x2 : Int32) (ha0 : isC a0 9) (ka0 : ln a0 = 89) (M : Mem) : Kj Z E 3 (QI Z E) (j_Md_serves a0 x1 x2 M) M 0 [(0, .ref (ad E a0)), (1, .int x1), (2, .int x2)] [] := by
  unfold j_Md_serves
  refine k_aload_n X 0 dX9_serves_0 rfl rfl ?_
  refine k_iload_n X 1 dX9_serves_1 rfl rfl ?_
  refine k_callSI X [.ref (ad E a0), .int x1] [] (mt_Md_kind (zl Z) E a0 x1 ha0 ka0 M) mRX9_51 ⟨by decide, by decide⟩ rfl rfl (Nat.le_of_ble_eq_true rfl) dX9_serves_2 (fun r1 M2 => ?_)
  refine k_aload_n X 0 dX9_serves_5 rfl rfl ?_
  refine k_bipush X (v := 41) dX9_serves_6 (by decide) ?_
  refine k_iconst X (v := 3) dX9_serves_8 (by decide) ?_
  refine k_iload_n X 2 dX9_serves_9 rfl rfl ?_
  refine k_imul X dX9_serves_10 ?_
  refine k_iadd X dX9_serves_11 ?_
  refine k_iald X ha0 ka0 dX9_serves_12 (fun hb3 => ?_)
  refine k_callSI X [.int r1, .int (gi M2 a0 (ix ((41 : Int32) + ((3 : Int32) * x2))))] [] (mt_Md_isOf (zl Z) E r1 (gi M2 a0 (ix ((41 : Int32) + ((3 : Int32) * x2)))) M2) mRX9_55 ⟨by decide, by decide⟩ rfl rfl (Nat.le_of_ble_eq_true rfl) dX9_serves_13 (fun r4 M5 => ?_)
  exact k_zretG X dX9_serves_16
theorem mt_Md_serves (l : Launch) (E : En) (a0 : Nat) (x1 : Int32) (x2 : Int32) (ha0 : isC a0 9) (ka0 : ln a0 = 89) (M : Mem) : MI l E yX9_serves cX9_serves 3 (some .boolean) 1 21 [.ref (ad E a0), .int x1, .int x2] M (j_Md_serves a0 x1 x2 M) := MI_of (by decide) (Nat.le_of_ble_eq_true rfl) (fun Z _ X => k_lv [0, 1, 2] rfl (kw_Md_serves X a0 x1 x2 ha0 ka0 M))
-- FilmCansModel.lead
theorem kw_Md_lead {Z : ZT} {E : En} (X : Cx Z E 2 cX9_lead RX9 (some .int) 1 21) (a0 : Nat) (x1 : Int32) (ha0 : isC a0 9) (ka0 : ln a0 = 89) (M : Mem) : Kj Z E 2 (QI Z E) (j_Md_lead a0 x1 M) M 0 [(0, .ref (ad E a0)), (1, .int x1)] [] := by
  unfold j_Md_lead
  refine k_aload_n X 0 dX9_lead_0 rfl rfl ?_
  refine k_iload_n X 1 dX9_lead_1 rfl rfl ?_
  refine k_callSI X [.ref (ad E a0), .int x1] [] (mt_Md_kind (zl Z) E a0 x1 ha0 ka0 M) mRX9_51 ⟨by decide, by decide⟩ rfl rfl (Nat.le_of_ble_eq_true rfl) dX9_lead_2 (fun r1 M2 => ?_)
  refine k_iconst X (v := 4) dX9_lead_5 (by decide) ?_
  refine k_icmp_lt X 17 dX9_lead_6 (by decide) ?_ ?_
  · refine k_aload_n X 0 dX9_lead_17 rfl rfl ?_
    refine k_iconst X (v := 0) dX9_lead_18 (by decide) ?_
    refine k_ialdC X 0 ha0 ka0 (by decide) (by decide) dX9_lead_19 ?_
    exact k_iret X dX9_lead_20
  · refine k_iconst X (v := 2) dX9_lead_9 (by decide) ?_
    refine k_aload_n X 0 dX9_lead_10 rfl rfl ?_
    refine k_iconst X (v := 0) dX9_lead_11 (by decide) ?_
    refine k_ialdC X 0 ha0 ka0 (by decide) (by decide) dX9_lead_12 ?_
    refine k_imul X dX9_lead_13 ?_
    refine k_goto X 20 dX9_lead_14 (by decide) ?_
    exact k_iret X dX9_lead_20
theorem mt_Md_lead (l : Launch) (E : En) (a0 : Nat) (x1 : Int32) (ha0 : isC a0 9) (ka0 : ln a0 = 89) (M : Mem) : MI l E yX9_lead cX9_lead 2 (some .int) 1 21 [.ref (ad E a0), .int x1] M (j_Md_lead a0 x1 M) := MI_of (by decide) (Nat.le_of_ble_eq_true rfl) (fun Z _ X => k_lv [0, 1] rfl (kw_Md_lead X a0 x1 ha0 ka0 M))
-- FilmCansModel.slate
theorem kw_Md_slate {Z : ZT} {E : En} (X : Cx Z E 2 cX9_slate RX9 (some .int) 1 21) (a0 : Nat) (x1 : Int32) (ha0 : isC a0 9) (ka0 : ln a0 = 89) (M : Mem) : Kj Z E 2 (QI Z E) (j_Md_slate a0 x1 M) M 0 [(0, .ref (ad E a0)), (1, .int x1)] [] := by
  unfold j_Md_slate
  refine k_aload_n X 0 dX9_slate_0 rfl rfl ?_
  refine k_iload_n X 1 dX9_slate_1 rfl rfl ?_
  refine k_callSI X [.ref (ad E a0), .int x1] [] (mt_Md_kind (zl Z) E a0 x1 ha0 ka0 M) mRX9_51 ⟨by decide, by decide⟩ rfl rfl (Nat.le_of_ble_eq_true rfl) dX9_slate_2 (fun r1 M2 => ?_)
  refine k_iconst X (v := 3) dX9_slate_5 (by decide) ?_
  refine k_icmp_ne X 13 dX9_slate_6 (by decide) ?_ ?_
  · refine k_iconst X (v := 0) dX9_slate_13 (by decide) ?_
    exact k_iret X dX9_slate_14
  · refine k_iconst X (v := 1) dX9_slate_9 (by decide) ?_
    refine k_goto X 14 dX9_slate_10 (by decide) ?_
    exact k_iret X dX9_slate_14
theorem mt_Md_slate (l : Launch) (E : En) (a0 : Nat) (x1 : Int32) (ha0 : isC a0 9) (ka0 : ln a0 = 89) (M : Mem) : MI l E yX9_slate cX9_slate 2 (some .int) 1 21 [.ref (ad E a0), .int x1] M (j_Md_slate a0 x1 M) := MI_of (by decide) (Nat.le_of_ble_eq_true rfl) (fun Z _ X => k_lv [0, 1] rfl (kw_Md_slate X a0 x1 ha0 ka0 M))
-- FilmCansModel.leastEnd
theorem kb_Md_leastEnd_b32 {Z : ZT} {E : En} (X : Cx Z E 3 cX9_leastEnd RX9 (some .int) 1 21) (xs0 : Int32) (M : Mem) : Kj Z E 3 (QI Z E) (Md_leastEnd_b32 xs0 M) M 32 [] [.int xs0] := by
  unfold Md_leastEnd_b32
  refine k_istore_n X [(2, .int xs0)] dX9_leastEnd_32 rfl (by decide) rfl ?_
  refine k_iload_n X 0 dX9_leastEnd_33 rfl rfl ?_
  refine k_iconst X (v := 1) dX9_leastEnd_34 (by decide) ?_
  refine k_icmp_ge X 42 dX9_leastEnd_35 (by decide) ?_ ?_
  · refine k_iload_n X 0 dX9_leastEnd_42 rfl rfl ?_
    exact k_iret X dX9_leastEnd_43
  · refine k_iconst X (v := 1) dX9_leastEnd_38 (by decide) ?_
    refine k_goto X 43 dX9_leastEnd_39 (by decide) ?_
    exact k_iret X dX9_leastEnd_43
theorem kw_Md_leastEnd {Z : ZT} {E : En} (X : Cx Z E 3 cX9_leastEnd RX9 (some .int) 1 21) (a0 : Nat) (x1 : Int32) (ha0 : isC a0 9) (ka0 : ln a0 = 89) (M : Mem) : Kj Z E 3 (QI Z E) (j_Md_leastEnd a0 x1 M) M 0 [(0, .ref (ad E a0)), (1, .int x1)] [] := by
  unfold j_Md_leastEnd
  refine k_aload_n X 0 dX9_leastEnd_0 rfl rfl ?_
  refine k_iload_n X 1 dX9_leastEnd_1 rfl rfl ?_
  refine k_callSI X [.ref (ad E a0), .int x1] [] (mt_Md_kind (zl Z) E a0 x1 ha0 ka0 M) mRX9_51 ⟨by decide, by decide⟩ rfl rfl (Nat.le_of_ble_eq_true rfl) dX9_leastEnd_2 (fun r1 M2 => ?_)
  refine k_iconst X (v := 5) dX9_leastEnd_5 (by decide) ?_
  refine k_icmp_ne X 12 dX9_leastEnd_6 (by decide) ?_ ?_
  · refine k_aload_n X 0 dX9_leastEnd_12 rfl rfl ?_
    refine k_iload_n X 1 dX9_leastEnd_13 rfl rfl ?_
    refine k_callSI X [.ref (ad E a0), .int x1] [] (mt_Md_kind (zl Z) E a0 x1 ha0 ka0 M2) mRX9_51 ⟨by decide, by decide⟩ rfl rfl (Nat.le_of_ble_eq_true rfl) dX9_leastEnd_14 (fun r3 M4 => ?_)
    refine k_iconst X (v := 2) dX9_leastEnd_17 (by decide) ?_
    refine k_icmp_ne X 29 dX9_leastEnd_18 (by decide) ?_ ?_
    · refine k_aload_n X 0 dX9_leastEnd_29 rfl rfl ?_
      refine k_iconst X (v := 1) dX9_leastEnd_30 (by decide) ?_
      refine k_ialdC X 1 ha0 ka0 (by decide) (by decide) dX9_leastEnd_31 ?_
      refine k_lv [] rfl ?_
      exact kb_Md_leastEnd_b32 X  (gi M4 a0 1) M4
    · refine k_aload_n X 0 dX9_leastEnd_21 rfl rfl ?_
      refine k_iconst X (v := 1) dX9_leastEnd_22 (by decide) ?_
      refine k_ialdC X 1 ha0 ka0 (by decide) (by decide) dX9_leastEnd_23 ?_
      refine k_iconst X (v := 2) dX9_leastEnd_24 (by decide) ?_
      refine k_idiv X dX9_leastEnd_25 (by decide) ?_
      refine k_goto X 32 dX9_leastEnd_26 (by decide) ?_
      refine k_lv [] rfl ?_
      exact kb_Md_leastEnd_b32 X  ((gi M4 a0 1) / 2) M4
  · refine k_ldc X w_1139 dX9_leastEnd_9 ?_
    exact k_iret X dX9_leastEnd_11
theorem mt_Md_leastEnd (l : Launch) (E : En) (a0 : Nat) (x1 : Int32) (ha0 : isC a0 9) (ka0 : ln a0 = 89) (M : Mem) : MI l E yX9_leastEnd cX9_leastEnd 3 (some .int) 1 21 [.ref (ad E a0), .int x1] M (j_Md_leastEnd a0 x1 M) := MI_of (by decide) (Nat.le_of_ble_eq_true rfl) (fun Z _ X => k_lv [0, 1] rfl (kw_Md_leastEnd X a0 x1 ha0 ka0 M))
-- FilmCansModel.isKept
theorem kw_Md_isKept {Z : ZT} {E : En} (X : Cx Z E 3 cX9_isKept RX9 (some .boolean) 2 43) (a0 : Nat) (x1 : Int32) (x2 : Int32) (ha0 : isC a0 9) (ka0 : ln a0 = 89) (M : Mem) : Kj Z E 3 (QI Z E) (j_Md_isKept a0 x1 x2 M) M 0 [(0, .ref (ad E a0)), (1, .int x1), (2, .int x2)] [] := by
  unfold j_Md_isKept
  refine k_aload_n X 0 dX9_isKept_0 rfl rfl ?_
  refine k_iload_n X 1 dX9_isKept_1 rfl rfl ?_
  refine k_callSI X [.ref (ad E a0), .int x1] [] (mt_Md_leastEnd (zl Z) E a0 x1 ha0 ka0 M) mRX9_60 ⟨by decide, by decide⟩ rfl rfl (Nat.le_of_ble_eq_true rfl) dX9_isKept_2 (fun r1 M2 => ?_)
  refine k_ldc X w_1139 dX9_isKept_5 ?_
  refine k_icmp_eq X 23 dX9_isKept_7 (by decide) ?_ ?_
  · refine k_iconst X (v := 0) dX9_isKept_23 (by decide) ?_
    exact k_zret X (by decide) dX9_isKept_24
  · refine k_iload_n X 2 dX9_isKept_10 rfl rfl ?_
    refine k_aload_n X 0 dX9_isKept_11 rfl rfl ?_
    refine k_iload_n X 1 dX9_isKept_12 rfl rfl ?_
    refine k_callSI X [.ref (ad E a0), .int x1] [.int x2] (mt_Md_leastEnd (zl Z) E a0 x1 ha0 ka0 M2) mRX9_60 ⟨by decide, by decide⟩ rfl rfl (Nat.le_of_ble_eq_true rfl) dX9_isKept_13 (fun r3 M4 => ?_)
    refine k_icmp_lt X 23 dX9_isKept_16 (by decide) ?_ ?_
    · refine k_iconst X (v := 0) dX9_isKept_23 (by decide) ?_
      exact k_zret X (by decide) dX9_isKept_24
    · refine k_iconst X (v := 1) dX9_isKept_19 (by decide) ?_
      refine k_goto X 24 dX9_isKept_20 (by decide) ?_
      exact k_zret X (by decide) dX9_isKept_24
theorem mt_Md_isKept (l : Launch) (E : En) (a0 : Nat) (x1 : Int32) (x2 : Int32) (ha0 : isC a0 9) (ka0 : ln a0 = 89) (M : Mem) : MI l E yX9_isKept cX9_isKept 3 (some .boolean) 2 43 [.ref (ad E a0), .int x1, .int x2] M (j_Md_isKept a0 x1 x2 M) := MI_of (by decide) (Nat.le_of_ble_eq_true rfl) (fun Z _ X => k_lv [0, 1, 2] rfl (kw_Md_isKept X a0 x1 x2 ha0 ka0 M))
-- FilmCansModel.isRoom
theorem kw_Md_isRoom {Z : ZT} {E : En} (X : Cx Z E 2 cX9_isRoom RX9 (some .boolean) 1 21) (a0 : Nat) (x1 : Int32) (ha0 : isC a0 9) (ka0 : ln a0 = 89) (M : Mem) : Kj Z E 2 (QI Z E) (j_Md_isRoom a0 x1 M) M 0 [(0, .ref (ad E a0)), (1, .int x1)] [] := by
  unfold j_Md_isRoom
  refine k_aload_n X 0 dX9_isRoom_0 rfl rfl ?_
  refine k_iload_n X 1 dX9_isRoom_1 rfl rfl ?_
  refine k_callSI X [.ref (ad E a0), .int x1] [] (mt_Md_where (zl Z) E a0 x1 ha0 ka0 M) mRX9_63 ⟨by decide, by decide⟩ rfl rfl (Nat.le_of_ble_eq_true rfl) dX9_isRoom_2 (fun r1 M2 => ?_)
  refine k_iconst X (v := 2) dX9_isRoom_5 (by decide) ?_
  refine k_icmp_eq X 13 dX9_isRoom_6 (by decide) ?_ ?_
  · refine k_iconst X (v := 0) dX9_isRoom_13 (by decide) ?_
    exact k_zret X (by decide) dX9_isRoom_14
  · refine k_iconst X (v := 1) dX9_isRoom_9 (by decide) ?_
    refine k_goto X 14 dX9_isRoom_10 (by decide) ?_
    exact k_zret X (by decide) dX9_isRoom_14
theorem mt_Md_isRoom (l : Launch) (E : En) (a0 : Nat) (x1 : Int32) (ha0 : isC a0 9) (ka0 : ln a0 = 89) (M : Mem) : MI l E yX9_isRoom cX9_isRoom 2 (some .boolean) 1 21 [.ref (ad E a0), .int x1] M (j_Md_isRoom a0 x1 M) := MI_of (by decide) (Nat.le_of_ble_eq_true rfl) (fun Z _ X => k_lv [0, 1] rfl (kw_Md_isRoom X a0 x1 ha0 ka0 M))
-- FilmCansModel.openOnes
theorem kb_Md_openOnes_b27 {Z : ZT} {E : En} (X : Cx Z E 3 cX9_openOnes RX9 (some .int) 1 21) (k4 : Nat → Int32 → Int32 → Mem → Option (Int32 × Mem)) (hk4 : ∀ (a0 : Nat) (x1 : Int32) (x2 : Int32) (ha0 : isC a0 9) (ka0 : ln a0 = 89) (M : Mem), Kj Z E 3 (QI Z E) (k4 a0 x1 x2 M) M 4 [(0, .ref (ad E a0)), (1, .int x1), (2, .int x2)] []) (a0 : Nat) (x2 : Int32) (xs0 : Int32) (xs1 : Int32) (ha0 : isC a0 9) (ka0 : ln a0 = 89) (M : Mem) : Kj Z E 3 (QI Z E) (Md_openOnes_b27 k4 a0 x2 xs0 xs1 M) M 27 [(0, .ref (ad E a0)), (2, .int x2)] [.int xs0, .int xs1] := by
  unfold Md_openOnes_b27
  refine k_ior X dX9_openOnes_27 ?_
  refine x_istore_n X [(0, .ref (ad E a0)), (2, .int x2)] dX9_openOnes_28 rfl (by decide) rfl (fun x6_ => ?_)
  refine x_iinc X 1 2 [(1, .int x6_), (0, .ref (ad E a0))] dX9_openOnes_29 rfl (by decide) (by decide) rfl (fun x7_ => ?_)
  refine k_goto X 4 dX9_openOnes_32 (by decide) ?_
  refine k_lv [2, 1, 0] rfl ?_
  exact hk4 a0 x6_ x7_ ha0 ka0 M
theorem kb_Md_openOnes_h4 {Z : ZT} {E : En} (X : Cx Z E 3 cX9_openOnes RX9 (some .int) 1 21)  : ∀ (n : Nat) (a0 : Nat) (x1 : Int32) (x2 : Int32) (ha0 : isC a0 9) (ka0 : ln a0 = 89) (M : Mem), Kj Z E 3 (QI Z E) (Md_openOnes_h4  n a0 x1 x2 M) M 4 [(0, .ref (ad E a0)), (1, .int x1), (2, .int x2)] [] := by
  intro n
  induction n with
  | zero => intro a0 x1 x2 ha0 ka0 M; exact k_none
  | succ n ih =>
    intro a0 x1 x2 ha0 ka0 M
    rw [Md_openOnes_h4]
    refine k_iload_n X 2 dX9_openOnes_4 rfl rfl ?_
    refine k_aload_n X 0 dX9_openOnes_5 rfl rfl ?_
    refine k_iconst X (v := 5) dX9_openOnes_6 (by decide) ?_
    refine k_ialdC X 5 ha0 ka0 (by decide) (by decide) dX9_openOnes_7 ?_
    refine k_icmp_ge X 35 dX9_openOnes_8 (by decide) ?_ ?_
    · refine k_iload_n X 1 dX9_openOnes_35 rfl rfl ?_
      exact k_iret X dX9_openOnes_36
    · refine k_iload_n X 1 dX9_openOnes_11 rfl rfl ?_
      refine k_aload_n X 0 dX9_openOnes_12 rfl rfl ?_
      refine k_iload_n X 2 dX9_openOnes_13 rfl rfl ?_
      refine k_callSI X [.ref (ad E a0), .int x2] [.int x1] (mt_Md_isOpen (zl Z) E a0 x2 ha0 ka0 M) mRX9_66 ⟨by decide, by decide⟩ rfl rfl (Nat.le_of_ble_eq_true rfl) dX9_openOnes_14 (fun r4 M5 => ?_)
      refine k_if_eq X 26 dX9_openOnes_17 (by decide) ?_ ?_
      · refine k_iconst X (v := 0) dX9_openOnes_26 (by decide) ?_
        refine k_lv [0, 2] rfl ?_
        exact kb_Md_openOnes_b27 X (fun a0 x1 x2 M => Md_openOnes_h4 n a0 x1 x2 M) (fun a0 x1 x2 ha0 ka0 M => ih a0 x1 x2 ha0 ka0 M) a0 x2 0 x1 ha0 ka0 M5
      · refine k_iconst X (v := 1) dX9_openOnes_20 (by decide) ?_
        refine k_iload_n X 2 dX9_openOnes_21 rfl rfl ?_
        refine k_ishl X dX9_openOnes_22 ?_
        refine k_goto X 27 dX9_openOnes_23 (by decide) ?_
        refine k_lv [0, 2] rfl ?_
        exact kb_Md_openOnes_b27 X (fun a0 x1 x2 M => Md_openOnes_h4 n a0 x1 x2 M) (fun a0 x1 x2 ha0 ka0 M => ih a0 x1 x2 ha0 ka0 M) a0 x2 ((1 : Int32) <<< (x2 &&& 31)) x1 ha0 ka0 M5
theorem kw_Md_openOnes {Z : ZT} {E : En} (X : Cx Z E 3 cX9_openOnes RX9 (some .int) 1 21) (a0 : Nat) (ha0 : isC a0 9) (ka0 : ln a0 = 89) (M : Mem) : Kj Z E 3 (QI Z E) (j_Md_openOnes a0 M) M 0 [(0, .ref (ad E a0))] [] := by
  unfold j_Md_openOnes
  refine k_iconst X (v := 0) dX9_openOnes_0 (by decide) ?_
  refine x_istore_n X [(0, .ref (ad E a0))] dX9_openOnes_1 rfl (by decide) rfl (fun x1_ => ?_)
  refine k_iconst X (v := 0) dX9_openOnes_2 (by decide) ?_
  refine x_istore_n X [(1, .int x1_), (0, .ref (ad E a0))] dX9_openOnes_3 rfl (by decide) rfl (fun x2_ => ?_)
  refine k_lv [2, 1, 0] rfl ?_
  exact kb_Md_openOnes_h4 X  FU a0 x1_ x2_ ha0 ka0 M
theorem mt_Md_openOnes (l : Launch) (E : En) (a0 : Nat) (ha0 : isC a0 9) (ka0 : ln a0 = 89) (M : Mem) : MI l E yX9_openOnes cX9_openOnes 3 (some .int) 1 21 [.ref (ad E a0)] M (j_Md_openOnes a0 M) := MI_of (by decide) (Nat.le_of_ble_eq_true rfl) (fun Z _ X => k_lv [0] rfl (kw_Md_openOnes X a0 ha0 ka0 M))
-- FilmCansModel.left
theorem kb_Md_left_b92 {Z : ZT} {E : En} (X : Cx Z E 6 cX9_left RX9 (some .int) 2 43) (k34 : Nat → Int32 → Int32 → Int32 → Int32 → Int32 → Mem → Option (Int32 × Mem)) (hk34 : ∀ (a0 : Nat) (x1 : Int32) (x2 : Int32) (x3 : Int32) (x4 : Int32) (x5 : Int32) (ha0 : isC a0 9) (ka0 : ln a0 = 89) (M : Mem), Kj Z E 6 (QI Z E) (k34 a0 x1 x2 x3 x4 x5 M) M 34 [(0, .ref (ad E a0)), (1, .int x1), (2, .int x2), (3, .int x3), (4, .int x4), (5, .int x5)] []) (a0 : Nat) (x1 : Int32) (x2 : Int32) (x3 : Int32) (x4 : Int32) (x5 : Int32) (ha0 : isC a0 9) (ka0 : ln a0 = 89) (M : Mem) : Kj Z E 6 (QI Z E) (Md_left_b92 k34 a0 x1 x2 x3 x4 x5 M) M 92 [(0, .ref (ad E a0)), (1, .int x1), (2, .int x2), (3, .int x3), (4, .int x4), (5, .int x5)] [] := by
  unfold Md_left_b92
  refine x_iinc X 1 5 [(0, .ref (ad E a0)), (1, .int x1), (2, .int x2), (3, .int x3), (4, .int x4)] dX9_left_92 rfl (by decide) (by decide) rfl (fun x8_ => ?_)
  refine k_goto X 34 dX9_left_95 (by decide) ?_
  refine k_lv [1, 2, 3, 4, 5, 0] rfl ?_
  exact hk34 a0 x1 x2 x3 x4 x8_ ha0 ka0 M
theorem kb_Md_left_b70 {Z : ZT} {E : En} (X : Cx Z E 6 cX9_left RX9 (some .int) 2 43) (k34 : Nat → Int32 → Int32 → Int32 → Int32 → Int32 → Mem → Option (Int32 × Mem)) (hk34 : ∀ (a0 : Nat) (x1 : Int32) (x2 : Int32) (x3 : Int32) (x4 : Int32) (x5 : Int32) (ha0 : isC a0 9) (ka0 : ln a0 = 89) (M : Mem), Kj Z E 6 (QI Z E) (k34 a0 x1 x2 x3 x4 x5 M) M 34 [(0, .ref (ad E a0)), (1, .int x1), (2, .int x2), (3, .int x3), (4, .int x4), (5, .int x5)] []) (a0 : Nat) (x1 : Int32) (x2 : Int32) (x3 : Int32) (x5 : Int32) (xs0 : Int32) (ha0 : isC a0 9) (ka0 : ln a0 = 89) (M : Mem) : Kj Z E 6 (QI Z E) (Md_left_b70 k34 a0 x1 x2 x3 x5 xs0 M) M 70 [(0, .ref (ad E a0)), (1, .int x1), (2, .int x2), (3, .int x3), (5, .int x5)] [.int xs0] := by
  unfold Md_left_b70
  refine k_istore X [(4, .int xs0), (0, .ref (ad E a0)), (1, .int x1), (2, .int x2), (3, .int x3), (5, .int x5)] dX9_left_70 (by decide) rfl ?_
  refine k_iload_n X 4 dX9_left_72 rfl rfl ?_
  refine k_aload_n X 1 dX9_left_73 rfl rfl ?_
  refine k_bipush X (v := 41) dX9_left_74 (by decide) ?_
  refine k_iconst X (v := 3) dX9_left_76 (by decide) ?_
  refine k_iload X 5 dX9_left_77 rfl ?_
  refine k_imul X dX9_left_79 ?_
  refine k_iadd X dX9_left_80 ?_
  refine k_iconst X (v := 1) dX9_left_81 (by decide) ?_
  refine k_iadd X dX9_left_82 ?_
  refine k_iald X ha0 ka0 dX9_left_83 (fun hb9 => ?_)
  refine k_aload_n X 1 dX9_left_84 rfl rfl ?_
  refine k_iload_n X 2 dX9_left_85 rfl rfl ?_
  refine k_callSI X [.ref (ad E a0), .int x1] [.int (gi M a0 (ix (((41 : Int32) + ((3 : Int32) * x5)) + 1))), .int x3] (mt_Md_slate (zl Z) E a0 x1 ha0 ka0 M) mRX9_83 ⟨by decide, by decide⟩ rfl rfl (Nat.le_of_ble_eq_true rfl) dX9_left_86 (fun r10 M11 => ?_)
  refine k_iadd X dX9_left_89 ?_
  refine k_isub X dX9_left_90 ?_
  refine x_istore_n X [(4, .int xs0), (0, .ref (ad E a0)), (1, .int x1), (2, .int x2), (5, .int x5)] dX9_left_91 rfl (by decide) rfl (fun x12_ => ?_)
  refine k_lv [2, 3, 4, 0, 1, 5] rfl ?_
  exact kb_Md_left_b92 X k34 hk34 a0 x1 x2 x12_ xs0 x5 ha0 ka0 M11
theorem kb_Md_left_b69 {Z : ZT} {E : En} (X : Cx Z E 6 cX9_left RX9 (some .int) 2 43) (k34 : Nat → Int32 → Int32 → Int32 → Int32 → Int32 → Mem → Option (Int32 × Mem)) (hk34 : ∀ (a0 : Nat) (x1 : Int32) (x2 : Int32) (x3 : Int32) (x4 : Int32) (x5 : Int32) (ha0 : isC a0 9) (ka0 : ln a0 = 89) (M : Mem), Kj Z E 6 (QI Z E) (k34 a0 x1 x2 x3 x4 x5 M) M 34 [(0, .ref (ad E a0)), (1, .int x1), (2, .int x2), (3, .int x3), (4, .int x4), (5, .int x5)] []) (a0 : Nat) (x1 : Int32) (x2 : Int32) (x3 : Int32) (x5 : Int32) (ha0 : isC a0 9) (ka0 : ln a0 = 89) (M : Mem) : Kj Z E 6 (QI Z E) (Md_left_b69 k34 a0 x1 x2 x3 x5 M) M 69 [(0, .ref (ad E a0)), (1, .int x1), (2, .int x2), (3, .int x3), (5, .int x5)] [] := by
  unfold Md_left_b69
  refine k_iconst X (v := 0) dX9_left_69 (by decide) ?_
  refine k_lv [0, 1, 2, 3, 4] rfl ?_
  exact kb_Md_left_b70 X k34 hk34 a0 x1 x2 x3 x5 0 ha0 ka0 M
theorem kb_Md_left_h34 {Z : ZT} {E : En} (X : Cx Z E 6 cX9_left RX9 (some .int) 2 43)  : ∀ (n : Nat) (a0 : Nat) (x1 : Int32) (x2 : Int32) (x3 : Int32) (x4 : Int32) (x5 : Int32) (ha0 : isC a0 9) (ka0 : ln a0 = 89) (M : Mem), Kj Z E 6 (QI Z E) (Md_left_h34  n a0 x1 x2 x3 x4 x5 M) M 34 [(0, .ref (ad E a0)), (1, .int x1), (2, .int x2), (3, .int x3), (4, .int x4), (5, .int x5)] [] := by
  intro n
  induction n with
  | zero => intro a0 x1 x2 x3 x4 x5 ha0 ka0 M; exact k_none
  | succ n ih =>
    intro a0 x1 x2 x3 x4 x5 ha0 ka0 M
    rw [Md_left_h34]
    refine k_iload X 5 dX9_left_34 rfl ?_
    refine k_bipush X (v := 8) dX9_left_36 (by decide) ?_
    refine k_icmp_ge X 98 dX9_left_38 (by decide) ?_ ?_
    · refine k_iload X 4 dX9_left_98 rfl ?_
      refine k_if_eq X 107 dX9_left_100 (by decide) ?_ ?_
      · refine k_iconst X (v := (-1)) dX9_left_107 (by decide) ?_
        exact k_iret X dX9_left_108
      · refine k_iload_n X 3 dX9_left_103 rfl rfl ?_
        refine k_goto X 108 dX9_left_104 (by decide) ?_
        exact k_iret X dX9_left_108
    · refine k_iload_n X 2 dX9_left_41 rfl rfl ?_
      refine k_iload X 5 dX9_left_42 rfl ?_
      refine k_callSI X [.int x2, .int x5] [] (mt_Md_has (zl Z) E x2 x5 M) mRX9_76 ⟨by decide, by decide⟩ rfl rfl (Nat.le_of_ble_eq_true rfl) dX9_left_44 (fun r6 M7 => ?_)
      refine k_if_eq X 92 dX9_left_47 (by decide) ?_ ?_
      · refine k_lv [0, 1, 2, 3, 4, 5] rfl ?_
        exact kb_Md_left_b92 X (fun a0 x1 x2 x3 x4 x5 M => Md_left_h34 n a0 x1 x2 x3 x4 x5 M) (fun a0 x1 x2 x3 x4 x5 ha0 ka0 M => ih a0 x1 x2 x3 x4 x5 ha0 ka0 M) a0 x1 x2 x3 x4 x5 ha0 ka0 M7
      · refine k_iload X 4 dX9_left_50 rfl ?_
        refine k_if_eq X 69 dX9_left_52 (by decide) ?_ ?_
        · refine k_lv [0, 1, 2, 3, 5] rfl ?_
          exact kb_Md_left_b69 X (fun a0 x1 x2 x3 x4 x5 M => Md_left_h34 n a0 x1 x2 x3 x4 x5 M) (fun a0 x1 x2 x3 x4 x5 ha0 ka0 M => ih a0 x1 x2 x3 x4 x5 ha0 ka0 M) a0 x1 x2 x3 x5 ha0 ka0 M7
        · refine k_aload_n X 0 dX9_left_55 rfl rfl ?_
          refine k_iload_n X 1 dX9_left_56 rfl rfl ?_
          refine k_iload X 5 dX9_left_57 rfl ?_
          refine k_callSI X [.ref (ad E a0), .int x1, .int x5] [] (mt_Md_serves (zl Z) E a0 x1 x5 ha0 ka0 M7) mRX9_79 ⟨by decide, by decide⟩ rfl rfl (Nat.le_of_ble_eq_true rfl) dX9_left_59 (fun r13 M14 => ?_)
          refine k_if_eq X 69 dX9_left_62 (by decide) ?_ ?_
          · refine k_lv [0, 1, 2, 3, 5] rfl ?_
            exact kb_Md_left_b69 X (fun a0 x1 x2 x3 x4 x5 M => Md_left_h34 n a0 x1 x2 x3 x4 x5 M) (fun a0 x1 x2 x3 x4 x5 ha0 ka0 M => ih a0 x1 x2 x3 x4 x5 ha0 ka0 M) a0 x1 x2 x3 x5 ha0 ka0 M14
          · refine k_iconst X (v := 1) dX9_left_65 (by decide) ?_
            refine k_goto X 70 dX9_left_66 (by decide) ?_
            refine k_lv [0, 1, 2, 3, 5] rfl ?_
            exact kb_Md_left_b70 X (fun a0 x1 x2 x3 x4 x5 M => Md_left_h34 n a0 x1 x2 x3 x4 x5 M) (fun a0 x1 x2 x3 x4 x5 ha0 ka0 M => ih a0 x1 x2 x3 x4 x5 ha0 ka0 M) a0 x1 x2 x3 x5 1 ha0 ka0 M14
theorem kb_Md_left_b26 {Z : ZT} {E : En} (X : Cx Z E 6 cX9_left RX9 (some .int) 2 43) (a0 : Nat) (x1 : Int32) (x2 : Int32) (xs0 : Int32) (xs1 : Int32) (ha0 : isC a0 9) (ka0 : ln a0 = 89) (M : Mem) : Kj Z E 6 (QI Z E) (Md_left_b26 a0 x1 x2 xs0 xs1 M) M 26 [(0, .ref (ad E a0)), (1, .int x1), (2, .int x2)] [.int xs0, .int xs1] := by
  unfold Md_left_b26
  refine k_isub X dX9_left_26 ?_
  refine x_istore_n X [(0, .ref (ad E a0)), (1, .int x1), (2, .int x2)] dX9_left_27 rfl (by decide) rfl (fun x3_ => ?_)
  refine k_iconst X (v := 1) dX9_left_28 (by decide) ?_
  refine x_istore X [(3, .int x3_), (0, .ref (ad E a0)), (1, .int x1), (2, .int x2)] dX9_left_29 (by decide) rfl (fun x4_ => ?_)
  refine k_iconst X (v := 0) dX9_left_31 (by decide) ?_
  refine x_istore X [(4, .int x4_), (3, .int x3_), (0, .ref (ad E a0)), (1, .int x1), (2, .int x2)] dX9_left_32 (by decide) rfl (fun x5_ => ?_)
  refine k_lv [3, 4, 5, 2, 1, 0] rfl ?_
  exact kb_Md_left_h34 X  FU a0 x1 x2 x3_ x4_ x5_ ha0 ka0 M
theorem kb_Md_left_b25 {Z : ZT} {E : En} (X : Cx Z E 6 cX9_left RX9 (some .int) 2 43) (a0 : Nat) (x1 : Int32) (x2 : Int32) (xs0 : Int32) (ha0 : isC a0 9) (ka0 : ln a0 = 89) (M : Mem) : Kj Z E 6 (QI Z E) (Md_left_b25 a0 x1 x2 xs0 M) M 25 [(0, .ref (ad E a0)), (1, .int x1), (2, .int x2)] [.int xs0] := by
  unfold Md_left_b25
  refine k_iconst X (v := 0) dX9_left_25 (by decide) ?_
  refine k_lv [0, 1, 2] rfl ?_
  exact kb_Md_left_b26 X  a0 x1 x2 0 xs0 ha0 ka0 M
theorem kw_Md_left {Z : ZT} {E : En} (X : Cx Z E 6 cX9_left RX9 (some .int) 2 43) (a0 : Nat) (x1 : Int32) (x2 : Int32) (ha0 : isC a0 9) (ka0 : ln a0 = 89) (M : Mem) : Kj Z E 6 (QI Z E) (j_Md_left a0 x1 x2 M) M 0 [(0, .ref (ad E a0)), (1, .int x1), (2, .int x2)] [] := by
  unfold j_Md_left
  refine k_aload_n X 0 dX9_left_0 rfl rfl ?_
  refine k_iload_n X 1 dX9_left_1 rfl rfl ?_
  refine k_callSI X [.ref (ad E a0), .int x1] [] (mt_Md_feet (zl Z) E a0 x1 ha0 ka0 M) mRX9_70 ⟨by decide, by decide⟩ rfl rfl (Nat.le_of_ble_eq_true rfl) dX9_left_2 (fun r1 M2 => ?_)
  refine k_iload_n X 2 dX9_left_5 rfl rfl ?_
  refine k_if_eq X 25 dX9_left_6 (by decide) ?_ ?_
  · refine k_lv [0, 1, 2] rfl ?_
    exact kb_Md_left_b25 X  a0 x1 x2 r1 ha0 ka0 M2
  · refine k_aload_n X 0 dX9_left_9 rfl rfl ?_
    refine k_iload_n X 1 dX9_left_10 rfl rfl ?_
    refine k_callSI X [.ref (ad E a0), .int x1] [.int r1] (mt_Md_where (zl Z) E a0 x1 ha0 ka0 M2) mRX9_63 ⟨by decide, by decide⟩ rfl rfl (Nat.le_of_ble_eq_true rfl) dX9_left_11 (fun r15 M16 => ?_)
    refine k_if_ne X 25 dX9_left_14 (by decide) ?_ ?_
    · refine k_lv [0, 1, 2] rfl ?_
      exact kb_Md_left_b25 X  a0 x1 x2 r1 ha0 ka0 M16
    · refine k_aload_n X 0 dX9_left_17 rfl rfl ?_
      refine k_iload_n X 1 dX9_left_18 rfl rfl ?_
      refine k_callSI X [.ref (ad E a0), .int x1] [.int r1] (mt_Md_lead (zl Z) E a0 x1 ha0 ka0 M16) mRX9_73 ⟨by decide, by decide⟩ rfl rfl (Nat.le_of_ble_eq_true rfl) dX9_left_19 (fun r17 M18 => ?_)
      refine k_goto X 26 dX9_left_22 (by decide) ?_
      refine k_lv [0, 1, 2] rfl ?_
      exact kb_Md_left_b26 X  a0 x1 x2 r17 r1 ha0 ka0 M18
theorem mt_Md_left (l : Launch) (E : En) (a0 : Nat) (x1 : Int32) (x2 : Int32) (ha0 : isC a0 9) (ka0 : ln a0 = 89) (M : Mem) : MI l E yX9_left cX9_left 6 (some .int) 2 43 [.ref (ad E a0), .int x1, .int x2] M (j_Md_left a0 x1 x2 M) := MI_of (by decide) (Nat.le_of_ble_eq_true rfl) (fun Z _ X => k_lv [0, 1, 2] rfl (kw_Md_left X a0 x1 x2 ha0 ka0 M))
-- FilmCansModel.ones
theorem kb_Md_ones_b24 {Z : ZT} {E : En} (X : Cx Z E 3 cX9_ones RX9 (some .int) 1 21) (k4 : Int32 → Int32 → Int32 → Mem → Option (Int32 × Mem)) (hk4 : ∀ (x0 : Int32) (x1 : Int32) (x2 : Int32) (M : Mem), Kj Z E 3 (QI Z E) (k4 x0 x1 x2 M) M 4 [(0, .int x0), (1, .int x1), (2, .int x2)] []) (x0 : Int32) (x2 : Int32) (xs0 : Int32) (xs1 : Int32) (M : Mem) : Kj Z E 3 (QI Z E) (Md_ones_b24 k4 x0 x2 xs0 xs1 M) M 24 [(0, .int x0), (2, .int x2)] [.int xs0, .int xs1] := by
  unfold Md_ones_b24
  refine k_iadd X dX9_ones_24 ?_
  refine x_istore_n X [(0, .int x0), (2, .int x2)] dX9_ones_25 rfl (by decide) rfl (fun x5_ => ?_)
  refine x_iinc X 1 2 [(1, .int x5_), (0, .int x0)] dX9_ones_26 rfl (by decide) (by decide) rfl (fun x6_ => ?_)
  refine k_goto X 4 dX9_ones_29 (by decide) ?_
  refine k_lv [2, 1, 0] rfl ?_
  exact hk4 x0 x5_ x6_ M
theorem kb_Md_ones_h4 {Z : ZT} {E : En} (X : Cx Z E 3 cX9_ones RX9 (some .int) 1 21)  : ∀ (n : Nat) (x0 : Int32) (x1 : Int32) (x2 : Int32) (M : Mem), Kj Z E 3 (QI Z E) (Md_ones_h4  n x0 x1 x2 M) M 4 [(0, .int x0), (1, .int x1), (2, .int x2)] [] := by
  intro n
  induction n with
  | zero => intro x0 x1 x2 M; exact k_none
  | succ n ih =>
    intro x0 x1 x2 M
    rw [Md_ones_h4]
    refine k_iload_n X 2 dX9_ones_4 rfl rfl ?_
    refine k_bipush X (v := 8) dX9_ones_5 (by decide) ?_
    refine k_icmp_ge X 32 dX9_ones_7 (by decide) ?_ ?_
    · refine k_iload_n X 1 dX9_ones_32 rfl rfl ?_
      exact k_iret X dX9_ones_33
    · refine k_iload_n X 1 dX9_ones_10 rfl rfl ?_
      refine k_iload_n X 0 dX9_ones_11 rfl rfl ?_
      refine k_iload_n X 2 dX9_ones_12 rfl rfl ?_
      refine k_callSI X [.int x0, .int x2] [.int x1] (mt_Md_has (zl Z) E x0 x2 M) mRX9_76 ⟨by decide, by decide⟩ rfl rfl (Nat.le_of_ble_eq_true rfl) dX9_ones_13 (fun r3 M4 => ?_)
      refine k_if_eq X 23 dX9_ones_16 (by decide) ?_ ?_
      · refine k_iconst X (v := 0) dX9_ones_23 (by decide) ?_
        refine k_lv [0, 2] rfl ?_
        exact kb_Md_ones_b24 X (fun x0 x1 x2 M => Md_ones_h4 n x0 x1 x2 M) (fun x0 x1 x2 M => ih x0 x1 x2 M) x0 x2 0 x1 M4
      · refine k_iconst X (v := 1) dX9_ones_19 (by decide) ?_
        refine k_goto X 24 dX9_ones_20 (by decide) ?_
        refine k_lv [0, 2] rfl ?_
        exact kb_Md_ones_b24 X (fun x0 x1 x2 M => Md_ones_h4 n x0 x1 x2 M) (fun x0 x1 x2 M => ih x0 x1 x2 M) x0 x2 1 x1 M4
theorem kw_Md_ones {Z : ZT} {E : En} (X : Cx Z E 3 cX9_ones RX9 (some .int) 1 21) (x0 : Int32) (M : Mem) : Kj Z E 3 (QI Z E) (j_Md_ones x0 M) M 0 [(0, .int x0)] [] := by
  unfold j_Md_ones
  refine k_iconst X (v := 0) dX9_ones_0 (by decide) ?_
  refine x_istore_n X [(0, .int x0)] dX9_ones_1 rfl (by decide) rfl (fun x1_ => ?_)
  refine k_iconst X (v := 0) dX9_ones_2 (by decide) ?_
  refine x_istore_n X [(1, .int x1_), (0, .int x0)] dX9_ones_3 rfl (by decide) rfl (fun x2_ => ?_)
  refine k_lv [2, 1, 0] rfl ?_
  exact kb_Md_ones_h4 X  FU x0 x1_ x2_ M
theorem mt_Md_ones (l : Launch) (E : En) (x0 : Int32) (M : Mem) : MI l E yX9_ones cX9_ones 3 (some .int) 1 21 [.int x0] M (j_Md_ones x0 M) := MI_of (by decide) (Nat.le_of_ble_eq_true rfl) (fun Z _ X => k_lv [0] rfl (kw_Md_ones X x0 M))
-- FilmCansModel.lossOf
theorem kb_Md_lossOf_b30 {Z : ZT} {E : En} (X : Cx Z E 4 cX9_lossOf RX9 (some .int) 3 68) (a0 : Nat) (x1 : Int32) (x2 : Int32) (x3 : Int32) (xs0 : Int32) (ha0 : isC a0 9) (ka0 : ln a0 = 89) (M : Mem) : Kj Z E 4 (QI Z E) (Md_lossOf_b30 a0 x1 x2 x3 xs0 M) M 30 [(0, .ref (ad E a0)), (1, .int x1), (2, .int x2), (3, .int x3)] [.int xs0] := by
  unfold Md_lossOf_b30
  refine k_iload_n X 2 dX9_lossOf_30 rfl rfl ?_
  refine k_callSI X [.int x2] [.int xs0] (mt_Md_ones (zl Z) E x2 M) mRX9_90 ⟨by decide, by decide⟩ rfl rfl (Nat.le_of_ble_eq_true rfl) dX9_lossOf_31 (fun r5 M6 => ?_)
  refine k_aload_n X 0 dX9_lossOf_34 rfl rfl ?_
  refine k_iload_n X 1 dX9_lossOf_35 rfl rfl ?_
  refine k_callSI X [.ref (ad E a0), .int x1] [.int r5, .int xs0] (mt_Md_slate (zl Z) E a0 x1 ha0 ka0 M6) mRX9_83 ⟨by decide, by decide⟩ rfl rfl (Nat.le_of_ble_eq_true rfl) dX9_lossOf_36 (fun r7 M8 => ?_)
  refine k_imul X dX9_lossOf_39 ?_
  refine k_iadd X dX9_lossOf_40 ?_
  refine k_aload_n X 0 dX9_lossOf_41 rfl rfl ?_
  refine k_iload_n X 1 dX9_lossOf_42 rfl rfl ?_
  refine k_iload_n X 3 dX9_lossOf_43 rfl rfl ?_
  refine k_callSI X [.ref (ad E a0), .int x1, .int x3] [.int (xs0 + (r5 * r7))] (mt_Md_isKept (zl Z) E a0 x1 x3 ha0 ka0 M8) mRX9_94 ⟨by decide, by decide⟩ rfl rfl (Nat.le_of_ble_eq_true rfl) dX9_lossOf_44 (fun r9 M10 => ?_)
  refine k_if_eq X 54 dX9_lossOf_47 (by decide) ?_ ?_
  · refine k_iload_n X 3 dX9_lossOf_54 rfl rfl ?_
    refine k_iadd X dX9_lossOf_55 ?_
    exact k_iret X dX9_lossOf_56
  · refine k_iconst X (v := 0) dX9_lossOf_50 (by decide) ?_
    refine k_goto X 55 dX9_lossOf_51 (by decide) ?_
    refine k_iadd X dX9_lossOf_55 ?_
    exact k_iret X dX9_lossOf_56
theorem kw_Md_lossOf {Z : ZT} {E : En} (X : Cx Z E 4 cX9_lossOf RX9 (some .int) 3 68) (a0 : Nat) (x1 : Int32) (x2 : Int32) (ha0 : isC a0 9) (ka0 : ln a0 = 89) (M : Mem) : Kj Z E 4 (QI Z E) (j_Md_lossOf a0 x1 x2 M) M 0 [(0, .ref (ad E a0)), (1, .int x1), (2, .int x2)] [] := by
  unfold j_Md_lossOf
  refine k_iload_n X 2 dX9_lossOf_0 rfl rfl ?_
  refine k_if_ne X 6 dX9_lossOf_1 (by decide) ?_ ?_
  · refine k_aload_n X 0 dX9_lossOf_6 rfl rfl ?_
    refine k_iload_n X 1 dX9_lossOf_7 rfl rfl ?_
    refine k_iload_n X 2 dX9_lossOf_8 rfl rfl ?_
    refine k_callSI X [.ref (ad E a0), .int x1, .int x2] [] (mt_Md_left (zl Z) E a0 x1 x2 ha0 ka0 M) mRX9_86 ⟨by decide, by decide⟩ rfl rfl (Nat.le_of_ble_eq_true rfl) dX9_lossOf_9 (fun r1 M2 => ?_)
    refine k_istore_n X [(3, .int r1), (0, .ref (ad E a0)), (1, .int x1), (2, .int x2)] dX9_lossOf_12 rfl (by decide) rfl ?_
    refine k_aload_n X 1 dX9_lossOf_13 rfl rfl ?_
    refine k_iload_n X 2 dX9_lossOf_14 rfl rfl ?_
    refine k_callSI X [.ref (ad E a0), .int x1] [] (mt_Md_where (zl Z) E a0 x1 ha0 ka0 M2) mRX9_63 ⟨by decide, by decide⟩ rfl rfl (Nat.le_of_ble_eq_true rfl) dX9_lossOf_15 (fun r3 M4 => ?_)
    refine k_if_ne X 29 dX9_lossOf_18 (by decide) ?_ ?_
    · refine k_iconst X (v := 0) dX9_lossOf_29 (by decide) ?_
      refine k_lv [1, 2, 3, 0] rfl ?_
      exact kb_Md_lossOf_b30 X  a0 x1 x2 r1 0 ha0 ka0 M4
    · refine k_aload_n X 1 dX9_lossOf_21 rfl rfl ?_
      refine k_iload_n X 2 dX9_lossOf_22 rfl rfl ?_
      refine k_callSI X [.ref (ad E a0), .int x1] [] (mt_Md_lead (zl Z) E a0 x1 ha0 ka0 M4) mRX9_73 ⟨by decide, by decide⟩ rfl rfl (Nat.le_of_ble_eq_true rfl) dX9_lossOf_23 (fun r11 M12 => ?_)
      refine k_goto X 30 dX9_lossOf_26 (by decide) ?_
      refine k_lv [1, 2, 3, 0] rfl ?_
      exact kb_Md_lossOf_b30 X  a0 x1 x2 r1 r11 ha0 ka0 M12
  · refine k_iconst X (v := 0) dX9_lossOf_4 (by decide) ?_
    exact k_iret X dX9_lossOf_5
theorem mt_Md_lossOf (l : Launch) (E : En) (a0 : Nat) (x1 : Int32) (x2 : Int32) (ha0 : isC a0 9) (ka0 : ln a0 = 89) (M : Mem) : MI l E yX9_lossOf cX9_lossOf 4 (some .int) 3 68 [.ref (ad E a0), .int x1, .int x2] M (j_Md_lossOf a0 x1 x2 M) := MI_of (by decide) (Nat.le_of_ble_eq_true rfl) (fun Z _ X => k_lv [0, 1, 2] rfl (kw_Md_lossOf X a0 x1 x2 ha0 ka0 M))
-- FilmCansModel.byteAt
theorem kw_Md_byteAt {Z : ZT} {E : En} (X : Cx Z E 2 cX9_byteAt RX9 (some .int) 0 0) (x1 : Int32) (M : Mem) : Kj Z E 2 (QI Z E) (j_Md_byteAt x1 M) M 0 [(0, .ref (ad E 326)), (1, .int x1)] [] := by
  unfold j_Md_byteAt
  refine k_iload_n X 1 dX9_byteAt_0 rfl rfl ?_
  refine k_aload_n X 0 dX9_byteAt_1 rfl rfl ?_
  refine k_getI X c_326 fRX9_97 dX9_byteAt_2 ?_
  refine k_icmp_ge X 17 dX9_byteAt_5 (by decide) ?_ ?_
  · refine k_iconst X (v := (-1)) dX9_byteAt_17 (by decide) ?_
    exact k_iret X dX9_byteAt_18
  · refine k_aload_n X 0 dX9_byteAt_8 rfl rfl ?_
    refine k_getR X c_326 fRX9_26 r_326_6 dX9_byteAt_9 ?_
    refine k_iload_n X 1 dX9_byteAt_12 rfl rfl ?_
    refine k_iald X c_332 l_332 dX9_byteAt_13 (fun hb1 => ?_)
    refine k_goto X 18 dX9_byteAt_14 (by decide) ?_
    exact k_iret X dX9_byteAt_18
theorem mt_Md_byteAt (l : Launch) (E : En) (x1 : Int32) (M : Mem) : MI l E yX9_byteAt cX9_byteAt 2 (some .int) 0 0 [.ref (ad E 326), .int x1] M (j_Md_byteAt x1 M) := MI_of (by decide) (Nat.le_of_ble_eq_true rfl) (fun Z _ X => k_lv [0, 1] rfl (kw_Md_byteAt X x1 M))
-- FilmCansModel.next
theorem kb_Md_next_b182 {Z : ZT} {E : En} (X : Cx Z E 2 cX9_next RX9 none 1 25) (k121 : Mem → Option (Unit × Mem)) (hk121 : ∀ (M : Mem), Kj Z E 2 (QV Z E) (k121 M) M 121 [(0, .ref (ad E 326))] []) (xs0 : Int32) (M : Mem) : Kj Z E 2 (QV Z E) (Md_next_b182 k121 xs0 M) M 182 [(0, .ref (ad E 326))] [.int xs0, .ref (ad E 326)] := by
  unfold Md_next_b182
  refine k_putI X c_326 fRX9_110 dX9_next_182 ?_
  refine k_sq (fun M18 => ?_)
  refine k_aload_n X 0 dX9_next_185 rfl rfl ?_
  refine k_dup X dX9_next_186 rfl ?_
  refine k_getI X c_326 fRX9_101 dX9_next_187 ?_
  refine k_iconst X (v := 1) dX9_next_190 (by decide) ?_
  refine k_iadd X dX9_next_191 ?_
  refine k_putI X c_326 fRX9_101 dX9_next_192 ?_
  refine k_sq (fun M19 => ?_)
  refine k_goto X 121 dX9_next_195 (by decide) ?_
  refine k_lv [0] rfl ?_
  exact hk121 M19
theorem kb_Md_next_h121 {Z : ZT} {E : En} (X : Cx Z E 2 cX9_next RX9 none 1 25)  : ∀ (n : Nat) (M : Mem), Kj Z E 2 (QV Z E) (Md_next_h121  n M) M 121 [(0, .ref (ad E 326))] [] := by
  intro n
  induction n with
  | zero => intro M; exact k_none
  | succ n ih =>
    intro M
    rw [Md_next_h121]
    refine k_aload_n X 0 dX9_next_121 rfl rfl ?_
    refine k_aload_n X 0 dX9_next_122 rfl rfl ?_
    refine k_getI X c_326 fRX9_101 dX9_next_123 ?_
    refine k_callVI X [.int (gi M 326 8)] [] c_326 rfl (by decide) rfl (mt_Md_byteAt (zl Z) E (gi M 326 8) M) mRX9_107 ⟨by decide, by decide⟩ rfl rfl (Nat.le_of_ble_eq_true rfl) dX9_next_126 (fun r12 M13 => ?_)
    refine k_i2l X dX9_next_129 ?_
    refine k_ldc2 X w_1032 dX9_next_130 ?_
    refine k_ldc2 X w_1033 dX9_next_133 ?_
    refine k_callSI X [.long (Int32.toInt64 r12), .long 48, .long 57] [] (mt_Md_in (zl Z) E (Int32.toInt64 r12) 48 57 M13) mRX9_47 ⟨by decide, by decide⟩ rfl rfl (Nat.le_of_ble_eq_true rfl) dX9_next_136 (fun r14 M15 => ?_)
    refine k_if_eq X 198 dX9_next_139 (by decide) ?_ ?_
    · refine k_aload_n X 0 dX9_next_198 rfl rfl ?_
      refine k_aload_n X 0 dX9_next_199 rfl rfl ?_
      refine k_getI X c_326 fRX9_101 dX9_next_200 ?_
      refine k_aload_n X 0 dX9_next_203 rfl rfl ?_
      refine k_getI X c_326 fRX9_104 dX9_next_204 ?_
      refine k_isub X dX9_next_207 ?_
      refine k_iconst X (v := 2) dX9_next_208 (by decide) ?_
      refine k_icmp_le X 216 dX9_next_209 (by decide) ?_ ?_
      · refine k_iconst X (v := 2) dX9_next_216 (by decide) ?_
        refine k_putI X c_326 fRX9_121 dX9_next_217 ?_
        refine k_sq (fun M16 => ?_)
        exact k_vret X dX9_next_220
      · refine k_iconst X (v := 4) dX9_next_212 (by decide) ?_
        refine k_goto X 217 dX9_next_213 (by decide) ?_
        refine k_putI X c_326 fRX9_121 dX9_next_217 ?_
        refine k_sq (fun M17 => ?_)
        exact k_vret X dX9_next_220
    · refine k_aload_n X 0 dX9_next_142 rfl rfl ?_
      refine k_aload_n X 0 dX9_next_143 rfl rfl ?_
      refine k_getI X c_326 fRX9_101 dX9_next_144 ?_
      refine k_aload_n X 0 dX9_next_147 rfl rfl ?_
      refine k_getI X c_326 fRX9_104 dX9_next_148 ?_
      refine k_isub X dX9_next_151 ?_
      refine k_iconst X (v := 2) dX9_next_152 (by decide) ?_
      refine k_icmp_ge X 178 dX9_next_153 (by decide) ?_ ?_
      · refine k_aload_n X 0 dX9_next_178 rfl rfl ?_
        refine k_getI X c_326 fRX9_110 dX9_next_179 ?_
        refine k_lv [0] rfl ?_
        exact kb_Md_next_b182 X (fun M => Md_next_h121 n M) (fun M => ih M) (gi M15 326 11) M15
      · refine k_bipush X (v := 10) dX9_next_156 (by decide) ?_
        refine k_aload_n X 0 dX9_next_158 rfl rfl ?_
        refine k_getI X c_326 fRX9_110 dX9_next_159 ?_
        refine k_imul X dX9_next_162 ?_
        refine k_aload_n X 0 dX9_next_163 rfl rfl ?_
        refine k_aload_n X 0 dX9_next_164 rfl rfl ?_
        refine k_getI X c_326 fRX9_101 dX9_next_165 ?_
        refine k_callVI X [.int (gi M15 326 8)] [.int ((10 : Int32) * (gi M15 326 11)), .ref (ad E 326)] c_326 rfl (by decide) rfl (mt_Md_byteAt (zl Z) E (gi M15 326 8) M15) mRX9_107 ⟨by decide, by decide⟩ rfl rfl (Nat.le_of_ble_eq_true rfl) dX9_next_168 (fun r20 M21 => ?_)
        refine k_iadd X dX9_next_171 ?_
        refine k_bipush X (v := 48) dX9_next_172 (by decide) ?_
        refine k_isub X dX9_next_174 ?_
        refine k_goto X 182 dX9_next_175 (by decide) ?_
        refine k_lv [0] rfl ?_
        exact kb_Md_next_b182 X (fun M => Md_next_h121 n M) (fun M => ih M) ((((10 : Int32) * (gi M15 326 11)) + r20) - 48) M21
theorem kb_Md_next_b102 {Z : ZT} {E : En} (X : Cx Z E 2 cX9_next RX9 none 1 25) (x1 : Int32) (xs0 : Int32) (M : Mem) : Kj Z E 2 (QV Z E) (Md_next_b102 x1 xs0 M) M 102 [(0, .ref (ad E 326)), (1, .int x1)] [.int xs0, .ref (ad E 326)] := by
  unfold Md_next_b102
  refine k_putI X c_326 fRX9_121 dX9_next_102 ?_
  refine k_sq (fun M10 => ?_)
  refine k_aload_n X 0 dX9_next_105 rfl rfl ?_
  refine k_getI X c_326 fRX9_121 dX9_next_106 ?_
  refine k_iconst X (v := 2) dX9_next_109 (by decide) ?_
  refine k_icmp_ne X 220 dX9_next_110 (by decide) ?_ ?_
  · exact k_vret X dX9_next_220
  · refine k_aload_n X 0 dX9_next_113 rfl rfl ?_
    refine k_iload_n X 1 dX9_next_114 rfl rfl ?_
    refine k_bipush X (v := 48) dX9_next_115 (by decide) ?_
    refine k_isub X dX9_next_117 ?_
    refine k_putI X c_326 fRX9_110 dX9_next_118 ?_
    refine k_sq (fun M11 => ?_)
    refine k_lv [0] rfl ?_
    exact kb_Md_next_h121 X  FU M11
theorem kb_Md_next_b97 {Z : ZT} {E : En} (X : Cx Z E 2 cX9_next RX9 none 1 25) (x1 : Int32) (M : Mem) : Kj Z E 2 (QV Z E) (Md_next_b97 x1 M) M 97 [(0, .ref (ad E 326)), (1, .int x1)] [.ref (ad E 326)] := by
  unfold Md_next_b97
  refine k_iconst X (v := 3) dX9_next_97 (by decide) ?_
  refine k_goto X 102 dX9_next_98 (by decide) ?_
  refine k_lv [0, 1] rfl ?_
  exact kb_Md_next_b102 X  x1 3 M
theorem kb_Md_next_b36 {Z : ZT} {E : En} (X : Cx Z E 2 cX9_next RX9 none 1 25) (x1 : Int32) (xs0 : Int32) (xs1 : Int32) (M : Mem) : Kj Z E 2 (QV Z E) (Md_next_b36 x1 xs0 xs1 M) M 36 [(0, .ref (ad E 326)), (1, .int x1)] [.int xs0, .int xs1, .ref (ad E 326)] := by
  unfold Md_next_b36
  refine k_iadd X dX9_next_36 ?_
  refine k_putI X c_326 fRX9_101 dX9_next_37 ?_
  refine k_sq (fun M5 => ?_)
  refine k_aload_n X 0 dX9_next_40 rfl rfl ?_
  refine k_iload_n X 1 dX9_next_41 rfl rfl ?_
  refine k_if_ge X 49 dX9_next_42 (by decide) ?_ ?_
  · refine k_iload_n X 1 dX9_next_49 rfl rfl ?_
    refine k_i2l X dX9_next_50 ?_
    refine k_ldc2 X w_1030 dX9_next_51 ?_
    refine k_ldc2 X w_1031 dX9_next_54 ?_
    refine k_callSI X [.long (Int32.toInt64 x1), .long 97, .long 122] [.ref (ad E 326)] (mt_Md_in (zl Z) E (Int32.toInt64 x1) 97 122 M5) mRX9_47 ⟨by decide, by decide⟩ rfl rfl (Nat.le_of_ble_eq_true rfl) dX9_next_57 (fun r6 M7 => ?_)
    refine k_if_eq X 67 dX9_next_60 (by decide) ?_ ?_
    · refine k_iload_n X 1 dX9_next_67 rfl rfl ?_
      refine k_i2l X dX9_next_68 ?_
      refine k_ldc2 X w_1032 dX9_next_69 ?_
      refine k_ldc2 X w_1033 dX9_next_72 ?_
      refine k_callSI X [.long (Int32.toInt64 x1), .long 48, .long 57] [.ref (ad E 326)] (mt_Md_in (zl Z) E (Int32.toInt64 x1) 48 57 M7) mRX9_47 ⟨by decide, by decide⟩ rfl rfl (Nat.le_of_ble_eq_true rfl) dX9_next_75 (fun r8 M9 => ?_)
      refine k_if_eq X 85 dX9_next_78 (by decide) ?_ ?_
      · refine k_iload_n X 1 dX9_next_85 rfl rfl ?_
        refine k_bipush X (v := 44) dX9_next_86 (by decide) ?_
        refine k_icmp_eq X 97 dX9_next_88 (by decide) ?_ ?_
        · refine k_lv [0, 1] rfl ?_
          exact kb_Md_next_b97 X  x1 M9
        · refine k_iload_n X 1 dX9_next_91 rfl rfl ?_
          refine k_bipush X (v := 59) dX9_next_92 (by decide) ?_
          refine k_icmp_ne X 101 dX9_next_94 (by decide) ?_ ?_
          · refine k_iconst X (v := 4) dX9_next_101 (by decide) ?_
            refine k_lv [0, 1] rfl ?_
            exact kb_Md_next_b102 X  x1 4 M9
          · refine k_lv [0, 1] rfl ?_
            exact kb_Md_next_b97 X  x1 M9
      · refine k_iconst X (v := 2) dX9_next_81 (by decide) ?_
        refine k_goto X 102 dX9_next_82 (by decide) ?_
        refine k_lv [0, 1] rfl ?_
        exact kb_Md_next_b102 X  x1 2 M9
    · refine k_iconst X (v := 1) dX9_next_63 (by decide) ?_
      refine k_goto X 102 dX9_next_64 (by decide) ?_
      refine k_lv [0, 1] rfl ?_
      exact kb_Md_next_b102 X  x1 1 M7
  · refine k_iconst X (v := 0) dX9_next_45 (by decide) ?_
    refine k_goto X 102 dX9_next_46 (by decide) ?_
    refine k_lv [0, 1] rfl ?_
    exact kb_Md_next_b102 X  x1 0 M5
theorem kw_Md_next {Z : ZT} {E : En} (X : Cx Z E 2 cX9_next RX9 none 1 25) (M : Mem) : Kj Z E 2 (QV Z E) (j_Md_next M) M 0 [(0, .ref (ad E 326))] [] := by
  unfold j_Md_next
  refine k_aload_n X 0 dX9_next_0 rfl rfl ?_
  refine k_aload_n X 0 dX9_next_1 rfl rfl ?_
  refine k_getI X c_326 fRX9_101 dX9_next_2 ?_
  refine k_putI X c_326 fRX9_104 dX9_next_5 ?_
  refine k_sq (fun M1 => ?_)
  refine k_aload_n X 0 dX9_next_8 rfl rfl ?_
  refine k_aload_n X 0 dX9_next_9 rfl rfl ?_
  refine k_getI X c_326 fRX9_101 dX9_next_10 ?_
  refine k_callVI X [.int (gi M1 326 8)] [] c_326 rfl (by decide) rfl (mt_Md_byteAt (zl Z) E (gi M1 326 8) M1) mRX9_107 ⟨by decide, by decide⟩ rfl rfl (Nat.le_of_ble_eq_true rfl) dX9_next_13 (fun r2 M3 => ?_)
  refine k_istore_n X [(1, .int r2), (0, .ref (ad E 326))] dX9_next_16 rfl (by decide) rfl ?_
  refine k_aload_n X 1 dX9_next_17 rfl rfl ?_
  refine k_iload_n X 0 dX9_next_18 rfl rfl ?_
  refine k_putI X c_326 fRX9_110 dX9_next_19 ?_
  refine k_sq (fun M4 => ?_)
  refine k_aload_n X 1 dX9_next_22 rfl rfl ?_
  refine k_dup X dX9_next_23 rfl ?_
  refine k_getI X c_326 fRX9_101 dX9_next_24 ?_
  refine k_iload_n X 0 dX9_next_27 rfl rfl ?_
  refine k_if_ge X 35 dX9_next_28 (by decide) ?_ ?_
  · refine k_iconst X (v := 1) dX9_next_35 (by decide) ?_
    refine k_lv [1, 0] rfl ?_
    exact kb_Md_next_b36 X  r2 1 (gi M4 326 8) M4
  · refine k_iconst X (v := 0) dX9_next_31 (by decide) ?_
    refine k_goto X 36 dX9_next_32 (by decide) ?_
    refine k_lv [1, 0] rfl ?_
    exact kb_Md_next_b36 X  r2 0 (gi M4 326 8) M4
theorem mt_Md_next (l : Launch) (E : En) (M : Mem) : MV l E yX9_next cX9_next 2 none 1 25 [.ref (ad E 326)] M (j_Md_next M) := MV_of (by decide) (Nat.le_of_ble_eq_true rfl) (fun Z _ X => k_lv [0] rfl (kw_Md_next X M))
-- FilmCansModel.bad
theorem kw_Md_bad {Z : ZT} {E : En} (X : Cx Z E 2 cX9_bad RX9 none 0 0) (x1 : Int32) (M : Mem) : Kj Z E 2 (QV Z E) (j_Md_bad x1 M) M 0 [(0, .ref (ad E 326)), (1, .int x1)] [] := by
  unfold j_Md_bad
  refine k_aload_n X 0 dX9_bad_0 rfl rfl ?_
  refine k_getI X c_326 fRX9_124 dX9_bad_1 ?_
  refine k_if_ne X 20 dX9_bad_4 (by decide) ?_ ?_
  · exact k_vret X dX9_bad_20
  · refine k_aload_n X 0 dX9_bad_7 rfl rfl ?_
    refine k_iload_n X 1 dX9_bad_8 rfl rfl ?_
    refine k_putI X c_326 fRX9_124 dX9_bad_9 ?_
    refine k_sq (fun M1 => ?_)
    refine k_aload_n X 0 dX9_bad_12 rfl rfl ?_
    refine k_aload_n X 0 dX9_bad_13 rfl rfl ?_
    refine k_getI X c_326 fRX9_104 dX9_bad_14 ?_
    refine k_putI X c_326 fRX9_127 dX9_bad_17 ?_
    refine k_sq (fun M2 => ?_)
    exact k_vret X dX9_bad_20
theorem mt_Md_bad (l : Launch) (E : En) (x1 : Int32) (M : Mem) : MV l E yX9_bad cX9_bad 2 none 0 0 [.ref (ad E 326), .int x1] M (j_Md_bad x1 M) := MV_of (by decide) (Nat.le_of_ble_eq_true rfl) (fun Z _ X => k_lv [0, 1] rfl (kw_Md_bad X x1 M))
-- FilmCansModel.goesOn
theorem kw_Md_goesOn {Z : ZT} {E : En} (X : Cx Z E 1 cX9_goesOn RX9 none 2 46) (M : Mem) : Kj Z E 1 (QV Z E) (j_Md_goesOn M) M 0 [(0, .ref (ad E 326))] [] := by
  unfold j_Md_goesOn
  refine k_aload_n X 0 dX9_goesOn_0 rfl rfl ?_
  refine k_getI X c_326 fRX9_124 dX9_goesOn_1 ?_
  refine k_if_ne X 11 dX9_goesOn_4 (by decide) ?_ ?_
  · exact k_vret X dX9_goesOn_11
  · refine k_aload_n X 0 dX9_goesOn_7 rfl rfl ?_
    refine k_callVV X [] [] c_326 rfl (by decide) rfl (mt_Md_next (zl Z) E  M) mRX9_130 ⟨by decide, by decide⟩ rfl rfl (Nat.le_of_ble_eq_true rfl) dX9_goesOn_8 (fun _ M2 => ?_)
    exact k_vret X dX9_goesOn_11
theorem mt_Md_goesOn (l : Launch) (E : En) (M : Mem) : MV l E yX9_goesOn cX9_goesOn 1 none 2 46 [.ref (ad E 326)] M (j_Md_goesOn M) := MV_of (by decide) (Nat.le_of_ble_eq_true rfl) (fun Z _ X => k_lv [0] rfl (kw_Md_goesOn X M))
-- FilmCansModel.number
theorem kb_Md_number_b51 {Z : ZT} {E : En} (X : Cx Z E 4 cX9_number RX9 (some .int) 3 66) (xs0 : Int32) (M : Mem) : Kj Z E 4 (QI Z E) (Md_number_b51 xs0 M) M 51 [(0, .ref (ad E 326))] [.int xs0] := by
  unfold Md_number_b51
  refine k_istore_n X [(3, .int xs0), (0, .ref (ad E 326))] dX9_number_51 rfl (by decide) rfl ?_
  refine k_aload_n X 1 dX9_number_52 rfl rfl ?_
  refine k_callVV X [] [] c_326 rfl (by decide) rfl (mt_Md_goesOn (zl Z) E  M) mRX9_137 ⟨by decide, by decide⟩ rfl rfl (Nat.le_of_ble_eq_true rfl) dX9_number_53 (fun _ M4 => ?_)
  refine k_iload_n X 0 dX9_number_56 rfl rfl ?_
  exact k_iret X dX9_number_57
theorem kb_Md_number_b36 {Z : ZT} {E : En} (X : Cx Z E 4 cX9_number RX9 (some .int) 3 66) (x1 : Int32) (M : Mem) : Kj Z E 4 (QI Z E) (Md_number_b36 x1 M) M 36 [(0, .ref (ad E 326)), (1, .int x1)] [] := by
  unfold Md_number_b36
  refine k_aload_n X 0 dX9_number_36 rfl rfl ?_
  refine k_getI X c_326 fRX9_124 dX9_number_37 ?_
  refine k_if_ne X 50 dX9_number_40 (by decide) ?_ ?_
  · refine k_iload_n X 1 dX9_number_50 rfl rfl ?_
    refine k_lv [0] rfl ?_
    exact kb_Md_number_b51 X  x1 M
  · refine k_aload_n X 0 dX9_number_43 rfl rfl ?_
    refine k_getI X c_326 fRX9_110 dX9_number_44 ?_
    refine k_goto X 51 dX9_number_47 (by decide) ?_
    refine k_lv [0] rfl ?_
    exact kb_Md_number_b51 X  (gi M 326 11) M
theorem kw_Md_number {Z : ZT} {E : En} (X : Cx Z E 4 cX9_number RX9 (some .int) 3 66) (x1 : Int32) (x2 : Int32) (M : Mem) : Kj Z E 4 (QI Z E) (j_Md_number x1 x2 M) M 0 [(0, .ref (ad E 326)), (1, .int x1), (2, .int x2)] [] := by
  unfold j_Md_number
  refine k_aload_n X 0 dX9_number_0 rfl rfl ?_
  refine k_getI X c_326 fRX9_121 dX9_number_1 ?_
  refine k_iconst X (v := 2) dX9_number_4 (by decide) ?_
  refine k_icmp_eq X 16 dX9_number_5 (by decide) ?_ ?_
  · refine k_aload_n X 0 dX9_number_16 rfl rfl ?_
    refine k_getI X c_326 fRX9_110 dX9_number_17 ?_
    refine k_i2l X dX9_number_20 ?_
    refine k_iload_n X 1 dX9_number_21 rfl rfl ?_
    refine k_i2l X dX9_number_22 ?_
    refine k_iload_n X 2 dX9_number_23 rfl rfl ?_
    refine k_i2l X dX9_number_24 ?_
    refine k_callSI X [.long (Int32.toInt64 (gi M 326 11)), .long (Int32.toInt64 x1), .long (Int32.toInt64 x2)] [] (mt_Md_in (zl Z) E (Int32.toInt64 (gi M 326 11)) (Int32.toInt64 x1) (Int32.toInt64 x2) M) mRX9_47 ⟨by decide, by decide⟩ rfl rfl (Nat.le_of_ble_eq_true rfl) dX9_number_25 (fun r1 M2 => ?_)
    refine k_if_ne X 36 dX9_number_28 (by decide) ?_ ?_
    · refine k_lv [0, 1] rfl ?_
      exact kb_Md_number_b36 X  x1 M2
    · refine k_aload_n X 0 dX9_number_31 rfl rfl ?_
      refine k_iconst X (v := 2) dX9_number_32 (by decide) ?_
      refine k_callVV X [.int 2] [] c_326 rfl (by decide) rfl (mt_Md_bad (zl Z) E 2 M2) mRX9_133 ⟨by decide, by decide⟩ rfl rfl (Nat.le_of_ble_eq_true rfl) dX9_number_33 (fun _ M6 => ?_)
      refine k_lv [0, 1] rfl ?_
      exact kb_Md_number_b36 X  x1 M6
  · refine k_aload_n X 0 dX9_number_8 rfl rfl ?_
    refine k_iconst X (v := 1) dX9_number_9 (by decide) ?_
    refine k_callVV X [.int 1] [] c_326 rfl (by decide) rfl (mt_Md_bad (zl Z) E 1 M) mRX9_133 ⟨by decide, by decide⟩ rfl rfl (Nat.le_of_ble_eq_true rfl) dX9_number_10 (fun _ M8 => ?_)
    refine k_goto X 36 dX9_number_13 (by decide) ?_
    refine k_lv [0, 1] rfl ?_
    exact kb_Md_number_b36 X  x1 M8
theorem mt_Md_number (l : Launch) (E : En) (x1 : Int32) (x2 : Int32) (M : Mem) : MI l E yX9_number cX9_number 4 (some .int) 3 66 [.ref (ad E 326), .int x1, .int x2] M (j_Md_number x1 x2 M) := MI_of (by decide) (Nat.le_of_ble_eq_true rfl) (fun Z _ X => k_lv [0, 1, 2] rfl (kw_Md_number X x1 x2 M))
-- FilmCansModel.sign
theorem kb_Md_sign_b21 {Z : ZT} {E : En} (X : Cx Z E 2 cX9_sign RX9 none 3 66) (M : Mem) : Kj Z E 2 (QV Z E) (Md_sign_b21 M) M 21 [(0, .ref (ad E 326))] [] := by
  unfold Md_sign_b21
  refine k_aload_n X 0 dX9_sign_21 rfl rfl ?_
  refine k_callVV X [] [] c_326 rfl (by decide) rfl (mt_Md_goesOn (zl Z) E  M) mRX9_137 ⟨by decide, by decide⟩ rfl rfl (Nat.le_of_ble_eq_true rfl) dX9_sign_22 (fun _ M4 => ?_)
  exact k_vret X dX9_sign_25
theorem kb_Md_sign_b16 {Z : ZT} {E : En} (X : Cx Z E 2 cX9_sign RX9 none 3 66) (M : Mem) : Kj Z E 2 (QV Z E) (Md_sign_b16 M) M 16 [(0, .ref (ad E 326))] [] := by
  unfold Md_sign_b16
  refine k_aload_n X 0 dX9_sign_16 rfl rfl ?_
  refine k_iconst X (v := 1) dX9_sign_17 (by decide) ?_
  refine k_callVV X [.int 1] [] c_326 rfl (by decide) rfl (mt_Md_bad (zl Z) E 1 M) mRX9_133 ⟨by decide, by decide⟩ rfl rfl (Nat.le_of_ble_eq_true rfl) dX9_sign_18 (fun _ M2 => ?_)
  refine k_lv [0] rfl ?_
  exact kb_Md_sign_b21 X  M2
theorem kw_Md_sign {Z : ZT} {E : En} (X : Cx Z E 2 cX9_sign RX9 none 3 66) (x1 : Int32) (M : Mem) : Kj Z E 2 (QV Z E) (j_Md_sign x1 M) M 0 [(0, .ref (ad E 326)), (1, .int x1)] [] := by
  unfold j_Md_sign
  refine k_aload_n X 0 dX9_sign_0 rfl rfl ?_
  refine k_getI X c_326 fRX9_121 dX9_sign_1 ?_
  refine k_iconst X (v := 3) dX9_sign_4 (by decide) ?_
  refine k_icmp_ne X 16 dX9_sign_5 (by decide) ?_ ?_
  · refine k_lv [0] rfl ?_
    exact kb_Md_sign_b16 X  M
  · refine k_aload_n X 0 dX9_sign_8 rfl rfl ?_
    refine k_getI X c_326 fRX9_110 dX9_sign_9 ?_
    refine k_iload_n X 1 dX9_sign_12 rfl rfl ?_
    refine k_icmp_eq X 21 dX9_sign_13 (by decide) ?_ ?_
    · refine k_lv [0] rfl ?_
      exact kb_Md_sign_b21 X  M
    · refine k_lv [0] rfl ?_
      exact kb_Md_sign_b16 X  M
theorem mt_Md_sign (l : Launch) (E : En) (x1 : Int32) (M : Mem) : MV l E yX9_sign cX9_sign 2 none 3 66 [.ref (ad E 326), .int x1] M (j_Md_sign x1 M) := MV_of (by decide) (Nat.le_of_ble_eq_true rfl) (fun Z _ X => k_lv [0, 1] rfl (kw_Md_sign X x1 M))
-- FilmCansModel.letter
theorem kb_Md_letter_b21 {Z : ZT} {E : En} (X : Cx Z E 2 cX9_letter RX9 none 3 66) (M : Mem) : Kj Z E 2 (QV Z E) (Md_letter_b21 M) M 21 [(0, .ref (ad E 326))] [] := by
  unfold Md_letter_b21
  refine k_aload_n X 0 dX9_letter_21 rfl rfl ?_
  refine k_callVV X [] [] c_326 rfl (by decide) rfl (mt_Md_goesOn (zl Z) E  M) mRX9_137 ⟨by decide, by decide⟩ rfl rfl (Nat.le_of_ble_eq_true rfl) dX9_letter_22 (fun _ M4 => ?_)
  exact k_vret X dX9_letter_25
theorem kb_Md_letter_b16 {Z : ZT} {E : En} (X : Cx Z E 2 cX9_letter RX9 none 3 66) (M : Mem) : Kj Z E 2 (QV Z E) (Md_letter_b16 M) M 16 [(0, .ref (ad E 326))] [] := by
  unfold Md_letter_b16
  refine k_aload_n X 0 dX9_letter_16 rfl rfl ?_
  refine k_iconst X (v := 1) dX9_letter_17 (by decide) ?_
  refine k_callVV X [.int 1] [] c_326 rfl (by decide) rfl (mt_Md_bad (zl Z) E 1 M) mRX9_133 ⟨by decide, by decide⟩ rfl rfl (Nat.le_of_ble_eq_true rfl) dX9_letter_18 (fun _ M2 => ?_)
  refine k_lv [0] rfl ?_
  exact kb_Md_letter_b21 X  M2
theorem kw_Md_letter {Z : ZT} {E : En} (X : Cx Z E 2 cX9_letter RX9 none 3 66) (x1 : Int32) (M : Mem) : Kj Z E 2 (QV Z E) (j_Md_letter x1 M) M 0 [(0, .ref (ad E 326)), (1, .int x1)] [] := by
  unfold j_Md_letter
  refine k_aload_n X 0 dX9_letter_0 rfl rfl ?_
  refine k_getI X c_326 fRX9_121 dX9_letter_1 ?_
  refine k_iconst X (v := 1) dX9_letter_4 (by decide) ?_
  refine k_icmp_ne X 16 dX9_letter_5 (by decide) ?_ ?_
  · refine k_lv [0] rfl ?_
    exact kb_Md_letter_b16 X  M
  · refine k_aload_n X 0 dX9_letter_8 rfl rfl ?_
    refine k_getI X c_326 fRX9_110 dX9_letter_9 ?_
    refine k_iload_n X 1 dX9_letter_12 rfl rfl ?_
    refine k_icmp_eq X 21 dX9_letter_13 (by decide) ?_ ?_
    · refine k_lv [0] rfl ?_
      exact kb_Md_letter_b21 X  M
    · refine k_lv [0] rfl ?_
      exact kb_Md_letter_b16 X  M
theorem mt_Md_letter (l : Launch) (E : En) (x1 : Int32) (M : Mem) : MV l E yX9_letter cX9_letter 2 none 3 66 [.ref (ad E 326), .int x1] M (j_Md_letter x1 M) := MV_of (by decide) (Nat.le_of_ble_eq_true rfl) (fun Z _ X => k_lv [0, 1] rfl (kw_Md_letter X x1 M))
-- FilmCansModel.kindOf
theorem kw_Md_kindOf {Z : ZT} {E : En} (X : Cx Z E 1 cX9_kindOf RX9 (some .int) 0 0) (x0 : Int32) (M : Mem) : Kj Z E 1 (QI Z E) (j_Md_kindOf x0 M) M 0 [(0, .int x0)] [] := by
  unfold j_Md_kindOf
  refine k_iload_n X 0 dX9_kindOf_0 rfl rfl ?_
  refine k_bipush X (v := 110) dX9_kindOf_1 (by decide) ?_
  refine k_icmp_ne X 10 dX9_kindOf_3 (by decide) ?_ ?_
  · refine k_iload_n X 0 dX9_kindOf_10 rfl rfl ?_
    refine k_bipush X (v := 102) dX9_kindOf_11 (by decide) ?_
    refine k_icmp_ne X 20 dX9_kindOf_13 (by decide) ?_ ?_
    · refine k_iload_n X 0 dX9_kindOf_20 rfl rfl ?_
      refine k_bipush X (v := 103) dX9_kindOf_21 (by decide) ?_
      refine k_icmp_ne X 30 dX9_kindOf_23 (by decide) ?_ ?_
      · refine k_iload_n X 0 dX9_kindOf_30 rfl rfl ?_
        refine k_bipush X (v := 114) dX9_kindOf_31 (by decide) ?_
        refine k_icmp_ne X 40 dX9_kindOf_33 (by decide) ?_ ?_
        · refine k_iload_n X 0 dX9_kindOf_40 rfl rfl ?_
          refine k_bipush X (v := 115) dX9_kindOf_41 (by decide) ?_
          refine k_icmp_ne X 50 dX9_kindOf_43 (by decide) ?_ ?_
          · refine k_iconst X (v := 0) dX9_kindOf_50 (by decide) ?_
            exact k_iret X dX9_kindOf_51
          · refine k_iconst X (v := 5) dX9_kindOf_46 (by decide) ?_
            refine k_goto X 51 dX9_kindOf_47 (by decide) ?_
            exact k_iret X dX9_kindOf_51
        · refine k_iconst X (v := 4) dX9_kindOf_36 (by decide) ?_
          refine k_goto X 51 dX9_kindOf_37 (by decide) ?_
          exact k_iret X dX9_kindOf_51
      · refine k_iconst X (v := 3) dX9_kindOf_26 (by decide) ?_
        refine k_goto X 51 dX9_kindOf_27 (by decide) ?_
        exact k_iret X dX9_kindOf_51
    · refine k_iconst X (v := 2) dX9_kindOf_16 (by decide) ?_
      refine k_goto X 51 dX9_kindOf_17 (by decide) ?_
      exact k_iret X dX9_kindOf_51
  · refine k_iconst X (v := 1) dX9_kindOf_6 (by decide) ?_
    refine k_goto X 51 dX9_kindOf_7 (by decide) ?_
    exact k_iret X dX9_kindOf_51
theorem mt_Md_kindOf (l : Launch) (E : En) (x0 : Int32) (M : Mem) : MI l E yX9_kindOf cX9_kindOf 1 (some .int) 0 0 [.int x0] M (j_Md_kindOf x0 M) := MI_of (by decide) (Nat.le_of_ble_eq_true rfl) (fun Z _ X => k_lv [0] rfl (kw_Md_kindOf X x0 M))
-- FilmCansModel.isCanTold
theorem kw_Md_isCanTold {Z : ZT} {E : En} (X : Cx Z E 1 cX9_isCanTold RX9 (some .boolean) 1 20) (M : Mem) : Kj Z E 1 (QI Z E) (j_Md_isCanTold M) M 0 [(0, .ref (ad E 326))] [] := by
  unfold j_Md_isCanTold
  refine k_aload_n X 0 dX9_isCanTold_0 rfl rfl ?_
  refine k_getI X c_326 fRX9_124 dX9_isCanTold_1 ?_
  refine k_if_ne X 29 dX9_isCanTold_4 (by decide) ?_ ?_
  · refine k_iconst X (v := 0) dX9_isCanTold_29 (by decide) ?_
    exact k_zret X (by decide) dX9_isCanTold_30
  · refine k_aload_n X 0 dX9_isCanTold_7 rfl rfl ?_
    refine k_getI X c_326 fRX9_121 dX9_isCanTold_8 ?_
    refine k_iconst X (v := 1) dX9_isCanTold_11 (by decide) ?_
    refine k_icmp_ne X 29 dX9_isCanTold_12 (by decide) ?_ ?_
    · refine k_iconst X (v := 0) dX9_isCanTold_29 (by decide) ?_
      exact k_zret X (by decide) dX9_isCanTold_30
    · refine k_aload_n X 0 dX9_isCanTold_15 rfl rfl ?_
      refine k_getI X c_326 fRX9_110 dX9_isCanTold_16 ?_
      refine k_callSI X [.int (gi M 326 11)] [] (mt_Md_kindOf (zl Z) E (gi M 326 11) M) mRX9_140 ⟨by decide, by decide⟩ rfl rfl (Nat.le_of_ble_eq_true rfl) dX9_isCanTold_19 (fun r1 M2 => ?_)
      refine k_if_le X 29 dX9_isCanTold_22 (by decide) ?_ ?_
      · refine k_iconst X (v := 0) dX9_isCanTold_29 (by decide) ?_
        exact k_zret X (by decide) dX9_isCanTold_30
      · refine k_iconst X (v := 1) dX9_isCanTold_25 (by decide) ?_
        refine k_goto X 30 dX9_isCanTold_26 (by decide) ?_
        exact k_zret X (by decide) dX9_isCanTold_30
theorem mt_Md_isCanTold (l : Launch) (E : En) (M : Mem) : MI l E yX9_isCanTold cX9_isCanTold 1 (some .boolean) 1 20 [.ref (ad E 326)] M (j_Md_isCanTold M) := MI_of (by decide) (Nat.le_of_ble_eq_true rfl) (fun Z _ X => k_lv [0] rfl (kw_Md_isCanTold X M))
-- FilmCansModel.adds
theorem kw_Md_adds {Z : ZT} {E : En} (X : Cx Z E 4 cX9_adds RX9 none 0 0) (a0 : Nat) (x1 : Int32) (x2 : Int32) (ha0 : isC a0 9) (ka0 : ln a0 = 89) (M : Mem) : Kj Z E 4 (QV Z E) (j_Md_adds a0 x1 x2 M) M 0 [(0, .ref (ad E a0)), (1, .int x1), (2, .int x2)] [] := by
  unfold j_Md_adds
  refine k_bipush X (v := 13) dX9_adds_0 (by decide) ?_
  refine k_iconst X (v := 4) dX9_adds_2 (by decide) ?_
  refine k_aload_n X 0 dX9_adds_3 rfl rfl ?_
  refine k_iconst X (v := 4) dX9_adds_4 (by decide) ?_
  refine k_ialdC X 4 ha0 ka0 (by decide) (by decide) dX9_adds_5 ?_
  refine k_imul X dX9_adds_6 ?_
  refine k_iadd X dX9_adds_7 ?_
  refine x_istore_n X [(0, .ref (ad E a0)), (1, .int x1), (2, .int x2)] dX9_adds_8 rfl (by decide) rfl (fun x2_ => ?_)
  refine k_aload_n X 1 dX9_adds_9 rfl rfl ?_
  refine k_iload_n X 0 dX9_adds_10 rfl rfl ?_
  refine k_iload_n X 2 dX9_adds_11 rfl rfl ?_
  refine k_iast X ha0 ka0 dX9_adds_12 (fun hb3 => ?_)
  refine k_sq (fun M4 => ?_)
  refine k_aload_n X 1 dX9_adds_13 rfl rfl ?_
  refine k_iload_n X 0 dX9_adds_14 rfl rfl ?_
  refine k_iconst X (v := 1) dX9_adds_15 (by decide) ?_
  refine k_iadd X dX9_adds_16 ?_
  refine k_iload_n X 3 dX9_adds_17 rfl rfl ?_
  refine k_iast X ha0 ka0 dX9_adds_18 (fun hb5 => ?_)
  refine k_sq (fun M6 => ?_)
  refine k_aload_n X 1 dX9_adds_19 rfl rfl ?_
  refine k_iload_n X 0 dX9_adds_20 rfl rfl ?_
  refine k_iconst X (v := 2) dX9_adds_21 (by decide) ?_
  refine k_iadd X dX9_adds_22 ?_
  refine k_iconst X (v := 0) dX9_adds_23 (by decide) ?_
  refine k_iast X ha0 ka0 dX9_adds_24 (fun hb7 => ?_)
  refine k_sq (fun M8 => ?_)
  refine k_aload_n X 1 dX9_adds_25 rfl rfl ?_
  refine k_iload_n X 0 dX9_adds_26 rfl rfl ?_
  refine k_iconst X (v := 3) dX9_adds_27 (by decide) ?_
  refine k_iadd X dX9_adds_28 ?_
  refine k_iconst X (v := 0) dX9_adds_29 (by decide) ?_
  refine k_iast X ha0 ka0 dX9_adds_30 (fun hb9 => ?_)
  refine k_sq (fun M10 => ?_)
  refine k_aload_n X 1 dX9_adds_31 rfl rfl ?_
  refine k_iconst X (v := 4) dX9_adds_32 (by decide) ?_
  refine k_dup2 X dX9_adds_33 rfl rfl ?_
  refine k_ialdC X 4 ha0 ka0 (by decide) (by decide) dX9_adds_34 ?_
  refine k_iconst X (v := 1) dX9_adds_35 (by decide) ?_
  refine k_iadd X dX9_adds_36 ?_
  refine k_iastC X 4 ha0 ka0 (by decide) (by decide) dX9_adds_37 ?_
  refine k_sq (fun M13 => ?_)
  refine k_aload_n X 1 dX9_adds_38 rfl rfl ?_
  refine k_bipush X (v := 7) dX9_adds_39 (by decide) ?_
  refine k_dup2 X dX9_adds_41 rfl rfl ?_
  refine k_ialdC X 7 ha0 ka0 (by decide) (by decide) dX9_adds_42 ?_
  refine k_iload_n X 3 dX9_adds_43 rfl rfl ?_
  refine k_iadd X dX9_adds_44 ?_
  refine k_iastC X 7 ha0 ka0 (by decide) (by decide) dX9_adds_45 ?_
  refine k_sq (fun M16 => ?_)
  exact k_vret X dX9_adds_46
theorem mt_Md_adds (l : Launch) (E : En) (a0 : Nat) (x1 : Int32) (x2 : Int32) (ha0 : isC a0 9) (ka0 : ln a0 = 89) (M : Mem) : MV l E yX9_adds cX9_adds 4 none 0 0 [.ref (ad E a0), .int x1, .int x2] M (j_Md_adds a0 x1 x2 M) := MV_of (by decide) (Nat.le_of_ble_eq_true rfl) (fun Z _ X => k_lv [0, 1, 2] rfl (kw_Md_adds X a0 x1 x2 ha0 ka0 M))
-- FilmCansModel.readsCan
theorem kb_Md_readsCan_b24 {Z : ZT} {E : En} (X : Cx Z E 3 cX9_readsCan RX9 none 4 89) (x1 : Int32) (M : Mem) : Kj Z E 3 (QV Z E) (Md_readsCan_b24 x1 M) M 24 [(0, .ref (ad E 326)), (1, .int x1)] [] := by
  unfold Md_readsCan_b24
  refine k_aload_n X 0 dX9_readsCan_24 rfl rfl ?_
  refine k_callVV X [] [] c_326 rfl (by decide) rfl (mt_Md_goesOn (zl Z) E  M) mRX9_137 ⟨by decide, by decide⟩ rfl rfl (Nat.le_of_ble_eq_true rfl) dX9_readsCan_25 (fun _ M5 => ?_)
  refine k_aload_n X 0 dX9_readsCan_28 rfl rfl ?_
  refine k_iconst X (v := 1) dX9_readsCan_29 (by decide) ?_
  refine k_bipush X (v := 99) dX9_readsCan_30 (by decide) ?_
  refine k_callVI X [.int 1, .int 99] [] c_326 rfl (by decide) rfl (mt_Md_number (zl Z) E 1 99 M5) mRX9_143 ⟨by decide, by decide⟩ rfl rfl (Nat.le_of_ble_eq_true rfl) dX9_readsCan_32 (fun r6 M7 => ?_)
  refine k_istore_n X [(2, .int r6), (0, .ref (ad E 326)), (1, .int x1)] dX9_readsCan_35 rfl (by decide) rfl ?_
  refine k_aload_n X 1 dX9_readsCan_36 rfl rfl ?_
  refine k_bipush X (v := 59) dX9_readsCan_37 (by decide) ?_
  refine k_callVV X [.int 59] [] c_326 rfl (by decide) rfl (mt_Md_sign (zl Z) E 59 M7) mRX9_147 ⟨by decide, by decide⟩ rfl rfl (Nat.le_of_ble_eq_true rfl) dX9_readsCan_39 (fun _ M9 => ?_)
  refine k_aload_n X 1 dX9_readsCan_42 rfl rfl ?_
  refine k_getI X c_326 fRX9_124 dX9_readsCan_43 ?_
  refine k_if_ne X 58 dX9_readsCan_46 (by decide) ?_ ?_
  · exact k_vret X dX9_readsCan_58
  · refine k_aload_n X 1 dX9_readsCan_49 rfl rfl ?_
    refine k_getR X c_326 fRX9_13 r_326_1 dX9_readsCan_50 ?_
    refine k_iload_n X 2 dX9_readsCan_53 rfl rfl ?_
    refine k_iload_n X 0 dX9_readsCan_54 rfl rfl ?_
    refine k_callSV X [.ref (ad E 328), .int x1, .int r6] [] (mt_Md_adds (zl Z) E 328 x1 r6 c_328 l_328 M9) mRX9_150 ⟨by decide, by decide⟩ rfl rfl (Nat.le_of_ble_eq_true rfl) dX9_readsCan_55 (fun _ M11 => ?_)
    exact k_vret X dX9_readsCan_58
theorem kw_Md_readsCan {Z : ZT} {E : En} (X : Cx Z E 3 cX9_readsCan RX9 none 4 89) (M : Mem) : Kj Z E 3 (QV Z E) (j_Md_readsCan M) M 0 [(0, .ref (ad E 326))] [] := by
  unfold j_Md_readsCan
  refine k_aload_n X 0 dX9_readsCan_0 rfl rfl ?_
  refine k_getI X c_326 fRX9_110 dX9_readsCan_1 ?_
  refine k_callSI X [.int (gi M 326 11)] [] (mt_Md_kindOf (zl Z) E (gi M 326 11) M) mRX9_140 ⟨by decide, by decide⟩ rfl rfl (Nat.le_of_ble_eq_true rfl) dX9_readsCan_4 (fun r1 M2 => ?_)
  refine k_istore_n X [(1, .int r1), (0, .ref (ad E 326))] dX9_readsCan_7 rfl (by decide) rfl ?_
  refine k_aload_n X 1 dX9_readsCan_8 rfl rfl ?_
  refine k_getR X c_326 fRX9_13 r_326_1 dX9_readsCan_9 ?_
  refine k_iconst X (v := 4) dX9_readsCan_12 (by decide) ?_
  refine k_ialdC X 4 c_328 l_328 (by decide) (by decide) dX9_readsCan_13 ?_
  refine k_bipush X (v := 6) dX9_readsCan_14 (by decide) ?_
  refine k_icmp_ne X 24 dX9_readsCan_16 (by decide) ?_ ?_
  · refine k_lv [1, 0] rfl ?_
    exact kb_Md_readsCan_b24 X  r1 M2
  · refine k_aload_n X 1 dX9_readsCan_19 rfl rfl ?_
    refine k_iconst X (v := 3) dX9_readsCan_20 (by decide) ?_
    refine k_callVV X [.int 3] [] c_326 rfl (by decide) rfl (mt_Md_bad (zl Z) E 3 M2) mRX9_133 ⟨by decide, by decide⟩ rfl rfl (Nat.le_of_ble_eq_true rfl) dX9_readsCan_21 (fun _ M13 => ?_)
    refine k_lv [1, 0] rfl ?_
    exact kb_Md_readsCan_b24 X  r1 M13
theorem mt_Md_readsCan (l : Launch) (E : En) (M : Mem) : MV l E yX9_readsCan cX9_readsCan 3 none 4 89 [.ref (ad E 326)] M (j_Md_readsCan M) := MV_of (by decide) (Nat.le_of_ble_eq_true rfl) (fun Z _ X => k_lv [0] rfl (kw_Md_readsCan X M))
-- FilmCansModel.readsTake
theorem kb_Md_readsTake_b16 {Z : ZT} {E : En} (X : Cx Z E 4 cX9_readsTake RX9 none 4 89) (M : Mem) : Kj Z E 4 (QV Z E) (Md_readsTake_b16 M) M 16 [(0, .ref (ad E 326))] [] := by
  unfold Md_readsTake_b16
  refine k_aload_n X 0 dX9_readsTake_16 rfl rfl ?_
  refine k_callVV X [] [] c_326 rfl (by decide) rfl (mt_Md_goesOn (zl Z) E  M) mRX9_137 ⟨by decide, by decide⟩ rfl rfl (Nat.le_of_ble_eq_true rfl) dX9_readsTake_17 (fun _ M3 => ?_)
  refine k_aload_n X 0 dX9_readsTake_20 rfl rfl ?_
  refine k_iconst X (v := 0) dX9_readsTake_21 (by decide) ?_
  refine k_iconst X (v := 5) dX9_readsTake_22 (by decide) ?_
  refine k_callVI X [.int 0, .int 5] [] c_326 rfl (by decide) rfl (mt_Md_number (zl Z) E 0 5 M3) mRX9_143 ⟨by decide, by decide⟩ rfl rfl (Nat.le_of_ble_eq_true rfl) dX9_readsTake_23 (fun r4 M5 => ?_)
  refine k_istore_n X [(1, .int r4), (0, .ref (ad E 326))] dX9_readsTake_26 rfl (by decide) rfl ?_
  refine k_aload_n X 1 dX9_readsTake_27 rfl rfl ?_
  refine k_bipush X (v := 44) dX9_readsTake_28 (by decide) ?_
  refine k_callVV X [.int 44] [] c_326 rfl (by decide) rfl (mt_Md_sign (zl Z) E 44 M5) mRX9_147 ⟨by decide, by decide⟩ rfl rfl (Nat.le_of_ble_eq_true rfl) dX9_readsTake_30 (fun _ M7 => ?_)
  refine k_aload_n X 1 dX9_readsTake_33 rfl rfl ?_
  refine k_iconst X (v := 1) dX9_readsTake_34 (by decide) ?_
  refine k_bipush X (v := 60) dX9_readsTake_35 (by decide) ?_
  refine k_callVI X [.int 1, .int 60] [] c_326 rfl (by decide) rfl (mt_Md_number (zl Z) E 1 60 M7) mRX9_143 ⟨by decide, by decide⟩ rfl rfl (Nat.le_of_ble_eq_true rfl) dX9_readsTake_37 (fun r8 M9 => ?_)
  refine k_istore_n X [(2, .int r8), (1, .int r4), (0, .ref (ad E 326))] dX9_readsTake_40 rfl (by decide) rfl ?_
  refine k_aload_n X 2 dX9_readsTake_41 rfl rfl ?_
  refine k_bipush X (v := 59) dX9_readsTake_42 (by decide) ?_
  refine k_callVV X [.int 59] [] c_326 rfl (by decide) rfl (mt_Md_sign (zl Z) E 59 M9) mRX9_147 ⟨by decide, by decide⟩ rfl rfl (Nat.le_of_ble_eq_true rfl) dX9_readsTake_44 (fun _ M11 => ?_)
  refine k_aload_n X 2 dX9_readsTake_47 rfl rfl ?_
  refine k_getI X c_326 fRX9_124 dX9_readsTake_48 ?_
  refine k_if_ne X 101 dX9_readsTake_51 (by decide) ?_ ?_
  · exact k_vret X dX9_readsTake_101
  · refine k_bipush X (v := 41) dX9_readsTake_54 (by decide) ?_
    refine k_iconst X (v := 3) dX9_readsTake_56 (by decide) ?_
    refine k_aload_n X 2 dX9_readsTake_57 rfl rfl ?_
    refine k_getR X c_326 fRX9_13 r_326_1 dX9_readsTake_58 ?_
    refine k_iconst X (v := 5) dX9_readsTake_61 (by decide) ?_
    refine k_ialdC X 5 c_328 l_328 (by decide) (by decide) dX9_readsTake_62 ?_
    refine k_imul X dX9_readsTake_63 ?_
    refine k_iadd X dX9_readsTake_64 ?_
    refine x_istore_n X [(2, .int r8), (1, .int r4), (0, .ref (ad E 326))] dX9_readsTake_65 rfl (by decide) rfl (fun x13_ => ?_)
    refine k_aload_n X 3 dX9_readsTake_66 rfl rfl ?_
    refine k_getR X c_326 fRX9_13 r_326_1 dX9_readsTake_67 ?_
    refine k_iload_n X 0 dX9_readsTake_70 rfl rfl ?_
    refine k_iload_n X 2 dX9_readsTake_71 rfl rfl ?_
    refine k_iast X c_328 l_328 dX9_readsTake_72 (fun hb14 => ?_)
    refine k_sq (fun M15 => ?_)
    refine k_aload_n X 3 dX9_readsTake_73 rfl rfl ?_
    refine k_getR X c_326 fRX9_13 r_326_1 dX9_readsTake_74 ?_
    refine k_iload_n X 0 dX9_readsTake_77 rfl rfl ?_
    refine k_iconst X (v := 1) dX9_readsTake_78 (by decide) ?_
    refine k_iadd X dX9_readsTake_79 ?_
    refine k_iload_n X 1 dX9_readsTake_80 rfl rfl ?_
    refine k_iast X c_328 l_328 dX9_readsTake_81 (fun hb16 => ?_)
    refine k_sq (fun M17 => ?_)
    refine k_aload_n X 3 dX9_readsTake_82 rfl rfl ?_
    refine k_getR X c_326 fRX9_13 r_326_1 dX9_readsTake_83 ?_
    refine k_iload_n X 0 dX9_readsTake_86 rfl rfl ?_
    refine k_iconst X (v := 2) dX9_readsTake_87 (by decide) ?_
    refine k_iadd X dX9_readsTake_88 ?_
    refine k_iconst X (v := (-1)) dX9_readsTake_89 (by decide) ?_
    refine k_iast X c_328 l_328 dX9_readsTake_90 (fun hb18 => ?_)
    refine k_sq (fun M19 => ?_)
    refine k_aload_n X 3 dX9_readsTake_91 rfl rfl ?_
    refine k_getR X c_326 fRX9_13 r_326_1 dX9_readsTake_92 ?_
    refine k_iconst X (v := 5) dX9_readsTake_95 (by decide) ?_
    refine k_dup2 X dX9_readsTake_96 rfl rfl ?_
    refine k_ialdC X 5 c_328 l_328 (by decide) (by decide) dX9_readsTake_97 ?_
    refine k_iconst X (v := 1) dX9_readsTake_98 (by decide) ?_
    refine k_iadd X dX9_readsTake_99 ?_
    refine k_iastC X 5 c_328 l_328 (by decide) (by decide) dX9_readsTake_100 ?_
    refine k_sq (fun M22 => ?_)
    exact k_vret X dX9_readsTake_101
theorem kw_Md_readsTake {Z : ZT} {E : En} (X : Cx Z E 4 cX9_readsTake RX9 none 4 89) (M : Mem) : Kj Z E 4 (QV Z E) (j_Md_readsTake M) M 0 [(0, .ref (ad E 326))] [] := by
  unfold j_Md_readsTake
  refine k_aload_n X 0 dX9_readsTake_0 rfl rfl ?_
  refine k_getR X c_326 fRX9_13 r_326_1 dX9_readsTake_1 ?_
  refine k_iconst X (v := 5) dX9_readsTake_4 (by decide) ?_
  refine k_ialdC X 5 c_328 l_328 (by decide) (by decide) dX9_readsTake_5 ?_
  refine k_bipush X (v := 8) dX9_readsTake_6 (by decide) ?_
  refine k_icmp_ne X 16 dX9_readsTake_8 (by decide) ?_ ?_
  · refine k_lv [0] rfl ?_
    exact kb_Md_readsTake_b16 X  M
  · refine k_aload_n X 0 dX9_readsTake_11 rfl rfl ?_
    refine k_iconst X (v := 3) dX9_readsTake_12 (by decide) ?_
    refine k_callVV X [.int 3] [] c_326 rfl (by decide) rfl (mt_Md_bad (zl Z) E 3 M) mRX9_133 ⟨by decide, by decide⟩ rfl rfl (Nat.le_of_ble_eq_true rfl) dX9_readsTake_13 (fun _ M24 => ?_)
    refine k_lv [0] rfl ?_
    exact kb_Md_readsTake_b16 X  M24
theorem mt_Md_readsTake (l : Launch) (E : En) (M : Mem) : MV l E yX9_readsTake cX9_readsTake 4 none 4 89 [.ref (ad E 326)] M (j_Md_readsTake M) := MV_of (by decide) (Nat.le_of_ble_eq_true rfl) (fun Z _ X => k_lv [0] rfl (kw_Md_readsTake X M))
-- FilmCansModel.feed
theorem kw_Md_feed {Z : ZT} {E : En} (X : Cx Z E 2 cX9_feed RX9 (some .int) 1 25) (x1 : Int32) (M : Mem) : Kj Z E 2 (QI Z E) (j_Md_feed x1 M) M 0 [(0, .ref (ad E 326)), (1, .int x1)] [] := by
  unfold j_Md_feed
  refine k_iload_n X 1 dX9_feed_0 rfl rfl ?_
  refine k_i2l X dX9_feed_1 ?_
  refine k_lconst X (v := 0) dX9_feed_2 (by decide) ?_
  refine k_ldc2 X w_1012 dX9_feed_3 ?_
  refine k_callSI X [.long (Int32.toInt64 x1), .long 0, .long 255] [] (mt_Md_in (zl Z) E (Int32.toInt64 x1) 0 255 M) mRX9_47 ⟨by decide, by decide⟩ rfl rfl (Nat.le_of_ble_eq_true rfl) dX9_feed_6 (fun r1 M2 => ?_)
  refine k_if_ne X 15 dX9_feed_9 (by decide) ?_ ?_
  · refine k_aload_n X 0 dX9_feed_15 rfl rfl ?_
    refine k_getI X c_326 fRX9_97 dX9_feed_16 ?_
    refine k_bipush X (v := 110) dX9_feed_19 (by decide) ?_
    refine k_icmp_ne X 27 dX9_feed_21 (by decide) ?_ ?_
    · refine k_aload_n X 0 dX9_feed_27 rfl rfl ?_
      refine k_getR X c_326 fRX9_26 r_326_6 dX9_feed_28 ?_
      refine k_aload_n X 0 dX9_feed_31 rfl rfl ?_
      refine k_getI X c_326 fRX9_97 dX9_feed_32 ?_
      refine k_iload_n X 1 dX9_feed_35 rfl rfl ?_
      refine k_iast X c_332 l_332 dX9_feed_36 (fun hb3 => ?_)
      refine k_sq (fun M4 => ?_)
      refine k_aload_n X 0 dX9_feed_37 rfl rfl ?_
      refine k_dup X dX9_feed_38 rfl ?_
      refine k_getI X c_326 fRX9_97 dX9_feed_39 ?_
      refine k_iconst X (v := 1) dX9_feed_42 (by decide) ?_
      refine k_iadd X dX9_feed_43 ?_
      refine k_putI X c_326 fRX9_97 dX9_feed_44 ?_
      refine k_sq (fun M5 => ?_)
      refine k_aload_n X 0 dX9_feed_47 rfl rfl ?_
      refine k_getI X c_326 fRX9_97 dX9_feed_48 ?_
      exact k_iret X dX9_feed_51
    · refine k_ldc X w_1017 dX9_feed_24 ?_
      exact k_iret X dX9_feed_26
  · refine k_ldc X w_1016 dX9_feed_12 ?_
    exact k_iret X dX9_feed_14
theorem mt_Md_feed (l : Launch) (E : En) (x1 : Int32) (M : Mem) : MI l E yX9_feed cX9_feed 2 (some .int) 1 25 [.ref (ad E 326), .int x1] M (j_Md_feed x1 M) := MI_of (by decide) (Nat.le_of_ble_eq_true rfl) (fun Z _ X => k_lv [0, 1] rfl (kw_Md_feed X x1 M))
-- FilmCansModel.book
theorem kb_Md_book_b195 {Z : ZT} {E : En} (X : Cx Z E 2 cX9_book RX9 (some .int) 5 112) (M : Mem) : Kj Z E 2 (QI Z E) (Md_book_b195 M) M 195 [(0, .ref (ad E 326))] [] := by
  unfold Md_book_b195
  refine k_aload_n X 0 dX9_book_195 rfl rfl ?_
  refine k_iconst X (v := 0) dX9_book_196 (by decide) ?_
  refine k_putI X c_326 fRX9_97 dX9_book_197 ?_
  refine k_sq (fun M38 => ?_)
  refine k_aload_n X 0 dX9_book_200 rfl rfl ?_
  refine k_getI X c_326 fRX9_124 dX9_book_201 ?_
  refine k_if_le X 223 dX9_book_204 (by decide) ?_ ?_
  · refine k_aload_n X 0 dX9_book_223 rfl rfl ?_
    refine k_getR X c_326 fRX9_13 r_326_1 dX9_book_224 ?_
    refine k_iconst X (v := 0) dX9_book_227 (by decide) ?_
    refine k_aload_n X 0 dX9_book_228 rfl rfl ?_
    refine k_getR X c_326 fRX9_7 r_326_0 dX9_book_229 ?_
    refine k_iconst X (v := 0) dX9_book_232 (by decide) ?_
    refine k_callSV X [.ref (ad E 328), .int 0, .ref (ad E 327), .int 0] [] (mt_Md_copies (zl Z) E 328 0 327 0 c_328 c_327 M38) mRX9_175 ⟨by decide, by decide⟩ rfl rfl (Nat.le_of_ble_eq_true rfl) dX9_book_233 (fun _ M40 => ?_)
    refine k_aload_n X 0 dX9_book_236 rfl rfl ?_
    refine k_iconst X (v := 0) dX9_book_237 (by decide) ?_
    refine k_putI X c_326 fRX9_179 dX9_book_238 ?_
    refine k_sq (fun M41 => ?_)
    refine k_aload_n X 0 dX9_book_241 rfl rfl ?_
    refine k_getR X c_326 fRX9_7 r_326_0 dX9_book_242 ?_
    refine k_iconst X (v := 4) dX9_book_245 (by decide) ?_
    refine k_ialdC X 4 c_327 l_327 (by decide) (by decide) dX9_book_246 ?_
    exact k_iret X dX9_book_247
  · refine k_aload_n X 0 dX9_book_207 rfl rfl ?_
    refine k_aload_n X 0 dX9_book_208 rfl rfl ?_
    refine k_getI X c_326 fRX9_124 dX9_book_209 ?_
    refine k_putI X c_326 fRX9_171 dX9_book_212 ?_
    refine k_sq (fun M43 => ?_)
    refine k_ldc X w_1072 dX9_book_215 ?_
    refine k_aload_n X 0 dX9_book_217 rfl rfl ?_
    refine k_getI X c_326 fRX9_127 dX9_book_218 ?_
    refine k_isub X dX9_book_221 ?_
    exact k_iret X dX9_book_222
theorem kb_Md_book_b183 {Z : ZT} {E : En} (X : Cx Z E 2 cX9_book RX9 (some .int) 5 112) (M : Mem) : Kj Z E 2 (QI Z E) (Md_book_b183 M) M 183 [(0, .ref (ad E 326))] [] := by
  unfold Md_book_b183
  refine k_aload_n X 0 dX9_book_183 rfl rfl ?_
  refine k_getI X c_326 fRX9_121 dX9_book_184 ?_
  refine k_if_eq X 195 dX9_book_187 (by decide) ?_ ?_
  · refine k_lv [0] rfl ?_
    exact kb_Md_book_b195 X  M
  · refine k_aload_n X 0 dX9_book_190 rfl rfl ?_
    refine k_iconst X (v := 1) dX9_book_191 (by decide) ?_
    refine k_callVV X [.int 1] [] c_326 rfl (by decide) rfl (mt_Md_bad (zl Z) E 1 M) mRX9_133 ⟨by decide, by decide⟩ rfl rfl (Nat.le_of_ble_eq_true rfl) dX9_book_192 (fun _ M45 => ?_)
    refine k_lv [0] rfl ?_
    exact kb_Md_book_b195 X  M45
theorem kb_Md_book_h152 {Z : ZT} {E : En} (X : Cx Z E 2 cX9_book RX9 (some .int) 5 112)  : ∀ (n : Nat) (M : Mem), Kj Z E 2 (QI Z E) (Md_book_h152  n M) M 152 [(0, .ref (ad E 326))] [] := by
  intro n
  induction n with
  | zero => intro M; exact k_none
  | succ n ih =>
    intro M
    rw [Md_book_h152]
    refine k_aload_n X 0 dX9_book_152 rfl rfl ?_
    refine k_getI X c_326 fRX9_124 dX9_book_153 ?_
    refine k_if_ne X 183 dX9_book_156 (by decide) ?_ ?_
    · refine k_lv [0] rfl ?_
      exact kb_Md_book_b183 X  M
    · refine k_aload_n X 0 dX9_book_159 rfl rfl ?_
      refine k_getI X c_326 fRX9_121 dX9_book_160 ?_
      refine k_iconst X (v := 1) dX9_book_163 (by decide) ?_
      refine k_icmp_ne X 183 dX9_book_164 (by decide) ?_ ?_
      · refine k_lv [0] rfl ?_
        exact kb_Md_book_b183 X  M
      · refine k_aload_n X 0 dX9_book_167 rfl rfl ?_
        refine k_getI X c_326 fRX9_110 dX9_book_168 ?_
        refine k_bipush X (v := 116) dX9_book_171 (by decide) ?_
        refine k_icmp_ne X 183 dX9_book_173 (by decide) ?_ ?_
        · refine k_lv [0] rfl ?_
          exact kb_Md_book_b183 X  M
        · refine k_aload_n X 0 dX9_book_176 rfl rfl ?_
          refine k_callVV X [] [] c_326 rfl (by decide) rfl (mt_Md_readsTake (zl Z) E  M) mRX9_168 ⟨by decide, by decide⟩ rfl rfl (Nat.le_of_ble_eq_true rfl) dX9_book_177 (fun _ M47 => ?_)
          refine k_goto X 152 dX9_book_180 (by decide) ?_
          refine k_lv [0] rfl ?_
          exact ih M47
theorem kb_Md_book_h138 {Z : ZT} {E : En} (X : Cx Z E 2 cX9_book RX9 (some .int) 5 112)  : ∀ (n : Nat) (M : Mem), Kj Z E 2 (QI Z E) (Md_book_h138  n M) M 138 [(0, .ref (ad E 326))] [] := by
  intro n
  induction n with
  | zero => intro M; exact k_none
  | succ n ih =>
    intro M
    rw [Md_book_h138]
    refine k_aload_n X 0 dX9_book_138 rfl rfl ?_
    refine k_callVI X [] [] c_326 rfl (by decide) rfl (mt_Md_isCanTold (zl Z) E  M) mRX9_161 ⟨by decide, by decide⟩ rfl rfl (Nat.le_of_ble_eq_true rfl) dX9_book_139 (fun r36 M37 => ?_)
    refine k_if_eq X 152 dX9_book_142 (by decide) ?_ ?_
    · refine k_lv [0] rfl ?_
      exact kb_Md_book_h152 X  FU M37
    · refine k_aload_n X 0 dX9_book_145 rfl rfl ?_
      refine k_callVV X [] [] c_326 rfl (by decide) rfl (mt_Md_readsCan (zl Z) E  M37) mRX9_165 ⟨by decide, by decide⟩ rfl rfl (Nat.le_of_ble_eq_true rfl) dX9_book_146 (fun _ M49 => ?_)
      refine k_goto X 138 dX9_book_149 (by decide) ?_
      refine k_lv [0] rfl ?_
      exact ih M49
theorem kb_Md_book_h2 {Z : ZT} {E : En} (X : Cx Z E 2 cX9_book RX9 (some .int) 5 112)  : ∀ (n : Nat) (x1 : Int32) (M : Mem), Kj Z E 2 (QI Z E) (Md_book_h2  n x1 M) M 2 [(0, .ref (ad E 326)), (1, .int x1)] [] := by
  intro n
  induction n with
  | zero => intro x1 M; exact k_none
  | succ n ih =>
    intro x1 M
    rw [Md_book_h2]
    refine k_iload_n X 1 dX9_book_2 rfl rfl ?_
    refine k_bipush X (v := 89) dX9_book_3 (by decide) ?_
    refine k_icmp_ge X 21 dX9_book_5 (by decide) ?_ ?_
    · refine k_aload_n X 0 dX9_book_21 rfl rfl ?_
      refine k_getR X c_326 fRX9_13 r_326_1 dX9_book_22 ?_
      refine k_bipush X (v := 11) dX9_book_25 (by decide) ?_
      refine k_iconst X (v := (-1)) dX9_book_27 (by decide) ?_
      refine k_iastC X 11 c_328 l_328 (by decide) (by decide) dX9_book_28 ?_
      refine k_sq (fun M3 => ?_)
      refine k_aload_n X 0 dX9_book_29 rfl rfl ?_
      refine k_iconst X (v := 0) dX9_book_30 (by decide) ?_
      refine k_putI X c_326 fRX9_101 dX9_book_31 ?_
      refine k_sq (fun M4 => ?_)
      refine k_aload_n X 0 dX9_book_34 rfl rfl ?_
      refine k_iconst X (v := 0) dX9_book_35 (by decide) ?_
      refine k_putI X c_326 fRX9_124 dX9_book_36 ?_
      refine k_sq (fun M5 => ?_)
      refine k_aload_n X 0 dX9_book_39 rfl rfl ?_
      refine k_callVV X [] [] c_326 rfl (by decide) rfl (mt_Md_next (zl Z) E  M5) mRX9_130 ⟨by decide, by decide⟩ rfl rfl (Nat.le_of_ble_eq_true rfl) dX9_book_40 (fun _ M7 => ?_)
      refine k_aload_n X 0 dX9_book_43 rfl rfl ?_
      refine k_bipush X (v := 104) dX9_book_44 (by decide) ?_
      refine k_callVV X [.int 104] [] c_326 rfl (by decide) rfl (mt_Md_letter (zl Z) E 104 M7) mRX9_158 ⟨by decide, by decide⟩ rfl rfl (Nat.le_of_ble_eq_true rfl) dX9_book_46 (fun _ M9 => ?_)
      refine k_aload_n X 0 dX9_book_49 rfl rfl ?_
      refine k_getR X c_326 fRX9_13 r_326_1 dX9_book_50 ?_
      refine k_iconst X (v := 0) dX9_book_53 (by decide) ?_
      refine k_aload_n X 0 dX9_book_54 rfl rfl ?_
      refine k_iconst X (v := 0) dX9_book_55 (by decide) ?_
      refine k_bipush X (v := 9) dX9_book_56 (by decide) ?_
      refine k_callVI X [.int 0, .int 9] [.int 0, .ref (ad E 328)] c_326 rfl (by decide) rfl (mt_Md_number (zl Z) E 0 9 M9) mRX9_143 ⟨by decide, by decide⟩ rfl rfl (Nat.le_of_ble_eq_true rfl) dX9_book_58 (fun r10 M11 => ?_)
      refine k_iastC X 0 c_328 l_328 (by decide) (by decide) dX9_book_61 ?_
      refine k_sq (fun M13 => ?_)
      refine k_aload_n X 0 dX9_book_62 rfl rfl ?_
      refine k_bipush X (v := 44) dX9_book_63 (by decide) ?_
      refine k_callVV X [.int 44] [] c_326 rfl (by decide) rfl (mt_Md_sign (zl Z) E 44 M13) mRX9_147 ⟨by decide, by decide⟩ rfl rfl (Nat.le_of_ble_eq_true rfl) dX9_book_65 (fun _ M15 => ?_)
      refine k_aload_n X 0 dX9_book_68 rfl rfl ?_
      refine k_getR X c_326 fRX9_13 r_326_1 dX9_book_69 ?_
      refine k_iconst X (v := 1) dX9_book_72 (by decide) ?_
      refine k_aload_n X 0 dX9_book_73 rfl rfl ?_
      refine k_iconst X (v := 1) dX9_book_74 (by decide) ?_
      refine k_bipush X (v := 40) dX9_book_75 (by decide) ?_
      refine k_callVI X [.int 1, .int 40] [.int 1, .ref (ad E 328)] c_326 rfl (by decide) rfl (mt_Md_number (zl Z) E 1 40 M15) mRX9_143 ⟨by decide, by decide⟩ rfl rfl (Nat.le_of_ble_eq_true rfl) dX9_book_77 (fun r16 M17 => ?_)
      refine k_iastC X 1 c_328 l_328 (by decide) (by decide) dX9_book_80 ?_
      refine k_sq (fun M19 => ?_)
      refine k_aload_n X 0 dX9_book_81 rfl rfl ?_
      refine k_bipush X (v := 44) dX9_book_82 (by decide) ?_
      refine k_callVV X [.int 44] [] c_326 rfl (by decide) rfl (mt_Md_sign (zl Z) E 44 M19) mRX9_147 ⟨by decide, by decide⟩ rfl rfl (Nat.le_of_ble_eq_true rfl) dX9_book_84 (fun _ M21 => ?_)
      refine k_aload_n X 0 dX9_book_87 rfl rfl ?_
      refine k_getR X c_326 fRX9_13 r_326_1 dX9_book_88 ?_
      refine k_iconst X (v := 2) dX9_book_91 (by decide) ?_
      refine k_aload_n X 0 dX9_book_92 rfl rfl ?_
      refine k_bipush X (v := 10) dX9_book_93 (by decide) ?_
      refine k_bipush X (v := 99) dX9_book_95 (by decide) ?_
      refine k_callVI X [.int 10, .int 99] [.int 2, .ref (ad E 328)] c_326 rfl (by decide) rfl (mt_Md_number (zl Z) E 10 99 M21) mRX9_143 ⟨by decide, by decide⟩ rfl rfl (Nat.le_of_ble_eq_true rfl) dX9_book_97 (fun r22 M23 => ?_)
      refine k_iastC X 2 c_328 l_328 (by decide) (by decide) dX9_book_100 ?_
      refine k_sq (fun M25 => ?_)
      refine k_aload_n X 0 dX9_book_101 rfl rfl ?_
      refine k_bipush X (v := 44) dX9_book_102 (by decide) ?_
      refine k_callVV X [.int 44] [] c_326 rfl (by decide) rfl (mt_Md_sign (zl Z) E 44 M25) mRX9_147 ⟨by decide, by decide⟩ rfl rfl (Nat.le_of_ble_eq_true rfl) dX9_book_104 (fun _ M27 => ?_)
      refine k_aload_n X 0 dX9_book_107 rfl rfl ?_
      refine k_getR X c_326 fRX9_13 r_326_1 dX9_book_108 ?_
      refine k_iconst X (v := 3) dX9_book_111 (by decide) ?_
      refine k_aload_n X 0 dX9_book_112 rfl rfl ?_
      refine k_iconst X (v := 0) dX9_book_113 (by decide) ?_
      refine k_bipush X (v := 20) dX9_book_114 (by decide) ?_
      refine k_callVI X [.int 0, .int 20] [.int 3, .ref (ad E 328)] c_326 rfl (by decide) rfl (mt_Md_number (zl Z) E 0 20 M27) mRX9_143 ⟨by decide, by decide⟩ rfl rfl (Nat.le_of_ble_eq_true rfl) dX9_book_116 (fun r28 M29 => ?_)
      refine k_iastC X 3 c_328 l_328 (by decide) (by decide) dX9_book_119 ?_
      refine k_sq (fun M31 => ?_)
      refine k_aload_n X 0 dX9_book_120 rfl rfl ?_
      refine k_bipush X (v := 59) dX9_book_121 (by decide) ?_
      refine k_callVV X [.int 59] [] c_326 rfl (by decide) rfl (mt_Md_sign (zl Z) E 59 M31) mRX9_147 ⟨by decide, by decide⟩ rfl rfl (Nat.le_of_ble_eq_true rfl) dX9_book_123 (fun _ M33 => ?_)
      refine k_aload_n X 0 dX9_book_126 rfl rfl ?_
      refine k_callVI X [] [] c_326 rfl (by decide) rfl (mt_Md_isCanTold (zl Z) E  M33) mRX9_161 ⟨by decide, by decide⟩ rfl rfl (Nat.le_of_ble_eq_true rfl) dX9_book_127 (fun r34 M35 => ?_)
      refine k_if_ne X 138 dX9_book_130 (by decide) ?_ ?_
      · refine k_lv [0] rfl ?_
        exact kb_Md_book_h138 X  FU M35
      · refine k_aload_n X 0 dX9_book_133 rfl rfl ?_
        refine k_iconst X (v := 1) dX9_book_134 (by decide) ?_
        refine k_callVV X [.int 1] [] c_326 rfl (by decide) rfl (mt_Md_bad (zl Z) E 1 M35) mRX9_133 ⟨by decide, by decide⟩ rfl rfl (Nat.le_of_ble_eq_true rfl) dX9_book_135 (fun _ M51 => ?_)
        refine k_lv [0] rfl ?_
        exact kb_Md_book_h138 X  FU M51
    · refine k_aload_n X 0 dX9_book_8 rfl rfl ?_
      refine k_getR X c_326 fRX9_13 r_326_1 dX9_book_9 ?_
      refine k_iload_n X 1 dX9_book_12 rfl rfl ?_
      refine k_iconst X (v := 0) dX9_book_13 (by decide) ?_
      refine k_iast X c_328 l_328 dX9_book_14 (fun hb52 => ?_)
      refine k_sq (fun M53 => ?_)
      refine x_iinc X 1 1 [(0, .ref (ad E 326))] dX9_book_15 rfl (by decide) (by decide) rfl (fun x54_ => ?_)
      refine k_goto X 2 dX9_book_18 (by decide) ?_
      refine k_lv [1, 0] rfl ?_
      exact ih x54_ M53
theorem kw_Md_book {Z : ZT} {E : En} (X : Cx Z E 2 cX9_book RX9 (some .int) 5 112) (M : Mem) : Kj Z E 2 (QI Z E) (j_Md_book M) M 0 [(0, .ref (ad E 326))] [] := by
  unfold j_Md_book
  refine k_iconst X (v := 0) dX9_book_0 (by decide) ?_
  refine x_istore_n X [(0, .ref (ad E 326))] dX9_book_1 rfl (by decide) rfl (fun x1_ => ?_)
  refine k_lv [1, 0] rfl ?_
  exact kb_Md_book_h2 X  FU x1_ M
theorem mt_Md_book (l : Launch) (E : En) (M : Mem) : MI l E yX9_book cX9_book 2 (some .int) 5 112 [.ref (ad E 326)] M (j_Md_book M) := MI_of (by decide) (Nat.le_of_ble_eq_true rfl) (fun Z _ X => k_lv [0] rfl (kw_Md_book X M))
-- FilmCansModel.fault
theorem kw_Md_fault {Z : ZT} {E : En} (X : Cx Z E 1 cX9_fault RX9 (some .int) 0 0) (M : Mem) : Kj Z E 1 (QI Z E) (j_Md_fault M) M 0 [(0, .ref (ad E 326))] [] := by
  unfold j_Md_fault
  refine k_aload_n X 0 dX9_fault_0 rfl rfl ?_
  refine k_getI X c_326 fRX9_171 dX9_fault_1 ?_
  exact k_iret X dX9_fault_4
theorem mt_Md_fault (l : Launch) (E : En) (M : Mem) : MI l E yX9_fault cX9_fault 1 (some .int) 0 0 [.ref (ad E 326)] M (j_Md_fault M) := MI_of (by decide) (Nat.le_of_ble_eq_true rfl) (fun Z _ X => k_lv [0] rfl (kw_Md_fault X M))
-- FilmCansModel.notes
theorem kb_Md_notes_b49 {Z : ZT} {E : En} (X : Cx Z E 2 cX9_notes RX9 none 1 24) (M : Mem) : Kj Z E 2 (QV Z E) (Md_notes_b49 M) M 49 [(0, .ref (ad E 326))] [] := by
  unfold Md_notes_b49
  refine k_aload_n X 0 dX9_notes_49 rfl rfl ?_
  refine k_getR X c_326 fRX9_7 r_326_0 dX9_notes_50 ?_
  refine k_iconst X (v := 0) dX9_notes_53 (by decide) ?_
  refine k_aload_n X 0 dX9_notes_54 rfl rfl ?_
  refine k_getR X c_326 fRX9_16 r_326_2 dX9_notes_55 ?_
  refine k_bipush X (v := 89) dX9_notes_58 (by decide) ?_
  refine k_aload_n X 0 dX9_notes_60 rfl rfl ?_
  refine k_getI X c_326 fRX9_179 dX9_notes_61 ?_
  refine k_imul X dX9_notes_64 ?_
  refine k_callSV X [.ref (ad E 327), .int 0, .ref (ad E 329), .int ((89 : Int32) * (gi M 326 3))] [] (mt_Md_copies (zl Z) E 327 0 329 ((89 : Int32) * (gi M 326 3)) c_327 c_329 M) mRX9_175 ⟨by decide, by decide⟩ rfl rfl (Nat.le_of_ble_eq_true rfl) dX9_notes_65 (fun _ M2 => ?_)
  refine k_aload_n X 0 dX9_notes_68 rfl rfl ?_
  refine k_dup X dX9_notes_69 rfl ?_
  refine k_getI X c_326 fRX9_179 dX9_notes_70 ?_
  refine k_iconst X (v := 1) dX9_notes_73 (by decide) ?_
  refine k_iadd X dX9_notes_74 ?_
  refine k_putI X c_326 fRX9_179 dX9_notes_75 ?_
  refine k_sq (fun M3 => ?_)
  exact k_vret X dX9_notes_78
theorem kb_Md_notes_h11 {Z : ZT} {E : En} (X : Cx Z E 2 cX9_notes RX9 none 1 24)  : ∀ (n : Nat) (x1 : Int32) (M : Mem), Kj Z E 2 (QV Z E) (Md_notes_h11  n x1 M) M 11 [(0, .ref (ad E 326)), (1, .int x1)] [] := by
  intro n
  induction n with
  | zero => intro x1 M; exact k_none
  | succ n ih =>
    intro x1 M
    rw [Md_notes_h11]
    refine k_iload_n X 1 dX9_notes_11 rfl rfl ?_
    refine k_sipush X (v := 1691) dX9_notes_12 (by decide) ?_
    refine k_icmp_ge X 39 dX9_notes_15 (by decide) ?_ ?_
    · refine k_aload_n X 0 dX9_notes_39 rfl rfl ?_
      refine k_dup X dX9_notes_40 rfl ?_
      refine k_getI X c_326 fRX9_179 dX9_notes_41 ?_
      refine k_iconst X (v := 1) dX9_notes_44 (by decide) ?_
      refine k_isub X dX9_notes_45 ?_
      refine k_putI X c_326 fRX9_179 dX9_notes_46 ?_
      refine k_sq (fun M5 => ?_)
      refine k_lv [0] rfl ?_
      exact kb_Md_notes_b49 X  M5
    · refine k_aload_n X 0 dX9_notes_18 rfl rfl ?_
      refine k_getR X c_326 fRX9_16 r_326_2 dX9_notes_19 ?_
      refine k_iload_n X 1 dX9_notes_22 rfl rfl ?_
      refine k_aload_n X 0 dX9_notes_23 rfl rfl ?_
      refine k_getR X c_326 fRX9_16 r_326_2 dX9_notes_24 ?_
      refine k_iload_n X 1 dX9_notes_27 rfl rfl ?_
      refine k_bipush X (v := 89) dX9_notes_28 (by decide) ?_
      refine k_iadd X dX9_notes_30 ?_
      refine k_iald X c_329 l_329 dX9_notes_31 (fun hb6 => ?_)
      refine k_iast X c_329 l_329 dX9_notes_32 (fun hb7 => ?_)
      refine k_sq (fun M8 => ?_)
      refine x_iinc X 1 1 [(0, .ref (ad E 326))] dX9_notes_33 rfl (by decide) (by decide) rfl (fun x9_ => ?_)
      refine k_goto X 11 dX9_notes_36 (by decide) ?_
      refine k_lv [1, 0] rfl ?_
      exact ih x9_ M8
theorem kw_Md_notes {Z : ZT} {E : En} (X : Cx Z E 2 cX9_notes RX9 none 1 24) (M : Mem) : Kj Z E 2 (QV Z E) (j_Md_notes M) M 0 [(0, .ref (ad E 326))] [] := by
  unfold j_Md_notes
  refine k_aload_n X 0 dX9_notes_0 rfl rfl ?_
  refine k_getI X c_326 fRX9_179 dX9_notes_1 ?_
  refine k_bipush X (v := 20) dX9_notes_4 (by decide) ?_
  refine k_icmp_ne X 49 dX9_notes_6 (by decide) ?_ ?_
  · refine k_lv [0] rfl ?_
    exact kb_Md_notes_b49 X  M
  · refine k_iconst X (v := 0) dX9_notes_9 (by decide) ?_
    refine x_istore_n X [(0, .ref (ad E 326))] dX9_notes_10 rfl (by decide) rfl (fun x4_ => ?_)
    refine k_lv [1, 0] rfl ?_
    exact kb_Md_notes_h11 X  FU x4_ M
theorem mt_Md_notes (l : Launch) (E : En) (M : Mem) : MV l E yX9_notes cX9_notes 2 none 1 24 [.ref (ad E 326)] M (j_Md_notes M) := MV_of (by decide) (Nat.le_of_ble_eq_true rfl) (fun Z _ X => k_lv [0] rfl (kw_Md_notes X M))
-- FilmCansModel.undo
theorem kw_Md_undo {Z : ZT} {E : En} (X : Cx Z E 1 cX9_undo RX9 (some .int) 1 24) (M : Mem) : Kj Z E 1 (QI Z E) (j_Md_undo M) M 0 [(0, .ref (ad E 326))] [] := by
  unfold j_Md_undo
  refine k_aload_n X 0 dX9_undo_0 rfl rfl ?_
  refine k_getI X c_326 fRX9_179 dX9_undo_1 ?_
  refine k_if_ne X 10 dX9_undo_4 (by decide) ?_ ?_
  · refine k_aload_n X 0 dX9_undo_10 rfl rfl ?_
    refine k_dup X dX9_undo_11 rfl ?_
    refine k_getI X c_326 fRX9_179 dX9_undo_12 ?_
    refine k_iconst X (v := 1) dX9_undo_15 (by decide) ?_
    refine k_isub X dX9_undo_16 ?_
    refine k_putI X c_326 fRX9_179 dX9_undo_17 ?_
    refine k_sq (fun M1 => ?_)
    refine k_aload_n X 0 dX9_undo_20 rfl rfl ?_
    refine k_getR X c_326 fRX9_16 r_326_2 dX9_undo_21 ?_
    refine k_bipush X (v := 89) dX9_undo_24 (by decide) ?_
    refine k_aload_n X 0 dX9_undo_26 rfl rfl ?_
    refine k_getI X c_326 fRX9_179 dX9_undo_27 ?_
    refine k_imul X dX9_undo_30 ?_
    refine k_aload_n X 0 dX9_undo_31 rfl rfl ?_
    refine k_getR X c_326 fRX9_7 r_326_0 dX9_undo_32 ?_
    refine k_iconst X (v := 0) dX9_undo_35 (by decide) ?_
    refine k_callSV X [.ref (ad E 329), .int ((89 : Int32) * (gi M1 326 3)), .ref (ad E 327), .int 0] [] (mt_Md_copies (zl Z) E 329 ((89 : Int32) * (gi M1 326 3)) 327 0 c_329 c_327 M1) mRX9_175 ⟨by decide, by decide⟩ rfl rfl (Nat.le_of_ble_eq_true rfl) dX9_undo_36 (fun _ M3 => ?_)
    refine k_aload_n X 0 dX9_undo_39 rfl rfl ?_
    refine k_getI X c_326 fRX9_179 dX9_undo_40 ?_
    exact k_iret X dX9_undo_43
  · refine k_ldc X w_1084 dX9_undo_7 ?_
    exact k_iret X dX9_undo_9
theorem mt_Md_undo (l : Launch) (E : En) (M : Mem) : MI l E yX9_undo cX9_undo 1 (some .int) 1 24 [.ref (ad E 326)] M (j_Md_undo M) := MI_of (by decide) (Nat.le_of_ble_eq_true rfl) (fun Z _ X => k_lv [0] rfl (kw_Md_undo X M))
-- FilmCansModel.load
theorem kw_Md_load {Z : ZT} {E : En} (X : Cx Z E 3 cX9_load RX9 (some .int) 2 46) (x1 : Int32) (M : Mem) : Kj Z E 3 (QI Z E) (j_Md_load x1 M) M 0 [(0, .ref (ad E 326)), (1, .int x1)] [] := by
  unfold j_Md_load
  refine k_aload_n X 0 dX9_load_0 rfl rfl ?_
  refine k_iload_n X 1 dX9_load_1 rfl rfl ?_
  refine k_callVI X [.int x1] [] c_326 rfl (by decide) rfl (mt_Md_isCan (zl Z) E x1 M) mRX9_183 ⟨by decide, by decide⟩ rfl rfl (Nat.le_of_ble_eq_true rfl) dX9_load_2 (fun r1 M2 => ?_)
  refine k_if_ne X 11 dX9_load_5 (by decide) ?_ ?_
  · refine k_aload_n X 0 dX9_load_11 rfl rfl ?_
    refine k_getR X c_326 fRX9_7 r_326_0 dX9_load_12 ?_
    refine k_bipush X (v := 11) dX9_load_15 (by decide) ?_
    refine k_ialdC X 11 c_327 l_327 (by decide) (by decide) dX9_load_17 ?_
    refine k_if_ge X 51 dX9_load_18 (by decide) ?_ ?_
    · refine k_ldc X w_1084 dX9_load_51 ?_
      exact k_iret X dX9_load_53
    · refine k_aload_n X 0 dX9_load_21 rfl rfl ?_
      refine k_getR X c_326 fRX9_7 r_326_0 dX9_load_22 ?_
      refine k_iload_n X 1 dX9_load_25 rfl rfl ?_
      refine k_callSI X [.ref (ad E 327), .int x1] [] (mt_Md_where (zl Z) E 327 x1 c_327 l_327 M2) mRX9_63 ⟨by decide, by decide⟩ rfl rfl (Nat.le_of_ble_eq_true rfl) dX9_load_26 (fun r4 M5 => ?_)
      refine k_if_ne X 51 dX9_load_29 (by decide) ?_ ?_
      · refine k_ldc X w_1084 dX9_load_51 ?_
        exact k_iret X dX9_load_53
      · refine k_aload_n X 0 dX9_load_32 rfl rfl ?_
        refine k_getR X c_326 fRX9_7 r_326_0 dX9_load_33 ?_
        refine k_iload_n X 1 dX9_load_36 rfl rfl ?_
        refine k_callSI X [.ref (ad E 327), .int x1] [] (mt_Md_feet (zl Z) E 327 x1 c_327 l_327 M5) mRX9_70 ⟨by decide, by decide⟩ rfl rfl (Nat.le_of_ble_eq_true rfl) dX9_load_37 (fun r6 M7 => ?_)
        refine k_aload_n X 0 dX9_load_40 rfl rfl ?_
        refine k_getR X c_326 fRX9_7 r_326_0 dX9_load_41 ?_
        refine k_iload_n X 1 dX9_load_44 rfl rfl ?_
        refine k_callSI X [.ref (ad E 327), .int x1] [.int r6] (mt_Md_lead (zl Z) E 327 x1 c_327 l_327 M7) mRX9_73 ⟨by decide, by decide⟩ rfl rfl (Nat.le_of_ble_eq_true rfl) dX9_load_45 (fun r8 M9 => ?_)
        refine k_icmp_ge X 54 dX9_load_48 (by decide) ?_ ?_
        · refine k_aload_n X 0 dX9_load_54 rfl rfl ?_
          refine k_callVV X [] [] c_326 rfl (by decide) rfl (mt_Md_notes (zl Z) E  M9) mRX9_187 ⟨by decide, by decide⟩ rfl rfl (Nat.le_of_ble_eq_true rfl) dX9_load_55 (fun _ M11 => ?_)
          refine k_aload_n X 0 dX9_load_58 rfl rfl ?_
          refine k_getR X c_326 fRX9_7 r_326_0 dX9_load_59 ?_
          refine k_iload_n X 1 dX9_load_62 rfl rfl ?_
          refine k_callSI X [.ref (ad E 327), .int x1] [] (mt_Md_lead (zl Z) E 327 x1 c_327 l_327 M11) mRX9_73 ⟨by decide, by decide⟩ rfl rfl (Nat.le_of_ble_eq_true rfl) dX9_load_63 (fun r12 M13 => ?_)
          refine k_istore_n X [(2, .int r12), (0, .ref (ad E 326)), (1, .int x1)] dX9_load_66 rfl (by decide) rfl ?_
          refine k_aload_n X 1 dX9_load_67 rfl rfl ?_
          refine k_getR X c_326 fRX9_7 r_326_0 dX9_load_68 ?_
          refine k_bipush X (v := 13) dX9_load_71 (by decide) ?_
          refine k_iconst X (v := 4) dX9_load_73 (by decide) ?_
          refine k_iload_n X 2 dX9_load_74 rfl rfl ?_
          refine k_imul X dX9_load_75 ?_
          refine k_iadd X dX9_load_76 ?_
          refine k_iconst X (v := 1) dX9_load_77 (by decide) ?_
          refine k_iadd X dX9_load_78 ?_
          refine k_dup2 X dX9_load_79 rfl rfl ?_
          refine k_iald X c_327 l_327 dX9_load_80 (fun hb14 => ?_)
          refine k_iload_n X 0 dX9_load_81 rfl rfl ?_
          refine k_isub X dX9_load_82 ?_
          refine k_iast X c_327 l_327 dX9_load_83 (fun hb15 => ?_)
          refine k_sq (fun M16 => ?_)
          refine k_aload_n X 1 dX9_load_84 rfl rfl ?_
          refine k_getR X c_326 fRX9_7 r_326_0 dX9_load_85 ?_
          refine k_bipush X (v := 13) dX9_load_88 (by decide) ?_
          refine k_iconst X (v := 4) dX9_load_90 (by decide) ?_
          refine k_iload_n X 2 dX9_load_91 rfl rfl ?_
          refine k_imul X dX9_load_92 ?_
          refine k_iadd X dX9_load_93 ?_
          refine k_iconst X (v := 2) dX9_load_94 (by decide) ?_
          refine k_iadd X dX9_load_95 ?_
          refine k_iconst X (v := 1) dX9_load_96 (by decide) ?_
          refine k_iast X c_327 l_327 dX9_load_97 (fun hb17 => ?_)
          refine k_sq (fun M18 => ?_)
          refine k_aload_n X 1 dX9_load_98 rfl rfl ?_
          refine k_getR X c_326 fRX9_7 r_326_0 dX9_load_99 ?_
          refine k_bipush X (v := 9) dX9_load_102 (by decide) ?_
          refine k_dup2 X dX9_load_104 rfl rfl ?_
          refine k_ialdC X 9 c_327 l_327 (by decide) (by decide) dX9_load_105 ?_
          refine k_iload_n X 0 dX9_load_106 rfl rfl ?_
          refine k_iadd X dX9_load_107 ?_
          refine k_iastC X 9 c_327 l_327 (by decide) (by decide) dX9_load_108 ?_
          refine k_sq (fun M21 => ?_)
          refine k_aload_n X 1 dX9_load_109 rfl rfl ?_
          refine k_getR X c_326 fRX9_7 r_326_0 dX9_load_110 ?_
          refine k_bipush X (v := 11) dX9_load_113 (by decide) ?_
          refine k_iload_n X 2 dX9_load_115 rfl rfl ?_
          refine k_iastC X 11 c_327 l_327 (by decide) (by decide) dX9_load_116 ?_
          refine k_sq (fun M23 => ?_)
          refine k_aload_n X 1 dX9_load_117 rfl rfl ?_
          refine k_getR X c_326 fRX9_7 r_326_0 dX9_load_118 ?_
          refine k_bipush X (v := 12) dX9_load_121 (by decide) ?_
          refine k_iconst X (v := 0) dX9_load_123 (by decide) ?_
          refine k_iastC X 12 c_327 l_327 (by decide) (by decide) dX9_load_124 ?_
          refine k_sq (fun M25 => ?_)
          refine k_aload_n X 1 dX9_load_125 rfl rfl ?_
          refine k_getR X c_326 fRX9_7 r_326_0 dX9_load_126 ?_
          refine k_iload_n X 2 dX9_load_129 rfl rfl ?_
          refine k_callSI X [.ref (ad E 327), .int x1] [] (mt_Md_feet (zl Z) E 327 x1 c_327 l_327 M25) mRX9_70 ⟨by decide, by decide⟩ rfl rfl (Nat.le_of_ble_eq_true rfl) dX9_load_130 (fun r26 M27 => ?_)
          exact k_iret X dX9_load_133
        · refine k_ldc X w_1084 dX9_load_51 ?_
          exact k_iret X dX9_load_53
  · refine k_ldc X w_1016 dX9_load_8 ?_
    exact k_iret X dX9_load_10
theorem mt_Md_load (l : Launch) (E : En) (x1 : Int32) (M : Mem) : MI l E yX9_load cX9_load 3 (some .int) 2 46 [.ref (ad E 326), .int x1] M (j_Md_load x1 M) := MI_of (by decide) (Nat.le_of_ble_eq_true rfl) (fun Z _ X => k_lv [0, 1] rfl (kw_Md_load X x1 M))
-- FilmCansModel.shoot
theorem kw_Md_shoot {Z : ZT} {E : En} (X : Cx Z E 4 cX9_shoot RX9 (some .int) 2 46) (x1 : Int32) (M : Mem) : Kj Z E 4 (QI Z E) (j_Md_shoot x1 M) M 0 [(0, .ref (ad E 326)), (1, .int x1)] [] := by
  unfold j_Md_shoot
  refine k_aload_n X 0 dX9_shoot_0 rfl rfl ?_
  refine k_iload_n X 1 dX9_shoot_1 rfl rfl ?_
  refine k_callVI X [.int x1] [] c_326 rfl (by decide) rfl (mt_Md_isTake (zl Z) E x1 M) mRX9_190 ⟨by decide, by decide⟩ rfl rfl (Nat.le_of_ble_eq_true rfl) dX9_shoot_2 (fun r1 M2 => ?_)
  refine k_if_ne X 11 dX9_shoot_5 (by decide) ?_ ?_
  · refine k_aload_n X 0 dX9_shoot_11 rfl rfl ?_
    refine k_getR X c_326 fRX9_7 r_326_0 dX9_shoot_12 ?_
    refine k_bipush X (v := 11) dX9_shoot_15 (by decide) ?_
    refine k_ialdC X 11 c_327 l_327 (by decide) (by decide) dX9_shoot_17 ?_
    refine x_istore_n X [(0, .ref (ad E 326)), (1, .int x1)] dX9_shoot_18 rfl (by decide) rfl (fun x4_ => ?_)
    refine k_iload_n X 0 dX9_shoot_19 rfl rfl ?_
    refine k_if_lt X 46 dX9_shoot_20 (by decide) ?_ ?_
    · refine k_ldc X w_1084 dX9_shoot_46 ?_
      exact k_iret X dX9_shoot_48
    · refine k_aload_n X 1 dX9_shoot_23 rfl rfl ?_
      refine k_getR X c_326 fRX9_7 r_326_0 dX9_shoot_24 ?_
      refine k_iload_n X 2 dX9_shoot_27 rfl rfl ?_
      refine k_callSI X [.ref (ad E 327), .int x1] [] (mt_Md_isOpen (zl Z) E 327 x1 c_327 l_327 M2) mRX9_66 ⟨by decide, by decide⟩ rfl rfl (Nat.le_of_ble_eq_true rfl) dX9_shoot_28 (fun r5 M6 => ?_)
      refine k_if_eq X 46 dX9_shoot_31 (by decide) ?_ ?_
      · refine k_ldc X w_1084 dX9_shoot_46 ?_
        exact k_iret X dX9_shoot_48
      · refine k_aload_n X 1 dX9_shoot_34 rfl rfl ?_
        refine k_getR X c_326 fRX9_7 r_326_0 dX9_shoot_35 ?_
        refine k_iload_n X 0 dX9_shoot_38 rfl rfl ?_
        refine k_iload_n X 2 dX9_shoot_39 rfl rfl ?_
        refine k_callSI X [.ref (ad E 327), .int x4_, .int x1] [] (mt_Md_serves (zl Z) E 327 x4_ x1 c_327 l_327 M6) mRX9_79 ⟨by decide, by decide⟩ rfl rfl (Nat.le_of_ble_eq_true rfl) dX9_shoot_40 (fun r7 M8 => ?_)
        refine k_if_ne X 49 dX9_shoot_43 (by decide) ?_ ?_
        · refine k_aload_n X 1 dX9_shoot_49 rfl rfl ?_
          refine k_getR X c_326 fRX9_7 r_326_0 dX9_shoot_50 ?_
          refine k_bipush X (v := 41) dX9_shoot_53 (by decide) ?_
          refine k_iconst X (v := 3) dX9_shoot_55 (by decide) ?_
          refine k_iload_n X 2 dX9_shoot_56 rfl rfl ?_
          refine k_imul X dX9_shoot_57 ?_
          refine k_iadd X dX9_shoot_58 ?_
          refine k_iconst X (v := 1) dX9_shoot_59 (by decide) ?_
          refine k_iadd X dX9_shoot_60 ?_
          refine k_iald X c_327 l_327 dX9_shoot_61 (fun hb9 => ?_)
          refine x_istore_n X [(2, .int x4_), (0, .ref (ad E 326)), (1, .int x1)] dX9_shoot_62 rfl (by decide) rfl (fun x10_ => ?_)
          refine k_aload_n X 2 dX9_shoot_63 rfl rfl ?_
          refine k_getR X c_326 fRX9_7 r_326_0 dX9_shoot_64 ?_
          refine k_iload_n X 1 dX9_shoot_67 rfl rfl ?_
          refine k_callSI X [.ref (ad E 327), .int x4_] [] (mt_Md_feet (zl Z) E 327 x4_ c_327 l_327 M8) mRX9_70 ⟨by decide, by decide⟩ rfl rfl (Nat.le_of_ble_eq_true rfl) dX9_shoot_68 (fun r11 M12 => ?_)
          refine k_iload_n X 0 dX9_shoot_71 rfl rfl ?_
          refine k_aload_n X 2 dX9_shoot_72 rfl rfl ?_
          refine k_getR X c_326 fRX9_7 r_326_0 dX9_shoot_73 ?_
          refine k_iload_n X 1 dX9_shoot_76 rfl rfl ?_
          refine k_callSI X [.ref (ad E 327), .int x4_] [.int x10_, .int r11] (mt_Md_slate (zl Z) E 327 x4_ c_327 l_327 M12) mRX9_83 ⟨by decide, by decide⟩ rfl rfl (Nat.le_of_ble_eq_true rfl) dX9_shoot_77 (fun r13 M14 => ?_)
          refine k_iadd X dX9_shoot_80 ?_
          refine k_icmp_ge X 87 dX9_shoot_81 (by decide) ?_ ?_
          · refine k_aload_n X 2 dX9_shoot_87 rfl rfl ?_
            refine k_callVV X [] [] c_326 rfl (by decide) rfl (mt_Md_notes (zl Z) E  M14) mRX9_187 ⟨by decide, by decide⟩ rfl rfl (Nat.le_of_ble_eq_true rfl) dX9_shoot_88 (fun _ M16 => ?_)
            refine k_aload_n X 2 dX9_shoot_91 rfl rfl ?_
            refine k_getR X c_326 fRX9_7 r_326_0 dX9_shoot_92 ?_
            refine k_bipush X (v := 13) dX9_shoot_95 (by decide) ?_
            refine k_iconst X (v := 4) dX9_shoot_97 (by decide) ?_
            refine k_iload_n X 1 dX9_shoot_98 rfl rfl ?_
            refine k_imul X dX9_shoot_99 ?_
            refine k_iadd X dX9_shoot_100 ?_
            refine k_iconst X (v := 1) dX9_shoot_101 (by decide) ?_
            refine k_iadd X dX9_shoot_102 ?_
            refine k_dup2 X dX9_shoot_103 rfl rfl ?_
            refine k_iald X c_327 l_327 dX9_shoot_104 (fun hb17 => ?_)
            refine k_iload_n X 0 dX9_shoot_105 rfl rfl ?_
            refine k_aload_n X 2 dX9_shoot_106 rfl rfl ?_
            refine k_getR X c_326 fRX9_7 r_326_0 dX9_shoot_107 ?_
            refine k_iload_n X 1 dX9_shoot_110 rfl rfl ?_
            refine k_callSI X [.ref (ad E 327), .int x4_] [.int x10_, .int (gi M16 327 (ix (((13 : Int32) + ((4 : Int32) * x4_)) + 1))), .int (((13 : Int32) + ((4 : Int32) * x4_)) + 1), .ref (ad E 327)] (mt_Md_slate (zl Z) E 327 x4_ c_327 l_327 M16) mRX9_83 ⟨by decide, by decide⟩ rfl rfl (Nat.le_of_ble_eq_true rfl) dX9_shoot_111 (fun r18 M19 => ?_)
            refine k_iadd X dX9_shoot_114 ?_
            refine k_isub X dX9_shoot_115 ?_
            refine k_iast X c_327 l_327 dX9_shoot_116 (fun hb20 => ?_)
            refine k_sq (fun M21 => ?_)
            refine k_aload_n X 2 dX9_shoot_117 rfl rfl ?_
            refine k_getR X c_326 fRX9_7 r_326_0 dX9_shoot_118 ?_
            refine k_bipush X (v := 8) dX9_shoot_121 (by decide) ?_
            refine k_dup2 X dX9_shoot_123 rfl rfl ?_
            refine k_ialdC X 8 c_327 l_327 (by decide) (by decide) dX9_shoot_124 ?_
            refine k_iload_n X 0 dX9_shoot_125 rfl rfl ?_
            refine k_iadd X dX9_shoot_126 ?_
            refine k_iastC X 8 c_327 l_327 (by decide) (by decide) dX9_shoot_127 ?_
            refine k_sq (fun M24 => ?_)
            refine k_aload_n X 2 dX9_shoot_128 rfl rfl ?_
            refine k_getR X c_326 fRX9_7 r_326_0 dX9_shoot_129 ?_
            refine k_bipush X (v := 9) dX9_shoot_132 (by decide) ?_
            refine k_dup2 X dX9_shoot_134 rfl rfl ?_
            refine k_ialdC X 9 c_327 l_327 (by decide) (by decide) dX9_shoot_135 ?_
            refine k_aload_n X 2 dX9_shoot_136 rfl rfl ?_
            refine k_getR X c_326 fRX9_7 r_326_0 dX9_shoot_137 ?_
            refine k_iload_n X 1 dX9_shoot_140 rfl rfl ?_
            refine k_callSI X [.ref (ad E 327), .int x4_] [.int (gi M24 327 9), .int 9, .ref (ad E 327)] (mt_Md_slate (zl Z) E 327 x4_ c_327 l_327 M24) mRX9_83 ⟨by decide, by decide⟩ rfl rfl (Nat.le_of_ble_eq_true rfl) dX9_shoot_141 (fun r26 M27 => ?_)
            refine k_iadd X dX9_shoot_144 ?_
            refine k_iastC X 9 c_327 l_327 (by decide) (by decide) dX9_shoot_145 ?_
            refine k_sq (fun M29 => ?_)
            refine k_aload_n X 2 dX9_shoot_146 rfl rfl ?_
            refine k_getR X c_326 fRX9_7 r_326_0 dX9_shoot_147 ?_
            refine k_bipush X (v := 12) dX9_shoot_150 (by decide) ?_
            refine k_dup2 X dX9_shoot_152 rfl rfl ?_
            refine k_ialdC X 12 c_327 l_327 (by decide) (by decide) dX9_shoot_153 ?_
            refine k_iload_n X 0 dX9_shoot_154 rfl rfl ?_
            refine k_iadd X dX9_shoot_155 ?_
            refine k_iastC X 12 c_327 l_327 (by decide) (by decide) dX9_shoot_156 ?_
            refine k_sq (fun M32 => ?_)
            refine k_aload_n X 2 dX9_shoot_157 rfl rfl ?_
            refine k_getR X c_326 fRX9_7 r_326_0 dX9_shoot_158 ?_
            refine k_bipush X (v := 41) dX9_shoot_161 (by decide) ?_
            refine k_iconst X (v := 3) dX9_shoot_163 (by decide) ?_
            refine k_iload_n X 3 dX9_shoot_164 rfl rfl ?_
            refine k_imul X dX9_shoot_165 ?_
            refine k_iadd X dX9_shoot_166 ?_
            refine k_iconst X (v := 2) dX9_shoot_167 (by decide) ?_
            refine k_iadd X dX9_shoot_168 ?_
            refine k_iload_n X 1 dX9_shoot_169 rfl rfl ?_
            refine k_iast X c_327 l_327 dX9_shoot_170 (fun hb33 => ?_)
            refine k_sq (fun M34 => ?_)
            refine k_aload_n X 2 dX9_shoot_171 rfl rfl ?_
            refine k_getR X c_326 fRX9_7 r_326_0 dX9_shoot_172 ?_
            refine k_iload_n X 1 dX9_shoot_175 rfl rfl ?_
            refine k_callSI X [.ref (ad E 327), .int x4_] [] (mt_Md_feet (zl Z) E 327 x4_ c_327 l_327 M34) mRX9_70 ⟨by decide, by decide⟩ rfl rfl (Nat.le_of_ble_eq_true rfl) dX9_shoot_176 (fun r35 M36 => ?_)
            exact k_iret X dX9_shoot_179
          · refine k_ldc X w_1017 dX9_shoot_84 ?_
            exact k_iret X dX9_shoot_86
        · refine k_ldc X w_1084 dX9_shoot_46 ?_
          exact k_iret X dX9_shoot_48
  · refine k_ldc X w_1016 dX9_shoot_8 ?_
    exact k_iret X dX9_shoot_10
theorem mt_Md_shoot (l : Launch) (E : En) (x1 : Int32) (M : Mem) : MI l E yX9_shoot cX9_shoot 4 (some .int) 2 46 [.ref (ad E 326), .int x1] M (j_Md_shoot x1 M) := MI_of (by decide) (Nat.le_of_ble_eq_true rfl) (fun Z _ X => k_lv [0, 1] rfl (kw_Md_shoot X x1 M))
-- FilmCansModel.unload
theorem kb_Md_unload_b212 {Z : ZT} {E : En} (X : Cx Z E 4 cX9_unload RX9 (some .int) 3 65) (x2 : Int32) (x3 : Int32) (M : Mem) : Kj Z E 4 (QI Z E) (Md_unload_b212 x2 x3 M) M 212 [(0, .ref (ad E 326)), (2, .int x2), (3, .int x3)] [] := by
  unfold Md_unload_b212
  refine k_aload_n X 0 dX9_unload_212 rfl rfl ?_
  refine k_getR X c_326 fRX9_7 r_326_0 dX9_unload_213 ?_
  refine k_bipush X (v := 11) dX9_unload_216 (by decide) ?_
  refine k_iconst X (v := (-1)) dX9_unload_218 (by decide) ?_
  refine k_iastC X 11 c_327 l_327 (by decide) (by decide) dX9_unload_219 ?_
  refine k_sq (fun M19 => ?_)
  refine k_aload_n X 0 dX9_unload_220 rfl rfl ?_
  refine k_getR X c_326 fRX9_7 r_326_0 dX9_unload_221 ?_
  refine k_bipush X (v := 12) dX9_unload_224 (by decide) ?_
  refine k_iconst X (v := 0) dX9_unload_226 (by decide) ?_
  refine k_iastC X 12 c_327 l_327 (by decide) (by decide) dX9_unload_227 ?_
  refine k_sq (fun M21 => ?_)
  refine k_iload_n X 2 dX9_unload_228 rfl rfl ?_
  refine k_if_eq X 236 dX9_unload_229 (by decide) ?_ ?_
  · refine k_iconst X (v := 0) dX9_unload_236 (by decide) ?_
    exact k_iret X dX9_unload_237
  · refine k_iload_n X 1 dX9_unload_232 rfl rfl ?_
    refine k_goto X 237 dX9_unload_233 (by decide) ?_
    exact k_iret X dX9_unload_237
theorem kb_Md_unload_b165 {Z : ZT} {E : En} (X : Cx Z E 4 cX9_unload RX9 (some .int) 3 65) (x1 : Int32) (x2 : Int32) (x3 : Int32) (xs0 : Int32) (xs1 : Int32) (M : Mem) : Kj Z E 4 (QI Z E) (Md_unload_b165 x1 x2 x3 xs0 xs1 M) M 165 [(0, .ref (ad E 326)), (1, .int x1), (2, .int x2), (3, .int x3)] [.int xs0, .int xs1, .ref (ad E 327)] := by
  unfold Md_unload_b165
  refine k_iast X c_327 l_327 dX9_unload_165 (fun hb11 => ?_)
  refine k_sq (fun M12 => ?_)
  refine k_iload_n X 3 dX9_unload_166 rfl rfl ?_
  refine k_if_eq X 187 dX9_unload_167 (by decide) ?_ ?_
  · refine k_aload_n X 0 dX9_unload_187 rfl rfl ?_
    refine k_getR X c_326 fRX9_7 r_326_0 dX9_unload_188 ?_
    refine k_bipush X (v := 9) dX9_unload_191 (by decide) ?_
    refine k_dup2 X dX9_unload_193 rfl rfl ?_
    refine k_ialdC X 9 c_327 l_327 (by decide) (by decide) dX9_unload_194 ?_
    refine k_iload_n X 2 dX9_unload_195 rfl rfl ?_
    refine k_iadd X dX9_unload_196 ?_
    refine k_iastC X 9 c_327 l_327 (by decide) (by decide) dX9_unload_197 ?_
    refine k_sq (fun M15 => ?_)
    refine k_aload_n X 0 dX9_unload_198 rfl rfl ?_
    refine k_getR X c_326 fRX9_7 r_326_0 dX9_unload_199 ?_
    refine k_bipush X (v := 13) dX9_unload_202 (by decide) ?_
    refine k_iconst X (v := 4) dX9_unload_204 (by decide) ?_
    refine k_iload_n X 1 dX9_unload_205 rfl rfl ?_
    refine k_imul X dX9_unload_206 ?_
    refine k_iadd X dX9_unload_207 ?_
    refine k_iconst X (v := 1) dX9_unload_208 (by decide) ?_
    refine k_iadd X dX9_unload_209 ?_
    refine k_iconst X (v := 0) dX9_unload_210 (by decide) ?_
    refine k_iast X c_327 l_327 dX9_unload_211 (fun hb16 => ?_)
    refine k_sq (fun M17 => ?_)
    refine k_lv [0, 2, 3] rfl ?_
    exact kb_Md_unload_b212 X  x2 x3 M17
  · refine k_aload_n X 0 dX9_unload_170 rfl rfl ?_
    refine k_getR X c_326 fRX9_7 r_326_0 dX9_unload_171 ?_
    refine k_bipush X (v := 13) dX9_unload_174 (by decide) ?_
    refine k_iconst X (v := 4) dX9_unload_176 (by decide) ?_
    refine k_iload_n X 1 dX9_unload_177 rfl rfl ?_
    refine k_imul X dX9_unload_178 ?_
    refine k_iadd X dX9_unload_179 ?_
    refine k_iconst X (v := 3) dX9_unload_180 (by decide) ?_
    refine k_iadd X dX9_unload_181 ?_
    refine k_iconst X (v := 1) dX9_unload_182 (by decide) ?_
    refine k_iast X c_327 l_327 dX9_unload_183 (fun hb22 => ?_)
    refine k_sq (fun M23 => ?_)
    refine k_goto X 212 dX9_unload_184 (by decide) ?_
    refine k_lv [0, 2, 3] rfl ?_
    exact kb_Md_unload_b212 X  x2 x3 M23
theorem kb_Md_unload_b125 {Z : ZT} {E : En} (X : Cx Z E 4 cX9_unload RX9 (some .int) 3 65) (x1 : Int32) (M : Mem) : Kj Z E 4 (QI Z E) (Md_unload_b125 x1 M) M 125 [(0, .ref (ad E 326)), (1, .int x1)] [] := by
  unfold Md_unload_b125
  refine k_aload_n X 0 dX9_unload_125 rfl rfl ?_
  refine k_getR X c_326 fRX9_7 r_326_0 dX9_unload_126 ?_
  refine k_iload_n X 1 dX9_unload_129 rfl rfl ?_
  refine k_callSI X [.ref (ad E 327), .int x1] [] (mt_Md_feet (zl Z) E 327 x1 c_327 l_327 M) mRX9_70 ⟨by decide, by decide⟩ rfl rfl (Nat.le_of_ble_eq_true rfl) dX9_unload_130 (fun r7 M8 => ?_)
  refine k_istore_n X [(2, .int r7), (0, .ref (ad E 326)), (1, .int x1)] dX9_unload_133 rfl (by decide) rfl ?_
  refine k_aload_n X 1 dX9_unload_134 rfl rfl ?_
  refine k_getR X c_326 fRX9_7 r_326_0 dX9_unload_135 ?_
  refine k_iload_n X 2 dX9_unload_138 rfl rfl ?_
  refine k_iload_n X 0 dX9_unload_139 rfl rfl ?_
  refine k_callSI X [.ref (ad E 327), .int x1, .int r7] [] (mt_Md_isKept (zl Z) E 327 x1 r7 c_327 l_327 M8) mRX9_94 ⟨by decide, by decide⟩ rfl rfl (Nat.le_of_ble_eq_true rfl) dX9_unload_140 (fun r9 M10 => ?_)
  refine k_istore_n X [(3, .int r9), (2, .int r7), (0, .ref (ad E 326)), (1, .int x1)] dX9_unload_143 rfl (by decide) rfl ?_
  refine k_aload_n X 2 dX9_unload_144 rfl rfl ?_
  refine k_getR X c_326 fRX9_7 r_326_0 dX9_unload_145 ?_
  refine k_bipush X (v := 13) dX9_unload_148 (by decide) ?_
  refine k_iconst X (v := 4) dX9_unload_150 (by decide) ?_
  refine k_iload_n X 3 dX9_unload_151 rfl rfl ?_
  refine k_imul X dX9_unload_152 ?_
  refine k_iadd X dX9_unload_153 ?_
  refine k_iconst X (v := 2) dX9_unload_154 (by decide) ?_
  refine k_iadd X dX9_unload_155 ?_
  refine k_iload_n X 0 dX9_unload_156 rfl rfl ?_
  refine k_if_eq X 164 dX9_unload_157 (by decide) ?_ ?_
  · refine k_iconst X (v := 2) dX9_unload_164 (by decide) ?_
    refine k_lv [2, 3, 1, 0] rfl ?_
    exact kb_Md_unload_b165 X  x1 r7 r9 2 (((13 : Int32) + ((4 : Int32) * x1)) + 2) M10
  · refine k_iconst X (v := 0) dX9_unload_160 (by decide) ?_
    refine k_goto X 165 dX9_unload_161 (by decide) ?_
    refine k_lv [2, 3, 1, 0] rfl ?_
    exact kb_Md_unload_b165 X  x1 r7 r9 0 (((13 : Int32) + ((4 : Int32) * x1)) + 2) M10
theorem kb_Md_unload_b113 {Z : ZT} {E : En} (X : Cx Z E 4 cX9_unload RX9 (some .int) 3 65) (x1 : Int32) (xs0 : Int32) (xs1 : Int32) (M : Mem) : Kj Z E 4 (QI Z E) (Md_unload_b113 x1 xs0 xs1 M) M 113 [(0, .ref (ad E 326)), (1, .int x1)] [.int xs0, .int xs1, .ref (ad E 327)] := by
  unfold Md_unload_b113
  refine k_iast X c_327 l_327 dX9_unload_113 (fun hb33 => ?_)
  refine k_sq (fun M34 => ?_)
  refine k_aload_n X 0 dX9_unload_114 rfl rfl ?_
  refine k_getR X c_326 fRX9_7 r_326_0 dX9_unload_115 ?_
  refine k_bipush X (v := 6) dX9_unload_118 (by decide) ?_
  refine k_dup2 X dX9_unload_120 rfl rfl ?_
  refine k_ialdC X 6 c_327 l_327 (by decide) (by decide) dX9_unload_121 ?_
  refine k_iconst X (v := 1) dX9_unload_122 (by decide) ?_
  refine k_iadd X dX9_unload_123 ?_
  refine k_iastC X 6 c_327 l_327 (by decide) (by decide) dX9_unload_124 ?_
  refine k_sq (fun M37 => ?_)
  refine k_lv [0, 1] rfl ?_
  exact kb_Md_unload_b125 X  x1 M37
theorem kb_Md_unload_b40 {Z : ZT} {E : En} (X : Cx Z E 4 cX9_unload RX9 (some .int) 3 65) (x1 : Int32) (M : Mem) : Kj Z E 4 (QI Z E) (Md_unload_b40 x1 M) M 40 [(0, .ref (ad E 326)), (1, .int x1)] [] := by
  unfold Md_unload_b40
  refine k_aload_n X 0 dX9_unload_40 rfl rfl ?_
  refine k_callVV X [] [] c_326 rfl (by decide) rfl (mt_Md_notes (zl Z) E  M) mRX9_187 ⟨by decide, by decide⟩ rfl rfl (Nat.le_of_ble_eq_true rfl) dX9_unload_41 (fun _ M5 => ?_)
  refine k_aload_n X 0 dX9_unload_44 rfl rfl ?_
  refine k_getR X c_326 fRX9_7 r_326_0 dX9_unload_45 ?_
  refine k_bipush X (v := 12) dX9_unload_48 (by decide) ?_
  refine k_ialdC X 12 c_327 l_327 (by decide) (by decide) dX9_unload_50 ?_
  refine k_if_le X 125 dX9_unload_51 (by decide) ?_ ?_
  · refine k_lv [0, 1] rfl ?_
    exact kb_Md_unload_b125 X  x1 M5
  · refine k_bipush X (v := 65) dX9_unload_54 (by decide) ?_
    refine k_iconst X (v := 3) dX9_unload_56 (by decide) ?_
    refine k_aload_n X 0 dX9_unload_57 rfl rfl ?_
    refine k_getR X c_326 fRX9_7 r_326_0 dX9_unload_58 ?_
    refine k_bipush X (v := 6) dX9_unload_61 (by decide) ?_
    refine k_ialdC X 6 c_327 l_327 (by decide) (by decide) dX9_unload_63 ?_
    refine k_imul X dX9_unload_64 ?_
    refine k_iadd X dX9_unload_65 ?_
    refine x_istore_n X [(0, .ref (ad E 326)), (1, .int x1)] dX9_unload_66 rfl (by decide) rfl (fun x25_ => ?_)
    refine k_aload_n X 1 dX9_unload_67 rfl rfl ?_
    refine k_getR X c_326 fRX9_7 r_326_0 dX9_unload_68 ?_
    refine k_iload_n X 0 dX9_unload_71 rfl rfl ?_
    refine k_iload_n X 2 dX9_unload_72 rfl rfl ?_
    refine k_iast X c_327 l_327 dX9_unload_73 (fun hb26 => ?_)
    refine k_sq (fun M27 => ?_)
    refine k_aload_n X 1 dX9_unload_74 rfl rfl ?_
    refine k_getR X c_326 fRX9_7 r_326_0 dX9_unload_75 ?_
    refine k_iload_n X 0 dX9_unload_78 rfl rfl ?_
    refine k_iconst X (v := 1) dX9_unload_79 (by decide) ?_
    refine k_iadd X dX9_unload_80 ?_
    refine k_aload_n X 1 dX9_unload_81 rfl rfl ?_
    refine k_getR X c_326 fRX9_7 r_326_0 dX9_unload_82 ?_
    refine k_bipush X (v := 12) dX9_unload_85 (by decide) ?_
    refine k_ialdC X 12 c_327 l_327 (by decide) (by decide) dX9_unload_87 ?_
    refine k_iast X c_327 l_327 dX9_unload_88 (fun hb29 => ?_)
    refine k_sq (fun M30 => ?_)
    refine k_aload_n X 1 dX9_unload_89 rfl rfl ?_
    refine k_getR X c_326 fRX9_7 r_326_0 dX9_unload_90 ?_
    refine k_iload_n X 0 dX9_unload_93 rfl rfl ?_
    refine k_iconst X (v := 2) dX9_unload_94 (by decide) ?_
    refine k_iadd X dX9_unload_95 ?_
    refine k_aload_n X 1 dX9_unload_96 rfl rfl ?_
    refine k_getR X c_326 fRX9_7 r_326_0 dX9_unload_97 ?_
    refine k_iload_n X 2 dX9_unload_100 rfl rfl ?_
    refine k_callSI X [.ref (ad E 327), .int x1] [.int (x25_ + 2), .ref (ad E 327)] (mt_Md_kind (zl Z) E 327 x1 c_327 l_327 M30) mRX9_51 ⟨by decide, by decide⟩ rfl rfl (Nat.le_of_ble_eq_true rfl) dX9_unload_101 (fun r31 M32 => ?_)
    refine k_iconst X (v := 4) dX9_unload_104 (by decide) ?_
    refine k_icmp_lt X 112 dX9_unload_105 (by decide) ?_ ?_
    · refine k_iconst X (v := 0) dX9_unload_112 (by decide) ?_
      refine k_lv [1, 2] rfl ?_
      exact kb_Md_unload_b113 X  x1 0 (x25_ + 2) M32
    · refine k_iconst X (v := 1) dX9_unload_108 (by decide) ?_
      refine k_goto X 113 dX9_unload_109 (by decide) ?_
      refine k_lv [1, 2] rfl ?_
      exact kb_Md_unload_b113 X  x1 1 (x25_ + 2) M32
theorem kw_Md_unload {Z : ZT} {E : En} (X : Cx Z E 4 cX9_unload RX9 (some .int) 3 65) (M : Mem) : Kj Z E 4 (QI Z E) (j_Md_unload M) M 0 [(0, .ref (ad E 326))] [] := by
  unfold j_Md_unload
  refine k_aload_n X 0 dX9_unload_0 rfl rfl ?_
  refine k_getR X c_326 fRX9_7 r_326_0 dX9_unload_1 ?_
  refine k_bipush X (v := 11) dX9_unload_4 (by decide) ?_
  refine k_ialdC X 11 c_327 l_327 (by decide) (by decide) dX9_unload_6 ?_
  refine x_istore_n X [(0, .ref (ad E 326))] dX9_unload_7 rfl (by decide) rfl (fun x2_ => ?_)
  refine k_iload_n X 0 dX9_unload_8 rfl rfl ?_
  refine k_if_ge X 15 dX9_unload_9 (by decide) ?_ ?_
  · refine k_aload_n X 1 dX9_unload_15 rfl rfl ?_
    refine k_getR X c_326 fRX9_7 r_326_0 dX9_unload_16 ?_
    refine k_bipush X (v := 12) dX9_unload_19 (by decide) ?_
    refine k_ialdC X 12 c_327 l_327 (by decide) (by decide) dX9_unload_21 ?_
    refine k_if_le X 40 dX9_unload_22 (by decide) ?_ ?_
    · refine k_lv [1, 0] rfl ?_
      exact kb_Md_unload_b40 X  x2_ M
    · refine k_aload_n X 1 dX9_unload_25 rfl rfl ?_
      refine k_getR X c_326 fRX9_7 r_326_0 dX9_unload_26 ?_
      refine k_bipush X (v := 6) dX9_unload_29 (by decide) ?_
      refine k_ialdC X 6 c_327 l_327 (by decide) (by decide) dX9_unload_31 ?_
      refine k_bipush X (v := 8) dX9_unload_32 (by decide) ?_
      refine k_icmp_ne X 40 dX9_unload_34 (by decide) ?_ ?_
      · refine k_lv [1, 0] rfl ?_
        exact kb_Md_unload_b40 X  x2_ M
      · refine k_ldc X w_1017 dX9_unload_37 ?_
        exact k_iret X dX9_unload_39
  · refine k_ldc X w_1084 dX9_unload_12 ?_
    exact k_iret X dX9_unload_14
theorem mt_Md_unload (l : Launch) (E : En) (M : Mem) : MI l E yX9_unload cX9_unload 4 (some .int) 3 65 [.ref (ad E 326)] M (j_Md_unload M) := MI_of (by decide) (Nat.le_of_ble_eq_true rfl) (fun Z _ X => k_lv [0] rfl (kw_Md_unload X M))
