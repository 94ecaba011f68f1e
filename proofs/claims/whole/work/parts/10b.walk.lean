-- FilmCans$Day.feetOnShelf
theorem kb_Day_feetOnShelf_b30 {Z : ZT} {E : En} (X : Cx Z E 3 cX1_feetOnShelf RX1 (some .int) 0 0) (k4 : Nat → Int32 → Int32 → Mem → Option (Int32 × Mem)) (hk4 : ∀ (d0 : Nat) (x1 : Int32) (x2 : Int32) (hd0 : isDay d0) (M : Mem), Kj Z E 3 (QI Z E) (k4 d0 x1 x2 M) M 4 [(0, .ref (ad E d0)), (1, .int x1), (2, .int x2)] []) (d0 : Nat) (x1 : Int32) (x2 : Int32) (hd0 : isDay d0) (M : Mem) : Kj Z E 3 (QI Z E) (Day_feetOnShelf_b30 k4 d0 x1 x2 M) M 30 [(0, .ref (ad E d0)), (1, .int x1), (2, .int x2)] [] := by
  unfold Day_feetOnShelf_b30
  refine x_iinc X 1 2 [(0, .ref (ad E d0)), (1, .int x1)] dX1_feetOnShelf_30 rfl (by decide) (by decide) rfl (fun x4_ => ?_)
  refine k_goto X 4 dX1_feetOnShelf_33 (by decide) ?_
  refine k_lv [1, 2, 0] rfl ?_
  exact hk4 d0 x1 x4_ hd0 M
theorem kb_Day_feetOnShelf_h4 {Z : ZT} {E : En} (X : Cx Z E 3 cX1_feetOnShelf RX1 (some .int) 0 0)  : ∀ (n : Nat) (d0 : Nat) (x1 : Int32) (x2 : Int32) (hd0 : isDay d0) (M : Mem), Kj Z E 3 (QI Z E) (Day_feetOnShelf_h4  n d0 x1 x2 M) M 4 [(0, .ref (ad E d0)), (1, .int x1), (2, .int x2)] [] := by
  intro n
  induction n with
  | zero => intro d0 x1 x2 hd0 M; exact k_none
  | succ n ih =>
    intro d0 x1 x2 hd0 M
    rw [Day_feetOnShelf_h4]
    refine k_iload_n X 2 dX1_feetOnShelf_4 rfl rfl ?_
    refine k_aload_n X 0 dX1_feetOnShelf_5 rfl rfl ?_
    refine k_getI X (day_C hd0) fRX1_50 dX1_feetOnShelf_6 ?_
    refine k_icmp_ge X 36 dX1_feetOnShelf_9 (by decide) ?_ ?_
    · refine k_iload_n X 1 dX1_feetOnShelf_36 rfl rfl ?_
      exact k_iret X dX1_feetOnShelf_37
    · refine k_aload_n X 0 dX1_feetOnShelf_12 rfl rfl ?_
      refine k_getR X (day_C hd0) fRX1_26 (day_R4 hd0) dX1_feetOnShelf_13 ?_
      refine k_iload_n X 2 dX1_feetOnShelf_16 rfl rfl ?_
      refine k_iald X (day_A4 hd0) (day_L4 hd0) dX1_feetOnShelf_17 (fun hb3 => ?_)
      refine k_if_ne X 30 dX1_feetOnShelf_18 (by decide) ?_ ?_
      · refine k_lv [0, 1, 2] rfl ?_
        exact kb_Day_feetOnShelf_b30 X (fun d0 x1 x2 M => Day_feetOnShelf_h4 n d0 x1 x2 M) (fun d0 x1 x2 hd0 M => ih d0 x1 x2 hd0 M) d0 x1 x2 hd0 M
      · refine k_iload_n X 1 dX1_feetOnShelf_21 rfl rfl ?_
        refine k_aload_n X 0 dX1_feetOnShelf_22 rfl rfl ?_
        refine k_getR X (day_C hd0) fRX1_23 (day_R3 hd0) dX1_feetOnShelf_23 ?_
        refine k_iload_n X 2 dX1_feetOnShelf_26 rfl rfl ?_
        refine k_iald X (day_A3 hd0) (day_L3 hd0) dX1_feetOnShelf_27 (fun hb5 => ?_)
        refine k_iadd X dX1_feetOnShelf_28 ?_
        refine x_istore_n X [(0, .ref (ad E d0)), (2, .int x2)] dX1_feetOnShelf_29 rfl (by decide) rfl (fun x6_ => ?_)
        refine k_lv [1, 0, 2] rfl ?_
        exact kb_Day_feetOnShelf_b30 X (fun d0 x1 x2 M => Day_feetOnShelf_h4 n d0 x1 x2 M) (fun d0 x1 x2 hd0 M => ih d0 x1 x2 hd0 M) d0 x6_ x2 hd0 M
theorem kw_Day_feetOnShelf {Z : ZT} {E : En} (X : Cx Z E 3 cX1_feetOnShelf RX1 (some .int) 0 0) (d0 : Nat) (hd0 : isDay d0) (M : Mem) : Kj Z E 3 (QI Z E) (j_Day_feetOnShelf d0 M) M 0 [(0, .ref (ad E d0))] [] := by
  unfold j_Day_feetOnShelf
  refine k_iconst X (v := 0) dX1_feetOnShelf_0 (by decide) ?_
  refine x_istore_n X [(0, .ref (ad E d0))] dX1_feetOnShelf_1 rfl (by decide) rfl (fun x1_ => ?_)
  refine k_iconst X (v := 0) dX1_feetOnShelf_2 (by decide) ?_
  refine x_istore_n X [(1, .int x1_), (0, .ref (ad E d0))] dX1_feetOnShelf_3 rfl (by decide) rfl (fun x2_ => ?_)
  refine k_lv [2, 1, 0] rfl ?_
  exact kb_Day_feetOnShelf_h4 X  FU d0 x1_ x2_ hd0 M
theorem mt_Day_feetOnShelf (l : Launch) (E : En) (d0 : Nat) (hd0 : isDay d0) (M : Mem) : MI l E yX1_feetOnShelf cX1_feetOnShelf 3 (some .int) 0 0 [.ref (ad E d0)] M (j_Day_feetOnShelf d0 M) := MI_of (by decide) (Nat.le_of_ble_eq_true rfl) (fun Z _ X => k_lv [0] rfl (kw_Day_feetOnShelf X d0 hd0 M))
-- FilmCans.sums
theorem kw_Fc_sums {Z : ZT} {E : En} (X : Cx Z E 2 cX8_sums RX8 (some .int) 1 22) (x1 : Int32) (M : Mem) : Kj Z E 2 (QI Z E) (j_Fc_sums x1 M) M 0 [(0, .ref (ad E 0)), (1, .int x1)] [] := by
  unfold j_Fc_sums
  refine k_iload_n X 1 dX8_sums_0 rfl rfl ?_
  refine k_if (fun hs0 => ?_) (fun hs0 => ?_)
  · refine k_lt_in X 0 (off := 47) 48 dX8_sums_1 hs0 (by decide) (by decide) (by decide) (by decide) ?_
    refine k_aload_n X 0 dX8_sums_48 rfl rfl ?_
    refine k_getR X c_0 fRX8_19 r_0_1 dX8_sums_49 ?_
    refine k_getI X c_3 fRX8_234 dX8_sums_52 ?_
    exact k_iret X dX8_sums_55
  · refine k_if (fun hs1 => ?_) (fun hs1 => ?_)
    · refine k_lt_in X 1 (off := 55) 56 dX8_sums_1 hs1 (by decide) (by decide) (by decide) (by decide) ?_
      refine k_aload_n X 0 dX8_sums_56 rfl rfl ?_
      refine k_getR X c_0 fRX8_19 r_0_1 dX8_sums_57 ?_
      refine k_callVI X [] [] c_3 rfl (by decide) rfl (mt_Day_feetOnShelf (zl Z) E 3 day_3 M) mRX8_237 ⟨by decide, by decide⟩ rfl rfl (Nat.le_of_ble_eq_true rfl) dX8_sums_60 (fun r1 M2 => ?_)
      exact k_iret X dX8_sums_63
    · refine k_if (fun hs2 => ?_) (fun hs2 => ?_)
      · refine k_lt_in X 2 (off := 63) 64 dX8_sums_1 hs2 (by decide) (by decide) (by decide) (by decide) ?_
        refine k_aload_n X 0 dX8_sums_64 rfl rfl ?_
        refine k_getR X c_0 fRX8_19 r_0_1 dX8_sums_65 ?_
        refine k_aload_n X 0 dX8_sums_68 rfl rfl ?_
        refine k_getR X c_0 fRX8_19 r_0_1 dX8_sums_69 ?_
        refine k_getI X c_3 fRX8_106 dX8_sums_72 ?_
        refine k_callVI X [.int (gi M 3 3)] [] c_3 rfl (by decide) rfl (mt_Day_hasCan (zl Z) E 3 (gi M 3 3) day_3 M) mRX8_103 ⟨by decide, by decide⟩ rfl rfl (Nat.le_of_ble_eq_true rfl) dX8_sums_75 (fun r3 M4 => ?_)
        refine k_if_eq X 99 dX8_sums_78 (by decide) ?_ ?_
        · refine k_iconst X (v := 0) dX8_sums_99 (by decide) ?_
          exact k_iret X dX8_sums_100
        · refine k_aload_n X 0 dX8_sums_81 rfl rfl ?_
          refine k_getR X c_0 fRX8_19 r_0_1 dX8_sums_82 ?_
          refine k_getR X c_3 fRX8_114 r_3_11 dX8_sums_85 ?_
          refine k_aload_n X 0 dX8_sums_88 rfl rfl ?_
          refine k_getR X c_0 fRX8_19 r_0_1 dX8_sums_89 ?_
          refine k_getI X c_3 fRX8_106 dX8_sums_92 ?_
          refine k_iald X c_6 l_6 dX8_sums_95 (fun hb5 => ?_)
          refine k_goto X 100 dX8_sums_96 (by decide) ?_
          exact k_iret X dX8_sums_100
      · refine k_if (fun hs3 => ?_) (fun hs3 => ?_)
        · refine k_lt_in X 3 (off := 100) 101 dX8_sums_1 hs3 (by decide) (by decide) (by decide) (by decide) ?_
          refine k_aload_n X 0 dX8_sums_101 rfl rfl ?_
          refine k_getR X c_0 fRX8_19 r_0_1 dX8_sums_102 ?_
          refine k_getI X c_3 fRX8_241 dX8_sums_105 ?_
          exact k_iret X dX8_sums_108
        · refine k_if (fun hs4 => ?_) (fun hs4 => ?_)
          · refine k_lt_in X 4 (off := 108) 109 dX8_sums_1 hs4 (by decide) (by decide) (by decide) (by decide) ?_
            refine k_aload_n X 0 dX8_sums_109 rfl rfl ?_
            refine k_getR X c_0 fRX8_19 r_0_1 dX8_sums_110 ?_
            refine k_getI X c_3 fRX8_244 dX8_sums_113 ?_
            exact k_iret X dX8_sums_116
          · refine k_if (fun hs5 => ?_) (fun hs5 => ?_)
            · refine k_lt_in X 5 (off := 116) 117 dX8_sums_1 hs5 (by decide) (by decide) (by decide) (by decide) ?_
              refine k_aload_n X 0 dX8_sums_117 rfl rfl ?_
              refine k_getR X c_0 fRX8_19 r_0_1 dX8_sums_118 ?_
              refine k_callVI X [] [] c_3 rfl (by decide) rfl (mt_Day_feetThatWait (zl Z) E 3 day_3 M) mRX8_247 ⟨by decide, by decide⟩ rfl rfl (Nat.le_of_ble_eq_true rfl) dX8_sums_121 (fun r6 M7 => ?_)
              exact k_iret X dX8_sums_124
            · refine k_if (fun hs6 => ?_) (fun hs6 => ?_)
              · refine k_lt_in X 6 (off := 124) 125 dX8_sums_1 hs6 (by decide) (by decide) (by decide) (by decide) ?_
                refine k_aload_n X 0 dX8_sums_125 rfl rfl ?_
                refine k_getR X c_0 fRX8_19 r_0_1 dX8_sums_126 ?_
                refine k_getI X c_3 fRX8_250 dX8_sums_129 ?_
                exact k_iret X dX8_sums_132
              · refine k_if (fun hs7 => ?_) (fun hs7 => ?_)
                · refine k_lt_in X 7 (off := 132) 133 dX8_sums_1 hs7 (by decide) (by decide) (by decide) (by decide) ?_
                  refine k_aload_n X 0 dX8_sums_133 rfl rfl ?_
                  refine k_getR X c_0 fRX8_19 r_0_1 dX8_sums_134 ?_
                  refine k_getI X c_3 fRX8_153 dX8_sums_137 ?_
                  exact k_iret X dX8_sums_140
                · refine k_lt_out X 141 dX8_sums_1 (tsw_out 0 8 (by decide) (by decide) (by decide) (lt_s (lt_s (lt_s (lt_s (lt_s (lt_s (lt_s (lt_s lt_0 hs0) hs1) hs2) hs3) hs4) hs5) hs6) hs7)) (by decide) ?_
                  refine k_ldc X w_359 dX8_sums_141 ?_
                  exact k_iret X dX8_sums_143
theorem mt_Fc_sums (l : Launch) (E : En) (x1 : Int32) (M : Mem) : MI l E yX8_sums cX8_sums 2 (some .int) 1 22 [.ref (ad E 0), .int x1] M (j_Fc_sums x1 M) := MI_of (by decide) (Nat.le_of_ble_eq_true rfl) (fun Z _ X => k_lv [0, 1] rfl (kw_Fc_sums X x1 M))
-- FilmCans$Laboratory.sumUp
theorem kb_Lab_sumUp_h24 {Z : ZT} {E : En} (X : Cx Z E 5 cX4_sumUp RX4 none 0 0) (k9 : Nat → Int32 → Mem → Option (Unit × Mem)) (hk9 : ∀ (d1 : Nat) (x2 : Int32) (hd1 : isDay d1) (M : Mem), Kj Z E 5 (QV Z E) (k9 d1 x2 M) M 9 [(0, .ref (ad E 294)), (1, .ref (ad E d1)), (2, .int x2)] []) : ∀ (n : Nat) (d1 : Nat) (x2 : Int32) (x3 : Int32) (x4 : Int32) (hd1 : isDay d1) (M : Mem), Kj Z E 5 (QV Z E) (Lab_sumUp_h24 k9 n d1 x2 x3 x4 M) M 24 [(0, .ref (ad E 294)), (1, .ref (ad E d1)), (2, .int x2), (3, .int x3), (4, .int x4)] [] := by
  intro n
  induction n with
  | zero => intro d1 x2 x3 x4 hd1 M; exact k_none
  | succ n ih =>
    intro d1 x2 x3 x4 hd1 M
    rw [Lab_sumUp_h24]
    refine k_iload X 4 dX4_sumUp_24 rfl ?_
    refine k_iload_n X 3 dX4_sumUp_26 rfl rfl ?_
    refine k_icmp_ge X 59 dX4_sumUp_27 (by decide) ?_ ?_
    · refine x_iinc X 1 2 [(0, .ref (ad E 294)), (1, .ref (ad E d1)), (3, .int x3), (4, .int x4)] dX4_sumUp_59 rfl (by decide) (by decide) rfl (fun x6_ => ?_)
      refine k_goto X 9 dX4_sumUp_62 (by decide) ?_
      refine k_lv [1, 2, 0] rfl ?_
      exact hk9 d1 x6_ hd1 M
    · refine k_aload_n X 0 dX4_sumUp_30 rfl rfl ?_
      refine k_getR X c_294 fRX4_18 r_294_2 dX4_sumUp_31 ?_
      refine k_iload X 4 dX4_sumUp_34 rfl ?_
      refine k_iload_n X 3 dX4_sumUp_36 rfl rfl ?_
      refine k_ior X dX4_sumUp_37 ?_
      refine k_aload_n X 0 dX4_sumUp_38 rfl rfl ?_
      refine k_getR X c_294 fRX4_18 r_294_2 dX4_sumUp_39 ?_
      refine k_iload X 4 dX4_sumUp_42 rfl ?_
      refine k_iald X c_297 l_297 dX4_sumUp_44 (fun hb7 => ?_)
      refine k_aload_n X 1 dX4_sumUp_45 rfl rfl ?_
      refine k_getR X (day_C hd1) fRX4_37 (day_R10 hd1) dX4_sumUp_46 ?_
      refine k_iload_n X 2 dX4_sumUp_49 rfl rfl ?_
      refine k_iald X (day_A10 hd1) (day_L10 hd1) dX4_sumUp_50 (fun hb8 => ?_)
      refine k_iadd X dX4_sumUp_51 ?_
      refine k_iast X c_297 l_297 dX4_sumUp_52 (fun hb9 => ?_)
      refine k_sq (fun M10 => ?_)
      refine x_iinc X 1 4 [(0, .ref (ad E 294)), (1, .ref (ad E d1)), (2, .int x2), (3, .int x3)] dX4_sumUp_53 rfl (by decide) (by decide) rfl (fun x11_ => ?_)
      refine k_goto X 24 dX4_sumUp_56 (by decide) ?_
      refine k_lv [1, 2, 3, 4, 0] rfl ?_
      exact ih d1 x2 x3 x11_ hd1 M10
theorem kb_Lab_sumUp_h9 {Z : ZT} {E : En} (X : Cx Z E 5 cX4_sumUp RX4 none 0 0)  : ∀ (n : Nat) (d1 : Nat) (x2 : Int32) (hd1 : isDay d1) (M : Mem), Kj Z E 5 (QV Z E) (Lab_sumUp_h9  n d1 x2 M) M 9 [(0, .ref (ad E 294)), (1, .ref (ad E d1)), (2, .int x2)] [] := by
  intro n
  induction n with
  | zero => intro d1 x2 hd1 M; exact k_none
  | succ n ih =>
    intro d1 x2 hd1 M
    rw [Lab_sumUp_h9]
    refine k_iload_n X 2 dX4_sumUp_9 rfl rfl ?_
    refine k_aload_n X 1 dX4_sumUp_10 rfl rfl ?_
    refine k_getI X (day_C hd1) fRX4_24 dX4_sumUp_11 ?_
    refine k_icmp_ge X 65 dX4_sumUp_14 (by decide) ?_ ?_
    · exact k_vret X dX4_sumUp_65
    · refine k_iconst X (v := 1) dX4_sumUp_17 (by decide) ?_
      refine k_iload_n X 2 dX4_sumUp_18 rfl rfl ?_
      refine k_ishl X dX4_sumUp_19 ?_
      refine x_istore_n X [(0, .ref (ad E 294)), (1, .ref (ad E d1)), (2, .int x2)] dX4_sumUp_20 rfl (by decide) rfl (fun x4_ => ?_)
      refine k_iconst X (v := 0) dX4_sumUp_21 (by decide) ?_
      refine x_istore X [(3, .int x4_), (0, .ref (ad E 294)), (1, .ref (ad E d1)), (2, .int x2)] dX4_sumUp_22 (by decide) rfl (fun x5_ => ?_)
      refine k_lv [2, 3, 4, 1, 0] rfl ?_
      exact kb_Lab_sumUp_h24 X (fun d1 x2 M => Lab_sumUp_h9 n d1 x2 M) (fun d1 x2 hd1 M => ih d1 x2 hd1 M) FU d1 x2 x4_ x5_ hd1 M
theorem kw_Lab_sumUp {Z : ZT} {E : En} (X : Cx Z E 5 cX4_sumUp RX4 none 0 0) (d1 : Nat) (hd1 : isDay d1) (M : Mem) : Kj Z E 5 (QV Z E) (j_Lab_sumUp d1 M) M 0 [(0, .ref (ad E 294)), (1, .ref (ad E d1))] [] := by
  unfold j_Lab_sumUp
  refine k_aload_n X 0 dX4_sumUp_0 rfl rfl ?_
  refine k_getR X c_294 fRX4_18 r_294_2 dX4_sumUp_1 ?_
  refine k_iconst X (v := 0) dX4_sumUp_4 (by decide) ?_
  refine k_iconst X (v := 0) dX4_sumUp_5 (by decide) ?_
  refine k_iastC X 0 c_297 l_297 (by decide) (by decide) dX4_sumUp_6 ?_
  refine k_sq (fun M2 => ?_)
  refine k_iconst X (v := 0) dX4_sumUp_7 (by decide) ?_
  refine x_istore_n X [(0, .ref (ad E 294)), (1, .ref (ad E d1))] dX4_sumUp_8 rfl (by decide) rfl (fun x3_ => ?_)
  refine k_lv [1, 2, 0] rfl ?_
  exact kb_Lab_sumUp_h9 X  FU d1 x3_ hd1 M2
theorem mt_Lab_sumUp (l : Launch) (E : En) (d1 : Nat) (hd1 : isDay d1) (M : Mem) : MV l E yX4_sumUp cX4_sumUp 5 none 0 0 [.ref (ad E 294), .ref (ad E d1)] M (j_Lab_sumUp d1 M) := MV_of (by decide) (Nat.le_of_ble_eq_true rfl) (fun Z _ X => k_lv [0, 1] rfl (kw_Lab_sumUp X d1 hd1 M))
-- FilmCans$Laboratory.reversalRolls
theorem kb_Lab_reversalRolls_b28 {Z : ZT} {E : En} (X : Cx Z E 4 cX4_reversalRolls RX4 (some .int) 0 0) (k4 : Nat → Int32 → Int32 → Mem → Option (Int32 × Mem)) (hk4 : ∀ (d1 : Nat) (x2 : Int32) (x3 : Int32) (hd1 : isDay d1) (M : Mem), Kj Z E 4 (QI Z E) (k4 d1 x2 x3 M) M 4 [(1, .ref (ad E d1)), (2, .int x2), (3, .int x3)] []) (d1 : Nat) (x2 : Int32) (x3 : Int32) (hd1 : isDay d1) (M : Mem) : Kj Z E 4 (QI Z E) (Lab_reversalRolls_b28 k4 d1 x2 x3 M) M 28 [(1, .ref (ad E d1)), (2, .int x2), (3, .int x3)] [] := by
  unfold Lab_reversalRolls_b28
  refine x_iinc X 1 2 [(1, .ref (ad E d1)), (2, .int x2)] dX4_reversalRolls_28 rfl (by decide) (by decide) rfl (fun x4_ => ?_)
  refine k_goto X 4 dX4_reversalRolls_31 (by decide) ?_
  refine k_lv [1, 2, 0] rfl ?_
  exact hk4 d1 x2 x4_ hd1 M
theorem kb_Lab_reversalRolls_h4 {Z : ZT} {E : En} (X : Cx Z E 4 cX4_reversalRolls RX4 (some .int) 0 0)  : ∀ (n : Nat) (d1 : Nat) (x2 : Int32) (x3 : Int32) (hd1 : isDay d1) (M : Mem), Kj Z E 4 (QI Z E) (Lab_reversalRolls_h4  n d1 x2 x3 M) M 4 [(1, .ref (ad E d1)), (2, .int x2), (3, .int x3)] [] := by
  intro n
  induction n with
  | zero => intro d1 x2 x3 hd1 M; exact k_none
  | succ n ih =>
    intro d1 x2 x3 hd1 M
    rw [Lab_reversalRolls_h4]
    refine k_iload_n X 2 dX4_reversalRolls_4 rfl rfl ?_
    refine k_aload_n X 0 dX4_reversalRolls_5 rfl rfl ?_
    refine k_getI X (day_C hd1) fRX4_24 dX4_reversalRolls_6 ?_
    refine k_icmp_ge X 34 dX4_reversalRolls_9 (by decide) ?_ ?_
    · refine k_iload_n X 1 dX4_reversalRolls_34 rfl rfl ?_
      exact k_iret X dX4_reversalRolls_35
    · refine k_aload_n X 0 dX4_reversalRolls_12 rfl rfl ?_
      refine k_getR X (day_C hd1) fRX4_34 (day_R11 hd1) dX4_reversalRolls_13 ?_
      refine k_iload_n X 2 dX4_reversalRolls_16 rfl rfl ?_
      refine k_iald X (day_A11 hd1) (day_L11 hd1) dX4_reversalRolls_17 (fun hb3 => ?_)
      refine k_iconst X (v := 1) dX4_reversalRolls_18 (by decide) ?_
      refine k_icmp_ne X 28 dX4_reversalRolls_19 (by decide) ?_ ?_
      · refine k_lv [0, 1, 2] rfl ?_
        exact kb_Lab_reversalRolls_b28 X (fun d1 x2 x3 M => Lab_reversalRolls_h4 n d1 x2 x3 M) (fun d1 x2 x3 hd1 M => ih d1 x2 x3 hd1 M) d1 x2 x3 hd1 M
      · refine k_iload_n X 1 dX4_reversalRolls_22 rfl rfl ?_
        refine k_iconst X (v := 1) dX4_reversalRolls_23 (by decide) ?_
        refine k_iload_n X 2 dX4_reversalRolls_24 rfl rfl ?_
        refine k_ishl X dX4_reversalRolls_25 ?_
        refine k_ior X dX4_reversalRolls_26 ?_
        refine x_istore_n X [(1, .ref (ad E d1)), (3, .int x3)] dX4_reversalRolls_27 rfl (by decide) rfl (fun x5_ => ?_)
        refine k_lv [1, 0, 2] rfl ?_
        exact kb_Lab_reversalRolls_b28 X (fun d1 x2 x3 M => Lab_reversalRolls_h4 n d1 x2 x3 M) (fun d1 x2 x3 hd1 M => ih d1 x2 x3 hd1 M) d1 x5_ x3 hd1 M
theorem kw_Lab_reversalRolls {Z : ZT} {E : En} (X : Cx Z E 4 cX4_reversalRolls RX4 (some .int) 0 0) (d1 : Nat) (hd1 : isDay d1) (M : Mem) : Kj Z E 4 (QI Z E) (j_Lab_reversalRolls d1 M) M 0 [(0, .ref (ad E 294)), (1, .ref (ad E d1))] [] := by
  unfold j_Lab_reversalRolls
  refine k_iconst X (v := 0) dX4_reversalRolls_0 (by decide) ?_
  refine x_istore_n X [(0, .ref (ad E 294)), (1, .ref (ad E d1))] dX4_reversalRolls_1 rfl (by decide) rfl (fun x1_ => ?_)
  refine k_iconst X (v := 0) dX4_reversalRolls_2 (by decide) ?_
  refine x_istore_n X [(2, .int x1_), (0, .ref (ad E 294)), (1, .ref (ad E d1))] dX4_reversalRolls_3 rfl (by decide) rfl (fun x2_ => ?_)
  refine k_lv [3, 1, 0] rfl ?_
  exact kb_Lab_reversalRolls_h4 X  FU d1 x1_ x2_ hd1 M
theorem mt_Lab_reversalRolls (l : Launch) (E : En) (d1 : Nat) (hd1 : isDay d1) (M : Mem) : MI l E yX4_reversalRolls cX4_reversalRolls 4 (some .int) 0 0 [.ref (ad E 294), .ref (ad E d1)] M (j_Lab_reversalRolls d1 M) := MI_of (by decide) (Nat.le_of_ble_eq_true rfl) (fun Z _ X => k_lv [0, 1] rfl (kw_Lab_reversalRolls X d1 hd1 M))
-- FilmCans$Laboratory.leastOf
theorem kb_Lab_leastOf_b98 {Z : ZT} {E : En} (X : Cx Z E 11 cX4_leastOf RX4 (some .int) 1 21) (k27 : Int32 → Int32 → Int32 → Int32 → Int32 → Int32 → Int32 → Mem → Option (Int32 × Mem)) (hk27 : ∀ (x1 : Int32) (x2 : Int32) (x3 : Int32) (x4 : Int32) (x5 : Int32) (x6 : Int32) (x7 : Int32) (M : Mem), Kj Z E 11 (QI Z E) (k27 x1 x2 x3 x4 x5 x6 x7 M) M 27 [(0, .ref (ad E 294)), (1, .int x1), (2, .int x2), (3, .int x3), (4, .int x4), (5, .int x5), (6, .int x6), (7, .int x7)] []) (x1 : Int32) (x2 : Int32) (x3 : Int32) (x4 : Int32) (x5 : Int32) (x6 : Int32) (x7 : Int32) (M : Mem) : Kj Z E 11 (QI Z E) (Lab_leastOf_b98 k27 x1 x2 x3 x4 x5 x6 x7 M) M 98 [(0, .ref (ad E 294)), (1, .int x1), (2, .int x2), (3, .int x3), (4, .int x4), (5, .int x5), (6, .int x6), (7, .int x7)] [] := by
  unfold Lab_leastOf_b98
  refine k_iload X 7 dX4_leastOf_98 rfl ?_
  refine k_iconst X (v := 1) dX4_leastOf_100 (by decide) ?_
  refine k_isub X dX4_leastOf_101 ?_
  refine k_iload X 5 dX4_leastOf_102 rfl ?_
  refine k_iand X dX4_leastOf_104 ?_
  refine x_istore X [(0, .ref (ad E 294)), (1, .int x1), (2, .int x2), (3, .int x3), (4, .int x4), (5, .int x5), (6, .int x6)] dX4_leastOf_105 (by decide) rfl (fun x7_ => ?_)
  refine k_goto X 27 dX4_leastOf_107 (by decide) ?_
  refine k_lv [1, 2, 3, 4, 5, 6, 7, 0] rfl ?_
  exact hk27 x1 x2 x3 x4 x5 x6 x7_ M
theorem kb_Lab_leastOf_b62 {Z : ZT} {E : En} (X : Cx Z E 11 cX4_leastOf RX4 (some .int) 1 21) (k27 : Int32 → Int32 → Int32 → Int32 → Int32 → Int32 → Int32 → Mem → Option (Int32 × Mem)) (hk27 : ∀ (x1 : Int32) (x2 : Int32) (x3 : Int32) (x4 : Int32) (x5 : Int32) (x6 : Int32) (x7 : Int32) (M : Mem), Kj Z E 11 (QI Z E) (k27 x1 x2 x3 x4 x5 x6 x7 M) M 27 [(0, .ref (ad E 294)), (1, .int x1), (2, .int x2), (3, .int x3), (4, .int x4), (5, .int x5), (6, .int x6), (7, .int x7)] []) (x1 : Int32) (x2 : Int32) (x3 : Int32) (x4 : Int32) (x5 : Int32) (x6 : Int32) (x7 : Int32) (x8 : Int32) (xs0 : Int32) (M : Mem) : Kj Z E 11 (QI Z E) (Lab_leastOf_b62 k27 x1 x2 x3 x4 x5 x6 x7 x8 xs0 M) M 62 [(0, .ref (ad E 294)), (1, .int x1), (2, .int x2), (3, .int x3), (4, .int x4), (5, .int x5), (6, .int x6), (7, .int x7), (8, .int x8)] [.int xs0] := by
  unfold Lab_leastOf_b62
  refine k_istore X [(10, .int xs0), (0, .ref (ad E 294)), (1, .int x1), (2, .int x2), (3, .int x3), (4, .int x4), (5, .int x5), (6, .int x6), (7, .int x7), (8, .int x8)] dX4_leastOf_62 (by decide) rfl ?_
  refine k_iload X 0 dX4_leastOf_64 rfl ?_
  refine k_if_eq X 98 dX4_leastOf_66 (by decide) ?_ ?_
  · refine k_lv [1, 2, 3, 4, 5, 6, 7, 8] rfl ?_
    exact kb_Lab_leastOf_b98 X k27 hk27 x1 x2 x3 x4 x5 x6 x7 M
  · refine k_aload_n X 1 dX4_leastOf_69 rfl rfl ?_
    refine k_getR X c_294 fRX4_18 r_294_2 dX4_leastOf_70 ?_
    refine k_iload X 9 dX4_leastOf_73 rfl ?_
    refine k_iald X c_297 l_297 dX4_leastOf_75 (fun hb8 => ?_)
    refine k_iload_n X 4 dX4_leastOf_76 rfl rfl ?_
    refine k_icmp_gt X 98 dX4_leastOf_77 (by decide) ?_ ?_
    · refine k_lv [1, 2, 3, 4, 5, 6, 7, 8] rfl ?_
      exact kb_Lab_leastOf_b98 X k27 hk27 x1 x2 x3 x4 x5 x6 x7 M
    · refine k_iload X 7 dX4_leastOf_80 rfl ?_
      refine k_iconst X (v := 1) dX4_leastOf_82 (by decide) ?_
      refine k_aload_n X 1 dX4_leastOf_83 rfl rfl ?_
      refine k_getR X c_294 fRX4_21 r_294_3 dX4_leastOf_84 ?_
      refine k_iload_n X 2 dX4_leastOf_87 rfl rfl ?_
      refine k_iload X 9 dX4_leastOf_88 rfl ?_
      refine k_ixor X dX4_leastOf_90 ?_
      refine k_iald X c_298 l_298 dX4_leastOf_91 (fun hb9 => ?_)
      refine k_iadd X dX4_leastOf_92 ?_
      refine k_mn X wm_ml670 wm_st493 w_77 wm_cd494 (by decide) (Nat.le_of_ble_eq_true rfl) dX4_leastOf_93 ?_
      refine x_istore X [(10, .int xs0), (0, .ref (ad E 294)), (1, .int x1), (2, .int x2), (3, .int x3), (4, .int x4), (5, .int x5), (7, .int x7), (8, .int x8)] dX4_leastOf_96 (by decide) rfl (fun x10_ => ?_)
      refine k_lv [2, 3, 4, 5, 6, 7, 0, 8] rfl ?_
      exact kb_Lab_leastOf_b98 X k27 hk27 x1 x2 x3 x4 x5 x10_ x7 M
theorem kb_Lab_leastOf_b57 {Z : ZT} {E : En} (X : Cx Z E 11 cX4_leastOf RX4 (some .int) 1 21) (k27 : Int32 → Int32 → Int32 → Int32 → Int32 → Int32 → Int32 → Mem → Option (Int32 × Mem)) (hk27 : ∀ (x1 : Int32) (x2 : Int32) (x3 : Int32) (x4 : Int32) (x5 : Int32) (x6 : Int32) (x7 : Int32) (M : Mem), Kj Z E 11 (QI Z E) (k27 x1 x2 x3 x4 x5 x6 x7 M) M 27 [(0, .ref (ad E 294)), (1, .int x1), (2, .int x2), (3, .int x3), (4, .int x4), (5, .int x5), (6, .int x6), (7, .int x7)] []) (x1 : Int32) (x2 : Int32) (x3 : Int32) (x4 : Int32) (x5 : Int32) (x6 : Int32) (x7 : Int32) (x8 : Int32) (M : Mem) : Kj Z E 11 (QI Z E) (Lab_leastOf_b57 k27 x1 x2 x3 x4 x5 x6 x7 x8 M) M 57 [(0, .ref (ad E 294)), (1, .int x1), (2, .int x2), (3, .int x3), (4, .int x4), (5, .int x5), (6, .int x6), (7, .int x7), (8, .int x8)] [] := by
  unfold Lab_leastOf_b57
  refine k_iconst X (v := 1) dX4_leastOf_57 (by decide) ?_
  refine k_goto X 62 dX4_leastOf_58 (by decide) ?_
  refine k_lv [0, 1, 2, 3, 4, 5, 6, 7, 8] rfl ?_
  exact kb_Lab_leastOf_b62 X k27 hk27 x1 x2 x3 x4 x5 x6 x7 x8 1 M
theorem kb_Lab_leastOf_h27 {Z : ZT} {E : En} (X : Cx Z E 11 cX4_leastOf RX4 (some .int) 1 21)  : ∀ (n : Nat) (x1 : Int32) (x2 : Int32) (x3 : Int32) (x4 : Int32) (x5 : Int32) (x6 : Int32) (x7 : Int32) (M : Mem), Kj Z E 11 (QI Z E) (Lab_leastOf_h27  n x1 x2 x3 x4 x5 x6 x7 M) M 27 [(0, .ref (ad E 294)), (1, .int x1), (2, .int x2), (3, .int x3), (4, .int x4), (5, .int x5), (6, .int x6), (7, .int x7)] [] := by
  intro n
  induction n with
  | zero => intro x1 x2 x3 x4 x5 x6 x7 M; exact k_none
  | succ n ih =>
    intro x1 x2 x3 x4 x5 x6 x7 M
    rw [Lab_leastOf_h27]
    refine k_iload X 7 dX4_leastOf_27 rfl ?_
    refine k_if_le X 110 dX4_leastOf_29 (by decide) ?_ ?_
    · refine k_iload X 6 dX4_leastOf_110 rfl ?_
      exact k_iret X dX4_leastOf_112
    · refine k_iload X 7 dX4_leastOf_32 rfl ?_
      refine k_iload X 4 dX4_leastOf_34 rfl ?_
      refine k_ior X dX4_leastOf_36 ?_
      refine x_istore X [(0, .ref (ad E 294)), (1, .int x1), (2, .int x2), (3, .int x3), (4, .int x4), (5, .int x5), (6, .int x6), (7, .int x7)] dX4_leastOf_37 (by decide) rfl (fun x5_ => ?_)
      refine k_iload X 0 dX4_leastOf_39 rfl ?_
      refine k_iload_n X 3 dX4_leastOf_41 rfl rfl ?_
      refine k_iand X dX4_leastOf_42 ?_
      refine x_istore X [(8, .int x5_), (0, .ref (ad E 294)), (1, .int x1), (2, .int x2), (3, .int x3), (4, .int x4), (5, .int x5), (6, .int x6), (7, .int x7)] dX4_leastOf_43 (by decide) rfl (fun x6_ => ?_)
      refine k_iload X 0 dX4_leastOf_45 rfl ?_
      refine k_if_eq X 57 dX4_leastOf_47 (by decide) ?_ ?_
      · refine k_lv [2, 3, 4, 5, 6, 7, 8, 9, 1] rfl ?_
        exact kb_Lab_leastOf_b57 X (fun x1 x2 x3 x4 x5 x6 x7 M => Lab_leastOf_h27 n x1 x2 x3 x4 x5 x6 x7 M) (fun x1 x2 x3 x4 x5 x6 x7 M => ih x1 x2 x3 x4 x5 x6 x7 M) x1 x2 x3 x4 x5 x6 x7 x5_ M
      · refine k_iload X 0 dX4_leastOf_50 rfl ?_
        refine k_iload X 1 dX4_leastOf_52 rfl ?_
        refine k_icmp_ne X 61 dX4_leastOf_54 (by decide) ?_ ?_
        · refine k_iconst X (v := 0) dX4_leastOf_61 (by decide) ?_
          refine k_lv [2, 3, 4, 5, 6, 7, 8, 9, 1] rfl ?_
          exact kb_Lab_leastOf_b62 X (fun x1 x2 x3 x4 x5 x6 x7 M => Lab_leastOf_h27 n x1 x2 x3 x4 x5 x6 x7 M) (fun x1 x2 x3 x4 x5 x6 x7 M => ih x1 x2 x3 x4 x5 x6 x7 M) x1 x2 x3 x4 x5 x6 x7 x5_ 0 M
        · refine k_lv [2, 3, 4, 5, 6, 7, 8, 9, 1] rfl ?_
          exact kb_Lab_leastOf_b57 X (fun x1 x2 x3 x4 x5 x6 x7 M => Lab_leastOf_h27 n x1 x2 x3 x4 x5 x6 x7 M) (fun x1 x2 x3 x4 x5 x6 x7 M => ih x1 x2 x3 x4 x5 x6 x7 M) x1 x2 x3 x4 x5 x6 x7 x5_ M
theorem kw_Lab_leastOf {Z : ZT} {E : En} (X : Cx Z E 11 cX4_leastOf RX4 (some .int) 1 21) (x1 : Int32) (x2 : Int32) (x3 : Int32) (M : Mem) : Kj Z E 11 (QI Z E) (j_Lab_leastOf x1 x2 x3 M) M 0 [(0, .ref (ad E 294)), (1, .int x1), (2, .int x2), (3, .int x3)] [] := by
  unfold j_Lab_leastOf
  refine k_iload_n X 1 dX4_leastOf_0 rfl rfl ?_
  refine k_iload_n X 1 dX4_leastOf_1 rfl rfl ?_
  refine k_ineg X dX4_leastOf_2 ?_
  refine k_iand X dX4_leastOf_3 ?_
  refine x_istore X [(0, .ref (ad E 294)), (1, .int x1), (2, .int x2), (3, .int x3)] dX4_leastOf_4 (by decide) rfl (fun x1_ => ?_)
  refine k_iload_n X 2 dX4_leastOf_6 rfl rfl ?_
  refine k_iload X 0 dX4_leastOf_7 rfl ?_
  refine k_ixor X dX4_leastOf_9 ?_
  refine x_istore X [(4, .int x1_), (0, .ref (ad E 294)), (1, .int x1), (2, .int x2), (3, .int x3)] dX4_leastOf_10 (by decide) rfl (fun x2_ => ?_)
  refine k_iconst X (v := 1) dX4_leastOf_12 (by decide) ?_
  refine k_aload_n X 2 dX4_leastOf_13 rfl rfl ?_
  refine k_getR X c_294 fRX4_21 r_294_3 dX4_leastOf_14 ?_
  refine k_iload X 0 dX4_leastOf_17 rfl ?_
  refine k_iald X c_298 l_298 dX4_leastOf_19 (fun hb3 => ?_)
  refine k_iadd X dX4_leastOf_20 ?_
  refine x_istore X [(5, .int x2_), (4, .int x1_), (0, .ref (ad E 294)), (1, .int x1), (2, .int x2), (3, .int x3)] dX4_leastOf_21 (by decide) rfl (fun x4_ => ?_)
  refine k_iload X 1 dX4_leastOf_23 rfl ?_
  refine k_istore X [(7, .int x2_), (6, .int x4_), (5, .int x2_), (4, .int x1_), (0, .ref (ad E 294)), (1, .int x1), (2, .int x2), (3, .int x3)] dX4_leastOf_25 (by decide) rfl ?_
  refine k_lv [4, 5, 6, 7, 3, 2, 1, 0] rfl ?_
  exact kb_Lab_leastOf_h27 X  FU x1 x2 x3 x1_ x2_ x4_ x2_ M
theorem mt_Lab_leastOf (l : Launch) (E : En) (x1 : Int32) (x2 : Int32) (x3 : Int32) (M : Mem) : MI l E yX4_leastOf cX4_leastOf 11 (some .int) 1 21 [.ref (ad E 294), .int x1, .int x2, .int x3] M (j_Lab_leastOf x1 x2 x3 M) := MI_of (by decide) (Nat.le_of_ble_eq_true rfl) (fun Z _ X => k_lv [0, 1, 2, 3] rfl (kw_Lab_leastOf X x1 x2 x3 M))
-- FilmCans$Laboratory.leastBatches
theorem kb_Lab_leastBatches_h30 {Z : ZT} {E : En} (X : Cx Z E 5 cX4_leastBatches RX4 (some .int) 2 51)  : ∀ (n : Nat) (d1 : Nat) (x2 : Int32) (x3 : Int32) (x4 : Int32) (hd1 : isDay d1) (M : Mem), Kj Z E 5 (QI Z E) (Lab_leastBatches_h30  n d1 x2 x3 x4 M) M 30 [(0, .ref (ad E 294)), (1, .ref (ad E d1)), (2, .int x2), (3, .int x3), (4, .int x4)] [] := by
  intro n
  induction n with
  | zero => intro d1 x2 x3 x4 hd1 M; exact k_none
  | succ n ih =>
    intro d1 x2 x3 x4 hd1 M
    rw [Lab_leastBatches_h30]
    refine k_iload X 4 dX4_leastBatches_30 rfl ?_
    refine k_iload_n X 3 dX4_leastBatches_32 rfl rfl ?_
    refine k_icmp_gt X 62 dX4_leastBatches_33 (by decide) ?_ ?_
    · refine k_aload_n X 0 dX4_leastBatches_62 rfl rfl ?_
      refine k_getR X c_294 fRX4_21 r_294_3 dX4_leastBatches_63 ?_
      refine k_iload_n X 3 dX4_leastBatches_66 rfl rfl ?_
      refine k_iald X c_298 l_298 dX4_leastBatches_67 (fun hb9 => ?_)
      exact k_iret X dX4_leastBatches_68
    · refine k_aload_n X 0 dX4_leastBatches_36 rfl rfl ?_
      refine k_getR X c_294 fRX4_21 r_294_3 dX4_leastBatches_37 ?_
      refine k_iload X 4 dX4_leastBatches_40 rfl ?_
      refine k_aload_n X 0 dX4_leastBatches_42 rfl rfl ?_
      refine k_iload X 4 dX4_leastBatches_43 rfl ?_
      refine k_iload_n X 2 dX4_leastBatches_45 rfl rfl ?_
      refine k_aload_n X 1 dX4_leastBatches_46 rfl rfl ?_
      refine k_getR X (day_C hd1) fRX4_40 (day_R1 hd1) dX4_leastBatches_47 ?_
      refine k_iconst X (v := 2) dX4_leastBatches_50 (by decide) ?_
      refine k_ialdC X 2 (day_A1 hd1) (day_L1 hd1) (by decide) (by decide) dX4_leastBatches_51 ?_
      refine k_callVI X [.int x4, .int x2, .int (gi M (d1 + 1) 2)] [.int x4, .ref (ad E 298)] c_294 rfl (by decide) rfl (mt_Lab_leastOf (zl Z) E x4 x2 (gi M (d1 + 1) 2) M) mRX4_51 ⟨by decide, by decide⟩ rfl rfl (Nat.le_of_ble_eq_true rfl) dX4_leastBatches_52 (fun r11 M12 => ?_)
      refine k_iast X c_298 l_298 dX4_leastBatches_55 (fun hb13 => ?_)
      refine k_sq (fun M14 => ?_)
      refine x_iinc X 1 4 [(0, .ref (ad E 294)), (1, .ref (ad E d1)), (2, .int x2), (3, .int x3)] dX4_leastBatches_56 rfl (by decide) (by decide) rfl (fun x15_ => ?_)
      refine k_goto X 30 dX4_leastBatches_59 (by decide) ?_
      refine k_lv [1, 2, 3, 4, 0] rfl ?_
      exact ih d1 x2 x3 x15_ hd1 M14
theorem kw_Lab_leastBatches {Z : ZT} {E : En} (X : Cx Z E 5 cX4_leastBatches RX4 (some .int) 2 51) (d1 : Nat) (hd1 : isDay d1) (M : Mem) : Kj Z E 5 (QI Z E) (j_Lab_leastBatches d1 M) M 0 [(0, .ref (ad E 294)), (1, .ref (ad E d1))] [] := by
  unfold j_Lab_leastBatches
  refine k_aload_n X 0 dX4_leastBatches_0 rfl rfl ?_
  refine k_aload_n X 1 dX4_leastBatches_1 rfl rfl ?_
  refine k_callVV X [.ref (ad E d1)] [] c_294 rfl (by decide) rfl (mt_Lab_sumUp (zl Z) E d1 hd1 M) mRX4_43 ⟨by decide, by decide⟩ rfl rfl (Nat.le_of_ble_eq_true rfl) dX4_leastBatches_2 (fun _ M2 => ?_)
  refine k_aload_n X 0 dX4_leastBatches_5 rfl rfl ?_
  refine k_aload_n X 1 dX4_leastBatches_6 rfl rfl ?_
  refine k_callVI X [.ref (ad E d1)] [] c_294 rfl (by decide) rfl (mt_Lab_reversalRolls (zl Z) E d1 hd1 M2) mRX4_47 ⟨by decide, by decide⟩ rfl rfl (Nat.le_of_ble_eq_true rfl) dX4_leastBatches_7 (fun r3 M4 => ?_)
  refine k_istore_n X [(2, .int r3), (0, .ref (ad E 294)), (1, .ref (ad E d1))] dX4_leastBatches_10 rfl (by decide) rfl ?_
  refine k_iconst X (v := 1) dX4_leastBatches_11 (by decide) ?_
  refine k_aload_n X 2 dX4_leastBatches_12 rfl rfl ?_
  refine k_getI X (day_C hd1) fRX4_24 dX4_leastBatches_13 ?_
  refine k_ishl X dX4_leastBatches_16 ?_
  refine k_iconst X (v := 1) dX4_leastBatches_17 (by decide) ?_
  refine k_isub X dX4_leastBatches_18 ?_
  refine x_istore_n X [(2, .int r3), (0, .ref (ad E 294)), (1, .ref (ad E d1))] dX4_leastBatches_19 rfl (by decide) rfl (fun x5_ => ?_)
  refine k_aload_n X 2 dX4_leastBatches_20 rfl rfl ?_
  refine k_getR X c_294 fRX4_21 r_294_3 dX4_leastBatches_21 ?_
  refine k_iconst X (v := 0) dX4_leastBatches_24 (by decide) ?_
  refine k_iconst X (v := 0) dX4_leastBatches_25 (by decide) ?_
  refine k_iastC X 0 c_298 l_298 (by decide) (by decide) dX4_leastBatches_26 ?_
  refine k_sq (fun M7 => ?_)
  refine k_iconst X (v := 1) dX4_leastBatches_27 (by decide) ?_
  refine x_istore X [(3, .int x5_), (2, .int r3), (0, .ref (ad E 294)), (1, .ref (ad E d1))] dX4_leastBatches_28 (by decide) rfl (fun x8_ => ?_)
  refine k_lv [3, 4, 2, 1, 0] rfl ?_
  exact kb_Lab_leastBatches_h30 X  FU d1 r3 x5_ x8_ hd1 M7
theorem mt_Lab_leastBatches (l : Launch) (E : En) (d1 : Nat) (hd1 : isDay d1) (M : Mem) : MI l E yX4_leastBatches cX4_leastBatches 5 (some .int) 2 51 [.ref (ad E 294), .ref (ad E d1)] M (j_Lab_leastBatches d1 M) := MI_of (by decide) (Nat.le_of_ble_eq_true rfl) (fun Z _ X => k_lv [0, 1] rfl (kw_Lab_leastBatches X d1 hd1 M))
-- FilmCans.batches
theorem kw_Fc_batches {Z : ZT} {E : En} (X : Cx Z E 2 cX8_batches RX8 (some .int) 3 75) (x1 : Int32) (M : Mem) : Kj Z E 2 (QI Z E) (j_Fc_batches x1 M) M 0 [(0, .ref (ad E 0)), (1, .int x1)] [] := by
  unfold j_Fc_batches
  refine k_iload_n X 1 dX8_batches_0 rfl rfl ?_
  refine k_if (fun hs0 => ?_) (fun hs0 => ?_)
  · refine k_lookup X (off := 27) 28 dX8_batches_1 (by decide) (by rw [hs0]; rfl) (by decide) ?_
    refine k_aload_n X 0 dX8_batches_28 rfl rfl ?_
    refine k_getR X c_0 fRX8_40 r_0_5 dX8_batches_29 ?_
    refine k_aload_n X 0 dX8_batches_32 rfl rfl ?_
    refine k_getR X c_0 fRX8_19 r_0_1 dX8_batches_33 ?_
    refine k_callVI X [.ref (ad E 3)] [] c_294 rfl (by decide) rfl (mt_Lab_byLab (zl Z) E 3 day_3 M) mRX8_162 ⟨by decide, by decide⟩ rfl rfl (Nat.le_of_ble_eq_true rfl) dX8_batches_36 (fun r1 M2 => ?_)
    exact k_iret X dX8_batches_39
  · refine k_if (fun hs1 => ?_) (fun hs1 => ?_)
    · refine k_lookup X (off := 39) 40 dX8_batches_1 (by decide) (by rw [hs1]; rfl) (by decide) ?_
      refine k_aload_n X 0 dX8_batches_40 rfl rfl ?_
      refine k_getR X c_0 fRX8_40 r_0_5 dX8_batches_41 ?_
      refine k_aload_n X 0 dX8_batches_44 rfl rfl ?_
      refine k_getR X c_0 fRX8_19 r_0_1 dX8_batches_45 ?_
      refine k_callVI X [.ref (ad E 3)] [] c_294 rfl (by decide) rfl (mt_Lab_leastBatches (zl Z) E 3 day_3 M) mRX8_253 ⟨by decide, by decide⟩ rfl rfl (Nat.le_of_ble_eq_true rfl) dX8_batches_48 (fun r3 M4 => ?_)
      exact k_iret X dX8_batches_51
    · refine k_lookup X (off := 51) 52 dX8_batches_1 (by decide) (by show Op.lookupswitch.offset [(0, 27), (1, 39)] _ _ = _; rw [lv_osw hs0 (by decide), lv_osw hs1 (by decide)]; rfl) (by decide) ?_
      refine k_ldc X w_359 dX8_batches_52 ?_
      exact k_iret X dX8_batches_54
theorem mt_Fc_batches (l : Launch) (E : En) (x1 : Int32) (M : Mem) : MI l E yX8_batches cX8_batches 2 (some .int) 3 75 [.ref (ad E 0), .int x1] M (j_Fc_batches x1 M) := MI_of (by decide) (Nat.le_of_ble_eq_true rfl) (fun Z _ X => k_lv [0, 1] rfl (kw_Fc_batches X x1 M))
-- FilmCans.as
theorem kw_Fc_as {Z : ZT} {E : En} (X : Cx Z E 3 cX8_as RX8 (some .int) 2 41) (x1 : Int32) (x2 : Int32) (M : Mem) : Kj Z E 3 (QI Z E) (j_Fc_as x1 x2 M) M 0 [(0, .ref (ad E 0)), (1, .int x1), (2, .int x2)] [] := by
  unfold j_Fc_as
  refine k_aload_n X 0 dX8_as_0 rfl rfl ?_
  refine k_getR X c_0 fRX8_19 r_0_1 dX8_as_1 ?_
  refine k_iload_n X 1 dX8_as_4 rfl rfl ?_
  refine k_callVI X [.int x1] [] c_3 rfl (by decide) rfl (mt_Day_hasCan (zl Z) E 3 x1 day_3 M) mRX8_103 ⟨by decide, by decide⟩ rfl rfl (Nat.le_of_ble_eq_true rfl) dX8_as_5 (fun r1 M2 => ?_)
  refine k_if_eq X 18 dX8_as_8 (by decide) ?_ ?_
  · refine k_ldc X w_359 dX8_as_18 ?_
    exact k_iret X dX8_as_20
  · refine k_iload_n X 2 dX8_as_11 rfl rfl ?_
    refine k_callSI X [.int x2] [] (mt_Kinds_isKind (zl Z) E x2 M2) mRX8_189 ⟨by decide, by decide⟩ rfl rfl (Nat.le_of_ble_eq_true rfl) dX8_as_12 (fun r3 M4 => ?_)
    refine k_if_ne X 21 dX8_as_15 (by decide) ?_ ?_
    · refine k_aload_n X 0 dX8_as_21 rfl rfl ?_
      refine k_getR X c_0 fRX8_19 r_0_1 dX8_as_22 ?_
      refine k_getR X c_3 fRX8_141 r_3_10 dX8_as_25 ?_
      refine k_iload_n X 1 dX8_as_28 rfl rfl ?_
      refine k_iald X c_5 l_5 dX8_as_29 (fun hb5 => ?_)
      refine k_iload_n X 2 dX8_as_30 rfl rfl ?_
      refine k_callSI X [.int (gi M4 5 (ix x1)), .int x2] [] (mt_Kinds_isOf (zl Z) E (gi M4 5 (ix x1)) x2 M4) mRX8_256 ⟨by decide, by decide⟩ rfl rfl (Nat.le_of_ble_eq_true rfl) dX8_as_31 (fun r6 M7 => ?_)
      refine k_if_eq X 41 dX8_as_34 (by decide) ?_ ?_
      · refine k_ldc X w_472 dX8_as_41 ?_
        exact k_iret X dX8_as_43
      · refine k_iload_n X 1 dX8_as_37 rfl rfl ?_
        refine k_goto X 43 dX8_as_38 (by decide) ?_
        exact k_iret X dX8_as_43
    · refine k_ldc X w_359 dX8_as_18 ?_
      exact k_iret X dX8_as_20
theorem mt_Fc_as (l : Launch) (E : En) (x1 : Int32) (x2 : Int32) (M : Mem) : MI l E yX8_as cX8_as 3 (some .int) 2 41 [.ref (ad E 0), .int x1, .int x2] M (j_Fc_as x1 x2 M) := MI_of (by decide) (Nat.le_of_ble_eq_true rfl) (fun Z _ X => k_lv [0, 1, 2] rfl (kw_Fc_as X x1 x2 M))
-- FilmCans$Day.openTakes
theorem kw_Day_openTakes {Z : ZT} {E : En} (X : Cx Z E 1 cX1_openTakes RX1 (some .int) 1 23) (d0 : Nat) (hd0 : isDay d0) (M : Mem) : Kj Z E 1 (QI Z E) (j_Day_openTakes d0 M) M 0 [(0, .ref (ad E d0))] [] := by
  unfold j_Day_openTakes
  refine k_aload_n X 0 dX1_openTakes_0 rfl rfl ?_
  refine k_ldc X w_117 dX1_openTakes_1 ?_
  refine k_callVI X [.int (-1000000)] [] (day_C hd0) rfl (by decide) rfl (mt_Day_takesShotOn (zl Z) E d0 (-1000000) hd0 M) mRX1_93 ⟨by decide, by decide⟩ rfl rfl (Nat.le_of_ble_eq_true rfl) dX1_openTakes_3 (fun r1 M2 => ?_)
  exact k_iret X dX1_openTakes_6
theorem mt_Day_openTakes (l : Launch) (E : En) (d0 : Nat) (hd0 : isDay d0) (M : Mem) : MI l E yX1_openTakes cX1_openTakes 1 (some .int) 1 23 [.ref (ad E d0)] M (j_Day_openTakes d0 M) := MI_of (by decide) (Nat.le_of_ble_eq_true rfl) (fun Z _ X => k_lv [0] rfl (kw_Day_openTakes X d0 hd0 M))
-- FilmCans$Day.isRoom
theorem kw_Day_isRoom {Z : ZT} {E : En} (X : Cx Z E 2 cX1_isRoom RX1 (some .boolean) 0 0) (d0 : Nat) (x1 : Int32) (hd0 : isDay d0) (M : Mem) : Kj Z E 2 (QI Z E) (j_Day_isRoom d0 x1 M) M 0 [(0, .ref (ad E d0)), (1, .int x1)] [] := by
  unfold j_Day_isRoom
  refine k_aload_n X 0 dX1_isRoom_0 rfl rfl ?_
  refine k_getR X (day_C hd0) fRX1_26 (day_R4 hd0) dX1_isRoom_1 ?_
  refine k_iload_n X 1 dX1_isRoom_4 rfl rfl ?_
  refine k_iald X (day_A4 hd0) (day_L4 hd0) dX1_isRoom_5 (fun hb1 => ?_)
  refine k_iconst X (v := 2) dX1_isRoom_6 (by decide) ?_
  refine k_icmp_eq X 14 dX1_isRoom_7 (by decide) ?_ ?_
  · refine k_iconst X (v := 0) dX1_isRoom_14 (by decide) ?_
    exact k_zret X (by decide) dX1_isRoom_15
  · refine k_iconst X (v := 1) dX1_isRoom_10 (by decide) ?_
    refine k_goto X 15 dX1_isRoom_11 (by decide) ?_
    exact k_zret X (by decide) dX1_isRoom_15
theorem mt_Day_isRoom (l : Launch) (E : En) (d0 : Nat) (x1 : Int32) (hd0 : isDay d0) (M : Mem) : MI l E yX1_isRoom cX1_isRoom 2 (some .boolean) 0 0 [.ref (ad E d0), .int x1] M (j_Day_isRoom d0 x1 M) := MI_of (by decide) (Nat.le_of_ble_eq_true rfl) (fun Z _ X => k_lv [0, 1] rfl (kw_Day_isRoom X d0 x1 hd0 M))
-- FilmCans$Day.rooms
theorem kb_Day_rooms_b26 {Z : ZT} {E : En} (X : Cx Z E 3 cX1_rooms RX1 (some .int) 1 21) (k4 : Nat → Int32 → Int32 → Mem → Option (Int32 × Mem)) (hk4 : ∀ (d0 : Nat) (x1 : Int32) (x2 : Int32) (hd0 : isDay d0) (M : Mem), Kj Z E 3 (QI Z E) (k4 d0 x1 x2 M) M 4 [(0, .ref (ad E d0)), (1, .int x1), (2, .int x2)] []) (d0 : Nat) (x1 : Int32) (x2 : Int32) (hd0 : isDay d0) (M : Mem) : Kj Z E 3 (QI Z E) (Day_rooms_b26 k4 d0 x1 x2 M) M 26 [(0, .ref (ad E d0)), (1, .int x1), (2, .int x2)] [] := by
  unfold Day_rooms_b26
  refine x_iinc X 1 2 [(0, .ref (ad E d0)), (1, .int x1)] dX1_rooms_26 rfl (by decide) (by decide) rfl (fun x5_ => ?_)
  refine k_goto X 4 dX1_rooms_29 (by decide) ?_
  refine k_lv [1, 2, 0] rfl ?_
  exact hk4 d0 x1 x5_ hd0 M
theorem kb_Day_rooms_h4 {Z : ZT} {E : En} (X : Cx Z E 3 cX1_rooms RX1 (some .int) 1 21)  : ∀ (n : Nat) (d0 : Nat) (x1 : Int32) (x2 : Int32) (hd0 : isDay d0) (M : Mem), Kj Z E 3 (QI Z E) (Day_rooms_h4  n d0 x1 x2 M) M 4 [(0, .ref (ad E d0)), (1, .int x1), (2, .int x2)] [] := by
  intro n
  induction n with
  | zero => intro d0 x1 x2 hd0 M; exact k_none
  | succ n ih =>
    intro d0 x1 x2 hd0 M
    rw [Day_rooms_h4]
    refine k_iload_n X 2 dX1_rooms_4 rfl rfl ?_
    refine k_aload_n X 0 dX1_rooms_5 rfl rfl ?_
    refine k_getI X (day_C hd0) fRX1_50 dX1_rooms_6 ?_
    refine k_icmp_ge X 32 dX1_rooms_9 (by decide) ?_ ?_
    · refine k_iload_n X 1 dX1_rooms_32 rfl rfl ?_
      exact k_iret X dX1_rooms_33
    · refine k_aload_n X 0 dX1_rooms_12 rfl rfl ?_
      refine k_iload_n X 2 dX1_rooms_13 rfl rfl ?_
      refine k_callVI X [.int x2] [] (day_C hd0) rfl (by decide) rfl (mt_Day_isRoom (zl Z) E d0 x2 hd0 M) mRX1_100 ⟨by decide, by decide⟩ rfl rfl (Nat.le_of_ble_eq_true rfl) dX1_rooms_14 (fun r3 M4 => ?_)
      refine k_if_eq X 26 dX1_rooms_17 (by decide) ?_ ?_
      · refine k_lv [0, 1, 2] rfl ?_
        exact kb_Day_rooms_b26 X (fun d0 x1 x2 M => Day_rooms_h4 n d0 x1 x2 M) (fun d0 x1 x2 hd0 M => ih d0 x1 x2 hd0 M) d0 x1 x2 hd0 M4
      · refine k_iload_n X 1 dX1_rooms_20 rfl rfl ?_
        refine k_iconst X (v := 1) dX1_rooms_21 (by decide) ?_
        refine k_iload_n X 2 dX1_rooms_22 rfl rfl ?_
        refine k_ishl X dX1_rooms_23 ?_
        refine k_ior X dX1_rooms_24 ?_
        refine x_istore_n X [(0, .ref (ad E d0)), (2, .int x2)] dX1_rooms_25 rfl (by decide) rfl (fun x6_ => ?_)
        refine k_lv [1, 0, 2] rfl ?_
        exact kb_Day_rooms_b26 X (fun d0 x1 x2 M => Day_rooms_h4 n d0 x1 x2 M) (fun d0 x1 x2 hd0 M => ih d0 x1 x2 hd0 M) d0 x6_ x2 hd0 M4
theorem kw_Day_rooms {Z : ZT} {E : En} (X : Cx Z E 3 cX1_rooms RX1 (some .int) 1 21) (d0 : Nat) (hd0 : isDay d0) (M : Mem) : Kj Z E 3 (QI Z E) (j_Day_rooms d0 M) M 0 [(0, .ref (ad E d0))] [] := by
  unfold j_Day_rooms
  refine k_iconst X (v := 0) dX1_rooms_0 (by decide) ?_
  refine x_istore_n X [(0, .ref (ad E d0))] dX1_rooms_1 rfl (by decide) rfl (fun x1_ => ?_)
  refine k_iconst X (v := 0) dX1_rooms_2 (by decide) ?_
  refine x_istore_n X [(1, .int x1_), (0, .ref (ad E d0))] dX1_rooms_3 rfl (by decide) rfl (fun x2_ => ?_)
  refine k_lv [2, 1, 0] rfl ?_
  exact kb_Day_rooms_h4 X  FU d0 x1_ x2_ hd0 M
theorem mt_Day_rooms (l : Launch) (E : En) (d0 : Nat) (hd0 : isDay d0) (M : Mem) : MI l E yX1_rooms cX1_rooms 3 (some .int) 1 21 [.ref (ad E d0)] M (j_Day_rooms d0 M) := MI_of (by decide) (Nat.le_of_ble_eq_true rfl) (fun Z _ X => k_lv [0] rfl (kw_Day_rooms X d0 hd0 M))
-- FilmCans$Rooms.has
theorem kw_Rooms_has {Z : ZT} {E : En} (X : Cx Z E 2 cX6_has RX6 (some .boolean) 0 0) (x1 : Int32) (M : Mem) : Kj Z E 2 (QI Z E) (j_Rooms_has x1 M) M 0 [(0, .ref (ad E 299)), (1, .int x1)] [] := by
  unfold j_Rooms_has
  refine k_aload_n X 0 dX6_has_0 rfl rfl ?_
  refine k_getI X c_299 fRX6_47 dX6_has_1 ?_
  refine k_iload_n X 1 dX6_has_4 rfl rfl ?_
  refine k_ishr X dX6_has_5 ?_
  refine k_iconst X (v := 1) dX6_has_6 (by decide) ?_
  refine k_iand X dX6_has_7 ?_
  refine k_iconst X (v := 1) dX6_has_8 (by decide) ?_
  refine k_icmp_ne X 16 dX6_has_9 (by decide) ?_ ?_
  · refine k_iconst X (v := 0) dX6_has_16 (by decide) ?_
    exact k_zret X (by decide) dX6_has_17
  · refine k_iconst X (v := 1) dX6_has_12 (by decide) ?_
    refine k_goto X 17 dX6_has_13 (by decide) ?_
    exact k_zret X (by decide) dX6_has_17
theorem mt_Rooms_has (l : Launch) (E : En) (x1 : Int32) (M : Mem) : MI l E yX6_has cX6_has 2 (some .boolean) 0 0 [.ref (ad E 299), .int x1] M (j_Rooms_has x1 M) := MI_of (by decide) (Nat.le_of_ble_eq_true rfl) (fun Z _ X => k_lv [0, 1] rfl (kw_Rooms_has X x1 M))
-- FilmCans$Day.takesServedBy
theorem kb_Day_takesServedBy_b31 {Z : ZT} {E : En} (X : Cx Z E 4 cX1_takesServedBy RX1 (some .int) 2 41) (k4 : Nat → Int32 → Int32 → Int32 → Mem → Option (Int32 × Mem)) (hk4 : ∀ (d0 : Nat) (x1 : Int32) (x2 : Int32) (x3 : Int32) (hd0 : isDay d0) (M : Mem), Kj Z E 4 (QI Z E) (k4 d0 x1 x2 x3 M) M 4 [(0, .ref (ad E d0)), (1, .int x1), (2, .int x2), (3, .int x3)] []) (d0 : Nat) (x1 : Int32) (x2 : Int32) (x3 : Int32) (hd0 : isDay d0) (M : Mem) : Kj Z E 4 (QI Z E) (Day_takesServedBy_b31 k4 d0 x1 x2 x3 M) M 31 [(0, .ref (ad E d0)), (1, .int x1), (2, .int x2), (3, .int x3)] [] := by
  unfold Day_takesServedBy_b31
  refine x_iinc X 1 3 [(0, .ref (ad E d0)), (1, .int x1), (2, .int x2)] dX1_takesServedBy_31 rfl (by decide) (by decide) rfl (fun x6_ => ?_)
  refine k_goto X 4 dX1_takesServedBy_34 (by decide) ?_
  refine k_lv [1, 2, 3, 0] rfl ?_
  exact hk4 d0 x1 x2 x6_ hd0 M
theorem kb_Day_takesServedBy_h4 {Z : ZT} {E : En} (X : Cx Z E 4 cX1_takesServedBy RX1 (some .int) 2 41)  : ∀ (n : Nat) (d0 : Nat) (x1 : Int32) (x2 : Int32) (x3 : Int32) (hd0 : isDay d0) (M : Mem), Kj Z E 4 (QI Z E) (Day_takesServedBy_h4  n d0 x1 x2 x3 M) M 4 [(0, .ref (ad E d0)), (1, .int x1), (2, .int x2), (3, .int x3)] [] := by
  intro n
  induction n with
  | zero => intro d0 x1 x2 x3 hd0 M; exact k_none
  | succ n ih =>
    intro d0 x1 x2 x3 hd0 M
    rw [Day_takesServedBy_h4]
    refine k_iload_n X 3 dX1_takesServedBy_4 rfl rfl ?_
    refine k_aload_n X 0 dX1_takesServedBy_5 rfl rfl ?_
    refine k_getI X (day_C hd0) fRX1_53 dX1_takesServedBy_6 ?_
    refine k_icmp_ge X 37 dX1_takesServedBy_9 (by decide) ?_ ?_
    · refine k_iload_n X 2 dX1_takesServedBy_37 rfl rfl ?_
      exact k_iret X dX1_takesServedBy_38
    · refine k_iload_n X 1 dX1_takesServedBy_12 rfl rfl ?_
      refine k_aload_n X 0 dX1_takesServedBy_13 rfl rfl ?_
      refine k_getR X (day_C hd0) fRX1_32 (day_R6 hd0) dX1_takesServedBy_14 ?_
      refine k_iload_n X 3 dX1_takesServedBy_17 rfl rfl ?_
      refine k_iald X (day_A6 hd0) (day_L6 hd0) dX1_takesServedBy_18 (fun hb3 => ?_)
      refine k_callSI X [.int x1, .int (gi M (d0 + 6) (ix x3))] [] (mt_Kinds_isOf (zl Z) E x1 (gi M (d0 + 6) (ix x3)) M) mRX1_80 ⟨by decide, by decide⟩ rfl rfl (Nat.le_of_ble_eq_true rfl) dX1_takesServedBy_19 (fun r4 M5 => ?_)
      refine k_if_eq X 31 dX1_takesServedBy_22 (by decide) ?_ ?_
      · refine k_lv [0, 1, 2, 3] rfl ?_
        exact kb_Day_takesServedBy_b31 X (fun d0 x1 x2 x3 M => Day_takesServedBy_h4 n d0 x1 x2 x3 M) (fun d0 x1 x2 x3 hd0 M => ih d0 x1 x2 x3 hd0 M) d0 x1 x2 x3 hd0 M5
      · refine k_iload_n X 2 dX1_takesServedBy_25 rfl rfl ?_
        refine k_iconst X (v := 1) dX1_takesServedBy_26 (by decide) ?_
        refine k_iload_n X 3 dX1_takesServedBy_27 rfl rfl ?_
        refine k_ishl X dX1_takesServedBy_28 ?_
        refine k_ior X dX1_takesServedBy_29 ?_
        refine x_istore_n X [(0, .ref (ad E d0)), (1, .int x1), (3, .int x3)] dX1_takesServedBy_30 rfl (by decide) rfl (fun x7_ => ?_)
        refine k_lv [1, 2, 0, 3] rfl ?_
        exact kb_Day_takesServedBy_b31 X (fun d0 x1 x2 x3 M => Day_takesServedBy_h4 n d0 x1 x2 x3 M) (fun d0 x1 x2 x3 hd0 M => ih d0 x1 x2 x3 hd0 M) d0 x1 x7_ x3 hd0 M5
theorem kw_Day_takesServedBy {Z : ZT} {E : En} (X : Cx Z E 4 cX1_takesServedBy RX1 (some .int) 2 41) (d0 : Nat) (x1 : Int32) (hd0 : isDay d0) (M : Mem) : Kj Z E 4 (QI Z E) (j_Day_takesServedBy d0 x1 M) M 0 [(0, .ref (ad E d0)), (1, .int x1)] [] := by
  unfold j_Day_takesServedBy
  refine k_iconst X (v := 0) dX1_takesServedBy_0 (by decide) ?_
  refine x_istore_n X [(0, .ref (ad E d0)), (1, .int x1)] dX1_takesServedBy_1 rfl (by decide) rfl (fun x1_ => ?_)
  refine k_iconst X (v := 0) dX1_takesServedBy_2 (by decide) ?_
  refine x_istore_n X [(2, .int x1_), (0, .ref (ad E d0)), (1, .int x1)] dX1_takesServedBy_3 rfl (by decide) rfl (fun x2_ => ?_)
  refine k_lv [2, 3, 1, 0] rfl ?_
  exact kb_Day_takesServedBy_h4 X  FU d0 x1 x1_ x2_ hd0 M
theorem mt_Day_takesServedBy (l : Launch) (E : En) (d0 : Nat) (x1 : Int32) (hd0 : isDay d0) (M : Mem) : MI l E yX1_takesServedBy cX1_takesServedBy 4 (some .int) 2 41 [.ref (ad E d0), .int x1] M (j_Day_takesServedBy d0 x1 M) := MI_of (by decide) (Nat.le_of_ble_eq_true rfl) (fun Z _ X => k_lv [0, 1] rfl (kw_Day_takesServedBy X d0 x1 hd0 M))
-- FilmCans$Rooms.lookAtCan
theorem kb_Rooms_lookAtCan_b103 {Z : ZT} {E : En} (X : Cx Z E 5 cX6_lookAtCan RX6 none 3 64) (d1 : Nat) (x2 : Int32) (x3 : Int32) (xs0 : Int32) (xs1 : Int32) (hd1 : isDay d1) (M : Mem) : Kj Z E 5 (QV Z E) (Rooms_lookAtCan_b103 d1 x2 x3 xs0 xs1 M) M 103 [(0, .ref (ad E 299)), (1, .ref (ad E d1)), (2, .int x2), (3, .int x3)] [.int xs0, .int xs1, .ref (ad E 303)] := by
  unfold Rooms_lookAtCan_b103
  refine k_iast X c_303 l_303 dX6_lookAtCan_103 (fun hb22 => ?_)
  refine k_sq (fun M23 => ?_)
  refine k_aload_n X 0 dX6_lookAtCan_104 rfl rfl ?_
  refine k_getR X c_299 fRX6_24 r_299_6 dX6_lookAtCan_105 ?_
  refine k_iload_n X 2 dX6_lookAtCan_108 rfl rfl ?_
  refine k_aload_n X 0 dX6_lookAtCan_109 rfl rfl ?_
  refine k_getI X c_299 fRX6_54 dX6_lookAtCan_110 ?_
  refine k_aload_n X 1 dX6_lookAtCan_113 rfl rfl ?_
  refine k_iload_n X 3 dX6_lookAtCan_114 rfl rfl ?_
  refine k_callVI X [.int x3] [.int (gi M23 299 1), .int x2, .ref (ad E 304)] (day_C hd1) rfl (by decide) rfl (mt_Day_takesServedBy (zl Z) E d1 x3 hd1 M23) mRX6_98 ⟨by decide, by decide⟩ rfl rfl (Nat.le_of_ble_eq_true rfl) dX6_lookAtCan_115 (fun r24 M25 => ?_)
  refine k_iand X dX6_lookAtCan_118 ?_
  refine k_iast X c_304 l_304 dX6_lookAtCan_119 (fun hb26 => ?_)
  refine k_sq (fun M27 => ?_)
  exact k_vret X dX6_lookAtCan_120
theorem kb_Rooms_lookAtCan_b73 {Z : ZT} {E : En} (X : Cx Z E 5 cX6_lookAtCan RX6 none 3 64) (d1 : Nat) (x2 : Int32) (x3 : Int32) (x4 : Int32) (xs0 : Int32) (xs1 : Int32) (hd1 : isDay d1) (M : Mem) : Kj Z E 5 (QV Z E) (Rooms_lookAtCan_b73 d1 x2 x3 x4 xs0 xs1 M) M 73 [(0, .ref (ad E 299)), (1, .ref (ad E d1)), (2, .int x2), (3, .int x3), (4, .int x4)] [.int xs0, .int xs1, .ref (ad E 301)] := by
  unfold Rooms_lookAtCan_b73
  refine k_iast X c_301 l_301 dX6_lookAtCan_73 (fun hb16 => ?_)
  refine k_sq (fun M17 => ?_)
  refine k_aload_n X 0 dX6_lookAtCan_74 rfl rfl ?_
  refine k_getR X c_299 fRX6_18 r_299_4 dX6_lookAtCan_75 ?_
  refine k_iload_n X 2 dX6_lookAtCan_78 rfl rfl ?_
  refine k_iload_n X 3 dX6_lookAtCan_79 rfl rfl ?_
  refine k_callSI X [.int x3] [.int x2, .ref (ad E 302)] (mt_Kinds_slateOf (zl Z) E x3 M17) mRX6_93 ⟨by decide, by decide⟩ rfl rfl (Nat.le_of_ble_eq_true rfl) dX6_lookAtCan_80 (fun r18 M19 => ?_)
  refine k_iast X c_302 l_302 dX6_lookAtCan_83 (fun hb20 => ?_)
  refine k_sq (fun M21 => ?_)
  refine k_aload_n X 0 dX6_lookAtCan_84 rfl rfl ?_
  refine k_getR X c_299 fRX6_21 r_299_5 dX6_lookAtCan_85 ?_
  refine k_iload_n X 2 dX6_lookAtCan_88 rfl rfl ?_
  refine k_iload X 4 dX6_lookAtCan_89 rfl ?_
  refine k_ldc X w_710 dX6_lookAtCan_91 ?_
  refine k_icmp_ne X 101 dX6_lookAtCan_93 (by decide) ?_ ?_
  · refine k_iload X 4 dX6_lookAtCan_101 rfl ?_
    refine k_lv [0, 1, 2, 3] rfl ?_
    exact kb_Rooms_lookAtCan_b103 X  d1 x2 x3 x4 x2 hd1 M21
  · refine k_bipush X (v := 100) dX6_lookAtCan_96 (by decide) ?_
    refine k_goto X 103 dX6_lookAtCan_98 (by decide) ?_
    refine k_lv [0, 1, 2, 3] rfl ?_
    exact kb_Rooms_lookAtCan_b103 X  d1 x2 x3 100 x2 hd1 M21
theorem kw_Rooms_lookAtCan {Z : ZT} {E : En} (X : Cx Z E 5 cX6_lookAtCan RX6 none 3 64) (d1 : Nat) (x2 : Int32) (hd1 : isDay d1) (M : Mem) : Kj Z E 5 (QV Z E) (j_Rooms_lookAtCan d1 x2 M) M 0 [(0, .ref (ad E 299)), (1, .ref (ad E d1)), (2, .int x2)] [] := by
  unfold j_Rooms_lookAtCan
  refine k_aload_n X 0 dX6_lookAtCan_0 rfl rfl ?_
  refine k_getR X c_299 fRX6_24 r_299_6 dX6_lookAtCan_1 ?_
  refine k_iload_n X 2 dX6_lookAtCan_4 rfl rfl ?_
  refine k_iconst X (v := 0) dX6_lookAtCan_5 (by decide) ?_
  refine k_iast X c_304 l_304 dX6_lookAtCan_6 (fun hb1 => ?_)
  refine k_sq (fun M2 => ?_)
  refine k_aload_n X 0 dX6_lookAtCan_7 rfl rfl ?_
  refine k_iload_n X 2 dX6_lookAtCan_8 rfl rfl ?_
  refine k_callVI X [.int x2] [] c_299 rfl (by decide) rfl (mt_Rooms_has (zl Z) E x2 M2) mRX6_69 ⟨by decide, by decide⟩ rfl rfl (Nat.le_of_ble_eq_true rfl) dX6_lookAtCan_9 (fun r3 M4 => ?_)
  refine k_if_eq X 120 dX6_lookAtCan_12 (by decide) ?_ ?_
  · exact k_vret X dX6_lookAtCan_120
  · refine k_aload_n X 1 dX6_lookAtCan_15 rfl rfl ?_
    refine k_getR X (day_C hd1) fRX6_72 (day_R2 hd1) dX6_lookAtCan_16 ?_
    refine k_iload_n X 2 dX6_lookAtCan_19 rfl rfl ?_
    refine k_iald X (day_A2 hd1) (day_L2 hd1) dX6_lookAtCan_20 (fun hb5 => ?_)
    refine x_istore_n X [(0, .ref (ad E 299)), (1, .ref (ad E d1)), (2, .int x2)] dX6_lookAtCan_21 rfl (by decide) rfl (fun x6_ => ?_)
    refine k_iload_n X 0 dX6_lookAtCan_22 rfl rfl ?_
    refine k_aload_n X 2 dX6_lookAtCan_23 rfl rfl ?_
    refine k_getR X (day_C hd1) fRX6_75 (day_R1 hd1) dX6_lookAtCan_24 ?_
    refine k_iconst X (v := 1) dX6_lookAtCan_27 (by decide) ?_
    refine k_ialdC X 1 (day_A1 hd1) (day_L1 hd1) (by decide) (by decide) dX6_lookAtCan_28 ?_
    refine k_callSI X [.int x6_, .int (gi M4 (d1 + 1) 1)] [] (mt_Kinds_leastKept (zl Z) E x6_ (gi M4 (d1 + 1) 1) M4) mRX6_78 ⟨by decide, by decide⟩ rfl rfl (Nat.le_of_ble_eq_true rfl) dX6_lookAtCan_29 (fun r8 M9 => ?_)
    refine k_istore X [(4, .int r8), (3, .int x6_), (0, .ref (ad E 299)), (1, .ref (ad E d1)), (2, .int x2)] dX6_lookAtCan_32 (by decide) rfl ?_
    refine k_aload_n X 2 dX6_lookAtCan_34 rfl rfl ?_
    refine k_getR X c_299 fRX6_9 r_299_2 dX6_lookAtCan_35 ?_
    refine k_iload_n X 4 dX6_lookAtCan_38 rfl rfl ?_
    refine k_aload_n X 3 dX6_lookAtCan_39 rfl rfl ?_
    refine k_getR X (day_C hd1) fRX6_84 (day_R3 hd1) dX6_lookAtCan_40 ?_
    refine k_iload_n X 4 dX6_lookAtCan_43 rfl rfl ?_
    refine k_iald X (day_A3 hd1) (day_L3 hd1) dX6_lookAtCan_44 (fun hb10 => ?_)
    refine k_iast X c_300 l_300 dX6_lookAtCan_45 (fun hb11 => ?_)
    refine k_sq (fun M12 => ?_)
    refine k_aload_n X 2 dX6_lookAtCan_46 rfl rfl ?_
    refine k_getR X c_299 fRX6_15 r_299_3 dX6_lookAtCan_47 ?_
    refine k_iload_n X 4 dX6_lookAtCan_50 rfl rfl ?_
    refine k_iload_n X 4 dX6_lookAtCan_51 rfl rfl ?_
    refine k_aload_n X 3 dX6_lookAtCan_52 rfl rfl ?_
    refine k_getI X (day_C hd1) fRX6_87 dX6_lookAtCan_53 ?_
    refine k_icmp_ne X 63 dX6_lookAtCan_56 (by decide) ?_ ?_
    · refine k_iload_n X 1 dX6_lookAtCan_63 rfl rfl ?_
      refine k_aload_n X 3 dX6_lookAtCan_64 rfl rfl ?_
      refine k_getR X (day_C hd1) fRX6_75 (day_R1 hd1) dX6_lookAtCan_65 ?_
      refine k_iconst X (v := 0) dX6_lookAtCan_68 (by decide) ?_
      refine k_ialdC X 0 (day_A1 hd1) (day_L1 hd1) (by decide) (by decide) dX6_lookAtCan_69 ?_
      refine k_callSI X [.int x6_, .int (gi M12 (d1 + 1) 0)] [.int x2, .ref (ad E 301)] (mt_Kinds_leadOf (zl Z) E x6_ (gi M12 (d1 + 1) 0) M12) mRX6_90 ⟨by decide, by decide⟩ rfl rfl (Nat.le_of_ble_eq_true rfl) dX6_lookAtCan_70 (fun r14 M15 => ?_)
      refine k_lv [2, 3, 4, 1, 0] rfl ?_
      exact kb_Rooms_lookAtCan_b73 X  d1 x2 x6_ r8 r14 x2 hd1 M15
    · refine k_iconst X (v := 0) dX6_lookAtCan_59 (by decide) ?_
      refine k_goto X 73 dX6_lookAtCan_60 (by decide) ?_
      refine k_lv [2, 3, 4, 1, 0] rfl ?_
      exact kb_Rooms_lookAtCan_b73 X  d1 x2 x6_ r8 0 x2 hd1 M12
theorem mt_Rooms_lookAtCan (l : Launch) (E : En) (d1 : Nat) (x2 : Int32) (hd1 : isDay d1) (M : Mem) : MV l E yX6_lookAtCan cX6_lookAtCan 5 none 3 64 [.ref (ad E 299), .ref (ad E d1), .int x2] M (j_Rooms_lookAtCan d1 x2 M) := MV_of (by decide) (Nat.le_of_ble_eq_true rfl) (fun Z _ X => k_lv [0, 1, 2] rfl (kw_Rooms_lookAtCan X d1 x2 hd1 M))
-- FilmCans$Rooms.isOpen
theorem kw_Rooms_isOpen {Z : ZT} {E : En} (X : Cx Z E 2 cX6_isOpen RX6 (some .boolean) 0 0) (x1 : Int32) (M : Mem) : Kj Z E 2 (QI Z E) (j_Rooms_isOpen x1 M) M 0 [(0, .ref (ad E 299)), (1, .int x1)] [] := by
  unfold j_Rooms_isOpen
  refine k_aload_n X 0 dX6_isOpen_0 rfl rfl ?_
  refine k_getI X c_299 fRX6_54 dX6_isOpen_1 ?_
  refine k_iload_n X 1 dX6_isOpen_4 rfl rfl ?_
  refine k_ishr X dX6_isOpen_5 ?_
  refine k_iconst X (v := 1) dX6_isOpen_6 (by decide) ?_
  refine k_iand X dX6_isOpen_7 ?_
  refine k_iconst X (v := 1) dX6_isOpen_8 (by decide) ?_
  refine k_icmp_ne X 16 dX6_isOpen_9 (by decide) ?_ ?_
  · refine k_iconst X (v := 0) dX6_isOpen_16 (by decide) ?_
    exact k_zret X (by decide) dX6_isOpen_17
  · refine k_iconst X (v := 1) dX6_isOpen_12 (by decide) ?_
    refine k_goto X 17 dX6_isOpen_13 (by decide) ?_
    exact k_zret X (by decide) dX6_isOpen_17
theorem mt_Rooms_isOpen (l : Launch) (E : En) (x1 : Int32) (M : Mem) : MI l E yX6_isOpen cX6_isOpen 2 (some .boolean) 0 0 [.ref (ad E 299), .int x1] M (j_Rooms_isOpen x1 M) := MI_of (by decide) (Nat.le_of_ble_eq_true rfl) (fun Z _ X => k_lv [0, 1] rfl (kw_Rooms_isOpen X x1 M))
-- java/util/Arrays.fill
theorem kb_Arrays_fill_h5 {Z : ZT} {E : En} (X : Cx Z E 4 cJ7_fill_53178 RJ7 none 0 0)  : ∀ (n : Nat) (a0 : Nat) (x1 : Int32) (x2 : Int32) (x3 : Int32) (ha0 : isC a0 9) (M : Mem), Kj Z E 4 (QV Z E) (Arrays_fill_h5  n a0 x1 x2 x3 M) M 5 [(0, .ref (ad E a0)), (1, .int x1), (2, .int x2), (3, .int x3)] [] := by
  intro n
  induction n with
  | zero => intro a0 x1 x2 x3 ha0 M; exact k_none
  | succ n ih =>
    intro a0 x1 x2 x3 ha0 M
    rw [Arrays_fill_h5]
    refine k_iload_n X 2 dJ7_fill_53178_5 rfl rfl ?_
    refine k_iload_n X 3 dJ7_fill_53178_6 rfl rfl ?_
    refine k_icmp_ge X 20 dJ7_fill_53178_7 (by decide) ?_ ?_
    · exact k_vret X dJ7_fill_53178_20
    · refine k_aload_n X 0 dJ7_fill_53178_10 rfl rfl ?_
      refine k_iload_n X 2 dJ7_fill_53178_11 rfl rfl ?_
      refine k_iload_n X 1 dJ7_fill_53178_12 rfl rfl ?_
      refine k_iast X ha0 rfl dJ7_fill_53178_13 (fun hb3 => ?_)
      refine k_sq (fun M4 => ?_)
      refine x_iinc X 1 2 [(0, .ref (ad E a0)), (1, .int x1), (3, .int x3)] dJ7_fill_53178_14 rfl (by decide) (by decide) rfl (fun x5_ => ?_)
      refine k_goto X 5 dJ7_fill_53178_17 (by decide) ?_
      refine k_lv [1, 2, 0, 3] rfl ?_
      exact ih a0 x1 x5_ x3 ha0 M4
theorem kw_Arrays_fill {Z : ZT} {E : En} (X : Cx Z E 4 cJ7_fill_53178 RJ7 none 0 0) (a0 : Nat) (x1 : Int32) (ha0 : isC a0 9) (M : Mem) : Kj Z E 4 (QV Z E) (j_Arrays_fill a0 x1 M) M 0 [(0, .ref (ad E a0)), (1, .int x1)] [] := by
  unfold j_Arrays_fill
  refine k_iconst X (v := 0) dJ7_fill_53178_0 (by decide) ?_
  refine x_istore_n X [(0, .ref (ad E a0)), (1, .int x1)] dJ7_fill_53178_1 rfl (by decide) rfl (fun x1_ => ?_)
  refine k_aload_n X 1 dJ7_fill_53178_2 rfl rfl ?_
  refine k_alen X ha0 rfl rfl dJ7_fill_53178_3 ?_
  refine x_istore_n X [(2, .int x1_), (0, .ref (ad E a0)), (1, .int x1)] dJ7_fill_53178_4 rfl (by decide) rfl (fun x2_ => ?_)
  refine k_lv [2, 3, 1, 0] rfl ?_
  exact kb_Arrays_fill_h5 X  FU a0 x1 x1_ x2_ ha0 M
theorem mt_Arrays_fill (l : Launch) (E : En) (a0 : Nat) (x1 : Int32) (ha0 : isC a0 9) (M : Mem) : MV l E yJ7_fill_53178 cJ7_fill_53178 4 none 0 0 [.ref (ad E a0), .int x1] M (j_Arrays_fill a0 x1 M) := MV_of (by decide) (Nat.le_of_ble_eq_true rfl) (fun Z _ X => k_lv [0, 1] rfl (kw_Arrays_fill X a0 x1 ha0 M))
-- java/lang/Integer.bitCount
theorem kw_Integer_bitCount {Z : ZT} {E : En} (X : Cx Z E 1 cJ6_bitCount_0f7a4 RJ6 (some .int) 0 0) (x0 : Int32) (M : Mem) : Kj Z E 1 (QI Z E) (j_Integer_bitCount x0 M) M 0 [(0, .int x0)] [] := by
  unfold j_Integer_bitCount
  refine k_iload_n X 0 dJ6_bitCount_0f7a4_0 rfl rfl ?_
  refine k_iload_n X 0 dJ6_bitCount_0f7a4_1 rfl rfl ?_
  refine k_iconst X (v := 1) dJ6_bitCount_0f7a4_2 (by decide) ?_
  refine k_iushr X dJ6_bitCount_0f7a4_3 ?_
  refine k_ldcw X w_733 dJ6_bitCount_0f7a4_4 ?_
  refine k_iand X dJ6_bitCount_0f7a4_7 ?_
  refine k_isub X dJ6_bitCount_0f7a4_8 ?_
  refine x_istore_n X [] dJ6_bitCount_0f7a4_9 rfl (by decide) rfl (fun x1_ => ?_)
  refine k_iload_n X 0 dJ6_bitCount_0f7a4_10 rfl rfl ?_
  refine k_ldcw X w_734 dJ6_bitCount_0f7a4_11 ?_
  refine k_iand X dJ6_bitCount_0f7a4_14 ?_
  refine k_iload_n X 0 dJ6_bitCount_0f7a4_15 rfl rfl ?_
  refine k_iconst X (v := 2) dJ6_bitCount_0f7a4_16 (by decide) ?_
  refine k_iushr X dJ6_bitCount_0f7a4_17 ?_
  refine k_ldcw X w_734 dJ6_bitCount_0f7a4_18 ?_
  refine k_iand X dJ6_bitCount_0f7a4_21 ?_
  refine k_iadd X dJ6_bitCount_0f7a4_22 ?_
  refine x_istore_n X [] dJ6_bitCount_0f7a4_23 rfl (by decide) rfl (fun x2_ => ?_)
  refine k_iload_n X 0 dJ6_bitCount_0f7a4_24 rfl rfl ?_
  refine k_iload_n X 0 dJ6_bitCount_0f7a4_25 rfl rfl ?_
  refine k_iconst X (v := 4) dJ6_bitCount_0f7a4_26 (by decide) ?_
  refine k_iushr X dJ6_bitCount_0f7a4_27 ?_
  refine k_iadd X dJ6_bitCount_0f7a4_28 ?_
  refine k_ldcw X w_735 dJ6_bitCount_0f7a4_29 ?_
  refine k_iand X dJ6_bitCount_0f7a4_32 ?_
  refine x_istore_n X [] dJ6_bitCount_0f7a4_33 rfl (by decide) rfl (fun x3_ => ?_)
  refine k_iload_n X 0 dJ6_bitCount_0f7a4_34 rfl rfl ?_
  refine k_iload_n X 0 dJ6_bitCount_0f7a4_35 rfl rfl ?_
  refine k_bipush X (v := 8) dJ6_bitCount_0f7a4_36 (by decide) ?_
  refine k_iushr X dJ6_bitCount_0f7a4_38 ?_
  refine k_iadd X dJ6_bitCount_0f7a4_39 ?_
  refine x_istore_n X [] dJ6_bitCount_0f7a4_40 rfl (by decide) rfl (fun x4_ => ?_)
  refine k_iload_n X 0 dJ6_bitCount_0f7a4_41 rfl rfl ?_
  refine k_iload_n X 0 dJ6_bitCount_0f7a4_42 rfl rfl ?_
  refine k_bipush X (v := 16) dJ6_bitCount_0f7a4_43 (by decide) ?_
  refine k_iushr X dJ6_bitCount_0f7a4_45 ?_
  refine k_iadd X dJ6_bitCount_0f7a4_46 ?_
  refine x_istore_n X [] dJ6_bitCount_0f7a4_47 rfl (by decide) rfl (fun x5_ => ?_)
  refine k_iload_n X 0 dJ6_bitCount_0f7a4_48 rfl rfl ?_
  refine k_bipush X (v := 63) dJ6_bitCount_0f7a4_49 (by decide) ?_
  refine k_iand X dJ6_bitCount_0f7a4_51 ?_
  exact k_iret X dJ6_bitCount_0f7a4_52
theorem mt_Integer_bitCount (l : Launch) (E : En) (x0 : Int32) (M : Mem) : MI l E yJ6_bitCount_0f7a4 cJ6_bitCount_0f7a4 1 (some .int) 0 0 [.int x0] M (j_Integer_bitCount x0 M) := MI_of (by decide) (Nat.le_of_ble_eq_true rfl) (fun Z _ X => k_lv [0] rfl (kw_Integer_bitCount X x0 M))
-- FilmCans$Rooms.measureEnds
theorem kb_Rooms_measureEnds_h9 {Z : ZT} {E : En} (X : Cx Z E 4 cX6_measureEnds RX6 none 1 20)  : ∀ (n : Nat) (x1 : Int32) (x2 : Int32) (x3 : Int32) (M : Mem), Kj Z E 4 (QV Z E) (Rooms_measureEnds_h9  n x1 x2 x3 M) M 9 [(0, .ref (ad E 299)), (1, .int x1), (2, .int x2), (3, .int x3)] [] := by
  intro n
  induction n with
  | zero => intro x1 x2 x3 M; exact k_none
  | succ n ih =>
    intro x1 x2 x3 M
    rw [Rooms_measureEnds_h9]
    refine k_iload_n X 3 dX6_measureEnds_9 rfl rfl ?_
    refine k_if_le X 62 dX6_measureEnds_10 (by decide) ?_ ?_
    · exact k_vret X dX6_measureEnds_62
    · refine k_aload_n X 0 dX6_measureEnds_13 rfl rfl ?_
      refine k_getR X c_299 fRX6_35 r_299_9 dX6_measureEnds_14 ?_
      refine k_iload_n X 1 dX6_measureEnds_17 rfl rfl ?_
      refine k_aaldA X (f := fun j => 308 + j) c_307 l_307 ends_rf dX6_measureEnds_18 (fun hb3 => ?_)
      refine k_iload_n X 3 dX6_measureEnds_19 rfl rfl ?_
      refine k_aload_n X 0 dX6_measureEnds_20 rfl rfl ?_
      refine k_getR X c_299 fRX6_9 r_299_2 dX6_measureEnds_21 ?_
      refine k_iload_n X 1 dX6_measureEnds_24 rfl rfl ?_
      refine k_iald X c_300 l_300 dX6_measureEnds_25 (fun hb4 => ?_)
      refine k_aload_n X 0 dX6_measureEnds_26 rfl rfl ?_
      refine k_getR X c_299 fRX6_15 r_299_3 dX6_measureEnds_27 ?_
      refine k_iload_n X 1 dX6_measureEnds_30 rfl rfl ?_
      refine k_iald X c_301 l_301 dX6_measureEnds_31 (fun hb5 => ?_)
      refine k_isub X dX6_measureEnds_32 ?_
      refine k_aload_n X 0 dX6_measureEnds_33 rfl rfl ?_
      refine k_getR X c_299 fRX6_18 r_299_4 dX6_measureEnds_34 ?_
      refine k_iload_n X 1 dX6_measureEnds_37 rfl rfl ?_
      refine k_iald X c_302 l_302 dX6_measureEnds_38 (fun hb6 => ?_)
      refine k_iload_n X 3 dX6_measureEnds_39 rfl rfl ?_
      refine k_callSI X [.int x3] [.int (gi M 302 (ix x1)), .int ((gi M 300 (ix x1)) - (gi M 301 (ix x1))), .int x3, .ref (ad E (308 + ix x1))] (mt_Integer_bitCount (zl Z) E x3 M) mRX6_101 ⟨by decide, by decide⟩ rfl rfl (Nat.le_of_ble_eq_true rfl) dX6_measureEnds_40 (fun r7 M8 => ?_)
      refine k_imul X dX6_measureEnds_43 ?_
      refine k_isub X dX6_measureEnds_44 ?_
      refine k_aload_n X 0 dX6_measureEnds_45 rfl rfl ?_
      refine k_getR X c_299 fRX6_30 r_299_8 dX6_measureEnds_46 ?_
      refine k_iload_n X 3 dX6_measureEnds_49 rfl rfl ?_
      refine k_iald X c_306 l_306 dX6_measureEnds_50 (fun hb9 => ?_)
      refine k_isub X dX6_measureEnds_51 ?_
      refine k_iast X (ends_C hb3) (ends_L hb3) dX6_measureEnds_52 (fun hb10 => ?_)
      refine k_sq (fun M11 => ?_)
      refine k_iload_n X 3 dX6_measureEnds_53 rfl rfl ?_
      refine k_iconst X (v := 1) dX6_measureEnds_54 (by decide) ?_
      refine k_isub X dX6_measureEnds_55 ?_
      refine k_iload_n X 2 dX6_measureEnds_56 rfl rfl ?_
      refine k_iand X dX6_measureEnds_57 ?_
      refine x_istore_n X [(0, .ref (ad E 299)), (1, .int x1), (2, .int x2)] dX6_measureEnds_58 rfl (by decide) rfl (fun x12_ => ?_)
      refine k_goto X 9 dX6_measureEnds_59 (by decide) ?_
      refine k_lv [1, 2, 3, 0] rfl ?_
      exact ih x1 x2 x12_ M11
theorem kw_Rooms_measureEnds {Z : ZT} {E : En} (X : Cx Z E 4 cX6_measureEnds RX6 none 1 20) (x1 : Int32) (M : Mem) : Kj Z E 4 (QV Z E) (j_Rooms_measureEnds x1 M) M 0 [(0, .ref (ad E 299)), (1, .int x1)] [] := by
  unfold j_Rooms_measureEnds
  refine k_aload_n X 0 dX6_measureEnds_0 rfl rfl ?_
  refine k_getR X c_299 fRX6_24 r_299_6 dX6_measureEnds_1 ?_
  refine k_iload_n X 1 dX6_measureEnds_4 rfl rfl ?_
  refine k_iald X c_304 l_304 dX6_measureEnds_5 (fun hb1 => ?_)
  refine x_istore_n X [(0, .ref (ad E 299)), (1, .int x1)] dX6_measureEnds_6 rfl (by decide) rfl (fun x2_ => ?_)
  refine k_iload_n X 0 dX6_measureEnds_7 rfl rfl ?_
  refine k_istore_n X [(3, .int x2_), (2, .int x2_), (0, .ref (ad E 299)), (1, .int x1)] dX6_measureEnds_8 rfl (by decide) rfl ?_
  refine k_lv [2, 3, 1, 0] rfl ?_
  exact kb_Rooms_measureEnds_h9 X  FU x1 x2_ x2_ M
theorem mt_Rooms_measureEnds (l : Launch) (E : En) (x1 : Int32) (M : Mem) : MV l E yX6_measureEnds cX6_measureEnds 4 none 1 20 [.ref (ad E 299), .int x1] M (j_Rooms_measureEnds x1 M) := MV_of (by decide) (Nat.le_of_ble_eq_true rfl) (fun Z _ X => k_lv [0, 1] rfl (kw_Rooms_measureEnds X x1 M))
-- FilmCans$Rooms.measure
theorem kb_Rooms_measure_h61 {Z : ZT} {E : En} (X : Cx Z E 4 cX6_measure RX6 none 2 43)  : ∀ (n : Nat) (x1 : Int32) (M : Mem), Kj Z E 4 (QV Z E) (Rooms_measure_h61  n x1 M) M 61 [(0, .ref (ad E 299)), (1, .int x1)] [] := by
  intro n
  induction n with
  | zero => intro x1 M; exact k_none
  | succ n ih =>
    intro x1 M
    rw [Rooms_measure_h61]
    refine k_iload_n X 1 dX6_measure_61 rfl rfl ?_
    refine k_bipush X (v := 6) dX6_measure_62 (by decide) ?_
    refine k_icmp_ge X 89 dX6_measure_64 (by decide) ?_ ?_
    · exact k_vret X dX6_measure_89
    · refine k_aload_n X 0 dX6_measure_67 rfl rfl ?_
      refine k_getR X c_299 fRX6_35 r_299_9 dX6_measure_68 ?_
      refine k_iload_n X 1 dX6_measure_71 rfl rfl ?_
      refine k_aaldA X (f := fun j => 308 + j) c_307 l_307 ends_rf dX6_measure_72 (fun hb5 => ?_)
      refine k_ldc X w_710 dX6_measure_73 ?_
      refine k_callSV X [.ref (ad E (308 + ix x1)), .int (-1000000)] [] (mt_Arrays_fill (zl Z) E (308 + ix x1) (-1000000) (ends_C hb5) M) mRX6_110 ⟨by decide, by decide⟩ rfl rfl (Nat.le_of_ble_eq_true rfl) dX6_measure_75 (fun _ M7 => ?_)
      refine k_aload_n X 0 dX6_measure_78 rfl rfl ?_
      refine k_iload_n X 1 dX6_measure_79 rfl rfl ?_
      refine k_callVV X [.int x1] [] c_299 rfl (by decide) rfl (mt_Rooms_measureEnds (zl Z) E x1 M7) mRX6_116 ⟨by decide, by decide⟩ rfl rfl (Nat.le_of_ble_eq_true rfl) dX6_measure_80 (fun _ M9 => ?_)
      refine x_iinc X 1 1 [(0, .ref (ad E 299))] dX6_measure_83 rfl (by decide) (by decide) rfl (fun x10_ => ?_)
      refine k_goto X 61 dX6_measure_86 (by decide) ?_
      refine k_lv [1, 0] rfl ?_
      exact ih x10_ M9
theorem kb_Rooms_measure_h21 {Z : ZT} {E : En} (X : Cx Z E 4 cX6_measure RX6 none 2 43) (k9 : Int32 → Mem → Option (Unit × Mem)) (hk9 : ∀ (x1 : Int32) (M : Mem), Kj Z E 4 (QV Z E) (k9 x1 M) M 9 [(0, .ref (ad E 299)), (1, .int x1)] []) : ∀ (n : Nat) (x1 : Int32) (x2 : Int32) (x3 : Int32) (M : Mem), Kj Z E 4 (QV Z E) (Rooms_measure_h21 k9 n x1 x2 x3 M) M 21 [(0, .ref (ad E 299)), (1, .int x1), (2, .int x2), (3, .int x3)] [] := by
  intro n
  induction n with
  | zero => intro x1 x2 x3 M; exact k_none
  | succ n ih =>
    intro x1 x2 x3 M
    rw [Rooms_measure_h21]
    refine k_iload_n X 3 dX6_measure_21 rfl rfl ?_
    refine k_iload_n X 2 dX6_measure_22 rfl rfl ?_
    refine k_icmp_ge X 53 dX6_measure_23 (by decide) ?_ ?_
    · refine x_iinc X 1 1 [(0, .ref (ad E 299)), (2, .int x2), (3, .int x3)] dX6_measure_53 rfl (by decide) (by decide) rfl (fun x13_ => ?_)
      refine k_goto X 9 dX6_measure_56 (by decide) ?_
      refine k_lv [1, 0] rfl ?_
      exact hk9 x13_ M
    · refine k_aload_n X 0 dX6_measure_26 rfl rfl ?_
      refine k_getR X c_299 fRX6_30 r_299_8 dX6_measure_27 ?_
      refine k_iload_n X 3 dX6_measure_30 rfl rfl ?_
      refine k_iload_n X 2 dX6_measure_31 rfl rfl ?_
      refine k_ior X dX6_measure_32 ?_
      refine k_aload_n X 0 dX6_measure_33 rfl rfl ?_
      refine k_getR X c_299 fRX6_30 r_299_8 dX6_measure_34 ?_
      refine k_iload_n X 3 dX6_measure_37 rfl rfl ?_
      refine k_iald X c_306 l_306 dX6_measure_38 (fun hb14 => ?_)
      refine k_aload_n X 0 dX6_measure_39 rfl rfl ?_
      refine k_getR X c_299 fRX6_27 r_299_7 dX6_measure_40 ?_
      refine k_iload_n X 1 dX6_measure_43 rfl rfl ?_
      refine k_iald X c_305 l_305 dX6_measure_44 (fun hb15 => ?_)
      refine k_iadd X dX6_measure_45 ?_
      refine k_iast X c_306 l_306 dX6_measure_46 (fun hb16 => ?_)
      refine k_sq (fun M17 => ?_)
      refine x_iinc X 1 3 [(0, .ref (ad E 299)), (1, .int x1), (2, .int x2)] dX6_measure_47 rfl (by decide) (by decide) rfl (fun x18_ => ?_)
      refine k_goto X 21 dX6_measure_50 (by decide) ?_
      refine k_lv [1, 2, 3, 0] rfl ?_
      exact ih x1 x2 x18_ M17
theorem kb_Rooms_measure_h9 {Z : ZT} {E : En} (X : Cx Z E 4 cX6_measure RX6 none 2 43)  : ∀ (n : Nat) (x1 : Int32) (M : Mem), Kj Z E 4 (QV Z E) (Rooms_measure_h9  n x1 M) M 9 [(0, .ref (ad E 299)), (1, .int x1)] [] := by
  intro n
  induction n with
  | zero => intro x1 M; exact k_none
  | succ n ih =>
    intro x1 M
    rw [Rooms_measure_h9]
    refine k_iload_n X 1 dX6_measure_9 rfl rfl ?_
    refine k_bipush X (v := 8) dX6_measure_10 (by decide) ?_
    refine k_icmp_ge X 59 dX6_measure_12 (by decide) ?_ ?_
    · refine k_iconst X (v := 0) dX6_measure_59 (by decide) ?_
      refine x_istore_n X [(0, .ref (ad E 299))] dX6_measure_60 rfl (by decide) rfl (fun x4_ => ?_)
      refine k_lv [1, 0] rfl ?_
      exact kb_Rooms_measure_h61 X  FU x4_ M
    · refine k_iconst X (v := 1) dX6_measure_15 (by decide) ?_
      refine k_iload_n X 1 dX6_measure_16 rfl rfl ?_
      refine k_ishl X dX6_measure_17 ?_
      refine x_istore_n X [(0, .ref (ad E 299)), (1, .int x1)] dX6_measure_18 rfl (by decide) rfl (fun x11_ => ?_)
      refine k_iconst X (v := 0) dX6_measure_19 (by decide) ?_
      refine x_istore_n X [(2, .int x11_), (0, .ref (ad E 299)), (1, .int x1)] dX6_measure_20 rfl (by decide) rfl (fun x12_ => ?_)
      refine k_lv [2, 3, 1, 0] rfl ?_
      exact kb_Rooms_measure_h21 X (fun x1 M => Rooms_measure_h9 n x1 M) (fun x1 M => ih x1 M) FU x1 x11_ x12_ M
theorem kw_Rooms_measure {Z : ZT} {E : En} (X : Cx Z E 4 cX6_measure RX6 none 2 43) (M : Mem) : Kj Z E 4 (QV Z E) (j_Rooms_measure M) M 0 [(0, .ref (ad E 299))] [] := by
  unfold j_Rooms_measure
  refine k_aload_n X 0 dX6_measure_0 rfl rfl ?_
  refine k_getR X c_299 fRX6_30 r_299_8 dX6_measure_1 ?_
  refine k_iconst X (v := 0) dX6_measure_4 (by decide) ?_
  refine k_iconst X (v := 0) dX6_measure_5 (by decide) ?_
  refine k_iastC X 0 c_306 l_306 (by decide) (by decide) dX6_measure_6 ?_
  refine k_sq (fun M2 => ?_)
  refine k_iconst X (v := 0) dX6_measure_7 (by decide) ?_
  refine x_istore_n X [(0, .ref (ad E 299))] dX6_measure_8 rfl (by decide) rfl (fun x3_ => ?_)
  refine k_lv [1, 0] rfl ?_
  exact kb_Rooms_measure_h9 X  FU x3_ M2
theorem mt_Rooms_measure (l : Launch) (E : En) (M : Mem) : MV l E yX6_measure cX6_measure 4 none 2 43 [.ref (ad E 299)] M (j_Rooms_measure M) := MV_of (by decide) (Nat.le_of_ble_eq_true rfl) (fun Z _ X => k_lv [0] rfl (kw_Rooms_measure X M))
-- FilmCans$Rooms.lookAt
theorem kb_Rooms_lookAt_b67 {Z : ZT} {E : En} (X : Cx Z E 3 cX6_lookAt RX6 none 4 88) (k38 : Nat → Int32 → Mem → Option (Unit × Mem)) (hk38 : ∀ (d1 : Nat) (x2 : Int32) (hd1 : isDay d1) (M : Mem), Kj Z E 3 (QV Z E) (k38 d1 x2 M) M 38 [(0, .ref (ad E 299)), (1, .ref (ad E d1)), (2, .int x2)] []) (d1 : Nat) (x2 : Int32) (xs0 : Int32) (xs1 : Int32) (hd1 : isDay d1) (M : Mem) : Kj Z E 3 (QV Z E) (Rooms_lookAt_b67 k38 d1 x2 xs0 xs1 M) M 67 [(0, .ref (ad E 299)), (1, .ref (ad E d1)), (2, .int x2)] [.int xs0, .int xs1, .ref (ad E 305)] := by
  unfold Rooms_lookAt_b67
  refine k_iast X c_305 l_305 dX6_lookAt_67 (fun hb13 => ?_)
  refine k_sq (fun M14 => ?_)
  refine x_iinc X 1 2 [(0, .ref (ad E 299)), (1, .ref (ad E d1))] dX6_lookAt_68 rfl (by decide) (by decide) rfl (fun x15_ => ?_)
  refine k_goto X 38 dX6_lookAt_71 (by decide) ?_
  refine k_lv [1, 2, 0] rfl ?_
  exact hk38 d1 x15_ hd1 M14
theorem kb_Rooms_lookAt_h38 {Z : ZT} {E : En} (X : Cx Z E 3 cX6_lookAt RX6 none 4 88)  : ∀ (n : Nat) (d1 : Nat) (x2 : Int32) (hd1 : isDay d1) (M : Mem), Kj Z E 3 (QV Z E) (Rooms_lookAt_h38  n d1 x2 M) M 38 [(0, .ref (ad E 299)), (1, .ref (ad E d1)), (2, .int x2)] [] := by
  intro n
  induction n with
  | zero => intro d1 x2 hd1 M; exact k_none
  | succ n ih =>
    intro d1 x2 hd1 M
    rw [Rooms_lookAt_h38]
    refine k_iload_n X 2 dX6_lookAt_38 rfl rfl ?_
    refine k_bipush X (v := 8) dX6_lookAt_39 (by decide) ?_
    refine k_icmp_ge X 74 dX6_lookAt_41 (by decide) ?_ ?_
    · refine k_aload_n X 0 dX6_lookAt_74 rfl rfl ?_
      refine k_callVV X [] [] c_299 rfl (by decide) rfl (mt_Rooms_measure (zl Z) E  M) mRX6_66 ⟨by decide, by decide⟩ rfl rfl (Nat.le_of_ble_eq_true rfl) dX6_lookAt_75 (fun _ M10 => ?_)
      exact k_vret X dX6_lookAt_78
    · refine k_aload_n X 0 dX6_lookAt_44 rfl rfl ?_
      refine k_getR X c_299 fRX6_27 r_299_7 dX6_lookAt_45 ?_
      refine k_iload_n X 2 dX6_lookAt_48 rfl rfl ?_
      refine k_aload_n X 0 dX6_lookAt_49 rfl rfl ?_
      refine k_iload_n X 2 dX6_lookAt_50 rfl rfl ?_
      refine k_callVI X [.int x2] [.int x2, .ref (ad E 305)] c_299 rfl (by decide) rfl (mt_Rooms_isOpen (zl Z) E x2 M) mRX6_61 ⟨by decide, by decide⟩ rfl rfl (Nat.le_of_ble_eq_true rfl) dX6_lookAt_51 (fun r11 M12 => ?_)
      refine k_if_eq X 66 dX6_lookAt_54 (by decide) ?_ ?_
      · refine k_iconst X (v := 0) dX6_lookAt_66 (by decide) ?_
        refine k_lv [0, 1, 2] rfl ?_
        exact kb_Rooms_lookAt_b67 X (fun d1 x2 M => Rooms_lookAt_h38 n d1 x2 M) (fun d1 x2 hd1 M => ih d1 x2 hd1 M) d1 x2 0 x2 hd1 M12
      · refine k_aload_n X 1 dX6_lookAt_57 rfl rfl ?_
        refine k_getR X (day_C hd1) fRX6_65 (day_R7 hd1) dX6_lookAt_58 ?_
        refine k_iload_n X 2 dX6_lookAt_61 rfl rfl ?_
        refine k_iald X (day_A7 hd1) (day_L7 hd1) dX6_lookAt_62 (fun hb16 => ?_)
        refine k_goto X 67 dX6_lookAt_63 (by decide) ?_
        refine k_lv [0, 1, 2] rfl ?_
        exact kb_Rooms_lookAt_b67 X (fun d1 x2 M => Rooms_lookAt_h38 n d1 x2 M) (fun d1 x2 hd1 M => ih d1 x2 hd1 M) d1 x2 (gi M12 (d1 + 7) (ix x2)) x2 hd1 M12
theorem kb_Rooms_lookAt_h18 {Z : ZT} {E : En} (X : Cx Z E 3 cX6_lookAt RX6 none 4 88)  : ∀ (n : Nat) (d1 : Nat) (x2 : Int32) (hd1 : isDay d1) (M : Mem), Kj Z E 3 (QV Z E) (Rooms_lookAt_h18  n d1 x2 M) M 18 [(0, .ref (ad E 299)), (1, .ref (ad E d1)), (2, .int x2)] [] := by
  intro n
  induction n with
  | zero => intro d1 x2 hd1 M; exact k_none
  | succ n ih =>
    intro d1 x2 hd1 M
    rw [Rooms_lookAt_h18]
    refine k_iload_n X 2 dX6_lookAt_18 rfl rfl ?_
    refine k_bipush X (v := 6) dX6_lookAt_19 (by decide) ?_
    refine k_icmp_ge X 36 dX6_lookAt_21 (by decide) ?_ ?_
    · refine k_iconst X (v := 0) dX6_lookAt_36 (by decide) ?_
      refine x_istore_n X [(0, .ref (ad E 299)), (1, .ref (ad E d1))] dX6_lookAt_37 rfl (by decide) rfl (fun x8_ => ?_)
      refine k_lv [1, 2, 0] rfl ?_
      exact kb_Rooms_lookAt_h38 X  FU d1 x8_ hd1 M
    · refine k_aload_n X 0 dX6_lookAt_24 rfl rfl ?_
      refine k_aload_n X 1 dX6_lookAt_25 rfl rfl ?_
      refine k_iload_n X 2 dX6_lookAt_26 rfl rfl ?_
      refine k_callVV X [.ref (ad E d1), .int x2] [] c_299 rfl (by decide) rfl (mt_Rooms_lookAtCan (zl Z) E d1 x2 hd1 M) mRX6_57 ⟨by decide, by decide⟩ rfl rfl (Nat.le_of_ble_eq_true rfl) dX6_lookAt_27 (fun _ M18 => ?_)
      refine x_iinc X 1 2 [(0, .ref (ad E 299)), (1, .ref (ad E d1))] dX6_lookAt_30 rfl (by decide) (by decide) rfl (fun x19_ => ?_)
      refine k_goto X 18 dX6_lookAt_33 (by decide) ?_
      refine k_lv [1, 2, 0] rfl ?_
      exact ih d1 x19_ hd1 M18
theorem kw_Rooms_lookAt {Z : ZT} {E : En} (X : Cx Z E 3 cX6_lookAt RX6 none 4 88) (d1 : Nat) (hd1 : isDay d1) (M : Mem) : Kj Z E 3 (QV Z E) (j_Rooms_lookAt d1 M) M 0 [(0, .ref (ad E 299)), (1, .ref (ad E d1))] [] := by
  unfold j_Rooms_lookAt
  refine k_aload_n X 0 dX6_lookAt_0 rfl rfl ?_
  refine k_aload_n X 1 dX6_lookAt_1 rfl rfl ?_
  refine k_callVI X [] [.ref (ad E 299)] (day_C hd1) rfl (by decide) rfl (mt_Day_rooms (zl Z) E d1 hd1 M) mRX6_41 ⟨by decide, by decide⟩ rfl rfl (Nat.le_of_ble_eq_true rfl) dX6_lookAt_2 (fun r1 M2 => ?_)
  refine k_putI X c_299 fRX6_47 dX6_lookAt_5 ?_
  refine k_sq (fun M3 => ?_)
  refine k_aload_n X 0 dX6_lookAt_8 rfl rfl ?_
  refine k_aload_n X 1 dX6_lookAt_9 rfl rfl ?_
  refine k_callVI X [] [.ref (ad E 299)] (day_C hd1) rfl (by decide) rfl (mt_Day_openTakes (zl Z) E d1 hd1 M3) mRX6_51 ⟨by decide, by decide⟩ rfl rfl (Nat.le_of_ble_eq_true rfl) dX6_lookAt_10 (fun r4 M5 => ?_)
  refine k_putI X c_299 fRX6_54 dX6_lookAt_13 ?_
  refine k_sq (fun M6 => ?_)
  refine k_iconst X (v := 0) dX6_lookAt_16 (by decide) ?_
  refine x_istore_n X [(0, .ref (ad E 299)), (1, .ref (ad E d1))] dX6_lookAt_17 rfl (by decide) rfl (fun x7_ => ?_)
  refine k_lv [1, 2, 0] rfl ?_
  exact kb_Rooms_lookAt_h18 X  FU d1 x7_ hd1 M6
theorem mt_Rooms_lookAt (l : Launch) (E : En) (d1 : Nat) (hd1 : isDay d1) (M : Mem) : MV l E yX6_lookAt cX6_lookAt 3 none 4 88 [.ref (ad E 299), .ref (ad E d1)] M (j_Rooms_lookAt d1 M) := MV_of (by decide) (Nat.le_of_ble_eq_true rfl) (fun Z _ X => k_lv [0, 1] rfl (kw_Rooms_lookAt X d1 hd1 M))
-- FilmCans$Rooms.holds
theorem kw_Rooms_holds {Z : ZT} {E : En} (X : Cx Z E 3 cX6_holds RX6 (some .boolean) 0 0) (x1 : Int32) (x2 : Int32) (M : Mem) : Kj Z E 3 (QI Z E) (j_Rooms_holds x1 x2 M) M 0 [(0, .ref (ad E 299)), (1, .int x1), (2, .int x2)] [] := by
  unfold j_Rooms_holds
  refine k_aload_n X 0 dX6_holds_0 rfl rfl ?_
  refine k_getR X c_299 fRX6_35 r_299_9 dX6_holds_1 ?_
  refine k_iload_n X 1 dX6_holds_4 rfl rfl ?_
  refine k_aaldA X (f := fun j => 308 + j) c_307 l_307 ends_rf dX6_holds_5 (fun hb1 => ?_)
  refine k_iload_n X 2 dX6_holds_6 rfl rfl ?_
  refine k_iald X (ends_C hb1) (ends_L hb1) dX6_holds_7 (fun hb2 => ?_)
  refine k_if_lt X 15 dX6_holds_8 (by decide) ?_ ?_
  · refine k_iconst X (v := 0) dX6_holds_15 (by decide) ?_
    exact k_zret X (by decide) dX6_holds_16
  · refine k_iconst X (v := 1) dX6_holds_11 (by decide) ?_
    refine k_goto X 16 dX6_holds_12 (by decide) ?_
    exact k_zret X (by decide) dX6_holds_16
theorem mt_Rooms_holds (l : Launch) (E : En) (x1 : Int32) (x2 : Int32) (M : Mem) : MI l E yX6_holds cX6_holds 3 (some .boolean) 0 0 [.ref (ad E 299), .int x1, .int x2] M (j_Rooms_holds x1 x2 M) := MI_of (by decide) (Nat.le_of_ble_eq_true rfl) (fun Z _ X => k_lv [0, 1, 2] rfl (kw_Rooms_holds X x1 x2 M))
-- FilmCans.fits
theorem kw_Fc_fits {Z : ZT} {E : En} (X : Cx Z E 3 cX8_fits RX8 (some .int) 5 110) (x1 : Int32) (x2 : Int32) (M : Mem) : Kj Z E 3 (QI Z E) (j_Fc_fits x1 x2 M) M 0 [(0, .ref (ad E 0)), (1, .int x1), (2, .int x2)] [] := by
  unfold j_Fc_fits
  refine k_aload_n X 0 dX8_fits_0 rfl rfl ?_
  refine k_getR X c_0 fRX8_19 r_0_1 dX8_fits_1 ?_
  refine k_iload_n X 1 dX8_fits_4 rfl rfl ?_
  refine k_callVI X [.int x1] [] c_3 rfl (by decide) rfl (mt_Day_hasCan (zl Z) E 3 x1 day_3 M) mRX8_103 ⟨by decide, by decide⟩ rfl rfl (Nat.le_of_ble_eq_true rfl) dX8_fits_5 (fun r1 M2 => ?_)
  refine k_if_eq X 25 dX8_fits_8 (by decide) ?_ ?_
  · refine k_ldc X w_359 dX8_fits_25 ?_
    exact k_iret X dX8_fits_27
  · refine k_iload_n X 2 dX8_fits_11 rfl rfl ?_
    refine k_aload_n X 0 dX8_fits_12 rfl rfl ?_
    refine k_getR X c_0 fRX8_19 r_0_1 dX8_fits_13 ?_
    refine k_callVI X [] [.int x2] c_3 rfl (by decide) rfl (mt_Day_openTakes (zl Z) E 3 day_3 M2) mRX8_259 ⟨by decide, by decide⟩ rfl rfl (Nat.le_of_ble_eq_true rfl) dX8_fits_16 (fun r3 M4 => ?_)
    refine k_iconst X (v := (-1)) dX8_fits_19 (by decide) ?_
    refine k_ixor X dX8_fits_20 ?_
    refine k_iand X dX8_fits_21 ?_
    refine k_if_eq X 28 dX8_fits_22 (by decide) ?_ ?_
    · refine k_aload_n X 0 dX8_fits_28 rfl rfl ?_
      refine k_getR X c_0 fRX8_19 r_0_1 dX8_fits_29 ?_
      refine k_iload_n X 1 dX8_fits_32 rfl rfl ?_
      refine k_callVI X [.int x1] [] c_3 rfl (by decide) rfl (mt_Day_isRoom (zl Z) E 3 x1 day_3 M4) mRX8_262 ⟨by decide, by decide⟩ rfl rfl (Nat.le_of_ble_eq_true rfl) dX8_fits_33 (fun r5 M6 => ?_)
      refine k_if_ne X 42 dX8_fits_36 (by decide) ?_ ?_
      · refine k_iload_n X 2 dX8_fits_42 rfl rfl ?_
        refine k_if_ne X 56 dX8_fits_43 (by decide) ?_ ?_
        · refine k_aload_n X 0 dX8_fits_56 rfl rfl ?_
          refine k_getR X c_0 fRX8_47 r_0_6 dX8_fits_57 ?_
          refine k_aload_n X 0 dX8_fits_60 rfl rfl ?_
          refine k_getR X c_0 fRX8_19 r_0_1 dX8_fits_61 ?_
          refine k_callVV X [.ref (ad E 3)] [] c_299 rfl (by decide) rfl (mt_Rooms_lookAt (zl Z) E 3 day_3 M6) mRX8_265 ⟨by decide, by decide⟩ rfl rfl (Nat.le_of_ble_eq_true rfl) dX8_fits_64 (fun _ M8 => ?_)
          refine k_aload_n X 0 dX8_fits_67 rfl rfl ?_
          refine k_getR X c_0 fRX8_47 r_0_6 dX8_fits_68 ?_
          refine k_iload_n X 1 dX8_fits_71 rfl rfl ?_
          refine k_iload_n X 2 dX8_fits_72 rfl rfl ?_
          refine k_callVI X [.int x1, .int x2] [] c_299 rfl (by decide) rfl (mt_Rooms_holds (zl Z) E x1 x2 M8) mRX8_268 ⟨by decide, by decide⟩ rfl rfl (Nat.le_of_ble_eq_true rfl) dX8_fits_73 (fun r9 M10 => ?_)
          refine k_if_eq X 93 dX8_fits_76 (by decide) ?_ ?_
          · refine k_ldc X w_472 dX8_fits_93 ?_
            exact k_iret X dX8_fits_95
          · refine k_aload_n X 0 dX8_fits_79 rfl rfl ?_
            refine k_getR X c_0 fRX8_47 r_0_6 dX8_fits_80 ?_
            refine k_getR X c_299 fRX8_271 r_299_9 dX8_fits_83 ?_
            refine k_iload_n X 1 dX8_fits_86 rfl rfl ?_
            refine k_aaldA X (f := fun j => 308 + j) c_307 l_307 ends_rf dX8_fits_87 (fun hb11 => ?_)
            refine k_iload_n X 2 dX8_fits_88 rfl rfl ?_
            refine k_iald X (ends_C hb11) (ends_L hb11) dX8_fits_89 (fun hb12 => ?_)
            refine k_goto X 95 dX8_fits_90 (by decide) ?_
            exact k_iret X dX8_fits_95
        · refine k_aload_n X 0 dX8_fits_46 rfl rfl ?_
          refine k_getR X c_0 fRX8_19 r_0_1 dX8_fits_47 ?_
          refine k_getR X c_3 fRX8_114 r_3_11 dX8_fits_50 ?_
          refine k_iload_n X 1 dX8_fits_53 rfl rfl ?_
          refine k_iald X c_6 l_6 dX8_fits_54 (fun hb13 => ?_)
          exact k_iret X dX8_fits_55
      · refine k_ldc X w_472 dX8_fits_39 ?_
        exact k_iret X dX8_fits_41
    · refine k_ldc X w_359 dX8_fits_25 ?_
      exact k_iret X dX8_fits_27
theorem mt_Fc_fits (l : Launch) (E : En) (x1 : Int32) (x2 : Int32) (M : Mem) : MI l E yX8_fits cX8_fits 3 (some .int) 5 110 [.ref (ad E 0), .int x1, .int x2] M (j_Fc_fits x1 x2 M) := MI_of (by decide) (Nat.le_of_ble_eq_true rfl) (fun Z _ X => k_lv [0, 1, 2] rfl (kw_Fc_fits X x1 x2 M))
-- FilmCans.isZeroOrOne
theorem kb_Fc_isZeroOrOne_b9 {Z : ZT} {E : En} (X : Cx Z E 1 cX8_isZeroOrOne RX8 (some .boolean) 0 0) (M : Mem) : Kj Z E 1 (QI Z E) (Fc_isZeroOrOne_b9 M) M 9 [] [] := by
  unfold Fc_isZeroOrOne_b9
  refine k_iconst X (v := 1) dX8_isZeroOrOne_9 (by decide) ?_
  refine k_goto X 14 dX8_isZeroOrOne_10 (by decide) ?_
  exact k_zret X (by decide) dX8_isZeroOrOne_14
theorem kw_Fc_isZeroOrOne {Z : ZT} {E : En} (X : Cx Z E 1 cX8_isZeroOrOne RX8 (some .boolean) 0 0) (x0 : Int32) (M : Mem) : Kj Z E 1 (QI Z E) (j_Fc_isZeroOrOne x0 M) M 0 [(0, .int x0)] [] := by
  unfold j_Fc_isZeroOrOne
  refine k_iload_n X 0 dX8_isZeroOrOne_0 rfl rfl ?_
  refine k_if_eq X 9 dX8_isZeroOrOne_1 (by decide) ?_ ?_
  · refine k_lv [] rfl ?_
    exact kb_Fc_isZeroOrOne_b9 X  M
  · refine k_iload_n X 0 dX8_isZeroOrOne_4 rfl rfl ?_
    refine k_iconst X (v := 1) dX8_isZeroOrOne_5 (by decide) ?_
    refine k_icmp_ne X 13 dX8_isZeroOrOne_6 (by decide) ?_ ?_
    · refine k_iconst X (v := 0) dX8_isZeroOrOne_13 (by decide) ?_
      exact k_zret X (by decide) dX8_isZeroOrOne_14
    · refine k_lv [] rfl ?_
      exact kb_Fc_isZeroOrOne_b9 X  M
theorem mt_Fc_isZeroOrOne (l : Launch) (E : En) (x0 : Int32) (M : Mem) : MI l E yX8_isZeroOrOne cX8_isZeroOrOne 1 (some .boolean) 0 0 [.int x0] M (j_Fc_isZeroOrOne x0 M) := MI_of (by decide) (Nat.le_of_ble_eq_true rfl) (fun Z _ X => k_lv [0] rfl (kw_Fc_isZeroOrOne X x0 M))
-- FilmCans$Rooms.lossOf
theorem kw_Rooms_lossOf {Z : ZT} {E : En} (X : Cx Z E 4 cX6_lossOf RX6 (some .int) 0 0) (x1 : Int32) (x2 : Int32) (M : Mem) : Kj Z E 4 (QI Z E) (j_Rooms_lossOf x1 x2 M) M 0 [(0, .ref (ad E 299)), (1, .int x1), (2, .int x2)] [] := by
  unfold j_Rooms_lossOf
  refine k_aload_n X 0 dX6_lossOf_0 rfl rfl ?_
  refine k_getR X c_299 fRX6_35 r_299_9 dX6_lossOf_1 ?_
  refine k_iload_n X 1 dX6_lossOf_4 rfl rfl ?_
  refine k_aaldA X (f := fun j => 308 + j) c_307 l_307 ends_rf dX6_lossOf_5 (fun hb1 => ?_)
  refine k_iload_n X 2 dX6_lossOf_6 rfl rfl ?_
  refine k_iald X (ends_C hb1) (ends_L hb1) dX6_lossOf_7 (fun hb2 => ?_)
  refine x_istore_n X [(0, .ref (ad E 299)), (1, .int x1), (2, .int x2)] dX6_lossOf_8 rfl (by decide) rfl (fun x3_ => ?_)
  refine k_aload_n X 1 dX6_lossOf_9 rfl rfl ?_
  refine k_getR X c_299 fRX6_9 r_299_2 dX6_lossOf_10 ?_
  refine k_iload_n X 2 dX6_lossOf_13 rfl rfl ?_
  refine k_iald X c_300 l_300 dX6_lossOf_14 (fun hb4 => ?_)
  refine k_aload_n X 1 dX6_lossOf_15 rfl rfl ?_
  refine k_getR X c_299 fRX6_30 r_299_8 dX6_lossOf_16 ?_
  refine k_iload_n X 3 dX6_lossOf_19 rfl rfl ?_
  refine k_iald X c_306 l_306 dX6_lossOf_20 (fun hb5 => ?_)
  refine k_isub X dX6_lossOf_21 ?_
  refine k_iload_n X 0 dX6_lossOf_22 rfl rfl ?_
  refine k_aload_n X 1 dX6_lossOf_23 rfl rfl ?_
  refine k_getR X c_299 fRX6_21 r_299_5 dX6_lossOf_24 ?_
  refine k_iload_n X 2 dX6_lossOf_27 rfl rfl ?_
  refine k_iald X c_303 l_303 dX6_lossOf_28 (fun hb6 => ?_)
  refine k_icmp_lt X 36 dX6_lossOf_29 (by decide) ?_ ?_
  · refine k_iconst X (v := 0) dX6_lossOf_36 (by decide) ?_
    refine k_isub X dX6_lossOf_37 ?_
    exact k_iret X dX6_lossOf_38
  · refine k_iload_n X 0 dX6_lossOf_32 rfl rfl ?_
    refine k_goto X 37 dX6_lossOf_33 (by decide) ?_
    refine k_isub X dX6_lossOf_37 ?_
    exact k_iret X dX6_lossOf_38
theorem mt_Rooms_lossOf (l : Launch) (E : En) (x1 : Int32) (x2 : Int32) (M : Mem) : MI l E yX6_lossOf cX6_lossOf 4 (some .int) 0 0 [.ref (ad E 299), .int x1, .int x2] M (j_Rooms_lossOf x1 x2 M) := MI_of (by decide) (Nat.le_of_ble_eq_true rfl) (fun Z _ X => k_lv [0, 1, 2] rfl (kw_Rooms_lossOf X x1 x2 M))
-- FilmCans$Best.priceOf
theorem kw_Best_priceOf {Z : ZT} {E : En} (X : Cx Z E 3 cX0_priceOf RX0 (some .int) 1 23) (x1 : Int32) (x2 : Int32) (M : Mem) : Kj Z E 3 (QI Z E) (j_Best_priceOf x1 x2 M) M 0 [(0, .ref (ad E 299)), (1, .int x1), (2, .int x2)] [] := by
  unfold j_Best_priceOf
  refine k_aload_n X 0 dX0_priceOf_0 rfl rfl ?_
  refine k_iload_n X 1 dX0_priceOf_1 rfl rfl ?_
  refine k_iload_n X 2 dX0_priceOf_2 rfl rfl ?_
  refine k_callVI X [.int x1, .int x2] [] c_299 rfl (by decide) rfl (mt_Rooms_lossOf (zl Z) E x1 x2 M) mRX0_72 ⟨by decide, by decide⟩ rfl rfl (Nat.le_of_ble_eq_true rfl) dX0_priceOf_3 (fun r1 M2 => ?_)
  refine k_bipush X (v := 16) dX0_priceOf_6 (by decide) ?_
  refine k_imul X dX0_priceOf_8 ?_
  refine k_iconst X (v := 1) dX0_priceOf_9 (by decide) ?_
  refine k_iadd X dX0_priceOf_10 ?_
  exact k_iret X dX0_priceOf_11
theorem mt_Best_priceOf (l : Launch) (E : En) (x1 : Int32) (x2 : Int32) (M : Mem) : MI l E yX0_priceOf cX0_priceOf 3 (some .int) 1 23 [.ref (ad E 299), .int x1, .int x2] M (j_Best_priceOf x1 x2 M) := MI_of (by decide) (Nat.le_of_ble_eq_true rfl) (fun Z _ X => k_lv [0, 1, 2] rfl (kw_Best_priceOf X x1 x2 M))
-- FilmCans$Best.spread
theorem kb_Best_spread_b69 {Z : ZT} {E : En} (X : Cx Z E 9 cX0_spread RX0 none 1 21) (k34 : Int32 → Int32 → Int32 → Nat → Nat → Int32 → Mem → Option (Unit × Mem)) (hk34 : ∀ (x2 : Int32) (x3 : Int32) (x4 : Int32) (a5 : Nat) (a6 : Nat) (x7 : Int32) (ha5 : isC a5 9) (ka5 : ln a5 = 256) (ha6 : isC a6 9) (ka6 : ln a6 = 256) (M : Mem), Kj Z E 9 (QV Z E) (k34 x2 x3 x4 a5 a6 x7 M) M 34 [(2, .int x2), (3, .int x3), (4, .int x4), (5, .ref (ad E a5)), (6, .ref (ad E a6)), (7, .int x7)] []) (x2 : Int32) (x3 : Int32) (x4 : Int32) (a5 : Nat) (a6 : Nat) (x7 : Int32) (ha5 : isC a5 9) (ka5 : ln a5 = 256) (ha6 : isC a6 9) (ka6 : ln a6 = 256) (M : Mem) : Kj Z E 9 (QV Z E) (Best_spread_b69 k34 x2 x3 x4 a5 a6 x7 M) M 69 [(2, .int x2), (3, .int x3), (4, .int x4), (5, .ref (ad E a5)), (6, .ref (ad E a6)), (7, .int x7)] [] := by
  unfold Best_spread_b69
  refine k_iload X 5 dX0_spread_69 rfl ?_
  refine k_iconst X (v := 1) dX0_spread_71 (by decide) ?_
  refine k_isub X dX0_spread_72 ?_
  refine k_iload X 2 dX0_spread_73 rfl ?_
  refine k_iand X dX0_spread_75 ?_
  refine x_istore X [(2, .int x2), (3, .int x3), (4, .int x4), (5, .ref (ad E a5)), (6, .ref (ad E a6))] dX0_spread_76 (by decide) rfl (fun x9_ => ?_)
  refine k_goto X 34 dX0_spread_78 (by decide) ?_
  refine k_lv [1, 2, 3, 4, 5, 0] rfl ?_
  exact hk34 x2 x3 x4 a5 a6 x9_ ha5 ka5 ha6 ka6 M
theorem kb_Best_spread_h34 {Z : ZT} {E : En} (X : Cx Z E 9 cX0_spread RX0 none 1 21)  : ∀ (n : Nat) (x2 : Int32) (x3 : Int32) (x4 : Int32) (a5 : Nat) (a6 : Nat) (x7 : Int32) (ha5 : isC a5 9) (ka5 : ln a5 = 256) (ha6 : isC a6 9) (ka6 : ln a6 = 256) (M : Mem), Kj Z E 9 (QV Z E) (Best_spread_h34  n x2 x3 x4 a5 a6 x7 M) M 34 [(2, .int x2), (3, .int x3), (4, .int x4), (5, .ref (ad E a5)), (6, .ref (ad E a6)), (7, .int x7)] [] := by
  intro n
  induction n with
  | zero => intro x2 x3 x4 a5 a6 x7 ha5 ka5 ha6 ka6 M; exact k_none
  | succ n ih =>
    intro x2 x3 x4 a5 a6 x7 ha5 ka5 ha6 ka6 M
    rw [Best_spread_h34]
    refine k_iload X 5 dX0_spread_34 rfl ?_
    refine k_if_le X 81 dX0_spread_36 (by decide) ?_ ?_
    · exact k_vret X dX0_spread_81
    · refine k_iload_n X 1 dX0_spread_39 rfl rfl ?_
      refine k_aload X 3 dX0_spread_40 rfl ?_
      refine k_iload X 5 dX0_spread_42 rfl ?_
      refine k_iald X ha5 ka5 dX0_spread_44 (fun hb6 => ?_)
      refine k_iadd X dX0_spread_45 ?_
      refine x_istore X [(2, .int x2), (3, .int x3), (4, .int x4), (5, .ref (ad E a5)), (6, .ref (ad E a6)), (7, .int x7)] dX0_spread_46 (by decide) rfl (fun x7_ => ?_)
      refine k_iload X 0 dX0_spread_48 rfl ?_
      refine k_aload X 5 dX0_spread_50 rfl ?_
      refine k_iload_n X 1 dX0_spread_52 rfl rfl ?_
      refine k_iload X 6 dX0_spread_53 rfl ?_
      refine k_ior X dX0_spread_55 ?_
      refine k_iald X ha6 ka6 dX0_spread_56 (fun hb8 => ?_)
      refine k_icmp_ge X 69 dX0_spread_57 (by decide) ?_ ?_
      · refine k_lv [1, 2, 3, 4, 5, 6] rfl ?_
        exact kb_Best_spread_b69 X (fun x2 x3 x4 a5 a6 x7 M => Best_spread_h34 n x2 x3 x4 a5 a6 x7 M) (fun x2 x3 x4 a5 a6 x7 ha5 ka5 ha6 ka6 M => ih x2 x3 x4 a5 a6 x7 ha5 ka5 ha6 ka6 M) x2 x3 x4 a5 a6 x7 ha5 ka5 ha6 ka6 M
      · refine k_aload X 5 dX0_spread_60 rfl ?_
        refine k_iload_n X 1 dX0_spread_62 rfl rfl ?_
        refine k_iload X 6 dX0_spread_63 rfl ?_
        refine k_ior X dX0_spread_65 ?_
        refine k_iload X 0 dX0_spread_66 rfl ?_
        refine k_iast X ha6 ka6 dX0_spread_68 (fun hb10 => ?_)
        refine k_sq (fun M11 => ?_)
        refine k_lv [1, 2, 3, 4, 5, 6] rfl ?_
        exact kb_Best_spread_b69 X (fun x2 x3 x4 a5 a6 x7 M => Best_spread_h34 n x2 x3 x4 a5 a6 x7 M) (fun x2 x3 x4 a5 a6 x7 ha5 ka5 ha6 ka6 M => ih x2 x3 x4 a5 a6 x7 ha5 ka5 ha6 ka6 M) x2 x3 x4 a5 a6 x7 ha5 ka5 ha6 ka6 M11
theorem kw_Best_spread {Z : ZT} {E : En} (X : Cx Z E 9 cX0_spread RX0 none 1 21) (x1 : Int32) (x2 : Int32) (x3 : Int32) (x4 : Int32) (M : Mem) : Kj Z E 9 (QV Z E) (j_Best_spread x1 x2 x3 x4 M) M 0 [(0, .ref (ad E 315)), (1, .int x1), (2, .int x2), (3, .int x3), (4, .int x4)] [] := by
  unfold j_Best_spread
  refine k_aload_n X 0 dX0_spread_0 rfl rfl ?_
  refine k_getR X c_315 fRX0_11 r_315_0 dX0_spread_1 ?_
  refine k_iload_n X 1 dX0_spread_4 rfl rfl ?_
  refine k_aaldA X (f := fun j => 317 + j) c_316 l_316 behind_rf dX0_spread_5 (fun hb1 => ?_)
  refine k_astore X [(5, .ref (ad E (317 + ix x1))), (0, .ref (ad E 315)), (1, .int x1), (2, .int x2), (3, .int x3), (4, .int x4)] dX0_spread_6 (by decide) rfl ?_
  refine k_aload_n X 1 dX0_spread_8 rfl rfl ?_
  refine k_getR X c_315 fRX0_11 r_315_0 dX0_spread_9 ?_
  refine k_iload_n X 2 dX0_spread_12 rfl rfl ?_
  refine k_iconst X (v := 1) dX0_spread_13 (by decide) ?_
  refine k_isub X dX0_spread_14 ?_
  refine k_aaldA X (f := fun j => 317 + j) c_316 l_316 behind_rf dX0_spread_15 (fun hb2 => ?_)
  refine k_astore X [(6, .ref (ad E (317 + ix (x1 - 1)))), (5, .ref (ad E (317 + ix x1))), (0, .ref (ad E 315)), (1, .int x1), (2, .int x2), (3, .int x3), (4, .int x4)] dX0_spread_16 (by decide) rfl ?_
  refine k_aload X 0 dX0_spread_18 rfl ?_
  refine k_iload_n X 4 dX0_spread_20 rfl rfl ?_
  refine k_aload X 0 dX0_spread_21 rfl ?_
  refine k_iload_n X 4 dX0_spread_23 rfl rfl ?_
  refine k_iald X (behind_C hb2) (behind_L hb2) dX0_spread_24 (fun hb3 => ?_)
  refine k_iload_n X 5 dX0_spread_25 rfl rfl ?_
  refine k_mn X wm_ml774 wm_st493 w_77 wm_cd494 (by decide) (Nat.le_of_ble_eq_true rfl) dX0_spread_26 ?_
  refine k_iast X (behind_C hb2) (behind_L hb2) dX0_spread_29 (fun hb4 => ?_)
  refine k_sq (fun M5 => ?_)
  refine k_iload X 6 dX0_spread_30 rfl ?_
  refine k_istore X [(7, .int x4), (6, .ref (ad E (317 + ix (x1 - 1)))), (5, .ref (ad E (317 + ix x1))), (0, .ref (ad E 315)), (1, .int x1), (2, .int x2), (3, .int x3), (4, .int x4)] dX0_spread_32 (by decide) rfl ?_
  refine k_lv [5, 6, 7, 2, 1, 0] rfl ?_
  exact kb_Best_spread_h34 X  FU x2 x3 x4 (317 + ix x1) (317 + ix (x1 - 1)) x4 (behind_C hb1) (behind_L hb1) (behind_C hb2) (behind_L hb2) M5
theorem mt_Best_spread (l : Launch) (E : En) (x1 : Int32) (x2 : Int32) (x3 : Int32) (x4 : Int32) (M : Mem) : MV l E yX0_spread cX0_spread 9 none 1 21 [.ref (ad E 315), .int x1, .int x2, .int x3, .int x4] M (j_Best_spread x1 x2 x3 x4 M) := MV_of (by decide) (Nat.le_of_ble_eq_true rfl) (fun Z _ X => k_lv [0, 1, 2, 3, 4] rfl (kw_Best_spread X x1 x2 x3 x4 M))
-- FilmCans$Best: a can more
theorem kb_Best_admit_b47 {Z : ZT} {E : En} (X : Cx Z E 6 cX0_admit RX0 none 2 49) (k12 : Int32 → Int32 → Int32 → Int32 → Mem → Option (Unit × Mem)) (hk12 : ∀ (x2 : Int32) (x3 : Int32) (x4 : Int32) (x5 : Int32) (M : Mem), Kj Z E 6 (QV Z E) (k12 x2 x3 x4 x5 M) M 12 [(0, .ref (ad E 315)), (1, .ref (ad E 299)), (2, .int x2), (3, .int x3), (4, .int x4), (5, .int x5)] []) (x2 : Int32) (x3 : Int32) (x4 : Int32) (x5 : Int32) (M : Mem) : Kj Z E 6 (QV Z E) (Best_admit_b47 k12 x2 x3 x4 x5 M) M 47 [(0, .ref (ad E 315)), (1, .ref (ad E 299)), (2, .int x2), (3, .int x3), (4, .int x4), (5, .int x5)] [] := by
  unfold Best_admit_b47
  refine k_iload X 5 dX0_admit_47 rfl ?_
  refine k_iconst X (v := 1) dX0_admit_49 (by decide) ?_
  refine k_isub X dX0_admit_50 ?_
  refine k_iload X 4 dX0_admit_51 rfl ?_
  refine k_iand X dX0_admit_53 ?_
  refine x_istore X [(0, .ref (ad E 315)), (1, .ref (ad E 299)), (2, .int x2), (3, .int x3), (4, .int x4)] dX0_admit_54 (by decide) rfl (fun x5_ => ?_)
  refine k_goto X 12 dX0_admit_56 (by decide) ?_
  refine k_lv [1, 2, 3, 4, 5, 0] rfl ?_
  exact hk12 x2 x3 x4 x5_ M
theorem kb_Best_admit_h12 {Z : ZT} {E : En} (X : Cx Z E 6 cX0_admit RX0 none 2 49)  : ∀ (n : Nat) (x2 : Int32) (x3 : Int32) (x4 : Int32) (x5 : Int32) (M : Mem), Kj Z E 6 (QV Z E) (Best_admit_h12  n x2 x3 x4 x5 M) M 12 [(0, .ref (ad E 315)), (1, .ref (ad E 299)), (2, .int x2), (3, .int x3), (4, .int x4), (5, .int x5)] [] := by
  intro n
  induction n with
  | zero => intro x2 x3 x4 x5 M; exact k_none
  | succ n ih =>
    intro x2 x3 x4 x5 M
    rw [Best_admit_h12]
    refine k_iload X 5 dX0_admit_12 rfl ?_
    refine k_if_le X 59 dX0_admit_14 (by decide) ?_ ?_
    · exact k_vret X dX0_admit_59
    · refine k_aload_n X 1 dX0_admit_17 rfl rfl ?_
      refine k_iload_n X 2 dX0_admit_18 rfl rfl ?_
      refine k_iload X 5 dX0_admit_19 rfl ?_
      refine k_callVI X [.int x2, .int x5] [] c_299 rfl (by decide) rfl (mt_Rooms_holds (zl Z) E x2 x5 M) mRX0_43 ⟨by decide, by decide⟩ rfl rfl (Nat.le_of_ble_eq_true rfl) dX0_admit_21 (fun r3 M4 => ?_)
      refine k_if_eq X 47 dX0_admit_24 (by decide) ?_ ?_
      · refine k_lv [0, 1, 2, 3, 4, 5] rfl ?_
        exact kb_Best_admit_b47 X (fun x2 x3 x4 x5 M => Best_admit_h12 n x2 x3 x4 x5 M) (fun x2 x3 x4 x5 M => ih x2 x3 x4 x5 M) x2 x3 x4 x5 M4
      · refine k_aload_n X 0 dX0_admit_27 rfl rfl ?_
        refine k_iload_n X 2 dX0_admit_28 rfl rfl ?_
        refine k_iload X 5 dX0_admit_29 rfl ?_
        refine k_aload_n X 1 dX0_admit_31 rfl rfl ?_
        refine k_iload_n X 2 dX0_admit_32 rfl rfl ?_
        refine k_iload X 5 dX0_admit_33 rfl ?_
        refine k_callSI X [.ref (ad E 299), .int x2, .int x5] [.int x5, .int x2, .ref (ad E 315)] (mt_Best_priceOf (zl Z) E x2 x5 M4) mRX0_47 ⟨by decide, by decide⟩ rfl rfl (Nat.le_of_ble_eq_true rfl) dX0_admit_35 (fun r6 M7 => ?_)
        refine k_iload_n X 3 dX0_admit_38 rfl rfl ?_
        refine k_iload X 5 dX0_admit_39 rfl ?_
        refine k_iconst X (v := (-1)) dX0_admit_41 (by decide) ?_
        refine k_ixor X dX0_admit_42 ?_
        refine k_iand X dX0_admit_43 ?_
        refine k_callVV X [.int x2, .int x5, .int r6, .int (x3 &&& (x5 ^^^ (-1)))] [] c_315 rfl (by decide) rfl (mt_Best_spread (zl Z) E x2 x5 r6 (x3 &&& (x5 ^^^ (-1))) M7) mRX0_51 ⟨by decide, by decide⟩ rfl rfl (Nat.le_of_ble_eq_true rfl) dX0_admit_44 (fun _ M9 => ?_)
        refine k_lv [0, 1, 2, 3, 4, 5] rfl ?_
        exact kb_Best_admit_b47 X (fun x2 x3 x4 x5 M => Best_admit_h12 n x2 x3 x4 x5 M) (fun x2 x3 x4 x5 M => ih x2 x3 x4 x5 M) x2 x3 x4 x5 M9
theorem kw_Best_admit {Z : ZT} {E : En} (X : Cx Z E 6 cX0_admit RX0 none 2 49) (x2 : Int32) (x3 : Int32) (M : Mem) : Kj Z E 6 (QV Z E) (j_Best_admit x2 x3 M) M 0 [(0, .ref (ad E 315)), (1, .ref (ad E 299)), (2, .int x2), (3, .int x3)] [] := by
  unfold j_Best_admit
  refine k_aload_n X 1 dX0_admit_0 rfl rfl ?_
  refine k_getR X c_299 fRX0_33 r_299_6 dX0_admit_1 ?_
  refine k_iload_n X 2 dX0_admit_4 rfl rfl ?_
  refine k_iald X c_304 l_304 dX0_admit_5 (fun hb1 => ?_)
  refine x_istore X [(0, .ref (ad E 315)), (1, .ref (ad E 299)), (2, .int x2), (3, .int x3)] dX0_admit_6 (by decide) rfl (fun x2_ => ?_)
  refine k_iload X 0 dX0_admit_8 rfl ?_
  refine k_istore X [(5, .int x2_), (4, .int x2_), (0, .ref (ad E 315)), (1, .ref (ad E 299)), (2, .int x2), (3, .int x3)] dX0_admit_10 (by decide) rfl ?_
  refine k_lv [2, 3, 4, 5, 1, 0] rfl ?_
  exact kb_Best_admit_h12 X  FU x2 x3 x2_ x2_ M
theorem mt_Best_admit (l : Launch) (E : En) (x2 : Int32) (x3 : Int32) (M : Mem) : MV l E yX0_admit cX0_admit 6 none 2 49 [.ref (ad E 315), .ref (ad E 299), .int x2, .int x3] M (j_Best_admit x2 x3 M) := MV_of (by decide) (Nat.le_of_ble_eq_true rfl) (fun Z _ X => k_lv [0, 1, 2, 3] rfl (kw_Best_admit X x2 x3 M))
-- FilmCans$Best.cheapestSet
theorem kb_Best_cheapestSet_b89 {Z : ZT} {E : En} (X : Cx Z E 8 cX0_cheapestSet RX0 (some .int) 2 45) (k28 : Int32 → Int32 → Int32 → Int32 → Int32 → Mem → Option (Int32 × Mem)) (hk28 : ∀ (x2 : Int32) (x3 : Int32) (x4 : Int32) (x5 : Int32) (x6 : Int32) (M : Mem), Kj Z E 8 (QI Z E) (k28 x2 x3 x4 x5 x6 M) M 28 [(0, .ref (ad E 315)), (1, .ref (ad E 299)), (2, .int x2), (3, .int x3), (4, .int x4), (5, .int x5), (6, .int x6)] []) (x2 : Int32) (x3 : Int32) (x4 : Int32) (x5 : Int32) (x6 : Int32) (M : Mem) : Kj Z E 8 (QI Z E) (Best_cheapestSet_b89 k28 x2 x3 x4 x5 x6 M) M 89 [(0, .ref (ad E 315)), (1, .ref (ad E 299)), (2, .int x2), (3, .int x3), (4, .int x4), (5, .int x5), (6, .int x6)] [] := by
  unfold Best_cheapestSet_b89
  refine x_iinc X 1 6 [(0, .ref (ad E 315)), (1, .ref (ad E 299)), (2, .int x2), (3, .int x3), (4, .int x4), (5, .int x5)] dX0_cheapestSet_89 rfl (by decide) (by decide) rfl (fun x5_ => ?_)
  refine k_goto X 28 dX0_cheapestSet_92 (by decide) ?_
  refine k_lv [1, 2, 3, 4, 5, 6, 0] rfl ?_
  exact hk28 x2 x3 x4 x5 x5_ M
theorem kb_Best_cheapestSet_h28 {Z : ZT} {E : En} (X : Cx Z E 8 cX0_cheapestSet RX0 (some .int) 2 45)  : ∀ (n : Nat) (x2 : Int32) (x3 : Int32) (x4 : Int32) (x5 : Int32) (x6 : Int32) (M : Mem), Kj Z E 8 (QI Z E) (Best_cheapestSet_h28  n x2 x3 x4 x5 x6 M) M 28 [(0, .ref (ad E 315)), (1, .ref (ad E 299)), (2, .int x2), (3, .int x3), (4, .int x4), (5, .int x5), (6, .int x6)] [] := by
  intro n
  induction n with
  | zero => intro x2 x3 x4 x5 x6 M; exact k_none
  | succ n ih =>
    intro x2 x3 x4 x5 x6 M
    rw [Best_cheapestSet_h28]
    refine k_iload X 6 dX0_cheapestSet_28 rfl ?_
    refine k_iload_n X 3 dX0_cheapestSet_30 rfl rfl ?_
    refine k_icmp_gt X 95 dX0_cheapestSet_31 (by decide) ?_ ?_
    · refine k_iload X 5 dX0_cheapestSet_95 rfl ?_
      exact k_iret X dX0_cheapestSet_97
    · refine k_iload X 6 dX0_cheapestSet_34 rfl ?_
      refine k_iload_n X 3 dX0_cheapestSet_36 rfl rfl ?_
      refine k_iconst X (v := (-1)) dX0_cheapestSet_37 (by decide) ?_
      refine k_ixor X dX0_cheapestSet_38 ?_
      refine k_iand X dX0_cheapestSet_39 ?_
      refine k_if_ne X 89 dX0_cheapestSet_40 (by decide) ?_ ?_
      · refine k_lv [0, 1, 2, 3, 4, 5, 6] rfl ?_
        exact kb_Best_cheapestSet_b89 X (fun x2 x3 x4 x5 x6 M => Best_cheapestSet_h28 n x2 x3 x4 x5 x6 M) (fun x2 x3 x4 x5 x6 M => ih x2 x3 x4 x5 x6 M) x2 x3 x4 x5 x6 M
      · refine k_aload_n X 1 dX0_cheapestSet_43 rfl rfl ?_
        refine k_iload_n X 2 dX0_cheapestSet_44 rfl rfl ?_
        refine k_iload X 6 dX0_cheapestSet_45 rfl ?_
        refine k_callVI X [.int x2, .int x6] [] c_299 rfl (by decide) rfl (mt_Rooms_holds (zl Z) E x2 x6 M) mRX0_43 ⟨by decide, by decide⟩ rfl rfl (Nat.le_of_ble_eq_true rfl) dX0_cheapestSet_47 (fun r6 M7 => ?_)
        refine k_if_eq X 89 dX0_cheapestSet_50 (by decide) ?_ ?_
        · refine k_lv [0, 1, 2, 3, 4, 5, 6] rfl ?_
          exact kb_Best_cheapestSet_b89 X (fun x2 x3 x4 x5 x6 M => Best_cheapestSet_h28 n x2 x3 x4 x5 x6 M) (fun x2 x3 x4 x5 x6 M => ih x2 x3 x4 x5 x6 M) x2 x3 x4 x5 x6 M7
        · refine k_aload_n X 1 dX0_cheapestSet_53 rfl rfl ?_
          refine k_iload_n X 2 dX0_cheapestSet_54 rfl rfl ?_
          refine k_iload X 6 dX0_cheapestSet_55 rfl ?_
          refine k_callSI X [.ref (ad E 299), .int x2, .int x6] [] (mt_Best_priceOf (zl Z) E x2 x6 M7) mRX0_47 ⟨by decide, by decide⟩ rfl rfl (Nat.le_of_ble_eq_true rfl) dX0_cheapestSet_57 (fun r8 M9 => ?_)
          refine k_aload_n X 0 dX0_cheapestSet_60 rfl rfl ?_
          refine k_getR X c_315 fRX0_11 r_315_0 dX0_cheapestSet_61 ?_
          refine k_iload_n X 2 dX0_cheapestSet_64 rfl rfl ?_
          refine k_aaldA X (f := fun j => 317 + j) c_316 l_316 behind_rf dX0_cheapestSet_65 (fun hb10 => ?_)
          refine k_iload_n X 3 dX0_cheapestSet_66 rfl rfl ?_
          refine k_iload X 6 dX0_cheapestSet_67 rfl ?_
          refine k_ixor X dX0_cheapestSet_69 ?_
          refine k_iald X (behind_C hb10) (behind_L hb10) dX0_cheapestSet_70 (fun hb11 => ?_)
          refine k_iadd X dX0_cheapestSet_71 ?_
          refine x_istore X [(0, .ref (ad E 315)), (1, .ref (ad E 299)), (2, .int x2), (3, .int x3), (4, .int x4), (5, .int x5), (6, .int x6)] dX0_cheapestSet_72 (by decide) rfl (fun x12_ => ?_)
          refine k_iload X 0 dX0_cheapestSet_74 rfl ?_
          refine k_iload X 5 dX0_cheapestSet_76 rfl ?_
          refine k_icmp_ge X 89 dX0_cheapestSet_78 (by decide) ?_ ?_
          · refine k_lv [1, 2, 3, 4, 5, 6, 7] rfl ?_
            exact kb_Best_cheapestSet_b89 X (fun x2 x3 x4 x5 x6 M => Best_cheapestSet_h28 n x2 x3 x4 x5 x6 M) (fun x2 x3 x4 x5 x6 M => ih x2 x3 x4 x5 x6 M) x2 x3 x4 x5 x6 M9
          · refine k_iload X 0 dX0_cheapestSet_81 rfl ?_
            refine k_istore X [(4, .int x12_), (7, .int x12_), (0, .ref (ad E 315)), (1, .ref (ad E 299)), (2, .int x2), (3, .int x3), (5, .int x5), (6, .int x6)] dX0_cheapestSet_83 (by decide) rfl ?_
            refine k_iload X 7 dX0_cheapestSet_85 rfl ?_
            refine k_istore X [(5, .int x6), (4, .int x12_), (7, .int x12_), (0, .ref (ad E 315)), (1, .ref (ad E 299)), (2, .int x2), (3, .int x3), (6, .int x6)] dX0_cheapestSet_87 (by decide) rfl ?_
            refine k_lv [3, 4, 5, 6, 1, 0, 7] rfl ?_
            exact kb_Best_cheapestSet_b89 X (fun x2 x3 x4 x5 x6 M => Best_cheapestSet_h28 n x2 x3 x4 x5 x6 M) (fun x2 x3 x4 x5 x6 M => ih x2 x3 x4 x5 x6 M) x2 x3 x12_ x6 x6 M9
theorem kb_Best_cheapestSet_b23 {Z : ZT} {E : En} (X : Cx Z E 8 cX0_cheapestSet RX0 (some .int) 2 45) (x2 : Int32) (x3 : Int32) (x4 : Int32) (xs0 : Int32) (M : Mem) : Kj Z E 8 (QI Z E) (Best_cheapestSet_b23 x2 x3 x4 xs0 M) M 23 [(0, .ref (ad E 315)), (1, .ref (ad E 299)), (2, .int x2), (3, .int x3), (4, .int x4)] [.int xs0] := by
  unfold Best_cheapestSet_b23
  refine k_istore X [(5, .int xs0), (0, .ref (ad E 315)), (1, .ref (ad E 299)), (2, .int x2), (3, .int x3), (4, .int x4)] dX0_cheapestSet_23 (by decide) rfl ?_
  refine k_iconst X (v := 1) dX0_cheapestSet_25 (by decide) ?_
  refine x_istore X [(5, .int xs0), (0, .ref (ad E 315)), (1, .ref (ad E 299)), (2, .int x2), (3, .int x3), (4, .int x4)] dX0_cheapestSet_26 (by decide) rfl (fun x4_ => ?_)
  refine k_lv [2, 3, 4, 5, 6, 1, 0] rfl ?_
  exact kb_Best_cheapestSet_h28 X  FU x2 x3 x4 xs0 x4_ M
theorem kw_Best_cheapestSet {Z : ZT} {E : En} (X : Cx Z E 8 cX0_cheapestSet RX0 (some .int) 2 45) (x2 : Int32) (x3 : Int32) (M : Mem) : Kj Z E 8 (QI Z E) (j_Best_cheapestSet x2 x3 M) M 0 [(0, .ref (ad E 315)), (1, .ref (ad E 299)), (2, .int x2), (3, .int x3)] [] := by
  unfold j_Best_cheapestSet
  refine k_aload_n X 0 dX0_cheapestSet_0 rfl rfl ?_
  refine k_getR X c_315 fRX0_11 r_315_0 dX0_cheapestSet_1 ?_
  refine k_iload_n X 2 dX0_cheapestSet_4 rfl rfl ?_
  refine k_aaldA X (f := fun j => 317 + j) c_316 l_316 behind_rf dX0_cheapestSet_5 (fun hb1 => ?_)
  refine k_iload_n X 3 dX0_cheapestSet_6 rfl rfl ?_
  refine k_iald X (behind_C hb1) (behind_L hb1) dX0_cheapestSet_7 (fun hb2 => ?_)
  refine x_istore X [(0, .ref (ad E 315)), (1, .ref (ad E 299)), (2, .int x2), (3, .int x3)] dX0_cheapestSet_8 (by decide) rfl (fun x3_ => ?_)
  refine k_iload X 0 dX0_cheapestSet_10 rfl ?_
  refine k_ldc X w_755 dX0_cheapestSet_12 ?_
  refine k_icmp_ge X 21 dX0_cheapestSet_14 (by decide) ?_ ?_
  · refine k_ldc X w_783 dX0_cheapestSet_21 ?_
    refine k_lv [1, 2, 3, 4, 0] rfl ?_
    exact kb_Best_cheapestSet_b23 X  x2 x3 x3_ (-1000000) M
  · refine k_iconst X (v := 0) dX0_cheapestSet_17 (by decide) ?_
    refine k_goto X 23 dX0_cheapestSet_18 (by decide) ?_
    refine k_lv [1, 2, 3, 4, 0] rfl ?_
    exact kb_Best_cheapestSet_b23 X  x2 x3 x3_ 0 M
theorem mt_Best_cheapestSet (l : Launch) (E : En) (x2 : Int32) (x3 : Int32) (M : Mem) : MI l E yX0_cheapestSet cX0_cheapestSet 8 (some .int) 2 45 [.ref (ad E 315), .ref (ad E 299), .int x2, .int x3] M (j_Best_cheapestSet x2 x3 M) := MI_of (by decide) (Nat.le_of_ble_eq_true rfl) (fun Z _ X => k_lv [0, 1, 2, 3] rfl (kw_Best_cheapestSet X x2 x3 M))
-- FilmCans$Best.choose
theorem kb_Best_choose_h7 {Z : ZT} {E : En} (X : Cx Z E 5 cX0_choose RX0 (some .boolean) 3 72)  : ∀ (n : Nat) (x2 : Int32) (x3 : Int32) (M : Mem), Kj Z E 5 (QI Z E) (Best_choose_h7  n x2 x3 M) M 7 [(0, .ref (ad E 315)), (1, .ref (ad E 299)), (2, .int x2), (3, .int x3)] [] := by
  intro n
  induction n with
  | zero => intro x2 x3 M; exact k_none
  | succ n ih =>
    intro x2 x3 M
    rw [Best_choose_h7]
    refine k_iload_n X 3 dX0_choose_7 rfl rfl ?_
    refine k_bipush X (v := 6) dX0_choose_8 (by decide) ?_
    refine k_icmp_ge X 52 dX0_choose_10 (by decide) ?_ ?_
    · refine k_iconst X (v := 1) dX0_choose_52 (by decide) ?_
      exact k_zret X (by decide) dX0_choose_53
    · refine k_aload_n X 0 dX0_choose_13 rfl rfl ?_
      refine k_aload_n X 1 dX0_choose_14 rfl rfl ?_
      refine k_iload_n X 3 dX0_choose_15 rfl rfl ?_
      refine k_iload_n X 2 dX0_choose_16 rfl rfl ?_
      refine k_callVI X [.ref (ad E 299), .int x3, .int x2] [] c_315 rfl (by decide) rfl (mt_Best_cheapestSet (zl Z) E x3 x2 M) mRX0_65 ⟨by decide, by decide⟩ rfl rfl (Nat.le_of_ble_eq_true rfl) dX0_choose_17 (fun r3 M4 => ?_)
      refine k_istore X [(4, .int r3), (0, .ref (ad E 315)), (1, .ref (ad E 299)), (2, .int x2), (3, .int x3)] dX0_choose_20 (by decide) rfl ?_
      refine k_iload X 0 dX0_choose_22 rfl ?_
      refine k_ldc X w_783 dX0_choose_24 ?_
      refine k_icmp_ne X 31 dX0_choose_26 (by decide) ?_ ?_
      · refine k_aload_n X 2 dX0_choose_31 rfl rfl ?_
        refine k_getR X c_299 fRX0_69 r_299_10 dX0_choose_32 ?_
        refine k_iload_n X 4 dX0_choose_35 rfl rfl ?_
        refine k_iload X 0 dX0_choose_36 rfl ?_
        refine k_iast X c_314 l_314 dX0_choose_38 (fun hb5 => ?_)
        refine k_sq (fun M6 => ?_)
        refine k_iload_n X 3 dX0_choose_39 rfl rfl ?_
        refine k_iload X 0 dX0_choose_40 rfl ?_
        refine k_iconst X (v := (-1)) dX0_choose_42 (by decide) ?_
        refine k_ixor X dX0_choose_43 ?_
        refine k_iand X dX0_choose_44 ?_
        refine x_istore_n X [(4, .int r3), (0, .ref (ad E 315)), (1, .ref (ad E 299)), (3, .int x3)] dX0_choose_45 rfl (by decide) rfl (fun x7_ => ?_)
        refine x_iinc X 1 4 [(2, .int x7_), (4, .int r3), (0, .ref (ad E 315)), (1, .ref (ad E 299))] dX0_choose_46 rfl (by decide) (by decide) rfl (fun x8_ => ?_)
        refine k_goto X 7 dX0_choose_49 (by decide) ?_
        refine k_lv [3, 4, 1, 0] rfl ?_
        exact ih x7_ x8_ M6
      · refine k_iconst X (v := 0) dX0_choose_29 (by decide) ?_
        exact k_zret X (by decide) dX0_choose_30
theorem kw_Best_choose {Z : ZT} {E : En} (X : Cx Z E 5 cX0_choose RX0 (some .boolean) 3 72) (M : Mem) : Kj Z E 5 (QI Z E) (j_Best_choose M) M 0 [(0, .ref (ad E 315)), (1, .ref (ad E 299))] [] := by
  unfold j_Best_choose
  refine k_aload_n X 1 dX0_choose_0 rfl rfl ?_
  refine k_getI X c_299 fRX0_61 dX0_choose_1 ?_
  refine x_istore_n X [(0, .ref (ad E 315)), (1, .ref (ad E 299))] dX0_choose_4 rfl (by decide) rfl (fun x1_ => ?_)
  refine k_iconst X (v := 0) dX0_choose_5 (by decide) ?_
  refine x_istore_n X [(2, .int x1_), (0, .ref (ad E 315)), (1, .ref (ad E 299))] dX0_choose_6 rfl (by decide) rfl (fun x2_ => ?_)
  refine k_lv [2, 3, 1, 0] rfl ?_
  exact kb_Best_choose_h7 X  FU x1_ x2_ M
theorem mt_Best_choose (l : Launch) (E : En) (M : Mem) : MI l E yX0_choose cX0_choose 5 (some .boolean) 3 72 [.ref (ad E 315), .ref (ad E 299)] M (j_Best_choose M) := MI_of (by decide) (Nat.le_of_ble_eq_true rfl) (fun Z _ X => k_lv [0, 1] rfl (kw_Best_choose X M))
-- FilmCans$Best.place
theorem kb_Best_place_h27 {Z : ZT} {E : En} (X : Cx Z E 5 cX0_place RX0 (some .boolean) 4 96)  : ∀ (n : Nat) (x3 : Int32) (x4 : Int32) (M : Mem), Kj Z E 5 (QI Z E) (Best_place_h27  n x3 x4 M) M 27 [(0, .ref (ad E 315)), (1, .ref (ad E 299)), (3, .int x3), (4, .int x4)] [] := by
  intro n
  induction n with
  | zero => intro x3 x4 M; exact k_none
  | succ n ih =>
    intro x3 x4 M
    rw [Best_place_h27]
    refine k_iload X 3 dX0_place_27 rfl ?_
    refine k_if_le X 80 dX0_place_29 (by decide) ?_ ?_
    · refine k_aload_n X 0 dX0_place_80 rfl rfl ?_
      refine k_aload_n X 1 dX0_place_81 rfl rfl ?_
      refine k_callVI X [.ref (ad E 299)] [] c_315 rfl (by decide) rfl (mt_Best_choose (zl Z) E  M) mRX0_39 ⟨by decide, by decide⟩ rfl rfl (Nat.le_of_ble_eq_true rfl) dX0_place_82 (fun r9 M10 => ?_)
      exact k_zretG X dX0_place_85
    · refine k_aload_n X 0 dX0_place_32 rfl rfl ?_
      refine k_getR X c_315 fRX0_11 r_315_0 dX0_place_33 ?_
      refine k_iload X 3 dX0_place_36 rfl ?_
      refine k_aaldA X (f := fun j => 317 + j) c_316 l_316 behind_rf dX0_place_38 (fun hb11 => ?_)
      refine k_iconst X (v := 0) dX0_place_39 (by decide) ?_
      refine k_aload_n X 0 dX0_place_40 rfl rfl ?_
      refine k_getR X c_315 fRX0_11 r_315_0 dX0_place_41 ?_
      refine k_iload X 3 dX0_place_44 rfl ?_
      refine k_iconst X (v := 1) dX0_place_46 (by decide) ?_
      refine k_isub X dX0_place_47 ?_
      refine k_aaldA X (f := fun j => 317 + j) c_316 l_316 behind_rf dX0_place_48 (fun hb12 => ?_)
      refine k_iconst X (v := 0) dX0_place_49 (by decide) ?_
      refine k_sipush X (v := 256) dX0_place_50 (by decide) ?_
      refine k_copy X 0 0 256 w_757 w_445 w_444 w_76 (behind_C hb11) (behind_C hb12) (behind_L hb11) (behind_L hb12) (by decide) (by decide) (by decide) (by decide) (by decide) (by decide) (by decide) (by decide) (by decide) (Nat.le_of_ble_eq_true rfl) dX0_place_53 ?_
      refine k_sq (fun M13 => ?_)
      refine k_aload_n X 0 dX0_place_56 rfl rfl ?_
      refine k_aload_n X 1 dX0_place_57 rfl rfl ?_
      refine k_iload X 3 dX0_place_58 rfl ?_
      refine k_iload_n X 2 dX0_place_60 rfl rfl ?_
      refine k_callVV X [.ref (ad E 299), .int x4, .int x3] [] c_315 rfl (by decide) rfl (mt_Best_admit (zl Z) E x4 x3 M13) mRX0_29 ⟨by decide, by decide⟩ rfl rfl (Nat.le_of_ble_eq_true rfl) dX0_place_61 (fun _ M15 => ?_)
      refine k_iload_n X 2 dX0_place_64 rfl rfl ?_
      refine k_aload_n X 1 dX0_place_65 rfl rfl ?_
      refine k_getR X c_299 fRX0_33 r_299_6 dX0_place_66 ?_
      refine k_iload X 3 dX0_place_69 rfl ?_
      refine k_iald X c_304 l_304 dX0_place_71 (fun hb16 => ?_)
      refine k_ior X dX0_place_72 ?_
      refine x_istore_n X [(0, .ref (ad E 315)), (1, .ref (ad E 299)), (4, .int x4)] dX0_place_73 rfl (by decide) rfl (fun x17_ => ?_)
      refine x_iinc X (-1) 3 [(3, .int x17_), (0, .ref (ad E 315)), (1, .ref (ad E 299))] dX0_place_74 rfl (by decide) (by decide) rfl (fun x18_ => ?_)
      refine k_goto X 27 dX0_place_77 (by decide) ?_
      refine k_lv [2, 3, 1, 0] rfl ?_
      exact ih x17_ x18_ M15
theorem kw_Best_place {Z : ZT} {E : En} (X : Cx Z E 5 cX0_place RX0 (some .boolean) 4 96) (M : Mem) : Kj Z E 5 (QI Z E) (j_Best_place M) M 0 [(0, .ref (ad E 315)), (1, .ref (ad E 299))] [] := by
  unfold j_Best_place
  refine k_iconst X (v := 5) dX0_place_0 (by decide) ?_
  refine x_istore_n X [(0, .ref (ad E 315)), (1, .ref (ad E 299))] dX0_place_1 rfl (by decide) rfl (fun x1_ => ?_)
  refine k_aload_n X 1 dX0_place_2 rfl rfl ?_
  refine k_getR X c_315 fRX0_11 r_315_0 dX0_place_3 ?_
  refine k_iload_n X 0 dX0_place_6 rfl rfl ?_
  refine k_aaldA X (f := fun j => 317 + j) c_316 l_316 behind_rf dX0_place_7 (fun hb2 => ?_)
  refine k_ldc X w_755 dX0_place_8 ?_
  refine k_callSV X [.ref (ad E (317 + ix x1_)), .int 1000000] [] (mt_Arrays_fill (zl Z) E (317 + ix x1_) 1000000 (behind_C hb2) M) mRX0_17 ⟨by decide, by decide⟩ rfl rfl (Nat.le_of_ble_eq_true rfl) dX0_place_10 (fun _ M4 => ?_)
  refine k_aload_n X 1 dX0_place_13 rfl rfl ?_
  refine k_getR X c_315 fRX0_11 r_315_0 dX0_place_14 ?_
  refine k_iload_n X 0 dX0_place_17 rfl rfl ?_
  refine k_aaldA X (f := fun j => 317 + j) c_316 l_316 behind_rf dX0_place_18 (fun hb5 => ?_)
  refine k_iconst X (v := 0) dX0_place_19 (by decide) ?_
  refine k_iconst X (v := 0) dX0_place_20 (by decide) ?_
  refine k_iastC X 0 (behind_C hb5) (behind_L hb5) (by decide) (by decide) dX0_place_21 ?_
  refine k_sq (fun M7 => ?_)
  refine k_iconst X (v := 0) dX0_place_22 (by decide) ?_
  refine x_istore_n X [(2, .int x1_), (0, .ref (ad E 315)), (1, .ref (ad E 299))] dX0_place_23 rfl (by decide) rfl (fun x8_ => ?_)
  refine k_iload_n X 1 dX0_place_24 rfl rfl ?_
  refine k_istore X [(4, .int x1_), (3, .int x8_), (2, .int x1_), (0, .ref (ad E 315)), (1, .ref (ad E 299))] dX0_place_25 (by decide) rfl ?_
  refine k_lv [3, 4, 1, 0] rfl ?_
  exact kb_Best_place_h27 X  FU x8_ x1_ M7
theorem mt_Best_place (l : Launch) (E : En) (M : Mem) : MI l E yX0_place cX0_place 5 (some .boolean) 4 96 [.ref (ad E 315), .ref (ad E 299)] M (j_Best_place M) := MI_of (by decide) (Nat.le_of_ble_eq_true rfl) (fun Z _ X => k_lv [0, 1] rfl (kw_Best_place X M))
-- FilmCans.placeBest
theorem kw_Fc_placeBest {Z : ZT} {E : En} (X : Cx Z E 1 cX8_placeBest RX8 (some .boolean) 5 120) (M : Mem) : Kj Z E 1 (QI Z E) (j_Fc_placeBest M) M 0 [(0, .ref (ad E 0))] [] := by
  unfold j_Fc_placeBest
  refine k_aload_n X 0 dX8_placeBest_0 rfl rfl ?_
  refine k_getR X c_0 fRX8_47 r_0_6 dX8_placeBest_1 ?_
  refine k_aload_n X 0 dX8_placeBest_4 rfl rfl ?_
  refine k_getR X c_0 fRX8_19 r_0_1 dX8_placeBest_5 ?_
  refine k_callVV X [.ref (ad E 3)] [] c_299 rfl (by decide) rfl (mt_Rooms_lookAt (zl Z) E 3 day_3 M) mRX8_265 ⟨by decide, by decide⟩ rfl rfl (Nat.le_of_ble_eq_true rfl) dX8_placeBest_8 (fun _ M2 => ?_)
  refine k_aload_n X 0 dX8_placeBest_11 rfl rfl ?_
  refine k_getR X c_0 fRX8_54 r_0_7 dX8_placeBest_12 ?_
  refine k_aload_n X 0 dX8_placeBest_15 rfl rfl ?_
  refine k_getR X c_0 fRX8_47 r_0_6 dX8_placeBest_16 ?_
  refine k_callVI X [.ref (ad E 299)] [] c_315 rfl (by decide) rfl (mt_Best_place (zl Z) E  M2) mRX8_353 ⟨by decide, by decide⟩ rfl rfl (Nat.le_of_ble_eq_true rfl) dX8_placeBest_19 (fun r3 M4 => ?_)
  exact k_zretG X dX8_placeBest_22
theorem mt_Fc_placeBest (l : Launch) (E : En) (M : Mem) : MI l E yX8_placeBest cX8_placeBest 1 (some .boolean) 5 120 [.ref (ad E 0)] M (j_Fc_placeBest M) := MI_of (by decide) (Nat.le_of_ble_eq_true rfl) (fun Z _ X => k_lv [0] rfl (kw_Fc_placeBest X M))
-- FilmCans$Rooms.losses
theorem kb_Rooms_losses_b33 {Z : ZT} {E : En} (X : Cx Z E 3 cX6_losses RX6 (some .int) 1 23) (k4 : Int32 → Int32 → Mem → Option (Int32 × Mem)) (hk4 : ∀ (x1 : Int32) (x2 : Int32) (M : Mem), Kj Z E 3 (QI Z E) (k4 x1 x2 M) M 4 [(0, .ref (ad E 299)), (1, .int x1), (2, .int x2)] []) (x1 : Int32) (x2 : Int32) (M : Mem) : Kj Z E 3 (QI Z E) (Rooms_losses_b33 k4 x1 x2 M) M 33 [(0, .ref (ad E 299)), (1, .int x1), (2, .int x2)] [] := by
  unfold Rooms_losses_b33
  refine x_iinc X 1 2 [(0, .ref (ad E 299)), (1, .int x1)] dX6_losses_33 rfl (by decide) (by decide) rfl (fun x4_ => ?_)
  refine k_goto X 4 dX6_losses_36 (by decide) ?_
  refine k_lv [1, 2, 0] rfl ?_
  exact hk4 x1 x4_ M
theorem kb_Rooms_losses_h4 {Z : ZT} {E : En} (X : Cx Z E 3 cX6_losses RX6 (some .int) 1 23)  : ∀ (n : Nat) (x1 : Int32) (x2 : Int32) (M : Mem), Kj Z E 3 (QI Z E) (Rooms_losses_h4  n x1 x2 M) M 4 [(0, .ref (ad E 299)), (1, .int x1), (2, .int x2)] [] := by
  intro n
  induction n with
  | zero => intro x1 x2 M; exact k_none
  | succ n ih =>
    intro x1 x2 M
    rw [Rooms_losses_h4]
    refine k_iload_n X 2 dX6_losses_4 rfl rfl ?_
    refine k_bipush X (v := 6) dX6_losses_5 (by decide) ?_
    refine k_icmp_ge X 39 dX6_losses_7 (by decide) ?_ ?_
    · refine k_iload_n X 1 dX6_losses_39 rfl rfl ?_
      exact k_iret X dX6_losses_40
    · refine k_aload_n X 0 dX6_losses_10 rfl rfl ?_
      refine k_getR X c_299 fRX6_38 r_299_10 dX6_losses_11 ?_
      refine k_iload_n X 2 dX6_losses_14 rfl rfl ?_
      refine k_iald X c_314 l_314 dX6_losses_15 (fun hb3 => ?_)
      refine k_if_eq X 33 dX6_losses_16 (by decide) ?_ ?_
      · refine k_lv [0, 1, 2] rfl ?_
        exact kb_Rooms_losses_b33 X (fun x1 x2 M => Rooms_losses_h4 n x1 x2 M) (fun x1 x2 M => ih x1 x2 M) x1 x2 M
      · refine k_iload_n X 1 dX6_losses_19 rfl rfl ?_
        refine k_aload_n X 0 dX6_losses_20 rfl rfl ?_
        refine k_iload_n X 2 dX6_losses_21 rfl rfl ?_
        refine k_aload_n X 0 dX6_losses_22 rfl rfl ?_
        refine k_getR X c_299 fRX6_38 r_299_10 dX6_losses_23 ?_
        refine k_iload_n X 2 dX6_losses_26 rfl rfl ?_
        refine k_iald X c_314 l_314 dX6_losses_27 (fun hb5 => ?_)
        refine k_callVI X [.int x2, .int (gi M 314 (ix x2))] [.int x1] c_299 rfl (by decide) rfl (mt_Rooms_lossOf (zl Z) E x2 (gi M 314 (ix x2)) M) mRX6_120 ⟨by decide, by decide⟩ rfl rfl (Nat.le_of_ble_eq_true rfl) dX6_losses_28 (fun r6 M7 => ?_)
        refine k_iadd X dX6_losses_31 ?_
        refine x_istore_n X [(0, .ref (ad E 299)), (2, .int x2)] dX6_losses_32 rfl (by decide) rfl (fun x8_ => ?_)
        refine k_lv [1, 0, 2] rfl ?_
        exact kb_Rooms_losses_b33 X (fun x1 x2 M => Rooms_losses_h4 n x1 x2 M) (fun x1 x2 M => ih x1 x2 M) x8_ x2 M7
theorem kw_Rooms_losses {Z : ZT} {E : En} (X : Cx Z E 3 cX6_losses RX6 (some .int) 1 23) (M : Mem) : Kj Z E 3 (QI Z E) (j_Rooms_losses M) M 0 [(0, .ref (ad E 299))] [] := by
  unfold j_Rooms_losses
  refine k_iconst X (v := 0) dX6_losses_0 (by decide) ?_
  refine x_istore_n X [(0, .ref (ad E 299))] dX6_losses_1 rfl (by decide) rfl (fun x1_ => ?_)
  refine k_iconst X (v := 0) dX6_losses_2 (by decide) ?_
  refine x_istore_n X [(1, .int x1_), (0, .ref (ad E 299))] dX6_losses_3 rfl (by decide) rfl (fun x2_ => ?_)
  refine k_lv [2, 1, 0] rfl ?_
  exact kb_Rooms_losses_h4 X  FU x1_ x2_ M
theorem mt_Rooms_losses (l : Launch) (E : En) (M : Mem) : MI l E yX6_losses cX6_losses 3 (some .int) 1 23 [.ref (ad E 299)] M (j_Rooms_losses M) := MI_of (by decide) (Nat.le_of_ble_eq_true rfl) (fun Z _ X => k_lv [0] rfl (kw_Rooms_losses X M))
-- FilmCans$Rooms.used
theorem kb_Rooms_used_b22 {Z : ZT} {E : En} (X : Cx Z E 3 cX6_used RX6 (some .int) 0 0) (k4 : Int32 → Int32 → Mem → Option (Int32 × Mem)) (hk4 : ∀ (x1 : Int32) (x2 : Int32) (M : Mem), Kj Z E 3 (QI Z E) (k4 x1 x2 M) M 4 [(0, .ref (ad E 299)), (1, .int x1), (2, .int x2)] []) (x1 : Int32) (x2 : Int32) (M : Mem) : Kj Z E 3 (QI Z E) (Rooms_used_b22 k4 x1 x2 M) M 22 [(0, .ref (ad E 299)), (1, .int x1), (2, .int x2)] [] := by
  unfold Rooms_used_b22
  refine x_iinc X 1 2 [(0, .ref (ad E 299)), (1, .int x1)] dX6_used_22 rfl (by decide) (by decide) rfl (fun x4_ => ?_)
  refine k_goto X 4 dX6_used_25 (by decide) ?_
  refine k_lv [1, 2, 0] rfl ?_
  exact hk4 x1 x4_ M
theorem kb_Rooms_used_h4 {Z : ZT} {E : En} (X : Cx Z E 3 cX6_used RX6 (some .int) 0 0)  : ∀ (n : Nat) (x1 : Int32) (x2 : Int32) (M : Mem), Kj Z E 3 (QI Z E) (Rooms_used_h4  n x1 x2 M) M 4 [(0, .ref (ad E 299)), (1, .int x1), (2, .int x2)] [] := by
  intro n
  induction n with
  | zero => intro x1 x2 M; exact k_none
  | succ n ih =>
    intro x1 x2 M
    rw [Rooms_used_h4]
    refine k_iload_n X 2 dX6_used_4 rfl rfl ?_
    refine k_bipush X (v := 6) dX6_used_5 (by decide) ?_
    refine k_icmp_ge X 28 dX6_used_7 (by decide) ?_ ?_
    · refine k_iload_n X 1 dX6_used_28 rfl rfl ?_
      exact k_iret X dX6_used_29
    · refine k_aload_n X 0 dX6_used_10 rfl rfl ?_
      refine k_getR X c_299 fRX6_38 r_299_10 dX6_used_11 ?_
      refine k_iload_n X 2 dX6_used_14 rfl rfl ?_
      refine k_iald X c_314 l_314 dX6_used_15 (fun hb3 => ?_)
      refine k_if_eq X 22 dX6_used_16 (by decide) ?_ ?_
      · refine k_lv [0, 1, 2] rfl ?_
        exact kb_Rooms_used_b22 X (fun x1 x2 M => Rooms_used_h4 n x1 x2 M) (fun x1 x2 M => ih x1 x2 M) x1 x2 M
      · refine x_iinc X 1 1 [(0, .ref (ad E 299)), (2, .int x2)] dX6_used_19 rfl (by decide) (by decide) rfl (fun x5_ => ?_)
        refine k_lv [1, 0, 2] rfl ?_
        exact kb_Rooms_used_b22 X (fun x1 x2 M => Rooms_used_h4 n x1 x2 M) (fun x1 x2 M => ih x1 x2 M) x5_ x2 M
theorem kw_Rooms_used {Z : ZT} {E : En} (X : Cx Z E 3 cX6_used RX6 (some .int) 0 0) (M : Mem) : Kj Z E 3 (QI Z E) (j_Rooms_used M) M 0 [(0, .ref (ad E 299))] [] := by
  unfold j_Rooms_used
  refine k_iconst X (v := 0) dX6_used_0 (by decide) ?_
  refine x_istore_n X [(0, .ref (ad E 299))] dX6_used_1 rfl (by decide) rfl (fun x1_ => ?_)
  refine k_iconst X (v := 0) dX6_used_2 (by decide) ?_
  refine x_istore_n X [(1, .int x1_), (0, .ref (ad E 299))] dX6_used_3 rfl (by decide) rfl (fun x2_ => ?_)
  refine k_lv [2, 1, 0] rfl ?_
  exact kb_Rooms_used_h4 X  FU x1_ x2_ M
theorem mt_Rooms_used (l : Launch) (E : En) (M : Mem) : MI l E yX6_used cX6_used 3 (some .int) 0 0 [.ref (ad E 299)] M (j_Rooms_used M) := MI_of (by decide) (Nat.le_of_ble_eq_true rfl) (fun Z _ X => k_lv [0] rfl (kw_Rooms_used X M))
-- FilmCans.wholeAnswer
theorem kw_Fc_wholeAnswer {Z : ZT} {E : En} (X : Cx Z E 3 cX8_wholeAnswer RX8 (some .int) 2 45) (x1 : Int32) (x2 : Int32) (M : Mem) : Kj Z E 3 (QI Z E) (j_Fc_wholeAnswer x1 x2 M) M 0 [(0, .ref (ad E 0)), (1, .int x1), (2, .int x2)] [] := by
  unfold j_Fc_wholeAnswer
  refine k_iload_n X 1 dX8_wholeAnswer_0 rfl rfl ?_
  refine k_if_ne X 7 dX8_wholeAnswer_1 (by decide) ?_ ?_
  · refine k_iload_n X 2 dX8_wholeAnswer_7 rfl rfl ?_
    refine k_if_ne X 21 dX8_wholeAnswer_8 (by decide) ?_ ?_
    · refine k_aload_n X 0 dX8_wholeAnswer_21 rfl rfl ?_
      refine k_getR X c_0 fRX8_47 r_0_6 dX8_wholeAnswer_22 ?_
      refine k_callVI X [] [] c_299 rfl (by decide) rfl (mt_Rooms_used (zl Z) E  M) mRX8_367 ⟨by decide, by decide⟩ rfl rfl (Nat.le_of_ble_eq_true rfl) dX8_wholeAnswer_25 (fun r1 M2 => ?_)
      exact k_iret X dX8_wholeAnswer_28
    · refine k_aload_n X 0 dX8_wholeAnswer_11 rfl rfl ?_
      refine k_getR X c_0 fRX8_47 r_0_6 dX8_wholeAnswer_12 ?_
      refine k_callVI X [] [] c_299 rfl (by decide) rfl (mt_Rooms_losses (zl Z) E  M) mRX8_355 ⟨by decide, by decide⟩ rfl rfl (Nat.le_of_ble_eq_true rfl) dX8_wholeAnswer_15 (fun r3 M4 => ?_)
      refine k_goto X 28 dX8_wholeAnswer_18 (by decide) ?_
      exact k_iret X dX8_wholeAnswer_28
  · refine k_ldc X w_472 dX8_wholeAnswer_4 ?_
    exact k_iret X dX8_wholeAnswer_6
theorem mt_Fc_wholeAnswer (l : Launch) (E : En) (x1 : Int32) (x2 : Int32) (M : Mem) : MI l E yX8_wholeAnswer cX8_wholeAnswer 3 (some .int) 2 45 [.ref (ad E 0), .int x1, .int x2] M (j_Fc_wholeAnswer x1 x2 M) := MI_of (by decide) (Nat.le_of_ble_eq_true rfl) (fun Z _ X => k_lv [0, 1, 2] rfl (kw_Fc_wholeAnswer X x1 x2 M))
-- FilmCans.plan
theorem kw_Fc_plan {Z : ZT} {E : En} (X : Cx Z E 2 cX8_plan RX8 (some .int) 6 140) (x1 : Int32) (M : Mem) : Kj Z E 2 (QI Z E) (j_Fc_plan x1 M) M 0 [(0, .ref (ad E 0)), (1, .int x1)] [] := by
  unfold j_Fc_plan
  refine k_aload_n X 0 dX8_plan_0 rfl rfl ?_
  refine k_callVI X [] [] c_0 rfl (by decide) rfl (mt_Fc_hasNoBook (zl Z) E  M) mRX8_175 ⟨by decide, by decide⟩ rfl rfl (Nat.le_of_ble_eq_true rfl) dX8_plan_1 (fun r1 M2 => ?_)
  refine k_if_eq X 10 dX8_plan_4 (by decide) ?_ ?_
  · refine k_iload_n X 1 dX8_plan_10 rfl rfl ?_
    refine k_callSI X [.int x1] [] (mt_Fc_isZeroOrOne (zl Z) E x1 M2) mRX8_275 ⟨by decide, by decide⟩ rfl rfl (Nat.le_of_ble_eq_true rfl) dX8_plan_11 (fun r3 M4 => ?_)
    refine k_if_ne X 20 dX8_plan_14 (by decide) ?_ ?_
    · refine k_aload_n X 0 dX8_plan_20 rfl rfl ?_
      refine k_aload_n X 0 dX8_plan_21 rfl rfl ?_
      refine k_callVI X [] [.ref (ad E 0)] c_0 rfl (by decide) rfl (mt_Fc_placeBest (zl Z) E  M4) mRX8_278 ⟨by decide, by decide⟩ rfl rfl (Nat.le_of_ble_eq_true rfl) dX8_plan_22 (fun r5 M6 => ?_)
      refine k_iload_n X 1 dX8_plan_25 rfl rfl ?_
      refine k_callVI X [.int r5, .int x1] [] c_0 rfl (by decide) rfl (mt_Fc_wholeAnswer (zl Z) E r5 x1 M6) mRX8_281 ⟨by decide, by decide⟩ rfl rfl (Nat.le_of_ble_eq_true rfl) dX8_plan_26 (fun r7 M8 => ?_)
      exact k_iret X dX8_plan_29
    · refine k_ldc X w_359 dX8_plan_17 ?_
      exact k_iret X dX8_plan_19
  · refine k_ldc X w_463 dX8_plan_7 ?_
    exact k_iret X dX8_plan_9
theorem mt_Fc_plan (l : Launch) (E : En) (x1 : Int32) (M : Mem) : MI l E yX8_plan cX8_plan 2 (some .int) 6 140 [.ref (ad E 0), .int x1] M (j_Fc_plan x1 M) := MI_of (by decide) (Nat.le_of_ble_eq_true rfl) (fun Z _ X => k_lv [0, 1] rfl (kw_Fc_plan X x1 M))
-- FilmCans.planOf
theorem kw_Fc_planOf {Z : ZT} {E : En} (X : Cx Z E 2 cX8_planOf RX8 (some .int) 6 140) (x1 : Int32) (M : Mem) : Kj Z E 2 (QI Z E) (j_Fc_planOf x1 M) M 0 [(0, .ref (ad E 0)), (1, .int x1)] [] := by
  unfold j_Fc_planOf
  refine k_aload_n X 0 dX8_planOf_0 rfl rfl ?_
  refine k_getR X c_0 fRX8_19 r_0_1 dX8_planOf_1 ?_
  refine k_iload_n X 1 dX8_planOf_4 rfl rfl ?_
  refine k_callVI X [.int x1] [] c_3 rfl (by decide) rfl (mt_Day_hasCan (zl Z) E 3 x1 day_3 M) mRX8_103 ⟨by decide, by decide⟩ rfl rfl (Nat.le_of_ble_eq_true rfl) dX8_planOf_5 (fun r1 M2 => ?_)
  refine k_if_ne X 14 dX8_planOf_8 (by decide) ?_ ?_
  · refine k_aload_n X 0 dX8_planOf_14 rfl rfl ?_
    refine k_callVI X [] [] c_0 rfl (by decide) rfl (mt_Fc_placeBest (zl Z) E  M2) mRX8_278 ⟨by decide, by decide⟩ rfl rfl (Nat.le_of_ble_eq_true rfl) dX8_planOf_15 (fun r3 M4 => ?_)
    refine k_if_eq X 33 dX8_planOf_18 (by decide) ?_ ?_
    · refine k_ldc X w_472 dX8_planOf_33 ?_
      exact k_iret X dX8_planOf_35
    · refine k_aload_n X 0 dX8_planOf_21 rfl rfl ?_
      refine k_getR X c_0 fRX8_47 r_0_6 dX8_planOf_22 ?_
      refine k_getR X c_299 fRX8_285 r_299_10 dX8_planOf_25 ?_
      refine k_iload_n X 1 dX8_planOf_28 rfl rfl ?_
      refine k_iald X c_314 l_314 dX8_planOf_29 (fun hb5 => ?_)
      refine k_goto X 35 dX8_planOf_30 (by decide) ?_
      exact k_iret X dX8_planOf_35
  · refine k_ldc X w_359 dX8_planOf_11 ?_
    exact k_iret X dX8_planOf_13
theorem mt_Fc_planOf (l : Launch) (E : En) (x1 : Int32) (M : Mem) : MI l E yX8_planOf cX8_planOf 2 (some .int) 6 140 [.ref (ad E 0), .int x1] M (j_Fc_planOf x1 M) := MI_of (by decide) (Nat.le_of_ble_eq_true rfl) (fun Z _ X => k_lv [0, 1] rfl (kw_Fc_planOf X x1 M))
-- FilmCans$Rooms.tightestFor
theorem kb_Rooms_tightestFor_b52 {Z : ZT} {E : En} (X : Cx Z E 6 cX6_tightestFor RX6 (some .int) 0 0) (k9 : Int32 → Int32 → Int32 → Int32 → Mem → Option (Int32 × Mem)) (hk9 : ∀ (x1 : Int32) (x2 : Int32) (x3 : Int32) (x4 : Int32) (M : Mem), Kj Z E 6 (QI Z E) (k9 x1 x2 x3 x4 M) M 9 [(0, .ref (ad E 299)), (1, .int x1), (2, .int x2), (3, .int x3), (4, .int x4)] []) (x1 : Int32) (x2 : Int32) (x3 : Int32) (x4 : Int32) (M : Mem) : Kj Z E 6 (QI Z E) (Rooms_tightestFor_b52 k9 x1 x2 x3 x4 M) M 52 [(0, .ref (ad E 299)), (1, .int x1), (2, .int x2), (3, .int x3), (4, .int x4)] [] := by
  unfold Rooms_tightestFor_b52
  refine x_iinc X 1 4 [(0, .ref (ad E 299)), (1, .int x1), (2, .int x2), (3, .int x3)] dX6_tightestFor_52 rfl (by decide) (by decide) rfl (fun x8_ => ?_)
  refine k_goto X 9 dX6_tightestFor_55 (by decide) ?_
  refine k_lv [1, 2, 3, 4, 0] rfl ?_
  exact hk9 x1 x2 x3 x8_ M
theorem kb_Rooms_tightestFor_h9 {Z : ZT} {E : En} (X : Cx Z E 6 cX6_tightestFor RX6 (some .int) 0 0)  : ∀ (n : Nat) (x1 : Int32) (x2 : Int32) (x3 : Int32) (x4 : Int32) (M : Mem), Kj Z E 6 (QI Z E) (Rooms_tightestFor_h9  n x1 x2 x3 x4 M) M 9 [(0, .ref (ad E 299)), (1, .int x1), (2, .int x2), (3, .int x3), (4, .int x4)] [] := by
  intro n
  induction n with
  | zero => intro x1 x2 x3 x4 M; exact k_none
  | succ n ih =>
    intro x1 x2 x3 x4 M
    rw [Rooms_tightestFor_h9]
    refine k_iload X 4 dX6_tightestFor_9 rfl ?_
    refine k_bipush X (v := 6) dX6_tightestFor_11 (by decide) ?_
    refine k_icmp_ge X 58 dX6_tightestFor_13 (by decide) ?_ ?_
    · refine k_iload_n X 2 dX6_tightestFor_58 rfl rfl ?_
      exact k_iret X dX6_tightestFor_59
    · refine k_aload_n X 0 dX6_tightestFor_16 rfl rfl ?_
      refine k_getR X c_299 fRX6_35 r_299_9 dX6_tightestFor_17 ?_
      refine k_iload X 4 dX6_tightestFor_20 rfl ?_
      refine k_aaldA X (f := fun j => 308 + j) c_307 l_307 ends_rf dX6_tightestFor_22 (fun hb4 => ?_)
      refine k_aload_n X 0 dX6_tightestFor_23 rfl rfl ?_
      refine k_getR X c_299 fRX6_38 r_299_10 dX6_tightestFor_24 ?_
      refine k_iload X 4 dX6_tightestFor_27 rfl ?_
      refine k_iald X c_314 l_314 dX6_tightestFor_29 (fun hb5 => ?_)
      refine k_iload_n X 1 dX6_tightestFor_30 rfl rfl ?_
      refine k_ior X dX6_tightestFor_31 ?_
      refine k_iald X (ends_C hb4) (ends_L hb4) dX6_tightestFor_32 (fun hb6 => ?_)
      refine x_istore X [(0, .ref (ad E 299)), (1, .int x1), (2, .int x2), (3, .int x3), (4, .int x4)] dX6_tightestFor_33 (by decide) rfl (fun x7_ => ?_)
      refine k_iload X 0 dX6_tightestFor_35 rfl ?_
      refine k_if_lt X 52 dX6_tightestFor_37 (by decide) ?_ ?_
      · refine k_lv [1, 2, 3, 4, 5] rfl ?_
        exact kb_Rooms_tightestFor_b52 X (fun x1 x2 x3 x4 M => Rooms_tightestFor_h9 n x1 x2 x3 x4 M) (fun x1 x2 x3 x4 M => ih x1 x2 x3 x4 M) x1 x2 x3 x4 M
      · refine k_iload X 0 dX6_tightestFor_40 rfl ?_
        refine k_iload_n X 4 dX6_tightestFor_42 rfl rfl ?_
        refine k_icmp_ge X 52 dX6_tightestFor_43 (by decide) ?_ ?_
        · refine k_lv [1, 2, 3, 4, 5] rfl ?_
          exact kb_Rooms_tightestFor_b52 X (fun x1 x2 x3 x4 M => Rooms_tightestFor_h9 n x1 x2 x3 x4 M) (fun x1 x2 x3 x4 M => ih x1 x2 x3 x4 M) x1 x2 x3 x4 M
        · refine k_iload X 0 dX6_tightestFor_46 rfl ?_
          refine k_istore_n X [(3, .int x7_), (5, .int x7_), (0, .ref (ad E 299)), (1, .int x1), (2, .int x2), (4, .int x4)] dX6_tightestFor_48 rfl (by decide) rfl ?_
          refine k_iload X 5 dX6_tightestFor_49 rfl ?_
          refine k_istore_n X [(2, .int x4), (3, .int x7_), (5, .int x7_), (0, .ref (ad E 299)), (1, .int x1), (4, .int x4)] dX6_tightestFor_51 rfl (by decide) rfl ?_
          refine k_lv [3, 4, 0, 1, 5] rfl ?_
          exact kb_Rooms_tightestFor_b52 X (fun x1 x2 x3 x4 M => Rooms_tightestFor_h9 n x1 x2 x3 x4 M) (fun x1 x2 x3 x4 M => ih x1 x2 x3 x4 M) x1 x4 x7_ x4 M
theorem kw_Rooms_tightestFor {Z : ZT} {E : En} (X : Cx Z E 6 cX6_tightestFor RX6 (some .int) 0 0) (x1 : Int32) (M : Mem) : Kj Z E 6 (QI Z E) (j_Rooms_tightestFor x1 M) M 0 [(0, .ref (ad E 299)), (1, .int x1)] [] := by
  unfold j_Rooms_tightestFor
  refine k_ldc X w_710 dX6_tightestFor_0 ?_
  refine x_istore_n X [(0, .ref (ad E 299)), (1, .int x1)] dX6_tightestFor_2 rfl (by decide) rfl (fun x1_ => ?_)
  refine k_bipush X (v := 100) dX6_tightestFor_3 (by decide) ?_
  refine x_istore_n X [(2, .int x1_), (0, .ref (ad E 299)), (1, .int x1)] dX6_tightestFor_5 rfl (by decide) rfl (fun x2_ => ?_)
  refine k_iconst X (v := 0) dX6_tightestFor_6 (by decide) ?_
  refine x_istore X [(3, .int x2_), (2, .int x1_), (0, .ref (ad E 299)), (1, .int x1)] dX6_tightestFor_7 (by decide) rfl (fun x3_ => ?_)
  refine k_lv [3, 4, 2, 1, 0] rfl ?_
  exact kb_Rooms_tightestFor_h9 X  FU x1 x1_ x2_ x3_ M
theorem mt_Rooms_tightestFor (l : Launch) (E : En) (x1 : Int32) (M : Mem) : MI l E yX6_tightestFor cX6_tightestFor 6 (some .int) 0 0 [.ref (ad E 299), .int x1] M (j_Rooms_tightestFor x1 M) := MI_of (by decide) (Nat.le_of_ble_eq_true rfl) (fun Z _ X => k_lv [0, 1] rfl (kw_Rooms_tightestFor X x1 M))
-- FilmCans$Rooms.firstFor
theorem kb_Rooms_firstFor_h2 {Z : ZT} {E : En} (X : Cx Z E 3 cX6_firstFor RX6 (some .int) 1 22)  : ∀ (n : Nat) (x1 : Int32) (x2 : Int32) (M : Mem), Kj Z E 3 (QI Z E) (Rooms_firstFor_h2  n x1 x2 M) M 2 [(0, .ref (ad E 299)), (1, .int x1), (2, .int x2)] [] := by
  intro n
  induction n with
  | zero => intro x1 x2 M; exact k_none
  | succ n ih =>
    intro x1 x2 M
    rw [Rooms_firstFor_h2]
    refine k_iload_n X 2 dX6_firstFor_2 rfl rfl ?_
    refine k_bipush X (v := 6) dX6_firstFor_3 (by decide) ?_
    refine k_icmp_ge X 32 dX6_firstFor_5 (by decide) ?_ ?_
    · refine k_ldc X w_710 dX6_firstFor_32 ?_
      exact k_iret X dX6_firstFor_34
    · refine k_aload_n X 0 dX6_firstFor_8 rfl rfl ?_
      refine k_iload_n X 2 dX6_firstFor_9 rfl rfl ?_
      refine k_aload_n X 0 dX6_firstFor_10 rfl rfl ?_
      refine k_getR X c_299 fRX6_38 r_299_10 dX6_firstFor_11 ?_
      refine k_iload_n X 2 dX6_firstFor_14 rfl rfl ?_
      refine k_iald X c_314 l_314 dX6_firstFor_15 (fun hb2 => ?_)
      refine k_iload_n X 1 dX6_firstFor_16 rfl rfl ?_
      refine k_ior X dX6_firstFor_17 ?_
      refine k_callVI X [.int x2, .int ((gi M 314 (ix x2)) ||| x1)] [] c_299 rfl (by decide) rfl (mt_Rooms_holds (zl Z) E x2 ((gi M 314 (ix x2)) ||| x1) M) mRX6_129 ⟨by decide, by decide⟩ rfl rfl (Nat.le_of_ble_eq_true rfl) dX6_firstFor_18 (fun r3 M4 => ?_)
      refine k_if_eq X 26 dX6_firstFor_21 (by decide) ?_ ?_
      · refine x_iinc X 1 2 [(0, .ref (ad E 299)), (1, .int x1)] dX6_firstFor_26 rfl (by decide) (by decide) rfl (fun x5_ => ?_)
        refine k_goto X 2 dX6_firstFor_29 (by decide) ?_
        refine k_lv [1, 2, 0] rfl ?_
        exact ih x1 x5_ M4
      · refine k_iload_n X 2 dX6_firstFor_24 rfl rfl ?_
        exact k_iret X dX6_firstFor_25
theorem kw_Rooms_firstFor {Z : ZT} {E : En} (X : Cx Z E 3 cX6_firstFor RX6 (some .int) 1 22) (x1 : Int32) (M : Mem) : Kj Z E 3 (QI Z E) (j_Rooms_firstFor x1 M) M 0 [(0, .ref (ad E 299)), (1, .int x1)] [] := by
  unfold j_Rooms_firstFor
  refine k_iconst X (v := 0) dX6_firstFor_0 (by decide) ?_
  refine x_istore_n X [(0, .ref (ad E 299)), (1, .int x1)] dX6_firstFor_1 rfl (by decide) rfl (fun x1_ => ?_)
  refine k_lv [1, 2, 0] rfl ?_
  exact kb_Rooms_firstFor_h2 X  FU x1 x1_ M
theorem mt_Rooms_firstFor (l : Launch) (E : En) (x1 : Int32) (M : Mem) : MI l E yX6_firstFor cX6_firstFor 3 (some .int) 1 22 [.ref (ad E 299), .int x1] M (j_Rooms_firstFor x1 M) := MI_of (by decide) (Nat.le_of_ble_eq_true rfl) (fun Z _ X => k_lv [0, 1] rfl (kw_Rooms_firstFor X x1 M))
-- FilmCans$Rooms.placeRising
theorem kb_Rooms_placeRising_b66 {Z : ZT} {E : En} (X : Cx Z E 4 cX6_placeRising RX6 (some .boolean) 2 44) (k10 : Int32 → Int32 → Mem → Option (Int32 × Mem)) (hk10 : ∀ (x1 : Int32) (x2 : Int32) (M : Mem), Kj Z E 4 (QI Z E) (k10 x1 x2 M) M 10 [(0, .ref (ad E 299)), (1, .int x1), (2, .int x2)] []) (x1 : Int32) (x2 : Int32) (M : Mem) : Kj Z E 4 (QI Z E) (Rooms_placeRising_b66 k10 x1 x2 M) M 66 [(0, .ref (ad E 299)), (1, .int x1), (2, .int x2)] [] := by
  unfold Rooms_placeRising_b66
  refine x_iinc X 1 2 [(0, .ref (ad E 299)), (1, .int x1)] dX6_placeRising_66 rfl (by decide) (by decide) rfl (fun x6_ => ?_)
  refine k_goto X 10 dX6_placeRising_69 (by decide) ?_
  refine k_lv [1, 2, 0] rfl ?_
  exact hk10 x1 x6_ M
theorem kb_Rooms_placeRising_b45 {Z : ZT} {E : En} (X : Cx Z E 4 cX6_placeRising RX6 (some .boolean) 2 44) (k10 : Int32 → Int32 → Mem → Option (Int32 × Mem)) (hk10 : ∀ (x1 : Int32) (x2 : Int32) (M : Mem), Kj Z E 4 (QI Z E) (k10 x1 x2 M) M 10 [(0, .ref (ad E 299)), (1, .int x1), (2, .int x2)] []) (x1 : Int32) (x2 : Int32) (xs0 : Int32) (M : Mem) : Kj Z E 4 (QI Z E) (Rooms_placeRising_b45 k10 x1 x2 xs0 M) M 45 [(0, .ref (ad E 299)), (1, .int x1), (2, .int x2)] [.int xs0] := by
  unfold Rooms_placeRising_b45
  refine k_istore_n X [(3, .int xs0), (0, .ref (ad E 299)), (1, .int x1), (2, .int x2)] dX6_placeRising_45 rfl (by decide) rfl ?_
  refine k_iload_n X 0 dX6_placeRising_46 rfl rfl ?_
  refine k_ldc X w_710 dX6_placeRising_47 ?_
  refine k_icmp_ne X 54 dX6_placeRising_49 (by decide) ?_ ?_
  · refine k_aload_n X 1 dX6_placeRising_54 rfl rfl ?_
    refine k_getR X c_299 fRX6_38 r_299_10 dX6_placeRising_55 ?_
    refine k_iload_n X 0 dX6_placeRising_58 rfl rfl ?_
    refine k_dup2 X dX6_placeRising_59 rfl rfl ?_
    refine k_iald X c_314 l_314 dX6_placeRising_60 (fun hb9 => ?_)
    refine k_iconst X (v := 1) dX6_placeRising_61 (by decide) ?_
    refine k_iload_n X 3 dX6_placeRising_62 rfl rfl ?_
    refine k_ishl X dX6_placeRising_63 ?_
    refine k_ior X dX6_placeRising_64 ?_
    refine k_iast X c_314 l_314 dX6_placeRising_65 (fun hb10 => ?_)
    refine k_sq (fun M11 => ?_)
    refine k_lv [1, 2, 3] rfl ?_
    exact kb_Rooms_placeRising_b66 X k10 hk10 x1 x2 M11
  · refine k_iconst X (v := 0) dX6_placeRising_52 (by decide) ?_
    exact k_zret X (by decide) dX6_placeRising_53
theorem kb_Rooms_placeRising_h10 {Z : ZT} {E : En} (X : Cx Z E 4 cX6_placeRising RX6 (some .boolean) 2 44)  : ∀ (n : Nat) (x1 : Int32) (x2 : Int32) (M : Mem), Kj Z E 4 (QI Z E) (Rooms_placeRising_h10  n x1 x2 M) M 10 [(0, .ref (ad E 299)), (1, .int x1), (2, .int x2)] [] := by
  intro n
  induction n with
  | zero => intro x1 x2 M; exact k_none
  | succ n ih =>
    intro x1 x2 M
    rw [Rooms_placeRising_h10]
    refine k_iload_n X 2 dX6_placeRising_10 rfl rfl ?_
    refine k_bipush X (v := 8) dX6_placeRising_11 (by decide) ?_
    refine k_icmp_ge X 72 dX6_placeRising_13 (by decide) ?_ ?_
    · refine k_iconst X (v := 1) dX6_placeRising_72 (by decide) ?_
      exact k_zret X (by decide) dX6_placeRising_73
    · refine k_aload_n X 0 dX6_placeRising_16 rfl rfl ?_
      refine k_iload_n X 2 dX6_placeRising_17 rfl rfl ?_
      refine k_callVI X [.int x2] [] c_299 rfl (by decide) rfl (mt_Rooms_isOpen (zl Z) E x2 M) mRX6_61 ⟨by decide, by decide⟩ rfl rfl (Nat.le_of_ble_eq_true rfl) dX6_placeRising_18 (fun r4 M5 => ?_)
      refine k_if_eq X 66 dX6_placeRising_21 (by decide) ?_ ?_
      · refine k_lv [0, 1, 2] rfl ?_
        exact kb_Rooms_placeRising_b66 X (fun x1 x2 M => Rooms_placeRising_h10 n x1 x2 M) (fun x1 x2 M => ih x1 x2 M) x1 x2 M5
      · refine k_iload_n X 1 dX6_placeRising_24 rfl rfl ?_
        refine k_if_eq X 38 dX6_placeRising_25 (by decide) ?_ ?_
        · refine k_aload_n X 0 dX6_placeRising_38 rfl rfl ?_
          refine k_iconst X (v := 1) dX6_placeRising_39 (by decide) ?_
          refine k_iload_n X 2 dX6_placeRising_40 rfl rfl ?_
          refine k_ishl X dX6_placeRising_41 ?_
          refine k_callVI X [.int ((1 : Int32) <<< (x2 &&& 31))] [] c_299 rfl (by decide) rfl (mt_Rooms_firstFor (zl Z) E ((1 : Int32) <<< (x2 &&& 31)) M5) mRX6_126 ⟨by decide, by decide⟩ rfl rfl (Nat.le_of_ble_eq_true rfl) dX6_placeRising_42 (fun r7 M8 => ?_)
          refine k_lv [0, 1, 2] rfl ?_
          exact kb_Rooms_placeRising_b45 X (fun x1 x2 M => Rooms_placeRising_h10 n x1 x2 M) (fun x1 x2 M => ih x1 x2 M) x1 x2 r7 M8
        · refine k_aload_n X 0 dX6_placeRising_28 rfl rfl ?_
          refine k_iconst X (v := 1) dX6_placeRising_29 (by decide) ?_
          refine k_iload_n X 2 dX6_placeRising_30 rfl rfl ?_
          refine k_ishl X dX6_placeRising_31 ?_
          refine k_callVI X [.int ((1 : Int32) <<< (x2 &&& 31))] [] c_299 rfl (by decide) rfl (mt_Rooms_tightestFor (zl Z) E ((1 : Int32) <<< (x2 &&& 31)) M5) mRX6_123 ⟨by decide, by decide⟩ rfl rfl (Nat.le_of_ble_eq_true rfl) dX6_placeRising_32 (fun r12 M13 => ?_)
          refine k_goto X 45 dX6_placeRising_35 (by decide) ?_
          refine k_lv [0, 1, 2] rfl ?_
          exact kb_Rooms_placeRising_b45 X (fun x1 x2 M => Rooms_placeRising_h10 n x1 x2 M) (fun x1 x2 M => ih x1 x2 M) x1 x2 r12 M13
theorem kw_Rooms_placeRising {Z : ZT} {E : En} (X : Cx Z E 4 cX6_placeRising RX6 (some .boolean) 2 44) (x1 : Int32) (M : Mem) : Kj Z E 4 (QI Z E) (j_Rooms_placeRising x1 M) M 0 [(0, .ref (ad E 299)), (1, .int x1)] [] := by
  unfold j_Rooms_placeRising
  refine k_aload_n X 0 dX6_placeRising_0 rfl rfl ?_
  refine k_getR X c_299 fRX6_38 r_299_10 dX6_placeRising_1 ?_
  refine k_iconst X (v := 0) dX6_placeRising_4 (by decide) ?_
  refine k_callSV X [.ref (ad E 314), .int 0] [] (mt_Arrays_fill (zl Z) E 314 0 c_314 M) mRX6_110 ⟨by decide, by decide⟩ rfl rfl (Nat.le_of_ble_eq_true rfl) dX6_placeRising_5 (fun _ M2 => ?_)
  refine k_iconst X (v := 0) dX6_placeRising_8 (by decide) ?_
  refine x_istore_n X [(0, .ref (ad E 299)), (1, .int x1)] dX6_placeRising_9 rfl (by decide) rfl (fun x3_ => ?_)
  refine k_lv [1, 2, 0] rfl ?_
  exact kb_Rooms_placeRising_h10 X  FU x1 x3_ M2
theorem mt_Rooms_placeRising (l : Launch) (E : En) (x1 : Int32) (M : Mem) : MI l E yX6_placeRising cX6_placeRising 4 (some .boolean) 2 44 [.ref (ad E 299), .int x1] M (j_Rooms_placeRising x1 M) := MI_of (by decide) (Nat.le_of_ble_eq_true rfl) (fun Z _ X => k_lv [0, 1] rfl (kw_Rooms_placeRising X x1 M))
-- FilmCans.placeByRule
theorem kb_Fc_placeByRule_b25 {Z : ZT} {E : En} (X : Cx Z E 2 cX8_placeByRule RX8 (some .boolean) 5 110) (xs0 : Int32) (M : Mem) : Kj Z E 2 (QI Z E) (Fc_placeByRule_b25 xs0 M) M 25 [] [.int xs0, .ref (ad E 299)] := by
  unfold Fc_placeByRule_b25
  refine k_callVI X [.int xs0] [] c_299 rfl (by decide) rfl (mt_Rooms_placeRising (zl Z) E xs0 M) mRX8_363 ⟨by decide, by decide⟩ rfl rfl (Nat.le_of_ble_eq_true rfl) dX8_placeByRule_25 (fun r3 M4 => ?_)
  exact k_zretG X dX8_placeByRule_28
theorem kw_Fc_placeByRule {Z : ZT} {E : En} (X : Cx Z E 2 cX8_placeByRule RX8 (some .boolean) 5 110) (x1 : Int32) (M : Mem) : Kj Z E 2 (QI Z E) (j_Fc_placeByRule x1 M) M 0 [(0, .ref (ad E 0)), (1, .int x1)] [] := by
  unfold j_Fc_placeByRule
  refine k_aload_n X 0 dX8_placeByRule_0 rfl rfl ?_
  refine k_getR X c_0 fRX8_47 r_0_6 dX8_placeByRule_1 ?_
  refine k_aload_n X 0 dX8_placeByRule_4 rfl rfl ?_
  refine k_getR X c_0 fRX8_19 r_0_1 dX8_placeByRule_5 ?_
  refine k_callVV X [.ref (ad E 3)] [] c_299 rfl (by decide) rfl (mt_Rooms_lookAt (zl Z) E 3 day_3 M) mRX8_265 ⟨by decide, by decide⟩ rfl rfl (Nat.le_of_ble_eq_true rfl) dX8_placeByRule_8 (fun _ M2 => ?_)
  refine k_aload_n X 0 dX8_placeByRule_11 rfl rfl ?_
  refine k_getR X c_0 fRX8_47 r_0_6 dX8_placeByRule_12 ?_
  refine k_iload_n X 1 dX8_placeByRule_15 rfl rfl ?_
  refine k_iconst X (v := 1) dX8_placeByRule_16 (by decide) ?_
  refine k_icmp_ne X 24 dX8_placeByRule_17 (by decide) ?_ ?_
  · refine k_iconst X (v := 0) dX8_placeByRule_24 (by decide) ?_
    refine k_lv [] rfl ?_
    exact kb_Fc_placeByRule_b25 X  0 M2
  · refine k_iconst X (v := 1) dX8_placeByRule_20 (by decide) ?_
    refine k_goto X 25 dX8_placeByRule_21 (by decide) ?_
    refine k_lv [] rfl ?_
    exact kb_Fc_placeByRule_b25 X  1 M2
theorem mt_Fc_placeByRule (l : Launch) (E : En) (x1 : Int32) (M : Mem) : MI l E yX8_placeByRule cX8_placeByRule 2 (some .boolean) 5 110 [.ref (ad E 0), .int x1] M (j_Fc_placeByRule x1 M) := MI_of (by decide) (Nat.le_of_ble_eq_true rfl) (fun Z _ X => k_lv [0, 1] rfl (kw_Fc_placeByRule X x1 M))
-- FilmCans.rule
theorem kw_Fc_rule {Z : ZT} {E : En} (X : Cx Z E 3 cX8_rule RX8 (some .int) 6 131) (x1 : Int32) (x2 : Int32) (M : Mem) : Kj Z E 3 (QI Z E) (j_Fc_rule x1 x2 M) M 0 [(0, .ref (ad E 0)), (1, .int x1), (2, .int x2)] [] := by
  unfold j_Fc_rule
  refine k_aload_n X 0 dX8_rule_0 rfl rfl ?_
  refine k_callVI X [] [] c_0 rfl (by decide) rfl (mt_Fc_hasNoBook (zl Z) E  M) mRX8_175 ⟨by decide, by decide⟩ rfl rfl (Nat.le_of_ble_eq_true rfl) dX8_rule_1 (fun r1 M2 => ?_)
  refine k_if_eq X 10 dX8_rule_4 (by decide) ?_ ?_
  · refine k_iload_n X 1 dX8_rule_10 rfl rfl ?_
    refine k_callSI X [.int x1] [] (mt_Fc_isZeroOrOne (zl Z) E x1 M2) mRX8_275 ⟨by decide, by decide⟩ rfl rfl (Nat.le_of_ble_eq_true rfl) dX8_rule_11 (fun r3 M4 => ?_)
    refine k_if_eq X 24 dX8_rule_14 (by decide) ?_ ?_
    · refine k_ldc X w_359 dX8_rule_24 ?_
      exact k_iret X dX8_rule_26
    · refine k_iload_n X 2 dX8_rule_17 rfl rfl ?_
      refine k_callSI X [.int x2] [] (mt_Fc_isZeroOrOne (zl Z) E x2 M4) mRX8_275 ⟨by decide, by decide⟩ rfl rfl (Nat.le_of_ble_eq_true rfl) dX8_rule_18 (fun r5 M6 => ?_)
      refine k_if_ne X 27 dX8_rule_21 (by decide) ?_ ?_
      · refine k_aload_n X 0 dX8_rule_27 rfl rfl ?_
        refine k_aload_n X 0 dX8_rule_28 rfl rfl ?_
        refine k_iload_n X 1 dX8_rule_29 rfl rfl ?_
        refine k_callVI X [.int x1] [.ref (ad E 0)] c_0 rfl (by decide) rfl (mt_Fc_placeByRule (zl Z) E x1 M6) mRX8_288 ⟨by decide, by decide⟩ rfl rfl (Nat.le_of_ble_eq_true rfl) dX8_rule_30 (fun r7 M8 => ?_)
        refine k_iload_n X 2 dX8_rule_33 rfl rfl ?_
        refine k_callVI X [.int r7, .int x2] [] c_0 rfl (by decide) rfl (mt_Fc_wholeAnswer (zl Z) E r7 x2 M8) mRX8_281 ⟨by decide, by decide⟩ rfl rfl (Nat.le_of_ble_eq_true rfl) dX8_rule_34 (fun r9 M10 => ?_)
        exact k_iret X dX8_rule_37
      · refine k_ldc X w_359 dX8_rule_24 ?_
        exact k_iret X dX8_rule_26
  · refine k_ldc X w_463 dX8_rule_7 ?_
    exact k_iret X dX8_rule_9
theorem mt_Fc_rule (l : Launch) (E : En) (x1 : Int32) (x2 : Int32) (M : Mem) : MI l E yX8_rule cX8_rule 3 (some .int) 6 131 [.ref (ad E 0), .int x1, .int x2] M (j_Fc_rule x1 x2 M) := MI_of (by decide) (Nat.le_of_ble_eq_true rfl) (fun Z _ X => k_lv [0, 1, 2] rfl (kw_Fc_rule X x1 x2 M))
-- FilmCans.ruleOf
theorem kw_Fc_ruleOf {Z : ZT} {E : En} (X : Cx Z E 3 cX8_ruleOf RX8 (some .int) 6 131) (x1 : Int32) (x2 : Int32) (M : Mem) : Kj Z E 3 (QI Z E) (j_Fc_ruleOf x1 x2 M) M 0 [(0, .ref (ad E 0)), (1, .int x1), (2, .int x2)] [] := by
  unfold j_Fc_ruleOf
  refine k_iload_n X 1 dX8_ruleOf_0 rfl rfl ?_
  refine k_callSI X [.int x1] [] (mt_Fc_isZeroOrOne (zl Z) E x1 M) mRX8_275 ⟨by decide, by decide⟩ rfl rfl (Nat.le_of_ble_eq_true rfl) dX8_ruleOf_1 (fun r1 M2 => ?_)
  refine k_if_eq X 18 dX8_ruleOf_4 (by decide) ?_ ?_
  · refine k_ldc X w_359 dX8_ruleOf_18 ?_
    exact k_iret X dX8_ruleOf_20
  · refine k_aload_n X 0 dX8_ruleOf_7 rfl rfl ?_
    refine k_getR X c_0 fRX8_19 r_0_1 dX8_ruleOf_8 ?_
    refine k_iload_n X 2 dX8_ruleOf_11 rfl rfl ?_
    refine k_callVI X [.int x2] [] c_3 rfl (by decide) rfl (mt_Day_hasCan (zl Z) E 3 x2 day_3 M2) mRX8_103 ⟨by decide, by decide⟩ rfl rfl (Nat.le_of_ble_eq_true rfl) dX8_ruleOf_12 (fun r3 M4 => ?_)
    refine k_if_ne X 21 dX8_ruleOf_15 (by decide) ?_ ?_
    · refine k_aload_n X 0 dX8_ruleOf_21 rfl rfl ?_
      refine k_iload_n X 1 dX8_ruleOf_22 rfl rfl ?_
      refine k_callVI X [.int x1] [] c_0 rfl (by decide) rfl (mt_Fc_placeByRule (zl Z) E x1 M4) mRX8_288 ⟨by decide, by decide⟩ rfl rfl (Nat.le_of_ble_eq_true rfl) dX8_ruleOf_23 (fun r5 M6 => ?_)
      refine k_if_eq X 41 dX8_ruleOf_26 (by decide) ?_ ?_
      · refine k_ldc X w_472 dX8_ruleOf_41 ?_
        exact k_iret X dX8_ruleOf_43
      · refine k_aload_n X 0 dX8_ruleOf_29 rfl rfl ?_
        refine k_getR X c_0 fRX8_47 r_0_6 dX8_ruleOf_30 ?_
        refine k_getR X c_299 fRX8_285 r_299_10 dX8_ruleOf_33 ?_
        refine k_iload_n X 2 dX8_ruleOf_36 rfl rfl ?_
        refine k_iald X c_314 l_314 dX8_ruleOf_37 (fun hb7 => ?_)
        refine k_goto X 43 dX8_ruleOf_38 (by decide) ?_
        exact k_iret X dX8_ruleOf_43
    · refine k_ldc X w_359 dX8_ruleOf_18 ?_
      exact k_iret X dX8_ruleOf_20
theorem mt_Fc_ruleOf (l : Launch) (E : En) (x1 : Int32) (x2 : Int32) (M : Mem) : MI l E yX8_ruleOf cX8_ruleOf 3 (some .int) 6 131 [.ref (ad E 0), .int x1, .int x2] M (j_Fc_ruleOf x1 x2 M) := MI_of (by decide) (Nat.le_of_ble_eq_true rfl) (fun Z _ X => k_lv [0, 1, 2] rfl (kw_Fc_ruleOf X x1 x2 M))
-- FilmCans$Reach.holdersOf
theorem kb_Reach_holdersOf_b29 {Z : ZT} {E : En} (X : Cx Z E 5 cX5_holdersOf RX5 (some .int) 1 22) (k5 : Int32 → Int32 → Int32 → Mem → Option (Int32 × Mem)) (hk5 : ∀ (x2 : Int32) (x3 : Int32) (x4 : Int32) (M : Mem), Kj Z E 5 (QI Z E) (k5 x2 x3 x4 M) M 5 [(1, .ref (ad E 299)), (2, .int x2), (3, .int x3), (4, .int x4)] []) (x2 : Int32) (x3 : Int32) (x4 : Int32) (M : Mem) : Kj Z E 5 (QI Z E) (Reach_holdersOf_b29 k5 x2 x3 x4 M) M 29 [(1, .ref (ad E 299)), (2, .int x2), (3, .int x3), (4, .int x4)] [] := by
  unfold Reach_holdersOf_b29
  refine x_iinc X 1 3 [(1, .ref (ad E 299)), (2, .int x2), (3, .int x3)] dX5_holdersOf_29 rfl (by decide) (by decide) rfl (fun x5_ => ?_)
  refine k_goto X 5 dX5_holdersOf_32 (by decide) ?_
  refine k_lv [1, 2, 3, 0] rfl ?_
  exact hk5 x2 x3 x5_ M
theorem kb_Reach_holdersOf_h5 {Z : ZT} {E : En} (X : Cx Z E 5 cX5_holdersOf RX5 (some .int) 1 22)  : ∀ (n : Nat) (x2 : Int32) (x3 : Int32) (x4 : Int32) (M : Mem), Kj Z E 5 (QI Z E) (Reach_holdersOf_h5  n x2 x3 x4 M) M 5 [(1, .ref (ad E 299)), (2, .int x2), (3, .int x3), (4, .int x4)] [] := by
  intro n
  induction n with
  | zero => intro x2 x3 x4 M; exact k_none
  | succ n ih =>
    intro x2 x3 x4 M
    rw [Reach_holdersOf_h5]
    refine k_iload X 3 dX5_holdersOf_5 rfl ?_
    refine k_bipush X (v := 6) dX5_holdersOf_7 (by decide) ?_
    refine k_icmp_ge X 35 dX5_holdersOf_9 (by decide) ?_ ?_
    · refine k_iload_n X 2 dX5_holdersOf_35 rfl rfl ?_
      exact k_iret X dX5_holdersOf_36
    · refine k_aload_n X 0 dX5_holdersOf_12 rfl rfl ?_
      refine k_iload X 3 dX5_holdersOf_13 rfl ?_
      refine k_iload_n X 1 dX5_holdersOf_15 rfl rfl ?_
      refine k_callVI X [.int x4, .int x2] [] c_299 rfl (by decide) rfl (mt_Rooms_holds (zl Z) E x4 x2 M) mRX5_35 ⟨by decide, by decide⟩ rfl rfl (Nat.le_of_ble_eq_true rfl) dX5_holdersOf_16 (fun r3 M4 => ?_)
      refine k_if_eq X 29 dX5_holdersOf_19 (by decide) ?_ ?_
      · refine k_lv [0, 1, 2, 3] rfl ?_
        exact kb_Reach_holdersOf_b29 X (fun x2 x3 x4 M => Reach_holdersOf_h5 n x2 x3 x4 M) (fun x2 x3 x4 M => ih x2 x3 x4 M) x2 x3 x4 M4
      · refine k_iload_n X 2 dX5_holdersOf_22 rfl rfl ?_
        refine k_iconst X (v := 1) dX5_holdersOf_23 (by decide) ?_
        refine k_iload X 3 dX5_holdersOf_24 rfl ?_
        refine k_ishl X dX5_holdersOf_26 ?_
        refine k_ior X dX5_holdersOf_27 ?_
        refine x_istore_n X [(1, .ref (ad E 299)), (2, .int x2), (4, .int x4)] dX5_holdersOf_28 rfl (by decide) rfl (fun x6_ => ?_)
        refine k_lv [1, 2, 0, 3] rfl ?_
        exact kb_Reach_holdersOf_b29 X (fun x2 x3 x4 M => Reach_holdersOf_h5 n x2 x3 x4 M) (fun x2 x3 x4 M => ih x2 x3 x4 M) x2 x6_ x4 M4
theorem kw_Reach_holdersOf {Z : ZT} {E : En} (X : Cx Z E 5 cX5_holdersOf RX5 (some .int) 1 22) (x2 : Int32) (M : Mem) : Kj Z E 5 (QI Z E) (j_Reach_holdersOf x2 M) M 0 [(0, .ref (ad E 323)), (1, .ref (ad E 299)), (2, .int x2)] [] := by
  unfold j_Reach_holdersOf
  refine k_iconst X (v := 0) dX5_holdersOf_0 (by decide) ?_
  refine x_istore_n X [(0, .ref (ad E 323)), (1, .ref (ad E 299)), (2, .int x2)] dX5_holdersOf_1 rfl (by decide) rfl (fun x1_ => ?_)
  refine k_iconst X (v := 0) dX5_holdersOf_2 (by decide) ?_
  refine x_istore X [(3, .int x1_), (0, .ref (ad E 323)), (1, .ref (ad E 299)), (2, .int x2)] dX5_holdersOf_3 (by decide) rfl (fun x2_ => ?_)
  refine k_lv [3, 4, 1, 0] rfl ?_
  exact kb_Reach_holdersOf_h5 X  FU x2 x1_ x2_ M
theorem mt_Reach_holdersOf (l : Launch) (E : En) (x2 : Int32) (M : Mem) : MI l E yX5_holdersOf cX5_holdersOf 5 (some .int) 1 22 [.ref (ad E 323), .ref (ad E 299), .int x2] M (j_Reach_holdersOf x2 M) := MI_of (by decide) (Nat.le_of_ble_eq_true rfl) (fun Z _ X => k_lv [0, 1, 2] rfl (kw_Reach_holdersOf X x2 M))
-- FilmCans$Reach.withOneMore
theorem kb_Reach_withOneMore_b51 {Z : ZT} {E : En} (X : Cx Z E 7 cX5_withOneMore RX5 (some .long) 0 0) (k16 : Int64 → Int32 → Int64 → Int32 → Mem → Option (Int64 × Mem)) (hk16 : ∀ (y1 : Int64) (x3 : Int32) (y4 : Int64) (x6 : Int32) (M : Mem), Kj Z E 7 (QL Z E) (k16 y1 x3 y4 x6 M) M 16 [(1, .long y1), (3, .int x3), (4, .long y4), (6, .int x6)] []) (y1 : Int64) (x3 : Int32) (y4 : Int64) (x6 : Int32) (M : Mem) : Kj Z E 7 (QL Z E) (Reach_withOneMore_b51 k16 y1 x3 y4 x6 M) M 51 [(1, .long y1), (3, .int x3), (4, .long y4), (6, .int x6)] [] := by
  unfold Reach_withOneMore_b51
  refine x_iinc X 1 3 [(1, .long y1), (3, .int x3), (4, .long y4)] dX5_withOneMore_51 rfl (by decide) (by decide) rfl (fun x3_ => ?_)
  refine k_goto X 16 dX5_withOneMore_54 (by decide) ?_
  refine k_lv [1, 2, 3, 0] rfl ?_
  exact hk16 y1 x3 y4 x3_ M
theorem kb_Reach_withOneMore_h16 {Z : ZT} {E : En} (X : Cx Z E 7 cX5_withOneMore RX5 (some .long) 0 0)  : ∀ (n : Nat) (y1 : Int64) (x3 : Int32) (y4 : Int64) (x6 : Int32) (M : Mem), Kj Z E 7 (QL Z E) (Reach_withOneMore_h16  n y1 x3 y4 x6 M) M 16 [(1, .long y1), (3, .int x3), (4, .long y4), (6, .int x6)] [] := by
  intro n
  induction n with
  | zero => intro y1 x3 y4 x6 M; exact k_none
  | succ n ih =>
    intro y1 x3 y4 x6 M
    rw [Reach_withOneMore_h16]
    refine k_iload X 3 dX5_withOneMore_16 rfl ?_
    refine k_bipush X (v := 6) dX5_withOneMore_18 (by decide) ?_
    refine k_icmp_ge X 57 dX5_withOneMore_20 (by decide) ?_ ?_
    · refine k_lload X 2 dX5_withOneMore_57 rfl ?_
      exact k_lret X dX5_withOneMore_59
    · refine k_iload_n X 1 dX5_withOneMore_23 rfl rfl ?_
      refine k_iload X 3 dX5_withOneMore_24 rfl ?_
      refine k_ishr X dX5_withOneMore_26 ?_
      refine k_iconst X (v := 1) dX5_withOneMore_27 (by decide) ?_
      refine k_iand X dX5_withOneMore_28 ?_
      refine k_iconst X (v := 1) dX5_withOneMore_29 (by decide) ?_
      refine k_icmp_ne X 51 dX5_withOneMore_30 (by decide) ?_ ?_
      · refine k_lv [0, 1, 2, 3] rfl ?_
        exact kb_Reach_withOneMore_b51 X (fun y1 x3 y4 x6 M => Reach_withOneMore_h16 n y1 x3 y4 x6 M) (fun y1 x3 y4 x6 M => ih y1 x3 y4 x6 M) y1 x3 y4 x6 M
      · refine k_lload X 2 dX5_withOneMore_33 rfl ?_
        refine k_lload_n X 0 dX5_withOneMore_35 rfl rfl ?_
        refine k_gets3 X w_852 dX5_withOneMore_36 ?_
        refine k_iload X 3 dX5_withOneMore_39 rfl ?_
        refine k_st3 X dX5_withOneMore_41 (fun hb4 => ?_)
        refine k_land X dX5_withOneMore_42 ?_
        refine k_iconst X (v := 1) dX5_withOneMore_43 (by decide) ?_
        refine k_iload X 3 dX5_withOneMore_44 rfl ?_
        refine k_ishl X dX5_withOneMore_46 ?_
        refine k_lshl X dX5_withOneMore_47 ?_
        refine k_lor X dX5_withOneMore_48 ?_
        refine x_lstore X [(1, .long y1), (3, .int x3), (6, .int x6)] dX5_withOneMore_49 (by decide) rfl (fun y5_ => ?_)
        refine k_lv [1, 2, 0, 3] rfl ?_
        exact kb_Reach_withOneMore_b51 X (fun y1 x3 y4 x6 M => Reach_withOneMore_h16 n y1 x3 y4 x6 M) (fun y1 x3 y4 x6 M => ih y1 x3 y4 x6 M) y1 x3 y5_ x6 M
theorem kw_Reach_withOneMore {Z : ZT} {E : En} (X : Cx Z E 7 cX5_withOneMore RX5 (some .long) 0 0) (y1 : Int64) (x3 : Int32) (M : Mem) : Kj Z E 7 (QL Z E) (j_Reach_withOneMore y1 x3 M) M 0 [(0, .ref (ad E 323)), (1, .long y1), (3, .int x3)] [] := by
  unfold j_Reach_withOneMore
  refine k_lconst X (v := 0) dX5_withOneMore_0 (by decide) ?_
  refine x_lstore X [(0, .ref (ad E 323)), (1, .long y1), (3, .int x3)] dX5_withOneMore_1 (by decide) rfl (fun y1_ => ?_)
  refine k_lload_n X 2 dX5_withOneMore_3 rfl rfl ?_
  refine k_lconst X (v := 0) dX5_withOneMore_4 (by decide) ?_
  refine k_leq X 57 dX5_withOneMore_5 dX5_withOneMore_6 (by decide) ?_ ?_
  · refine k_lload X 0 dX5_withOneMore_57 rfl ?_
    exact k_lret X dX5_withOneMore_59
  · refine k_iload_n X 3 dX5_withOneMore_9 rfl rfl ?_
    refine k_if_eq X 57 dX5_withOneMore_10 (by decide) ?_ ?_
    · refine k_lload X 0 dX5_withOneMore_57 rfl ?_
      exact k_lret X dX5_withOneMore_59
    · refine k_iconst X (v := 0) dX5_withOneMore_13 (by decide) ?_
      refine x_istore X [(4, .long y1_), (0, .ref (ad E 323)), (1, .long y1), (3, .int x3)] dX5_withOneMore_14 (by decide) rfl (fun x2_ => ?_)
      refine k_lv [3, 4, 1, 0] rfl ?_
      exact kb_Reach_withOneMore_h16 X  FU y1 x3 y1_ x2_ M
theorem mt_Reach_withOneMore (l : Launch) (E : En) (y1 : Int64) (x3 : Int32) (M : Mem) : ML l E yX5_withOneMore cX5_withOneMore 7 (some .long) 0 0 [.ref (ad E 323), .long y1, .int x3] M (j_Reach_withOneMore y1 x3 M) := ML_of (by decide) (Nat.le_of_ble_eq_true rfl) (fun Z _ X => k_lv [0, 1, 2] rfl (kw_Reach_withOneMore X y1 x3 M))
-- FilmCans$Reach.roomSetsFor
theorem kb_Reach_roomSetsFor_h30 {Z : ZT} {E : En} (X : Cx Z E 7 cX5_roomSetsFor RX5 (some .long) 1 26)  : ∀ (n : Nat) (x2 : Int32) (x3 : Int32) (y4 : Int64) (x6 : Int32) (M : Mem), Kj Z E 7 (QL Z E) (Reach_roomSetsFor_h30  n x2 x3 y4 x6 M) M 30 [(0, .ref (ad E 323)), (2, .int x2), (3, .int x3), (4, .long y4), (6, .int x6)] [] := by
  intro n
  induction n with
  | zero => intro x2 x3 y4 x6 M; exact k_none
  | succ n ih =>
    intro x2 x3 y4 x6 M
    rw [Reach_roomSetsFor_h30]
    refine k_iload X 4 dX5_roomSetsFor_30 rfl ?_
    refine k_if_le X 73 dX5_roomSetsFor_32 (by decide) ?_ ?_
    · refine k_lload X 3 dX5_roomSetsFor_73 rfl ?_
      exact k_lret X dX5_roomSetsFor_75
    · refine k_lload X 3 dX5_roomSetsFor_35 rfl ?_
      refine k_aload_n X 0 dX5_roomSetsFor_37 rfl rfl ?_
      refine k_aload_n X 0 dX5_roomSetsFor_38 rfl rfl ?_
      refine k_getR X c_323 fRX5_9 r_323_0 dX5_roomSetsFor_39 ?_
      refine k_iload_n X 2 dX5_roomSetsFor_42 rfl rfl ?_
      refine k_iload X 4 dX5_roomSetsFor_43 rfl ?_
      refine k_ixor X dX5_roomSetsFor_45 ?_
      refine k_lald X c_324 l_324 dX5_roomSetsFor_46 (fun hb7 => ?_)
      refine k_aload_n X 0 dX5_roomSetsFor_47 rfl rfl ?_
      refine k_getR X c_323 fRX5_15 r_323_1 dX5_roomSetsFor_48 ?_
      refine k_iload X 4 dX5_roomSetsFor_51 rfl ?_
      refine k_iload_n X 1 dX5_roomSetsFor_53 rfl rfl ?_
      refine k_ior X dX5_roomSetsFor_54 ?_
      refine k_iald X c_325 l_325 dX5_roomSetsFor_55 (fun hb8 => ?_)
      refine k_callVL X [.long (gl M 324 (ix (x3 ^^^ x6))), .int (gi M 325 (ix (x6 ||| x2)))] [.long y4] c_323 rfl (by decide) rfl (mt_Reach_withOneMore (zl Z) E (gl M 324 (ix (x3 ^^^ x6))) (gi M 325 (ix (x6 ||| x2))) M) mRX5_39 ⟨by decide, by decide⟩ rfl rfl (Nat.le_of_ble_eq_true rfl) dX5_roomSetsFor_56 (fun r9 M10 => ?_)
      refine k_lor X dX5_roomSetsFor_59 ?_
      refine x_lstore X [(0, .ref (ad E 323)), (2, .int x2), (3, .int x3), (6, .int x6)] dX5_roomSetsFor_60 (by decide) rfl (fun y11_ => ?_)
      refine k_iload X 4 dX5_roomSetsFor_62 rfl ?_
      refine k_iconst X (v := 1) dX5_roomSetsFor_64 (by decide) ?_
      refine k_isub X dX5_roomSetsFor_65 ?_
      refine k_iload_n X 3 dX5_roomSetsFor_66 rfl rfl ?_
      refine k_iand X dX5_roomSetsFor_67 ?_
      refine x_istore X [(4, .long y11_), (0, .ref (ad E 323)), (2, .int x2), (3, .int x3)] dX5_roomSetsFor_68 (by decide) rfl (fun x12_ => ?_)
      refine k_goto X 30 dX5_roomSetsFor_70 (by decide) ?_
      refine k_lv [2, 3, 4, 1, 0] rfl ?_
      exact ih x2 x3 y11_ x12_ M10
theorem kw_Reach_roomSetsFor {Z : ZT} {E : En} (X : Cx Z E 7 cX5_roomSetsFor RX5 (some .long) 1 26) (x1 : Int32) (M : Mem) : Kj Z E 7 (QL Z E) (j_Reach_roomSetsFor x1 M) M 0 [(0, .ref (ad E 323)), (1, .int x1)] [] := by
  unfold j_Reach_roomSetsFor
  refine k_iload_n X 1 dX5_roomSetsFor_0 rfl rfl ?_
  refine k_iload_n X 1 dX5_roomSetsFor_1 rfl rfl ?_
  refine k_ineg X dX5_roomSetsFor_2 ?_
  refine k_iand X dX5_roomSetsFor_3 ?_
  refine x_istore_n X [(0, .ref (ad E 323)), (1, .int x1)] dX5_roomSetsFor_4 rfl (by decide) rfl (fun x1_ => ?_)
  refine k_iload_n X 2 dX5_roomSetsFor_5 rfl rfl ?_
  refine k_iload_n X 0 dX5_roomSetsFor_6 rfl rfl ?_
  refine k_ixor X dX5_roomSetsFor_7 ?_
  refine x_istore_n X [(2, .int x1_), (0, .ref (ad E 323)), (1, .int x1)] dX5_roomSetsFor_8 rfl (by decide) rfl (fun x2_ => ?_)
  refine k_aload_n X 2 dX5_roomSetsFor_9 rfl rfl ?_
  refine k_aload_n X 2 dX5_roomSetsFor_10 rfl rfl ?_
  refine k_getR X c_323 fRX5_9 r_323_0 dX5_roomSetsFor_11 ?_
  refine k_iload_n X 0 dX5_roomSetsFor_14 rfl rfl ?_
  refine k_lald X c_324 l_324 dX5_roomSetsFor_15 (fun hb3 => ?_)
  refine k_aload_n X 2 dX5_roomSetsFor_16 rfl rfl ?_
  refine k_getR X c_323 fRX5_15 r_323_1 dX5_roomSetsFor_17 ?_
  refine k_iload_n X 1 dX5_roomSetsFor_20 rfl rfl ?_
  refine k_iald X c_325 l_325 dX5_roomSetsFor_21 (fun hb4 => ?_)
  refine k_callVL X [.long (gl M 324 (ix x2_)), .int (gi M 325 (ix x1_))] [] c_323 rfl (by decide) rfl (mt_Reach_withOneMore (zl Z) E (gl M 324 (ix x2_)) (gi M 325 (ix x1_)) M) mRX5_39 ⟨by decide, by decide⟩ rfl rfl (Nat.le_of_ble_eq_true rfl) dX5_roomSetsFor_22 (fun r5 M6 => ?_)
  refine k_lstore X [(4, .long r5), (3, .int x2_), (2, .int x1_), (0, .ref (ad E 323)), (1, .int x1)] dX5_roomSetsFor_25 (by decide) rfl ?_
  refine k_iload_n X 1 dX5_roomSetsFor_27 rfl rfl ?_
  refine k_istore X [(6, .int x2_), (4, .long r5), (3, .int x2_), (2, .int x1_), (0, .ref (ad E 323)), (1, .int x1)] dX5_roomSetsFor_28 (by decide) rfl ?_
  refine k_lv [4, 3, 2, 1, 0] rfl ?_
  exact kb_Reach_roomSetsFor_h30 X  FU x1_ x2_ r5 x2_ M6
theorem mt_Reach_roomSetsFor (l : Launch) (E : En) (x1 : Int32) (M : Mem) : ML l E yX5_roomSetsFor cX5_roomSetsFor 7 (some .long) 1 26 [.ref (ad E 323), .int x1] M (j_Reach_roomSetsFor x1 M) := ML_of (by decide) (Nat.le_of_ble_eq_true rfl) (fun Z _ X => k_lv [0, 1] rfl (kw_Reach_roomSetsFor X x1 M))
-- FilmCans$Reach.work
theorem kb_Reach_work_b53 {Z : ZT} {E : En} (X : Cx Z E 3 cX5_work RX5 none 2 52) (k11 : Int32 → Mem → Option (Unit × Mem)) (hk11 : ∀ (x2 : Int32) (M : Mem), Kj Z E 3 (QV Z E) (k11 x2 M) M 11 [(0, .ref (ad E 323)), (1, .ref (ad E 299)), (2, .int x2)] []) (x2 : Int32) (M : Mem) : Kj Z E 3 (QV Z E) (Reach_work_b53 k11 x2 M) M 53 [(0, .ref (ad E 323)), (1, .ref (ad E 299)), (2, .int x2)] [] := by
  unfold Reach_work_b53
  refine x_iinc X 1 2 [(0, .ref (ad E 323)), (1, .ref (ad E 299))] dX5_work_53 rfl (by decide) (by decide) rfl (fun x4_ => ?_)
  refine k_goto X 11 dX5_work_56 (by decide) ?_
  refine k_lv [1, 2, 0] rfl ?_
  exact hk11 x4_ M
theorem kb_Reach_work_h11 {Z : ZT} {E : En} (X : Cx Z E 3 cX5_work RX5 none 2 52)  : ∀ (n : Nat) (x2 : Int32) (M : Mem), Kj Z E 3 (QV Z E) (Reach_work_h11  n x2 M) M 11 [(0, .ref (ad E 323)), (1, .ref (ad E 299)), (2, .int x2)] [] := by
  intro n
  induction n with
  | zero => intro x2 M; exact k_none
  | succ n ih =>
    intro x2 M
    rw [Reach_work_h11]
    refine k_iload_n X 2 dX5_work_11 rfl rfl ?_
    refine k_aload_n X 1 dX5_work_12 rfl rfl ?_
    refine k_getI X c_299 fRX5_21 dX5_work_13 ?_
    refine k_icmp_gt X 59 dX5_work_16 (by decide) ?_ ?_
    · exact k_vret X dX5_work_59
    · refine k_iload_n X 2 dX5_work_19 rfl rfl ?_
      refine k_aload_n X 1 dX5_work_20 rfl rfl ?_
      refine k_getI X c_299 fRX5_21 dX5_work_21 ?_
      refine k_iconst X (v := (-1)) dX5_work_24 (by decide) ?_
      refine k_ixor X dX5_work_25 ?_
      refine k_iand X dX5_work_26 ?_
      refine k_if_ne X 53 dX5_work_27 (by decide) ?_ ?_
      · refine k_lv [0, 1, 2] rfl ?_
        exact kb_Reach_work_b53 X (fun x2 M => Reach_work_h11 n x2 M) (fun x2 M => ih x2 M) x2 M
      · refine k_aload_n X 0 dX5_work_30 rfl rfl ?_
        refine k_getR X c_323 fRX5_15 r_323_1 dX5_work_31 ?_
        refine k_iload_n X 2 dX5_work_34 rfl rfl ?_
        refine k_aload_n X 0 dX5_work_35 rfl rfl ?_
        refine k_aload_n X 1 dX5_work_36 rfl rfl ?_
        refine k_iload_n X 2 dX5_work_37 rfl rfl ?_
        refine k_callVI X [.ref (ad E 299), .int x2] [.int x2, .ref (ad E 325)] c_323 rfl (by decide) rfl (mt_Reach_holdersOf (zl Z) E x2 M) mRX5_27 ⟨by decide, by decide⟩ rfl rfl (Nat.le_of_ble_eq_true rfl) dX5_work_38 (fun r5 M6 => ?_)
        refine k_iast X c_325 l_325 dX5_work_41 (fun hb7 => ?_)
        refine k_sq (fun M8 => ?_)
        refine k_aload_n X 0 dX5_work_42 rfl rfl ?_
        refine k_getR X c_323 fRX5_9 r_323_0 dX5_work_43 ?_
        refine k_iload_n X 2 dX5_work_46 rfl rfl ?_
        refine k_aload_n X 0 dX5_work_47 rfl rfl ?_
        refine k_iload_n X 2 dX5_work_48 rfl rfl ?_
        refine k_callVL X [.int x2] [.int x2, .ref (ad E 324)] c_323 rfl (by decide) rfl (mt_Reach_roomSetsFor (zl Z) E x2 M8) mRX5_31 ⟨by decide, by decide⟩ rfl rfl (Nat.le_of_ble_eq_true rfl) dX5_work_49 (fun r9 M10 => ?_)
        refine k_last X c_324 l_324 dX5_work_52 (fun hb11 => ?_)
        refine k_sq (fun M12 => ?_)
        refine k_lv [0, 1, 2] rfl ?_
        exact kb_Reach_work_b53 X (fun x2 M => Reach_work_h11 n x2 M) (fun x2 M => ih x2 M) x2 M12
theorem kw_Reach_work {Z : ZT} {E : En} (X : Cx Z E 3 cX5_work RX5 none 2 52) (M : Mem) : Kj Z E 3 (QV Z E) (j_Reach_work M) M 0 [(0, .ref (ad E 323)), (1, .ref (ad E 299))] [] := by
  unfold j_Reach_work
  refine k_aload_n X 0 dX5_work_0 rfl rfl ?_
  refine k_getR X c_323 fRX5_9 r_323_0 dX5_work_1 ?_
  refine k_iconst X (v := 0) dX5_work_4 (by decide) ?_
  refine k_ldc2 X w_838 dX5_work_5 ?_
  refine k_last X c_324 l_324 dX5_work_8 (fun hb1 => ?_)
  refine k_sq (fun M2 => ?_)
  refine k_iconst X (v := 1) dX5_work_9 (by decide) ?_
  refine x_istore_n X [(0, .ref (ad E 323)), (1, .ref (ad E 299))] dX5_work_10 rfl (by decide) rfl (fun x3_ => ?_)
  refine k_lv [1, 2, 0] rfl ?_
  exact kb_Reach_work_h11 X  FU x3_ M2
theorem mt_Reach_work (l : Launch) (E : En) (M : Mem) : MV l E yX5_work cX5_work 3 none 2 52 [.ref (ad E 323), .ref (ad E 299)] M (j_Reach_work M) := MV_of (by decide) (Nat.le_of_ble_eq_true rfl) (fun Z _ X => k_lv [0, 1] rfl (kw_Reach_work X M))
-- FilmCans.lookAhead
theorem kw_Fc_lookAhead {Z : ZT} {E : En} (X : Cx Z E 1 cX8_lookAhead RX8 none 5 110) (M : Mem) : Kj Z E 1 (QV Z E) (j_Fc_lookAhead M) M 0 [(0, .ref (ad E 0))] [] := by
  unfold j_Fc_lookAhead
  refine k_aload_n X 0 dX8_lookAhead_0 rfl rfl ?_
  refine k_getR X c_0 fRX8_47 r_0_6 dX8_lookAhead_1 ?_
  refine k_aload_n X 0 dX8_lookAhead_4 rfl rfl ?_
  refine k_getR X c_0 fRX8_19 r_0_1 dX8_lookAhead_5 ?_
  refine k_callVV X [.ref (ad E 3)] [] c_299 rfl (by decide) rfl (mt_Rooms_lookAt (zl Z) E 3 day_3 M) mRX8_265 ⟨by decide, by decide⟩ rfl rfl (Nat.le_of_ble_eq_true rfl) dX8_lookAhead_8 (fun _ M2 => ?_)
  refine k_aload_n X 0 dX8_lookAhead_11 rfl rfl ?_
  refine k_getR X c_0 fRX8_61 r_0_8 dX8_lookAhead_12 ?_
  refine k_aload_n X 0 dX8_lookAhead_15 rfl rfl ?_
  refine k_getR X c_0 fRX8_47 r_0_6 dX8_lookAhead_16 ?_
  refine k_callVV X [.ref (ad E 299)] [] c_323 rfl (by decide) rfl (mt_Reach_work (zl Z) E  M2) mRX8_370 ⟨by decide, by decide⟩ rfl rfl (Nat.le_of_ble_eq_true rfl) dX8_lookAhead_19 (fun _ M4 => ?_)
  exact k_vret X dX8_lookAhead_22
theorem mt_Fc_lookAhead (l : Launch) (E : En) (M : Mem) : MV l E yX8_lookAhead cX8_lookAhead 1 none 5 110 [.ref (ad E 0)] M (j_Fc_lookAhead M) := MV_of (by decide) (Nat.le_of_ble_eq_true rfl) (fun Z _ X => k_lv [0] rfl (kw_Fc_lookAhead X M))
-- FilmCans$Reach.isPlaced
theorem kw_Reach_isPlaced {Z : ZT} {E : En} (X : Cx Z E 3 cX5_isPlaced RX5 (some .boolean) 0 0) (x1 : Int32) (x2 : Int32) (M : Mem) : Kj Z E 3 (QI Z E) (j_Reach_isPlaced x1 x2 M) M 0 [(0, .ref (ad E 323)), (1, .int x1), (2, .int x2)] [] := by
  unfold j_Reach_isPlaced
  refine k_aload_n X 0 dX5_isPlaced_0 rfl rfl ?_
  refine k_getR X c_323 fRX5_9 r_323_0 dX5_isPlaced_1 ?_
  refine k_iload_n X 1 dX5_isPlaced_4 rfl rfl ?_
  refine k_lald X c_324 l_324 dX5_isPlaced_5 (fun hb1 => ?_)
  refine k_iload_n X 2 dX5_isPlaced_6 rfl rfl ?_
  refine k_lushr X dX5_isPlaced_7 ?_
  refine k_lconst X (v := 1) dX5_isPlaced_8 (by decide) ?_
  refine k_land X dX5_isPlaced_9 ?_
  refine k_lconst X (v := 1) dX5_isPlaced_10 (by decide) ?_
  refine k_lne X 19 dX5_isPlaced_11 dX5_isPlaced_12 (by decide) ?_ ?_
  · refine k_iconst X (v := 0) dX5_isPlaced_19 (by decide) ?_
    exact k_zret X (by decide) dX5_isPlaced_20
  · refine k_iconst X (v := 1) dX5_isPlaced_15 (by decide) ?_
    refine k_goto X 20 dX5_isPlaced_16 (by decide) ?_
    exact k_zret X (by decide) dX5_isPlaced_20
theorem mt_Reach_isPlaced (l : Launch) (E : En) (x1 : Int32) (x2 : Int32) (M : Mem) : MI l E yX5_isPlaced cX5_isPlaced 3 (some .boolean) 0 0 [.ref (ad E 323), .int x1, .int x2] M (j_Reach_isPlaced x1 x2 M) := MI_of (by decide) (Nat.le_of_ble_eq_true rfl) (fun Z _ X => k_lv [0, 1, 2] rfl (kw_Reach_isPlaced X x1 x2 M))
-- FilmCans$Reach.longestOn
theorem kb_Reach_longestOn_b65 {Z : ZT} {E : En} (X : Cx Z E 7 cX5_longestOn RX5 (some .int) 1 22) (k6 : Int32 → Int32 → Int32 → Int32 → Int32 → Mem → Option (Int32 × Mem)) (hk6 : ∀ (x1 : Int32) (x2 : Int32) (x3 : Int32) (x5 : Int32) (x6 : Int32) (M : Mem), Kj Z E 7 (QI Z E) (k6 x1 x2 x3 x5 x6 M) M 6 [(0, .ref (ad E 323)), (1, .int x1), (2, .int x2), (3, .int x3), (4, .ref (ad E 299)), (5, .int x5), (6, .int x6)] []) (x1 : Int32) (x2 : Int32) (x3 : Int32) (x5 : Int32) (x6 : Int32) (M : Mem) : Kj Z E 7 (QI Z E) (Reach_longestOn_b65 k6 x1 x2 x3 x5 x6 M) M 65 [(0, .ref (ad E 323)), (1, .int x1), (2, .int x2), (3, .int x3), (4, .ref (ad E 299)), (5, .int x5), (6, .int x6)] [] := by
  unfold Reach_longestOn_b65
  refine x_iinc X 1 6 [(0, .ref (ad E 323)), (1, .int x1), (2, .int x2), (3, .int x3), (4, .ref (ad E 299)), (5, .int x5)] dX5_longestOn_65 rfl (by decide) (by decide) rfl (fun x3_ => ?_)
  refine k_goto X 6 dX5_longestOn_68 (by decide) ?_
  refine k_lv [1, 2, 3, 4, 5, 6, 0] rfl ?_
  exact hk6 x1 x2 x3 x5 x3_ M
theorem kb_Reach_longestOn_h6 {Z : ZT} {E : En} (X : Cx Z E 7 cX5_longestOn RX5 (some .int) 1 22)  : ∀ (n : Nat) (x1 : Int32) (x2 : Int32) (x3 : Int32) (x5 : Int32) (x6 : Int32) (M : Mem), Kj Z E 7 (QI Z E) (Reach_longestOn_h6  n x1 x2 x3 x5 x6 M) M 6 [(0, .ref (ad E 323)), (1, .int x1), (2, .int x2), (3, .int x3), (4, .ref (ad E 299)), (5, .int x5), (6, .int x6)] [] := by
  intro n
  induction n with
  | zero => intro x1 x2 x3 x5 x6 M; exact k_none
  | succ n ih =>
    intro x1 x2 x3 x5 x6 M
    rw [Reach_longestOn_h6]
    refine k_iload X 6 dX5_longestOn_6 rfl ?_
    refine k_iload_n X 3 dX5_longestOn_8 rfl rfl ?_
    refine k_icmp_gt X 71 dX5_longestOn_9 (by decide) ?_ ?_
    · refine k_iload X 5 dX5_longestOn_71 rfl ?_
      exact k_iret X dX5_longestOn_73
    · refine k_iload X 6 dX5_longestOn_12 rfl ?_
      refine k_iload_n X 3 dX5_longestOn_14 rfl rfl ?_
      refine k_iconst X (v := (-1)) dX5_longestOn_15 (by decide) ?_
      refine k_ixor X dX5_longestOn_16 ?_
      refine k_iand X dX5_longestOn_17 ?_
      refine k_if_ne X 65 dX5_longestOn_18 (by decide) ?_ ?_
      · refine k_lv [0, 1, 2, 3, 4, 5, 6] rfl ?_
        exact kb_Reach_longestOn_b65 X (fun x1 x2 x3 x5 x6 M => Reach_longestOn_h6 n x1 x2 x3 x5 x6 M) (fun x1 x2 x3 x5 x6 M => ih x1 x2 x3 x5 x6 M) x1 x2 x3 x5 x6 M
      · refine k_aload_n X 0 dX5_longestOn_21 rfl rfl ?_
        refine k_iload_n X 3 dX5_longestOn_22 rfl rfl ?_
        refine k_iload X 6 dX5_longestOn_23 rfl ?_
        refine k_ixor X dX5_longestOn_25 ?_
        refine k_bipush X (v := 63) dX5_longestOn_26 (by decide) ?_
        refine k_iconst X (v := 1) dX5_longestOn_28 (by decide) ?_
        refine k_iload_n X 1 dX5_longestOn_29 rfl rfl ?_
        refine k_ishl X dX5_longestOn_30 ?_
        refine k_ixor X dX5_longestOn_31 ?_
        refine k_callVI X [.int (x3 ^^^ x6), .int ((63 : Int32) ^^^ ((1 : Int32) <<< (x1 &&& 31)))] [] c_323 rfl (by decide) rfl (mt_Reach_isPlaced (zl Z) E (x3 ^^^ x6) ((63 : Int32) ^^^ ((1 : Int32) <<< (x1 &&& 31))) M) mRX5_46 ⟨by decide, by decide⟩ rfl rfl (Nat.le_of_ble_eq_true rfl) dX5_longestOn_32 (fun r4 M5 => ?_)
        refine k_if_eq X 65 dX5_longestOn_35 (by decide) ?_ ?_
        · refine k_lv [0, 1, 2, 3, 4, 5, 6] rfl ?_
          exact kb_Reach_longestOn_b65 X (fun x1 x2 x3 x5 x6 M => Reach_longestOn_h6 n x1 x2 x3 x5 x6 M) (fun x1 x2 x3 x5 x6 M => ih x1 x2 x3 x5 x6 M) x1 x2 x3 x5 x6 M5
        · refine k_iload X 5 dX5_longestOn_38 rfl ?_
          refine k_aload X 4 dX5_longestOn_40 rfl ?_
          refine k_getR X c_299 fRX5_76 r_299_9 dX5_longestOn_42 ?_
          refine k_iload_n X 1 dX5_longestOn_45 rfl rfl ?_
          refine k_aaldA X (f := fun j => 308 + j) c_307 l_307 ends_rf dX5_longestOn_46 (fun hb6 => ?_)
          refine k_iload X 6 dX5_longestOn_47 rfl ?_
          refine k_iload_n X 2 dX5_longestOn_49 rfl rfl ?_
          refine k_ior X dX5_longestOn_50 ?_
          refine k_iald X (ends_C hb6) (ends_L hb6) dX5_longestOn_51 (fun hb7 => ?_)
          refine k_aload X 4 dX5_longestOn_52 rfl ?_
          refine k_getR X c_299 fRX5_80 r_299_8 dX5_longestOn_54 ?_
          refine k_iload_n X 2 dX5_longestOn_57 rfl rfl ?_
          refine k_iald X c_306 l_306 dX5_longestOn_58 (fun hb8 => ?_)
          refine k_iadd X dX5_longestOn_59 ?_
          refine k_mx X wm_ml866 wm_st544 w_77 wm_cd545 (by decide) (Nat.le_of_ble_eq_true rfl) dX5_longestOn_60 ?_
          refine x_istore X [(0, .ref (ad E 323)), (1, .int x1), (2, .int x2), (3, .int x3), (4, .ref (ad E 299)), (6, .int x6)] dX5_longestOn_63 (by decide) rfl (fun x9_ => ?_)
          refine k_lv [1, 2, 3, 4, 5, 0, 6] rfl ?_
          exact kb_Reach_longestOn_b65 X (fun x1 x2 x3 x5 x6 M => Reach_longestOn_h6 n x1 x2 x3 x5 x6 M) (fun x1 x2 x3 x5 x6 M => ih x1 x2 x3 x5 x6 M) x1 x2 x3 x9_ x6 M5
theorem kw_Reach_longestOn {Z : ZT} {E : En} (X : Cx Z E 7 cX5_longestOn RX5 (some .int) 1 22) (x1 : Int32) (x2 : Int32) (x3 : Int32) (M : Mem) : Kj Z E 7 (QI Z E) (j_Reach_longestOn x1 x2 x3 M) M 0 [(0, .ref (ad E 323)), (1, .int x1), (2, .int x2), (3, .int x3), (4, .ref (ad E 299))] [] := by
  unfold j_Reach_longestOn
  refine k_iconst X (v := 0) dX5_longestOn_0 (by decide) ?_
  refine x_istore X [(0, .ref (ad E 323)), (1, .int x1), (2, .int x2), (3, .int x3), (4, .ref (ad E 299))] dX5_longestOn_1 (by decide) rfl (fun x1_ => ?_)
  refine k_iconst X (v := 0) dX5_longestOn_3 (by decide) ?_
  refine x_istore X [(5, .int x1_), (0, .ref (ad E 323)), (1, .int x1), (2, .int x2), (3, .int x3), (4, .ref (ad E 299))] dX5_longestOn_4 (by decide) rfl (fun x2_ => ?_)
  refine k_lv [2, 3, 4, 5, 6, 1, 0] rfl ?_
  exact kb_Reach_longestOn_h6 X  FU x1 x2 x3 x1_ x2_ M
theorem mt_Reach_longestOn (l : Launch) (E : En) (x1 : Int32) (x2 : Int32) (x3 : Int32) (M : Mem) : MI l E yX5_longestOn cX5_longestOn 7 (some .int) 1 22 [.ref (ad E 323), .int x1, .int x2, .int x3, .ref (ad E 299)] M (j_Reach_longestOn x1 x2 x3 M) := MI_of (by decide) (Nat.le_of_ble_eq_true rfl) (fun Z _ X => k_lv [0, 1, 2, 3, 4] rfl (kw_Reach_longestOn X x1 x2 x3 M))
-- FilmCans$Reach.longestOf
theorem kb_Reach_longestOf_h20 {Z : ZT} {E : En} (X : Cx Z E 7 cX5_longestOf RX5 (some .int) 2 48)  : ∀ (n : Nat) (x3 : Int32) (x4 : Int32) (x5 : Int32) (x6 : Int32) (M : Mem), Kj Z E 7 (QI Z E) (Reach_longestOf_h20  n x3 x4 x5 x6 M) M 20 [(0, .ref (ad E 323)), (2, .ref (ad E 299)), (3, .int x3), (4, .int x4), (5, .int x5), (6, .int x6)] [] := by
  intro n
  induction n with
  | zero => intro x3 x4 x5 x6 M; exact k_none
  | succ n ih =>
    intro x3 x4 x5 x6 M
    rw [Reach_longestOf_h20]
    refine k_iload X 5 dX5_longestOf_20 rfl ?_
    refine k_bipush X (v := 6) dX5_longestOf_22 (by decide) ?_
    refine k_icmp_ge X 50 dX5_longestOf_24 (by decide) ?_ ?_
    · refine k_iload X 4 dX5_longestOf_50 rfl ?_
      exact k_iret X dX5_longestOf_52
    · refine k_iload X 4 dX5_longestOf_27 rfl ?_
      refine k_aload_n X 0 dX5_longestOf_29 rfl rfl ?_
      refine k_iload X 5 dX5_longestOf_30 rfl ?_
      refine k_iload_n X 2 dX5_longestOf_32 rfl rfl ?_
      refine k_iload X 3 dX5_longestOf_33 rfl ?_
      refine k_aload_n X 1 dX5_longestOf_35 rfl rfl ?_
      refine k_callVI X [.int x6, .int x3, .int x4, .ref (ad E 299)] [.int x5] c_323 rfl (by decide) rfl (mt_Reach_longestOn (zl Z) E x6 x3 x4 M) mRX5_66 ⟨by decide, by decide⟩ rfl rfl (Nat.le_of_ble_eq_true rfl) dX5_longestOf_36 (fun r5 M6 => ?_)
      refine k_mx X wm_ml866 wm_st544 w_77 wm_cd545 (by decide) (Nat.le_of_ble_eq_true rfl) dX5_longestOf_39 ?_
      refine x_istore X [(0, .ref (ad E 323)), (2, .ref (ad E 299)), (3, .int x3), (4, .int x4), (6, .int x6)] dX5_longestOf_42 (by decide) rfl (fun x7_ => ?_)
      refine x_iinc X 1 5 [(5, .int x7_), (0, .ref (ad E 323)), (2, .ref (ad E 299)), (3, .int x3), (4, .int x4)] dX5_longestOf_44 rfl (by decide) (by decide) rfl (fun x8_ => ?_)
      refine k_goto X 20 dX5_longestOf_47 (by decide) ?_
      refine k_lv [2, 3, 4, 5, 1, 0] rfl ?_
      exact ih x3 x4 x7_ x8_ M6
theorem kw_Reach_longestOf {Z : ZT} {E : En} (X : Cx Z E 7 cX5_longestOf RX5 (some .int) 2 48) (x1 : Int32) (M : Mem) : Kj Z E 7 (QI Z E) (j_Reach_longestOf x1 M) M 0 [(0, .ref (ad E 323)), (1, .int x1), (2, .ref (ad E 299))] [] := by
  unfold j_Reach_longestOf
  refine k_iconst X (v := 1) dX5_longestOf_0 (by decide) ?_
  refine k_iload_n X 1 dX5_longestOf_1 rfl rfl ?_
  refine k_ishl X dX5_longestOf_2 ?_
  refine x_istore_n X [(0, .ref (ad E 323)), (1, .int x1), (2, .ref (ad E 299))] dX5_longestOf_3 rfl (by decide) rfl (fun x1_ => ?_)
  refine k_aload_n X 3 dX5_longestOf_4 rfl rfl ?_
  refine k_getI X c_299 fRX5_21 dX5_longestOf_5 ?_
  refine k_iload_n X 0 dX5_longestOf_8 rfl rfl ?_
  refine k_iconst X (v := (-1)) dX5_longestOf_9 (by decide) ?_
  refine k_ixor X dX5_longestOf_10 ?_
  refine k_iand X dX5_longestOf_11 ?_
  refine x_istore X [(3, .int x1_), (0, .ref (ad E 323)), (1, .int x1), (2, .ref (ad E 299))] dX5_longestOf_12 (by decide) rfl (fun x2_ => ?_)
  refine k_iconst X (v := 0) dX5_longestOf_14 (by decide) ?_
  refine x_istore X [(4, .int x2_), (3, .int x1_), (0, .ref (ad E 323)), (1, .int x1), (2, .ref (ad E 299))] dX5_longestOf_15 (by decide) rfl (fun x3_ => ?_)
  refine k_iconst X (v := 0) dX5_longestOf_17 (by decide) ?_
  refine x_istore X [(5, .int x3_), (4, .int x2_), (3, .int x1_), (0, .ref (ad E 323)), (1, .int x1), (2, .ref (ad E 299))] dX5_longestOf_18 (by decide) rfl (fun x4_ => ?_)
  refine k_lv [4, 6, 3, 2, 1, 0] rfl ?_
  exact kb_Reach_longestOf_h20 X  FU x1_ x2_ x3_ x4_ M
theorem mt_Reach_longestOf (l : Launch) (E : En) (x1 : Int32) (M : Mem) : MI l E yX5_longestOf cX5_longestOf 7 (some .int) 2 48 [.ref (ad E 323), .int x1, .ref (ad E 299)] M (j_Reach_longestOf x1 M) := MI_of (by decide) (Nat.le_of_ble_eq_true rfl) (fun Z _ X => k_lv [0, 1, 2] rfl (kw_Reach_longestOf X x1 M))
-- FilmCans.longer
theorem kw_Fc_longer {Z : ZT} {E : En} (X : Cx Z E 3 cX8_longer RX8 (some .int) 6 130) (x1 : Int32) (M : Mem) : Kj Z E 3 (QI Z E) (j_Fc_longer x1 M) M 0 [(0, .ref (ad E 0)), (1, .int x1)] [] := by
  unfold j_Fc_longer
  refine k_aload_n X 0 dX8_longer_0 rfl rfl ?_
  refine k_getR X c_0 fRX8_19 r_0_1 dX8_longer_1 ?_
  refine k_iload_n X 1 dX8_longer_4 rfl rfl ?_
  refine k_callVI X [.int x1] [] c_3 rfl (by decide) rfl (mt_Day_hasTake (zl Z) E 3 x1 day_3 M) mRX8_128 ⟨by decide, by decide⟩ rfl rfl (Nat.le_of_ble_eq_true rfl) dX8_longer_5 (fun r1 M2 => ?_)
  refine k_if_ne X 14 dX8_longer_8 (by decide) ?_ ?_
  · refine k_aload_n X 0 dX8_longer_14 rfl rfl ?_
    refine k_getR X c_0 fRX8_19 r_0_1 dX8_longer_15 ?_
    refine k_iload_n X 1 dX8_longer_18 rfl rfl ?_
    refine k_callVI X [.int x1] [] c_3 rfl (by decide) rfl (mt_Day_isOpen (zl Z) E 3 x1 day_3 M2) mRX8_131 ⟨by decide, by decide⟩ rfl rfl (Nat.le_of_ble_eq_true rfl) dX8_longer_19 (fun r3 M4 => ?_)
    refine k_if_ne X 28 dX8_longer_22 (by decide) ?_ ?_
    · refine k_aload_n X 0 dX8_longer_28 rfl rfl ?_
      refine k_callVV X [] [] c_0 rfl (by decide) rfl (mt_Fc_lookAhead (zl Z) E  M4) mRX8_291 ⟨by decide, by decide⟩ rfl rfl (Nat.le_of_ble_eq_true rfl) dX8_longer_29 (fun _ M6 => ?_)
      refine k_aload_n X 0 dX8_longer_32 rfl rfl ?_
      refine k_getR X c_0 fRX8_61 r_0_8 dX8_longer_33 ?_
      refine k_iload_n X 1 dX8_longer_36 rfl rfl ?_
      refine k_aload_n X 0 dX8_longer_37 rfl rfl ?_
      refine k_getR X c_0 fRX8_47 r_0_6 dX8_longer_38 ?_
      refine k_callVI X [.int x1, .ref (ad E 299)] [] c_323 rfl (by decide) rfl (mt_Reach_longestOf (zl Z) E x1 M6) mRX8_294 ⟨by decide, by decide⟩ rfl rfl (Nat.le_of_ble_eq_true rfl) dX8_longer_41 (fun r7 M8 => ?_)
      refine k_istore_n X [(2, .int r7), (0, .ref (ad E 0)), (1, .int x1)] dX8_longer_44 rfl (by decide) rfl ?_
      refine k_iload_n X 0 dX8_longer_45 rfl rfl ?_
      refine k_iconst X (v := 1) dX8_longer_46 (by decide) ?_
      refine k_icmp_ge X 55 dX8_longer_47 (by decide) ?_ ?_
      · refine k_iload_n X 0 dX8_longer_55 rfl rfl ?_
        refine k_bipush X (v := 60) dX8_longer_56 (by decide) ?_
        refine k_mn X wm_ml867 wm_st493 w_77 wm_cd494 (by decide) (Nat.le_of_ble_eq_true rfl) dX8_longer_58 ?_
        exact k_iret X dX8_longer_61
      · refine k_ldc X w_472 dX8_longer_50 ?_
        refine k_goto X 61 dX8_longer_52 (by decide) ?_
        exact k_iret X dX8_longer_61
    · refine k_ldc X w_463 dX8_longer_25 ?_
      exact k_iret X dX8_longer_27
  · refine k_ldc X w_359 dX8_longer_11 ?_
    exact k_iret X dX8_longer_13
theorem mt_Fc_longer (l : Launch) (E : En) (x1 : Int32) (M : Mem) : MI l E yX8_longer cX8_longer 3 (some .int) 6 130 [.ref (ad E 0), .int x1] M (j_Fc_longer x1 M) := MI_of (by decide) (Nat.le_of_ble_eq_true rfl) (fun Z _ X => k_lv [0, 1] rfl (kw_Fc_longer X x1 M))
-- FilmCans$Reach.canPlaceAll
theorem kw_Reach_canPlaceAll {Z : ZT} {E : En} (X : Cx Z E 2 cX5_canPlaceAll RX5 (some .boolean) 1 22) (M : Mem) : Kj Z E 2 (QI Z E) (j_Reach_canPlaceAll M) M 0 [(0, .ref (ad E 323)), (1, .ref (ad E 299))] [] := by
  unfold j_Reach_canPlaceAll
  refine k_aload_n X 0 dX5_canPlaceAll_0 rfl rfl ?_
  refine k_aload_n X 1 dX5_canPlaceAll_1 rfl rfl ?_
  refine k_getI X c_299 fRX5_21 dX5_canPlaceAll_2 ?_
  refine k_bipush X (v := 63) dX5_canPlaceAll_5 (by decide) ?_
  refine k_callVI X [.int (gi M 299 1), .int 63] [] c_323 rfl (by decide) rfl (mt_Reach_isPlaced (zl Z) E (gi M 299 1) 63 M) mRX5_46 ⟨by decide, by decide⟩ rfl rfl (Nat.le_of_ble_eq_true rfl) dX5_canPlaceAll_7 (fun r1 M2 => ?_)
  exact k_zretG X dX5_canPlaceAll_10
theorem mt_Reach_canPlaceAll (l : Launch) (E : En) (M : Mem) : MI l E yX5_canPlaceAll cX5_canPlaceAll 2 (some .boolean) 1 22 [.ref (ad E 323), .ref (ad E 299)] M (j_Reach_canPlaceAll M) := MI_of (by decide) (Nat.le_of_ble_eq_true rfl) (fun Z _ X => k_lv [0, 1] rfl (kw_Reach_canPlaceAll X M))
