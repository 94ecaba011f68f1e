-- FilmCansModel.batched
theorem kb_Md_batched_b149 {Z : ZT} {E : En} (X : Cx Z E 7 cX9_batched RX9 (some .int) 0 0) (k4 : Int32 → Int32 → Mem → Option (Int32 × Mem)) (hk4 : ∀ (x1 : Int32) (x2 : Int32) (M : Mem), Kj Z E 7 (QI Z E) (k4 x1 x2 M) M 4 [(0, .ref (ad E 326)), (1, .int x1), (2, .int x2)] []) (x2 : Int32) (xs0 : Int32) (xs1 : Int32) (M : Mem) : Kj Z E 7 (QI Z E) (Md_batched_b149 k4 x2 xs0 xs1 M) M 149 [(0, .ref (ad E 326)), (2, .int x2)] [.int xs0, .int xs1] := by
  unfold Md_batched_b149
  refine k_iadd X dX9_batched_149 ?_
  refine x_istore_n X [(0, .ref (ad E 326)), (2, .int x2)] dX9_batched_150 rfl (by decide) rfl (fun x14_ => ?_)
  refine x_iinc X 1 2 [(1, .int x14_), (0, .ref (ad E 326))] dX9_batched_151 rfl (by decide) (by decide) rfl (fun x15_ => ?_)
  refine k_goto X 4 dX9_batched_154 (by decide) ?_
  refine k_lv [2, 1, 0] rfl ?_
  exact hk4 x14_ x15_ M
theorem kb_Md_batched_b127 {Z : ZT} {E : En} (X : Cx Z E 7 cX9_batched RX9 (some .int) 0 0) (k4 : Int32 → Int32 → Mem → Option (Int32 × Mem)) (hk4 : ∀ (x1 : Int32) (x2 : Int32) (M : Mem), Kj Z E 7 (QI Z E) (k4 x1 x2 M) M 4 [(0, .ref (ad E 326)), (1, .int x1), (2, .int x2)] []) (x1 : Int32) (x2 : Int32) (x4 : Int32) (x5 : Int32) (xs0 : Int32) (xs1 : Int32) (M : Mem) : Kj Z E 7 (QI Z E) (Md_batched_b127 k4 x1 x2 x4 x5 xs0 xs1 M) M 127 [(0, .ref (ad E 326)), (1, .int x1), (2, .int x2), (4, .int x4), (5, .int x5)] [.int xs0, .int xs1, .ref (ad E 336)] := by
  unfold Md_batched_b127
  refine k_iast X c_336 l_336 dX9_batched_127 (fun hb10 => ?_)
  refine k_sq (fun M11 => ?_)
  refine k_aload_n X 0 dX9_batched_128 rfl rfl ?_
  refine k_getR X c_326 fRX9_41 r_326_19 dX9_batched_129 ?_
  refine k_iload X 4 dX9_batched_132 rfl ?_
  refine k_iload X 3 dX9_batched_134 rfl ?_
  refine k_iast X c_337 l_337 dX9_batched_136 (fun hb12 => ?_)
  refine k_sq (fun M13 => ?_)
  refine k_iload_n X 1 dX9_batched_137 rfl rfl ?_
  refine k_iload X 4 dX9_batched_138 rfl ?_
  refine k_iload_n X 1 dX9_batched_140 rfl rfl ?_
  refine k_icmp_ne X 148 dX9_batched_141 (by decide) ?_ ?_
  · refine k_iconst X (v := 0) dX9_batched_148 (by decide) ?_
    refine k_lv [0, 2] rfl ?_
    exact kb_Md_batched_b149 X k4 hk4 x2 0 x1 M13
  · refine k_iconst X (v := 1) dX9_batched_144 (by decide) ?_
    refine k_goto X 149 dX9_batched_145 (by decide) ?_
    refine k_lv [0, 2] rfl ?_
    exact kb_Md_batched_b149 X k4 hk4 x2 1 x1 M13
theorem kb_Md_batched_b94 {Z : ZT} {E : En} (X : Cx Z E 7 cX9_batched RX9 (some .int) 0 0) (k4 : Int32 → Int32 → Mem → Option (Int32 × Mem)) (k52 : Int32 → Int32 → Int32 → Int32 → Int32 → Int32 → Mem → Option (Int32 × Mem)) (hk4 : ∀ (x1 : Int32) (x2 : Int32) (M : Mem), Kj Z E 7 (QI Z E) (k4 x1 x2 M) M 4 [(0, .ref (ad E 326)), (1, .int x1), (2, .int x2)] []) (hk52 : ∀ (x1 : Int32) (x2 : Int32) (x3 : Int32) (x4 : Int32) (x5 : Int32) (x6 : Int32) (M : Mem), Kj Z E 7 (QI Z E) (k52 x1 x2 x3 x4 x5 x6 M) M 52 [(0, .ref (ad E 326)), (1, .int x1), (2, .int x2), (3, .int x3), (4, .int x4), (5, .int x5), (6, .int x6)] []) (x1 : Int32) (x2 : Int32) (x3 : Int32) (x4 : Int32) (x6 : Int32) (xs0 : Int32) (M : Mem) : Kj Z E 7 (QI Z E) (Md_batched_b94 k4 k52 x1 x2 x3 x4 x6 xs0 M) M 94 [(0, .ref (ad E 326)), (1, .int x1), (2, .int x2), (3, .int x3), (4, .int x4), (6, .int x6)] [.int xs0] := by
  unfold Md_batched_b94
  refine k_istore X [(5, .int xs0), (0, .ref (ad E 326)), (1, .int x1), (2, .int x2), (3, .int x3), (4, .int x4), (6, .int x6)] dX9_batched_94 (by decide) rfl ?_
  refine x_iinc X (-1) 6 [(5, .int xs0), (0, .ref (ad E 326)), (1, .int x1), (2, .int x2), (3, .int x3), (4, .int x4)] dX9_batched_96 rfl (by decide) (by decide) rfl (fun x17_ => ?_)
  refine k_goto X 52 dX9_batched_99 (by decide) ?_
  refine k_lv [2, 3, 4, 5, 6, 1, 0] rfl ?_
  exact hk52 x1 x2 x3 x4 xs0 x17_ M
theorem kb_Md_batched_b92 {Z : ZT} {E : En} (X : Cx Z E 7 cX9_batched RX9 (some .int) 0 0) (k4 : Int32 → Int32 → Mem → Option (Int32 × Mem)) (k52 : Int32 → Int32 → Int32 → Int32 → Int32 → Int32 → Mem → Option (Int32 × Mem)) (hk4 : ∀ (x1 : Int32) (x2 : Int32) (M : Mem), Kj Z E 7 (QI Z E) (k4 x1 x2 M) M 4 [(0, .ref (ad E 326)), (1, .int x1), (2, .int x2)] []) (hk52 : ∀ (x1 : Int32) (x2 : Int32) (x3 : Int32) (x4 : Int32) (x5 : Int32) (x6 : Int32) (M : Mem), Kj Z E 7 (QI Z E) (k52 x1 x2 x3 x4 x5 x6 M) M 52 [(0, .ref (ad E 326)), (1, .int x1), (2, .int x2), (3, .int x3), (4, .int x4), (5, .int x5), (6, .int x6)] []) (x1 : Int32) (x2 : Int32) (x3 : Int32) (x4 : Int32) (x5 : Int32) (x6 : Int32) (M : Mem) : Kj Z E 7 (QI Z E) (Md_batched_b92 k4 k52 x1 x2 x3 x4 x5 x6 M) M 92 [(0, .ref (ad E 326)), (1, .int x1), (2, .int x2), (3, .int x3), (4, .int x4), (5, .int x5), (6, .int x6)] [] := by
  unfold Md_batched_b92
  refine k_iload X 5 dX9_batched_92 rfl ?_
  refine k_lv [0, 1, 2, 3, 4, 6] rfl ?_
  exact kb_Md_batched_b94 X k4 k52 hk4 hk52 x1 x2 x3 x4 x6 x5 M
theorem kb_Md_batched_h52 {Z : ZT} {E : En} (X : Cx Z E 7 cX9_batched RX9 (some .int) 0 0) (k4 : Int32 → Int32 → Mem → Option (Int32 × Mem)) (hk4 : ∀ (x1 : Int32) (x2 : Int32) (M : Mem), Kj Z E 7 (QI Z E) (k4 x1 x2 M) M 4 [(0, .ref (ad E 326)), (1, .int x1), (2, .int x2)] []) : ∀ (n : Nat) (x1 : Int32) (x2 : Int32) (x3 : Int32) (x4 : Int32) (x5 : Int32) (x6 : Int32) (M : Mem), Kj Z E 7 (QI Z E) (Md_batched_h52 k4 n x1 x2 x3 x4 x5 x6 M) M 52 [(0, .ref (ad E 326)), (1, .int x1), (2, .int x2), (3, .int x3), (4, .int x4), (5, .int x5), (6, .int x6)] [] := by
  intro n
  induction n with
  | zero => intro x1 x2 x3 x4 x5 x6 M; exact k_none
  | succ n ih =>
    intro x1 x2 x3 x4 x5 x6 M
    rw [Md_batched_h52]
    refine k_iload X 6 dX9_batched_52 rfl ?_
    refine k_if_lt X 102 dX9_batched_54 (by decide) ?_ ?_
    · refine k_aload_n X 0 dX9_batched_102 rfl rfl ?_
      refine k_getR X c_326 fRX9_38 r_326_18 dX9_batched_103 ?_
      refine k_iload X 5 dX9_batched_106 rfl ?_
      refine k_iload X 5 dX9_batched_108 rfl ?_
      refine k_iload_n X 1 dX9_batched_110 rfl rfl ?_
      refine k_icmp_ne X 118 dX9_batched_111 (by decide) ?_ ?_
      · refine k_aload_n X 0 dX9_batched_118 rfl rfl ?_
        refine k_getR X c_326 fRX9_38 r_326_18 dX9_batched_119 ?_
        refine k_iload X 5 dX9_batched_122 rfl ?_
        refine k_iald X c_336 l_336 dX9_batched_124 (fun hb9 => ?_)
        refine k_iload_n X 3 dX9_batched_125 rfl rfl ?_
        refine k_iadd X dX9_batched_126 ?_
        refine k_lv [0, 1, 2, 4, 5] rfl ?_
        exact kb_Md_batched_b127 X k4 hk4 x1 x2 x4 x5 ((gi M 336 (ix x5)) + x3) x5 M
      · refine k_iload_n X 3 dX9_batched_114 rfl rfl ?_
        refine k_goto X 127 dX9_batched_115 (by decide) ?_
        refine k_lv [0, 1, 2, 4, 5] rfl ?_
        exact kb_Md_batched_b127 X k4 hk4 x1 x2 x4 x5 x3 x5 M
    · refine k_aload_n X 0 dX9_batched_57 rfl rfl ?_
      refine k_getR X c_326 fRX9_41 r_326_19 dX9_batched_58 ?_
      refine k_iload X 6 dX9_batched_61 rfl ?_
      refine k_iald X c_337 l_337 dX9_batched_63 (fun hb16 => ?_)
      refine k_iload X 4 dX9_batched_64 rfl ?_
      refine k_icmp_ne X 92 dX9_batched_66 (by decide) ?_ ?_
      · refine k_lv [0, 1, 2, 3, 4, 5, 6] rfl ?_
        exact kb_Md_batched_b92 X k4 (fun x1 x2 x3 x4 x5 x6 M => Md_batched_h52 k4 n x1 x2 x3 x4 x5 x6 M) hk4 (fun x1 x2 x3 x4 x5 x6 M => ih x1 x2 x3 x4 x5 x6 M) x1 x2 x3 x4 x5 x6 M
      · refine k_aload_n X 0 dX9_batched_69 rfl rfl ?_
        refine k_getR X c_326 fRX9_38 r_326_18 dX9_batched_70 ?_
        refine k_iload X 6 dX9_batched_73 rfl ?_
        refine k_iald X c_336 l_336 dX9_batched_75 (fun hb18 => ?_)
        refine k_iload_n X 3 dX9_batched_76 rfl rfl ?_
        refine k_iadd X dX9_batched_77 ?_
        refine k_aload_n X 0 dX9_batched_78 rfl rfl ?_
        refine k_getR X c_326 fRX9_7 r_326_0 dX9_batched_79 ?_
        refine k_iconst X (v := 2) dX9_batched_82 (by decide) ?_
        refine k_ialdC X 2 c_327 l_327 (by decide) (by decide) dX9_batched_83 ?_
        refine k_icmp_gt X 92 dX9_batched_84 (by decide) ?_ ?_
        · refine k_lv [0, 1, 2, 3, 4, 5, 6] rfl ?_
          exact kb_Md_batched_b92 X k4 (fun x1 x2 x3 x4 x5 x6 M => Md_batched_h52 k4 n x1 x2 x3 x4 x5 x6 M) hk4 (fun x1 x2 x3 x4 x5 x6 M => ih x1 x2 x3 x4 x5 x6 M) x1 x2 x3 x4 x5 x6 M
        · refine k_iload X 6 dX9_batched_87 rfl ?_
          refine k_goto X 94 dX9_batched_89 (by decide) ?_
          refine k_lv [0, 1, 2, 3, 4, 6] rfl ?_
          exact kb_Md_batched_b94 X k4 (fun x1 x2 x3 x4 x5 x6 M => Md_batched_h52 k4 n x1 x2 x3 x4 x5 x6 M) hk4 (fun x1 x2 x3 x4 x5 x6 M => ih x1 x2 x3 x4 x5 x6 M) x1 x2 x3 x4 x6 x6 M
theorem kb_Md_batched_h4 {Z : ZT} {E : En} (X : Cx Z E 7 cX9_batched RX9 (some .int) 0 0)  : ∀ (n : Nat) (x1 : Int32) (x2 : Int32) (M : Mem), Kj Z E 7 (QI Z E) (Md_batched_h4  n x1 x2 M) M 4 [(0, .ref (ad E 326)), (1, .int x1), (2, .int x2)] [] := by
  intro n
  induction n with
  | zero => intro x1 x2 M; exact k_none
  | succ n ih =>
    intro x1 x2 M
    rw [Md_batched_h4]
    refine k_iload_n X 2 dX9_batched_4 rfl rfl ?_
    refine k_aload_n X 0 dX9_batched_5 rfl rfl ?_
    refine k_getR X c_326 fRX9_7 r_326_0 dX9_batched_6 ?_
    refine k_bipush X (v := 6) dX9_batched_9 (by decide) ?_
    refine k_ialdC X 6 c_327 l_327 (by decide) (by decide) dX9_batched_11 ?_
    refine k_icmp_ge X 157 dX9_batched_12 (by decide) ?_ ?_
    · refine k_iload_n X 1 dX9_batched_157 rfl rfl ?_
      exact k_iret X dX9_batched_158
    · refine k_aload_n X 0 dX9_batched_15 rfl rfl ?_
      refine k_getR X c_326 fRX9_7 r_326_0 dX9_batched_16 ?_
      refine k_bipush X (v := 65) dX9_batched_19 (by decide) ?_
      refine k_iconst X (v := 3) dX9_batched_21 (by decide) ?_
      refine k_iload_n X 2 dX9_batched_22 rfl rfl ?_
      refine k_imul X dX9_batched_23 ?_
      refine k_iadd X dX9_batched_24 ?_
      refine k_iconst X (v := 1) dX9_batched_25 (by decide) ?_
      refine k_iadd X dX9_batched_26 ?_
      refine k_iald X c_327 l_327 dX9_batched_27 (fun hb4 => ?_)
      refine x_istore_n X [(0, .ref (ad E 326)), (1, .int x1), (2, .int x2)] dX9_batched_28 rfl (by decide) rfl (fun x5_ => ?_)
      refine k_aload_n X 1 dX9_batched_29 rfl rfl ?_
      refine k_getR X c_326 fRX9_7 r_326_0 dX9_batched_30 ?_
      refine k_bipush X (v := 65) dX9_batched_33 (by decide) ?_
      refine k_iconst X (v := 3) dX9_batched_35 (by decide) ?_
      refine k_iload_n X 3 dX9_batched_36 rfl rfl ?_
      refine k_imul X dX9_batched_37 ?_
      refine k_iadd X dX9_batched_38 ?_
      refine k_iconst X (v := 2) dX9_batched_39 (by decide) ?_
      refine k_iadd X dX9_batched_40 ?_
      refine k_iald X c_327 l_327 dX9_batched_41 (fun hb6 => ?_)
      refine x_istore X [(3, .int x5_), (0, .ref (ad E 326)), (1, .int x1), (2, .int x2)] dX9_batched_42 (by decide) rfl (fun x7_ => ?_)
      refine k_iload_n X 3 dX9_batched_44 rfl rfl ?_
      refine k_istore X [(5, .int x1), (4, .int x7_), (3, .int x5_), (0, .ref (ad E 326)), (1, .int x1), (2, .int x2)] dX9_batched_45 (by decide) rfl ?_
      refine k_iload_n X 4 dX9_batched_47 rfl rfl ?_
      refine k_iconst X (v := 1) dX9_batched_48 (by decide) ?_
      refine k_isub X dX9_batched_49 ?_
      refine x_istore X [(5, .int x1), (4, .int x7_), (3, .int x5_), (0, .ref (ad E 326)), (1, .int x1), (2, .int x2)] dX9_batched_50 (by decide) rfl (fun x8_ => ?_)
      refine k_lv [4, 5, 6, 3, 2, 1, 0] rfl ?_
      exact kb_Md_batched_h52 X (fun x1 x2 M => Md_batched_h4 n x1 x2 M) (fun x1 x2 M => ih x1 x2 M) FU x1 x2 x5_ x7_ x1 x8_ M
theorem kw_Md_batched {Z : ZT} {E : En} (X : Cx Z E 7 cX9_batched RX9 (some .int) 0 0) (M : Mem) : Kj Z E 7 (QI Z E) (j_Md_batched M) M 0 [(0, .ref (ad E 326))] [] := by
  unfold j_Md_batched
  refine k_iconst X (v := 0) dX9_batched_0 (by decide) ?_
  refine x_istore_n X [(0, .ref (ad E 326))] dX9_batched_1 rfl (by decide) rfl (fun x1_ => ?_)
  refine k_iconst X (v := 0) dX9_batched_2 (by decide) ?_
  refine x_istore_n X [(1, .int x1_), (0, .ref (ad E 326))] dX9_batched_3 rfl (by decide) rfl (fun x2_ => ?_)
  refine k_lv [2, 1, 0] rfl ?_
  exact kb_Md_batched_h4 X  FU x1_ x2_ M
theorem mt_Md_batched (l : Launch) (E : En) (M : Mem) : MI l E yX9_batched cX9_batched 7 (some .int) 0 0 [.ref (ad E 326)] M (j_Md_batched M) := MI_of (by decide) (Nat.le_of_ble_eq_true rfl) (fun Z _ X => k_lv [0] rfl (kw_Md_batched X M))
-- FilmCansModel.waiting
theorem kb_Md_waiting_h4 {Z : ZT} {E : En} (X : Cx Z E 3 cX9_waiting RX9 (some .int) 0 0)  : ∀ (n : Nat) (x1 : Int32) (x2 : Int32) (M : Mem), Kj Z E 3 (QI Z E) (Md_waiting_h4  n x1 x2 M) M 4 [(0, .ref (ad E 326)), (1, .int x1), (2, .int x2)] [] := by
  intro n
  induction n with
  | zero => intro x1 x2 M; exact k_none
  | succ n ih =>
    intro x1 x2 M
    rw [Md_waiting_h4]
    refine k_iload_n X 2 dX9_waiting_4 rfl rfl ?_
    refine k_aload_n X 0 dX9_waiting_5 rfl rfl ?_
    refine k_getR X c_326 fRX9_7 r_326_0 dX9_waiting_6 ?_
    refine k_bipush X (v := 6) dX9_waiting_9 (by decide) ?_
    refine k_ialdC X 6 c_327 l_327 (by decide) (by decide) dX9_waiting_11 ?_
    refine k_icmp_ge X 37 dX9_waiting_12 (by decide) ?_ ?_
    · refine k_iload_n X 1 dX9_waiting_37 rfl rfl ?_
      exact k_iret X dX9_waiting_38
    · refine k_iload_n X 1 dX9_waiting_15 rfl rfl ?_
      refine k_aload_n X 0 dX9_waiting_16 rfl rfl ?_
      refine k_getR X c_326 fRX9_7 r_326_0 dX9_waiting_17 ?_
      refine k_bipush X (v := 65) dX9_waiting_20 (by decide) ?_
      refine k_iconst X (v := 3) dX9_waiting_22 (by decide) ?_
      refine k_iload_n X 2 dX9_waiting_23 rfl rfl ?_
      refine k_imul X dX9_waiting_24 ?_
      refine k_iadd X dX9_waiting_25 ?_
      refine k_iconst X (v := 1) dX9_waiting_26 (by decide) ?_
      refine k_iadd X dX9_waiting_27 ?_
      refine k_iald X c_327 l_327 dX9_waiting_28 (fun hb4 => ?_)
      refine k_iadd X dX9_waiting_29 ?_
      refine x_istore_n X [(0, .ref (ad E 326)), (2, .int x2)] dX9_waiting_30 rfl (by decide) rfl (fun x5_ => ?_)
      refine x_iinc X 1 2 [(1, .int x5_), (0, .ref (ad E 326))] dX9_waiting_31 rfl (by decide) (by decide) rfl (fun x6_ => ?_)
      refine k_goto X 4 dX9_waiting_34 (by decide) ?_
      refine k_lv [2, 1, 0] rfl ?_
      exact ih x5_ x6_ M
theorem kw_Md_waiting {Z : ZT} {E : En} (X : Cx Z E 3 cX9_waiting RX9 (some .int) 0 0) (M : Mem) : Kj Z E 3 (QI Z E) (j_Md_waiting M) M 0 [(0, .ref (ad E 326))] [] := by
  unfold j_Md_waiting
  refine k_iconst X (v := 0) dX9_waiting_0 (by decide) ?_
  refine x_istore_n X [(0, .ref (ad E 326))] dX9_waiting_1 rfl (by decide) rfl (fun x1_ => ?_)
  refine k_iconst X (v := 0) dX9_waiting_2 (by decide) ?_
  refine x_istore_n X [(1, .int x1_), (0, .ref (ad E 326))] dX9_waiting_3 rfl (by decide) rfl (fun x2_ => ?_)
  refine k_lv [2, 1, 0] rfl ?_
  exact kb_Md_waiting_h4 X  FU x1_ x2_ M
theorem mt_Md_waiting (l : Launch) (E : En) (M : Mem) : MI l E yX9_waiting cX9_waiting 3 (some .int) 0 0 [.ref (ad E 326)] M (j_Md_waiting M) := MI_of (by decide) (Nat.le_of_ble_eq_true rfl) (fun Z _ X => k_lv [0] rfl (kw_Md_waiting X M))
-- FilmCansModel.lab
theorem kw_Md_lab {Z : ZT} {E : En} (X : Cx Z E 2 cX9_lab RX9 (some .int) 2 45) (M : Mem) : Kj Z E 2 (QI Z E) (j_Md_lab M) M 0 [(0, .ref (ad E 326))] [] := by
  unfold j_Md_lab
  refine k_aload_n X 0 dX9_lab_0 rfl rfl ?_
  refine k_getR X c_326 fRX9_7 r_326_0 dX9_lab_1 ?_
  refine k_bipush X (v := 6) dX9_lab_4 (by decide) ?_
  refine k_ialdC X 6 c_327 l_327 (by decide) (by decide) dX9_lab_6 ?_
  refine k_if_ne X 13 dX9_lab_7 (by decide) ?_ ?_
  · refine k_aload_n X 0 dX9_lab_13 rfl rfl ?_
    refine k_callVV X [] [] c_326 rfl (by decide) rfl (mt_Md_notes (zl Z) E  M) mRX9_187 ⟨by decide, by decide⟩ rfl rfl (Nat.le_of_ble_eq_true rfl) dX9_lab_14 (fun _ M3 => ?_)
    refine k_aload_n X 0 dX9_lab_17 rfl rfl ?_
    refine k_callVI X [] [] c_326 rfl (by decide) rfl (mt_Md_batched (zl Z) E  M3) mRX9_193 ⟨by decide, by decide⟩ rfl rfl (Nat.le_of_ble_eq_true rfl) dX9_lab_18 (fun r4 M5 => ?_)
    refine k_istore_n X [(1, .int r4), (0, .ref (ad E 326))] dX9_lab_21 rfl (by decide) rfl ?_
    refine k_aload_n X 1 dX9_lab_22 rfl rfl ?_
    refine k_getR X c_326 fRX9_7 r_326_0 dX9_lab_23 ?_
    refine k_bipush X (v := 10) dX9_lab_26 (by decide) ?_
    refine k_dup2 X dX9_lab_28 rfl rfl ?_
    refine k_ialdC X 10 c_327 l_327 (by decide) (by decide) dX9_lab_29 ?_
    refine k_iload_n X 0 dX9_lab_30 rfl rfl ?_
    refine k_aload_n X 1 dX9_lab_31 rfl rfl ?_
    refine k_getR X c_326 fRX9_7 r_326_0 dX9_lab_32 ?_
    refine k_iconst X (v := 3) dX9_lab_35 (by decide) ?_
    refine k_ialdC X 3 c_327 l_327 (by decide) (by decide) dX9_lab_36 ?_
    refine k_imul X dX9_lab_37 ?_
    refine k_aload_n X 1 dX9_lab_38 rfl rfl ?_
    refine k_callVI X [] [.int (r4 * (gi M5 327 3)), .int (gi M5 327 10), .int 10, .ref (ad E 327)] c_326 rfl (by decide) rfl (mt_Md_waiting (zl Z) E  M5) mRX9_197 ⟨by decide, by decide⟩ rfl rfl (Nat.le_of_ble_eq_true rfl) dX9_lab_39 (fun r8 M9 => ?_)
    refine k_iadd X dX9_lab_42 ?_
    refine k_iadd X dX9_lab_43 ?_
    refine k_iastC X 10 c_327 l_327 (by decide) (by decide) dX9_lab_44 ?_
    refine k_sq (fun M11 => ?_)
    refine k_aload_n X 1 dX9_lab_45 rfl rfl ?_
    refine k_getR X c_326 fRX9_7 r_326_0 dX9_lab_46 ?_
    refine k_bipush X (v := 6) dX9_lab_49 (by decide) ?_
    refine k_iconst X (v := 0) dX9_lab_51 (by decide) ?_
    refine k_iastC X 6 c_327 l_327 (by decide) (by decide) dX9_lab_52 ?_
    refine k_sq (fun M13 => ?_)
    refine k_iload_n X 0 dX9_lab_53 rfl rfl ?_
    exact k_iret X dX9_lab_54
  · refine k_ldc X w_1084 dX9_lab_10 ?_
    exact k_iret X dX9_lab_12
theorem mt_Md_lab (l : Launch) (E : En) (M : Mem) : MI l E yX9_lab cX9_lab 2 (some .int) 2 45 [.ref (ad E 326)] M (j_Md_lab M) := MI_of (by decide) (Nat.le_of_ble_eq_true rfl) (fun Z _ X => k_lv [0] rfl (kw_Md_lab X M))
-- FilmCansModel.again
theorem kw_Md_again {Z : ZT} {E : En} (X : Cx Z E 3 cX9_again RX9 (some .int) 2 46) (x1 : Int32) (M : Mem) : Kj Z E 3 (QI Z E) (j_Md_again x1 M) M 0 [(0, .ref (ad E 326)), (1, .int x1)] [] := by
  unfold j_Md_again
  refine k_aload_n X 0 dX9_again_0 rfl rfl ?_
  refine k_iload_n X 1 dX9_again_1 rfl rfl ?_
  refine k_callVI X [.int x1] [] c_326 rfl (by decide) rfl (mt_Md_isTake (zl Z) E x1 M) mRX9_190 ⟨by decide, by decide⟩ rfl rfl (Nat.le_of_ble_eq_true rfl) dX9_again_2 (fun r1 M2 => ?_)
  refine k_if_ne X 11 dX9_again_5 (by decide) ?_ ?_
  · refine k_aload_n X 0 dX9_again_11 rfl rfl ?_
    refine k_getR X c_326 fRX9_7 r_326_0 dX9_again_12 ?_
    refine k_iload_n X 1 dX9_again_15 rfl rfl ?_
    refine k_callSI X [.ref (ad E 327), .int x1] [] (mt_Md_isOpen (zl Z) E 327 x1 c_327 l_327 M2) mRX9_66 ⟨by decide, by decide⟩ rfl rfl (Nat.le_of_ble_eq_true rfl) dX9_again_16 (fun r3 M4 => ?_)
    refine k_if_eq X 25 dX9_again_19 (by decide) ?_ ?_
    · refine k_aload_n X 0 dX9_again_25 rfl rfl ?_
      refine k_callVV X [] [] c_326 rfl (by decide) rfl (mt_Md_notes (zl Z) E  M4) mRX9_187 ⟨by decide, by decide⟩ rfl rfl (Nat.le_of_ble_eq_true rfl) dX9_again_26 (fun _ M6 => ?_)
      refine k_aload_n X 0 dX9_again_29 rfl rfl ?_
      refine k_getR X c_326 fRX9_7 r_326_0 dX9_again_30 ?_
      refine k_bipush X (v := 41) dX9_again_33 (by decide) ?_
      refine k_iconst X (v := 3) dX9_again_35 (by decide) ?_
      refine k_iload_n X 1 dX9_again_36 rfl rfl ?_
      refine k_imul X dX9_again_37 ?_
      refine k_iadd X dX9_again_38 ?_
      refine k_iconst X (v := 2) dX9_again_39 (by decide) ?_
      refine k_iadd X dX9_again_40 ?_
      refine k_iald X c_327 l_327 dX9_again_41 (fun hb7 => ?_)
      refine x_istore_n X [(0, .ref (ad E 326)), (1, .int x1)] dX9_again_42 rfl (by decide) rfl (fun x8_ => ?_)
      refine k_aload_n X 1 dX9_again_43 rfl rfl ?_
      refine k_getR X c_326 fRX9_7 r_326_0 dX9_again_44 ?_
      refine k_bipush X (v := 41) dX9_again_47 (by decide) ?_
      refine k_iconst X (v := 3) dX9_again_49 (by decide) ?_
      refine k_iload_n X 2 dX9_again_50 rfl rfl ?_
      refine k_imul X dX9_again_51 ?_
      refine k_iadd X dX9_again_52 ?_
      refine k_iconst X (v := 2) dX9_again_53 (by decide) ?_
      refine k_iadd X dX9_again_54 ?_
      refine k_iconst X (v := (-1)) dX9_again_55 (by decide) ?_
      refine k_iast X c_327 l_327 dX9_again_56 (fun hb9 => ?_)
      refine k_sq (fun M10 => ?_)
      refine k_aload_n X 1 dX9_again_57 rfl rfl ?_
      refine k_getR X c_326 fRX9_7 r_326_0 dX9_again_58 ?_
      refine k_bipush X (v := 8) dX9_again_61 (by decide) ?_
      refine k_dup2 X dX9_again_63 rfl rfl ?_
      refine k_ialdC X 8 c_327 l_327 (by decide) (by decide) dX9_again_64 ?_
      refine k_aload_n X 1 dX9_again_65 rfl rfl ?_
      refine k_getR X c_326 fRX9_7 r_326_0 dX9_again_66 ?_
      refine k_bipush X (v := 41) dX9_again_69 (by decide) ?_
      refine k_iconst X (v := 3) dX9_again_71 (by decide) ?_
      refine k_iload_n X 2 dX9_again_72 rfl rfl ?_
      refine k_imul X dX9_again_73 ?_
      refine k_iadd X dX9_again_74 ?_
      refine k_iconst X (v := 1) dX9_again_75 (by decide) ?_
      refine k_iadd X dX9_again_76 ?_
      refine k_iald X c_327 l_327 dX9_again_77 (fun hb12 => ?_)
      refine k_isub X dX9_again_78 ?_
      refine k_iastC X 8 c_327 l_327 (by decide) (by decide) dX9_again_79 ?_
      refine k_sq (fun M14 => ?_)
      refine k_aload_n X 1 dX9_again_80 rfl rfl ?_
      refine k_getR X c_326 fRX9_7 r_326_0 dX9_again_81 ?_
      refine k_bipush X (v := 9) dX9_again_84 (by decide) ?_
      refine k_dup2 X dX9_again_86 rfl rfl ?_
      refine k_ialdC X 9 c_327 l_327 (by decide) (by decide) dX9_again_87 ?_
      refine k_aload_n X 1 dX9_again_88 rfl rfl ?_
      refine k_getR X c_326 fRX9_7 r_326_0 dX9_again_89 ?_
      refine k_bipush X (v := 41) dX9_again_92 (by decide) ?_
      refine k_iconst X (v := 3) dX9_again_94 (by decide) ?_
      refine k_iload_n X 2 dX9_again_95 rfl rfl ?_
      refine k_imul X dX9_again_96 ?_
      refine k_iadd X dX9_again_97 ?_
      refine k_iconst X (v := 1) dX9_again_98 (by decide) ?_
      refine k_iadd X dX9_again_99 ?_
      refine k_iald X c_327 l_327 dX9_again_100 (fun hb16 => ?_)
      refine k_iadd X dX9_again_101 ?_
      refine k_iastC X 9 c_327 l_327 (by decide) (by decide) dX9_again_102 ?_
      refine k_sq (fun M18 => ?_)
      refine k_iload_n X 0 dX9_again_103 rfl rfl ?_
      exact k_iret X dX9_again_104
    · refine k_ldc X w_1084 dX9_again_22 ?_
      exact k_iret X dX9_again_24
  · refine k_ldc X w_1016 dX9_again_8 ?_
    exact k_iret X dX9_again_10
theorem mt_Md_again (l : Launch) (E : En) (x1 : Int32) (M : Mem) : MI l E yX9_again cX9_again 3 (some .int) 2 46 [.ref (ad E 326), .int x1] M (j_Md_again x1 M) := MI_of (by decide) (Nat.le_of_ble_eq_true rfl) (fun Z _ X => k_lv [0, 1] rfl (kw_Md_again X x1 M))
-- FilmCansModel.buy
theorem kw_Md_buy {Z : ZT} {E : En} (X : Cx Z E 3 cX9_buy RX9 (some .int) 2 45) (x1 : Int32) (x2 : Int32) (M : Mem) : Kj Z E 3 (QI Z E) (j_Md_buy x1 x2 M) M 0 [(0, .ref (ad E 326)), (1, .int x1), (2, .int x2)] [] := by
  unfold j_Md_buy
  refine k_aload_n X 0 dX9_buy_0 rfl rfl ?_
  refine k_callVI X [] [] c_326 rfl (by decide) rfl (mt_Md_isBook (zl Z) E  M) mRX9_200 ⟨by decide, by decide⟩ rfl rfl (Nat.le_of_ble_eq_true rfl) dX9_buy_1 (fun r1 M2 => ?_)
  refine k_if_ne X 10 dX9_buy_4 (by decide) ?_ ?_
  · refine k_iload_n X 1 dX9_buy_10 rfl rfl ?_
    refine k_i2l X dX9_buy_11 ?_
    refine k_lconst X (v := 1) dX9_buy_12 (by decide) ?_
    refine k_ldc2 X w_1164 dX9_buy_13 ?_
    refine k_callSI X [.long (Int32.toInt64 x1), .long 1, .long 5] [] (mt_Md_in (zl Z) E (Int32.toInt64 x1) 1 5 M2) mRX9_47 ⟨by decide, by decide⟩ rfl rfl (Nat.le_of_ble_eq_true rfl) dX9_buy_16 (fun r3 M4 => ?_)
    refine k_if_eq X 34 dX9_buy_19 (by decide) ?_ ?_
    · refine k_ldc X w_1016 dX9_buy_34 ?_
      exact k_iret X dX9_buy_36
    · refine k_iload_n X 2 dX9_buy_22 rfl rfl ?_
      refine k_i2l X dX9_buy_23 ?_
      refine k_lconst X (v := 1) dX9_buy_24 (by decide) ?_
      refine k_ldc2 X w_1165 dX9_buy_25 ?_
      refine k_callSI X [.long (Int32.toInt64 x2), .long 1, .long 99] [] (mt_Md_in (zl Z) E (Int32.toInt64 x2) 1 99 M4) mRX9_47 ⟨by decide, by decide⟩ rfl rfl (Nat.le_of_ble_eq_true rfl) dX9_buy_28 (fun r5 M6 => ?_)
      refine k_if_ne X 37 dX9_buy_31 (by decide) ?_ ?_
      · refine k_aload_n X 0 dX9_buy_37 rfl rfl ?_
        refine k_getR X c_326 fRX9_7 r_326_0 dX9_buy_38 ?_
        refine k_iconst X (v := 4) dX9_buy_41 (by decide) ?_
        refine k_ialdC X 4 c_327 l_327 (by decide) (by decide) dX9_buy_42 ?_
        refine k_bipush X (v := 6) dX9_buy_43 (by decide) ?_
        refine k_icmp_ne X 51 dX9_buy_45 (by decide) ?_ ?_
        · refine k_aload_n X 0 dX9_buy_51 rfl rfl ?_
          refine k_callVV X [] [] c_326 rfl (by decide) rfl (mt_Md_notes (zl Z) E  M6) mRX9_187 ⟨by decide, by decide⟩ rfl rfl (Nat.le_of_ble_eq_true rfl) dX9_buy_52 (fun _ M9 => ?_)
          refine k_aload_n X 0 dX9_buy_55 rfl rfl ?_
          refine k_getR X c_326 fRX9_7 r_326_0 dX9_buy_56 ?_
          refine k_iload_n X 1 dX9_buy_59 rfl rfl ?_
          refine k_iload_n X 2 dX9_buy_60 rfl rfl ?_
          refine k_callSV X [.ref (ad E 327), .int x1, .int x2] [] (mt_Md_adds (zl Z) E 327 x1 x2 c_327 l_327 M9) mRX9_150 ⟨by decide, by decide⟩ rfl rfl (Nat.le_of_ble_eq_true rfl) dX9_buy_61 (fun _ M11 => ?_)
          refine k_aload_n X 0 dX9_buy_64 rfl rfl ?_
          refine k_getR X c_326 fRX9_7 r_326_0 dX9_buy_65 ?_
          refine k_iconst X (v := 4) dX9_buy_68 (by decide) ?_
          refine k_ialdC X 4 c_327 l_327 (by decide) (by decide) dX9_buy_69 ?_
          refine k_iconst X (v := 1) dX9_buy_70 (by decide) ?_
          refine k_isub X dX9_buy_71 ?_
          exact k_iret X dX9_buy_72
        · refine k_ldc X w_1017 dX9_buy_48 ?_
          exact k_iret X dX9_buy_50
      · refine k_ldc X w_1016 dX9_buy_34 ?_
        exact k_iret X dX9_buy_36
  · refine k_ldc X w_1084 dX9_buy_7 ?_
    exact k_iret X dX9_buy_9
theorem mt_Md_buy (l : Launch) (E : En) (x1 : Int32) (x2 : Int32) (M : Mem) : MI l E yX9_buy cX9_buy 3 (some .int) 2 45 [.ref (ad E 326), .int x1, .int x2] M (j_Md_buy x1 x2 M) := MI_of (by decide) (Nat.le_of_ble_eq_true rfl) (fun Z _ X => k_lv [0, 1, 2] rfl (kw_Md_buy X x1 x2 M))
-- FilmCansModel.ask
theorem kw_Md_ask {Z : ZT} {E : En} (X : Cx Z E 4 cX9_ask RX9 (some .int) 2 45) (x1 : Int32) (x2 : Int32) (M : Mem) : Kj Z E 4 (QI Z E) (j_Md_ask x1 x2 M) M 0 [(0, .ref (ad E 326)), (1, .int x1), (2, .int x2)] [] := by
  unfold j_Md_ask
  refine k_aload_n X 0 dX9_ask_0 rfl rfl ?_
  refine k_callVI X [] [] c_326 rfl (by decide) rfl (mt_Md_isBook (zl Z) E  M) mRX9_200 ⟨by decide, by decide⟩ rfl rfl (Nat.le_of_ble_eq_true rfl) dX9_ask_1 (fun r1 M2 => ?_)
  refine k_if_ne X 10 dX9_ask_4 (by decide) ?_ ?_
  · refine k_iload_n X 1 dX9_ask_10 rfl rfl ?_
    refine k_i2l X dX9_ask_11 ?_
    refine k_lconst X (v := 0) dX9_ask_12 (by decide) ?_
    refine k_ldc2 X w_1164 dX9_ask_13 ?_
    refine k_callSI X [.long (Int32.toInt64 x1), .long 0, .long 5] [] (mt_Md_in (zl Z) E (Int32.toInt64 x1) 0 5 M2) mRX9_47 ⟨by decide, by decide⟩ rfl rfl (Nat.le_of_ble_eq_true rfl) dX9_ask_16 (fun r3 M4 => ?_)
    refine k_if_eq X 34 dX9_ask_19 (by decide) ?_ ?_
    · refine k_ldc X w_1016 dX9_ask_34 ?_
      exact k_iret X dX9_ask_36
    · refine k_iload_n X 2 dX9_ask_22 rfl rfl ?_
      refine k_i2l X dX9_ask_23 ?_
      refine k_lconst X (v := 1) dX9_ask_24 (by decide) ?_
      refine k_ldc2 X w_1170 dX9_ask_25 ?_
      refine k_callSI X [.long (Int32.toInt64 x2), .long 1, .long 60] [] (mt_Md_in (zl Z) E (Int32.toInt64 x2) 1 60 M4) mRX9_47 ⟨by decide, by decide⟩ rfl rfl (Nat.le_of_ble_eq_true rfl) dX9_ask_28 (fun r5 M6 => ?_)
      refine k_if_ne X 37 dX9_ask_31 (by decide) ?_ ?_
      · refine k_aload_n X 0 dX9_ask_37 rfl rfl ?_
        refine k_getR X c_326 fRX9_7 r_326_0 dX9_ask_38 ?_
        refine k_iconst X (v := 5) dX9_ask_41 (by decide) ?_
        refine k_ialdC X 5 c_327 l_327 (by decide) (by decide) dX9_ask_42 ?_
        refine k_bipush X (v := 8) dX9_ask_43 (by decide) ?_
        refine k_icmp_ne X 51 dX9_ask_45 (by decide) ?_ ?_
        · refine k_aload_n X 0 dX9_ask_51 rfl rfl ?_
          refine k_callVV X [] [] c_326 rfl (by decide) rfl (mt_Md_notes (zl Z) E  M6) mRX9_187 ⟨by decide, by decide⟩ rfl rfl (Nat.le_of_ble_eq_true rfl) dX9_ask_52 (fun _ M9 => ?_)
          refine k_bipush X (v := 41) dX9_ask_55 (by decide) ?_
          refine k_iconst X (v := 3) dX9_ask_57 (by decide) ?_
          refine k_aload_n X 0 dX9_ask_58 rfl rfl ?_
          refine k_getR X c_326 fRX9_7 r_326_0 dX9_ask_59 ?_
          refine k_iconst X (v := 5) dX9_ask_62 (by decide) ?_
          refine k_ialdC X 5 c_327 l_327 (by decide) (by decide) dX9_ask_63 ?_
          refine k_imul X dX9_ask_64 ?_
          refine k_iadd X dX9_ask_65 ?_
          refine x_istore_n X [(0, .ref (ad E 326)), (1, .int x1), (2, .int x2)] dX9_ask_66 rfl (by decide) rfl (fun x11_ => ?_)
          refine k_aload_n X 1 dX9_ask_67 rfl rfl ?_
          refine k_getR X c_326 fRX9_7 r_326_0 dX9_ask_68 ?_
          refine k_iload_n X 0 dX9_ask_71 rfl rfl ?_
          refine k_iload_n X 2 dX9_ask_72 rfl rfl ?_
          refine k_iast X c_327 l_327 dX9_ask_73 (fun hb12 => ?_)
          refine k_sq (fun M13 => ?_)
          refine k_aload_n X 1 dX9_ask_74 rfl rfl ?_
          refine k_getR X c_326 fRX9_7 r_326_0 dX9_ask_75 ?_
          refine k_iload_n X 0 dX9_ask_78 rfl rfl ?_
          refine k_iconst X (v := 1) dX9_ask_79 (by decide) ?_
          refine k_iadd X dX9_ask_80 ?_
          refine k_iload_n X 3 dX9_ask_81 rfl rfl ?_
          refine k_iast X c_327 l_327 dX9_ask_82 (fun hb14 => ?_)
          refine k_sq (fun M15 => ?_)
          refine k_aload_n X 1 dX9_ask_83 rfl rfl ?_
          refine k_getR X c_326 fRX9_7 r_326_0 dX9_ask_84 ?_
          refine k_iload_n X 0 dX9_ask_87 rfl rfl ?_
          refine k_iconst X (v := 2) dX9_ask_88 (by decide) ?_
          refine k_iadd X dX9_ask_89 ?_
          refine k_iconst X (v := (-1)) dX9_ask_90 (by decide) ?_
          refine k_iast X c_327 l_327 dX9_ask_91 (fun hb16 => ?_)
          refine k_sq (fun M17 => ?_)
          refine k_aload_n X 1 dX9_ask_92 rfl rfl ?_
          refine k_getR X c_326 fRX9_7 r_326_0 dX9_ask_93 ?_
          refine k_iconst X (v := 5) dX9_ask_96 (by decide) ?_
          refine k_dup2 X dX9_ask_97 rfl rfl ?_
          refine k_ialdC X 5 c_327 l_327 (by decide) (by decide) dX9_ask_98 ?_
          refine k_iconst X (v := 1) dX9_ask_99 (by decide) ?_
          refine k_iadd X dX9_ask_100 ?_
          refine k_iastC X 5 c_327 l_327 (by decide) (by decide) dX9_ask_101 ?_
          refine k_sq (fun M20 => ?_)
          refine k_aload_n X 1 dX9_ask_102 rfl rfl ?_
          refine k_getR X c_326 fRX9_7 r_326_0 dX9_ask_103 ?_
          refine k_iconst X (v := 5) dX9_ask_106 (by decide) ?_
          refine k_ialdC X 5 c_327 l_327 (by decide) (by decide) dX9_ask_107 ?_
          refine k_iconst X (v := 1) dX9_ask_108 (by decide) ?_
          refine k_isub X dX9_ask_109 ?_
          exact k_iret X dX9_ask_110
        · refine k_ldc X w_1017 dX9_ask_48 ?_
          exact k_iret X dX9_ask_50
      · refine k_ldc X w_1016 dX9_ask_34 ?_
        exact k_iret X dX9_ask_36
  · refine k_ldc X w_1084 dX9_ask_7 ?_
    exact k_iret X dX9_ask_9
theorem mt_Md_ask (l : Launch) (E : En) (x1 : Int32) (x2 : Int32) (M : Mem) : MI l E yX9_ask cX9_ask 4 (some .int) 2 45 [.ref (ad E 326), .int x1, .int x2] M (j_Md_ask x1 x2 M) := MI_of (by decide) (Nat.le_of_ble_eq_true rfl) (fun Z _ X => k_lv [0, 1, 2] rfl (kw_Md_ask X x1 x2 M))
-- FilmCansModel.become
theorem kw_Md_become {Z : ZT} {E : En} (X : Cx Z E 4 cX9_become RX9 (some .int) 2 46) (x1 : Int32) (x2 : Int32) (M : Mem) : Kj Z E 4 (QI Z E) (j_Md_become x1 x2 M) M 0 [(0, .ref (ad E 326)), (1, .int x1), (2, .int x2)] [] := by
  unfold j_Md_become
  refine k_aload_n X 0 dX9_become_0 rfl rfl ?_
  refine k_iload_n X 1 dX9_become_1 rfl rfl ?_
  refine k_callVI X [.int x1] [] c_326 rfl (by decide) rfl (mt_Md_isCan (zl Z) E x1 M) mRX9_183 ⟨by decide, by decide⟩ rfl rfl (Nat.le_of_ble_eq_true rfl) dX9_become_2 (fun r1 M2 => ?_)
  refine k_if_eq X 20 dX9_become_5 (by decide) ?_ ?_
  · refine k_ldc X w_1016 dX9_become_20 ?_
    exact k_iret X dX9_become_22
  · refine k_iload_n X 2 dX9_become_8 rfl rfl ?_
    refine k_i2l X dX9_become_9 ?_
    refine k_lconst X (v := 1) dX9_become_10 (by decide) ?_
    refine k_ldc2 X w_1164 dX9_become_11 ?_
    refine k_callSI X [.long (Int32.toInt64 x2), .long 1, .long 5] [] (mt_Md_in (zl Z) E (Int32.toInt64 x2) 1 5 M2) mRX9_47 ⟨by decide, by decide⟩ rfl rfl (Nat.le_of_ble_eq_true rfl) dX9_become_14 (fun r3 M4 => ?_)
    refine k_if_ne X 23 dX9_become_17 (by decide) ?_ ?_
    · refine k_aload_n X 0 dX9_become_23 rfl rfl ?_
      refine k_getR X c_326 fRX9_7 r_326_0 dX9_become_24 ?_
      refine k_iload_n X 1 dX9_become_27 rfl rfl ?_
      refine k_callSI X [.ref (ad E 327), .int x1] [] (mt_Md_kind (zl Z) E 327 x1 c_327 l_327 M4) mRX9_51 ⟨by decide, by decide⟩ rfl rfl (Nat.le_of_ble_eq_true rfl) dX9_become_28 (fun r5 M6 => ?_)
      refine k_istore_n X [(3, .int r5), (0, .ref (ad E 326)), (1, .int x1), (2, .int x2)] dX9_become_31 rfl (by decide) rfl ?_
      refine k_iload_n X 0 dX9_become_32 rfl rfl ?_
      refine k_iload_n X 3 dX9_become_33 rfl rfl ?_
      refine k_icmp_eq X 48 dX9_become_34 (by decide) ?_ ?_
      · refine k_ldc X w_1084 dX9_become_48 ?_
        exact k_iret X dX9_become_50
      · refine k_aload_n X 1 dX9_become_37 rfl rfl ?_
        refine k_getR X c_326 fRX9_7 r_326_0 dX9_become_38 ?_
        refine k_iload_n X 2 dX9_become_41 rfl rfl ?_
        refine k_callSI X [.ref (ad E 327), .int x1] [] (mt_Md_where (zl Z) E 327 x1 c_327 l_327 M6) mRX9_63 ⟨by decide, by decide⟩ rfl rfl (Nat.le_of_ble_eq_true rfl) dX9_become_42 (fun r7 M8 => ?_)
        refine k_if_eq X 51 dX9_become_45 (by decide) ?_ ?_
        · refine k_aload_n X 1 dX9_become_51 rfl rfl ?_
          refine k_callVV X [] [] c_326 rfl (by decide) rfl (mt_Md_notes (zl Z) E  M8) mRX9_187 ⟨by decide, by decide⟩ rfl rfl (Nat.le_of_ble_eq_true rfl) dX9_become_52 (fun _ M10 => ?_)
          refine k_aload_n X 1 dX9_become_55 rfl rfl ?_
          refine k_getR X c_326 fRX9_7 r_326_0 dX9_become_56 ?_
          refine k_bipush X (v := 13) dX9_become_59 (by decide) ?_
          refine k_iconst X (v := 4) dX9_become_61 (by decide) ?_
          refine k_iload_n X 2 dX9_become_62 rfl rfl ?_
          refine k_imul X dX9_become_63 ?_
          refine k_iadd X dX9_become_64 ?_
          refine k_iload_n X 3 dX9_become_65 rfl rfl ?_
          refine k_iast X c_327 l_327 dX9_become_66 (fun hb11 => ?_)
          refine k_sq (fun M12 => ?_)
          refine k_iload_n X 0 dX9_become_67 rfl rfl ?_
          exact k_iret X dX9_become_68
        · refine k_ldc X w_1084 dX9_become_48 ?_
          exact k_iret X dX9_become_50
    · refine k_ldc X w_1016 dX9_become_20 ?_
      exact k_iret X dX9_become_22
theorem mt_Md_become (l : Launch) (E : En) (x1 : Int32) (x2 : Int32) (M : Mem) : MI l E yX9_become cX9_become 4 (some .int) 2 46 [.ref (ad E 326), .int x1, .int x2] M (j_Md_become x1 x2 M) := MI_of (by decide) (Nat.le_of_ble_eq_true rfl) (fun Z _ X => k_lv [0, 1, 2] rfl (kw_Md_become X x1 x2 M))
-- FilmCansModel.demand
theorem kw_Md_demand {Z : ZT} {E : En} (X : Cx Z E 5 cX9_demand RX9 (some .int) 2 46) (x1 : Int32) (x2 : Int32) (x3 : Int32) (M : Mem) : Kj Z E 5 (QI Z E) (j_Md_demand x1 x2 x3 M) M 0 [(0, .ref (ad E 326)), (1, .int x1), (2, .int x2), (3, .int x3)] [] := by
  unfold j_Md_demand
  refine k_aload_n X 0 dX9_demand_0 rfl rfl ?_
  refine k_iload_n X 1 dX9_demand_1 rfl rfl ?_
  refine k_callVI X [.int x1] [] c_326 rfl (by decide) rfl (mt_Md_isTake (zl Z) E x1 M) mRX9_190 ⟨by decide, by decide⟩ rfl rfl (Nat.le_of_ble_eq_true rfl) dX9_demand_2 (fun r1 M2 => ?_)
  refine k_if_eq X 32 dX9_demand_5 (by decide) ?_ ?_
  · refine k_ldc X w_1016 dX9_demand_32 ?_
    exact k_iret X dX9_demand_34
  · refine k_iload_n X 2 dX9_demand_8 rfl rfl ?_
    refine k_i2l X dX9_demand_9 ?_
    refine k_lconst X (v := 0) dX9_demand_10 (by decide) ?_
    refine k_ldc2 X w_1164 dX9_demand_11 ?_
    refine k_callSI X [.long (Int32.toInt64 x2), .long 0, .long 5] [] (mt_Md_in (zl Z) E (Int32.toInt64 x2) 0 5 M2) mRX9_47 ⟨by decide, by decide⟩ rfl rfl (Nat.le_of_ble_eq_true rfl) dX9_demand_14 (fun r3 M4 => ?_)
    refine k_if_eq X 32 dX9_demand_17 (by decide) ?_ ?_
    · refine k_ldc X w_1016 dX9_demand_32 ?_
      exact k_iret X dX9_demand_34
    · refine k_iload_n X 3 dX9_demand_20 rfl rfl ?_
      refine k_i2l X dX9_demand_21 ?_
      refine k_lconst X (v := 1) dX9_demand_22 (by decide) ?_
      refine k_ldc2 X w_1170 dX9_demand_23 ?_
      refine k_callSI X [.long (Int32.toInt64 x3), .long 1, .long 60] [] (mt_Md_in (zl Z) E (Int32.toInt64 x3) 1 60 M4) mRX9_47 ⟨by decide, by decide⟩ rfl rfl (Nat.le_of_ble_eq_true rfl) dX9_demand_26 (fun r5 M6 => ?_)
      refine k_if_ne X 35 dX9_demand_29 (by decide) ?_ ?_
      · refine k_aload_n X 0 dX9_demand_35 rfl rfl ?_
        refine k_getR X c_326 fRX9_7 r_326_0 dX9_demand_36 ?_
        refine k_iload_n X 1 dX9_demand_39 rfl rfl ?_
        refine k_callSI X [.ref (ad E 327), .int x1] [] (mt_Md_isOpen (zl Z) E 327 x1 c_327 l_327 M6) mRX9_66 ⟨by decide, by decide⟩ rfl rfl (Nat.le_of_ble_eq_true rfl) dX9_demand_40 (fun r7 M8 => ?_)
        refine k_if_ne X 49 dX9_demand_43 (by decide) ?_ ?_
        · refine k_aload_n X 0 dX9_demand_49 rfl rfl ?_
          refine k_callVV X [] [] c_326 rfl (by decide) rfl (mt_Md_notes (zl Z) E  M8) mRX9_187 ⟨by decide, by decide⟩ rfl rfl (Nat.le_of_ble_eq_true rfl) dX9_demand_50 (fun _ M10 => ?_)
          refine k_aload_n X 0 dX9_demand_53 rfl rfl ?_
          refine k_getR X c_326 fRX9_7 r_326_0 dX9_demand_54 ?_
          refine k_bipush X (v := 41) dX9_demand_57 (by decide) ?_
          refine k_iconst X (v := 3) dX9_demand_59 (by decide) ?_
          refine k_iload_n X 1 dX9_demand_60 rfl rfl ?_
          refine k_imul X dX9_demand_61 ?_
          refine k_iadd X dX9_demand_62 ?_
          refine k_iconst X (v := 1) dX9_demand_63 (by decide) ?_
          refine k_iadd X dX9_demand_64 ?_
          refine k_iald X c_327 l_327 dX9_demand_65 (fun hb11 => ?_)
          refine x_istore X [(0, .ref (ad E 326)), (1, .int x1), (2, .int x2), (3, .int x3)] dX9_demand_66 (by decide) rfl (fun x12_ => ?_)
          refine k_aload_n X 1 dX9_demand_68 rfl rfl ?_
          refine k_getR X c_326 fRX9_7 r_326_0 dX9_demand_69 ?_
          refine k_bipush X (v := 41) dX9_demand_72 (by decide) ?_
          refine k_iconst X (v := 3) dX9_demand_74 (by decide) ?_
          refine k_iload_n X 2 dX9_demand_75 rfl rfl ?_
          refine k_imul X dX9_demand_76 ?_
          refine k_iadd X dX9_demand_77 ?_
          refine k_iload_n X 3 dX9_demand_78 rfl rfl ?_
          refine k_iast X c_327 l_327 dX9_demand_79 (fun hb13 => ?_)
          refine k_sq (fun M14 => ?_)
          refine k_aload_n X 1 dX9_demand_80 rfl rfl ?_
          refine k_getR X c_326 fRX9_7 r_326_0 dX9_demand_81 ?_
          refine k_bipush X (v := 41) dX9_demand_84 (by decide) ?_
          refine k_iconst X (v := 3) dX9_demand_86 (by decide) ?_
          refine k_iload_n X 2 dX9_demand_87 rfl rfl ?_
          refine k_imul X dX9_demand_88 ?_
          refine k_iadd X dX9_demand_89 ?_
          refine k_iconst X (v := 1) dX9_demand_90 (by decide) ?_
          refine k_iadd X dX9_demand_91 ?_
          refine k_iload_n X 4 dX9_demand_92 rfl rfl ?_
          refine k_iast X c_327 l_327 dX9_demand_93 (fun hb15 => ?_)
          refine k_sq (fun M16 => ?_)
          refine k_iload X 0 dX9_demand_94 rfl ?_
          exact k_iret X dX9_demand_96
        · refine k_ldc X w_1084 dX9_demand_46 ?_
          exact k_iret X dX9_demand_48
      · refine k_ldc X w_1016 dX9_demand_32 ?_
        exact k_iret X dX9_demand_34
theorem mt_Md_demand (l : Launch) (E : En) (x1 : Int32) (x2 : Int32) (x3 : Int32) (M : Mem) : MI l E yX9_demand cX9_demand 5 (some .int) 2 46 [.ref (ad E 326), .int x1, .int x2, .int x3] M (j_Md_demand x1 x2 x3 M) := MI_of (by decide) (Nat.le_of_ble_eq_true rfl) (fun Z _ X => k_lv [0, 1, 2, 3] rfl (kw_Md_demand X x1 x2 x3 M))
-- FilmCansModel.law
theorem kb_Md_law_b84 {Z : ZT} {E : En} (X : Cx Z E 5 cX9_law RX9 (some .int) 2 45) (x1 : Int32) (x2 : Int32) (xs0 : Int32) (M : Mem) : Kj Z E 5 (QI Z E) (Md_law_b84 x1 x2 xs0 M) M 84 [(0, .ref (ad E 326)), (1, .int x1), (2, .int x2)] [.int xs0] := by
  unfold Md_law_b84
  refine k_istore_n X [(3, .int xs0), (0, .ref (ad E 326)), (1, .int x1), (2, .int x2)] dX9_law_84 rfl (by decide) rfl ?_
  refine k_iload_n X 0 dX9_law_85 rfl rfl ?_
  refine k_if_ne X 92 dX9_law_86 (by decide) ?_ ?_
  · refine k_aload_n X 1 dX9_law_92 rfl rfl ?_
    refine k_callVV X [] [] c_326 rfl (by decide) rfl (mt_Md_notes (zl Z) E  M) mRX9_187 ⟨by decide, by decide⟩ rfl rfl (Nat.le_of_ble_eq_true rfl) dX9_law_93 (fun _ M4 => ?_)
    refine k_aload_n X 1 dX9_law_96 rfl rfl ?_
    refine k_getR X c_326 fRX9_7 r_326_0 dX9_law_97 ?_
    refine k_iload_n X 2 dX9_law_100 rfl rfl ?_
    refine k_iald X c_327 l_327 dX9_law_101 (fun hb5 => ?_)
    refine x_istore X [(3, .int xs0), (0, .ref (ad E 326)), (1, .int x1), (2, .int x2)] dX9_law_102 (by decide) rfl (fun x6_ => ?_)
    refine k_aload_n X 2 dX9_law_104 rfl rfl ?_
    refine k_getR X c_326 fRX9_7 r_326_0 dX9_law_105 ?_
    refine k_iload_n X 3 dX9_law_108 rfl rfl ?_
    refine k_iload_n X 4 dX9_law_109 rfl rfl ?_
    refine k_iast X c_327 l_327 dX9_law_110 (fun hb7 => ?_)
    refine k_sq (fun M8 => ?_)
    refine k_iload X 0 dX9_law_111 rfl ?_
    exact k_iret X dX9_law_113
  · refine k_ldc X w_1016 dX9_law_89 ?_
    exact k_iret X dX9_law_91
theorem kb_Md_law_b83 {Z : ZT} {E : En} (X : Cx Z E 5 cX9_law RX9 (some .int) 2 45) (x1 : Int32) (x2 : Int32) (M : Mem) : Kj Z E 5 (QI Z E) (Md_law_b83 x1 x2 M) M 83 [(0, .ref (ad E 326)), (1, .int x1), (2, .int x2)] [] := by
  unfold Md_law_b83
  refine k_iconst X (v := 0) dX9_law_83 (by decide) ?_
  refine k_lv [0, 1, 2] rfl ?_
  exact kb_Md_law_b84 X  x1 x2 0 M
theorem kb_Md_law_b79 {Z : ZT} {E : En} (X : Cx Z E 5 cX9_law RX9 (some .int) 2 45) (x1 : Int32) (x2 : Int32) (M : Mem) : Kj Z E 5 (QI Z E) (Md_law_b79 x1 x2 M) M 79 [(0, .ref (ad E 326)), (1, .int x1), (2, .int x2)] [] := by
  unfold Md_law_b79
  refine k_iconst X (v := 1) dX9_law_79 (by decide) ?_
  refine k_goto X 84 dX9_law_80 (by decide) ?_
  refine k_lv [0, 1, 2] rfl ?_
  exact kb_Md_law_b84 X  x1 x2 1 M
theorem kb_Md_law_b62 {Z : ZT} {E : En} (X : Cx Z E 5 cX9_law RX9 (some .int) 2 45) (x1 : Int32) (x2 : Int32) (M : Mem) : Kj Z E 5 (QI Z E) (Md_law_b62 x1 x2 M) M 62 [(0, .ref (ad E 326)), (1, .int x1), (2, .int x2)] [] := by
  unfold Md_law_b62
  refine k_iload_n X 1 dX9_law_62 rfl rfl ?_
  refine k_iconst X (v := 3) dX9_law_63 (by decide) ?_
  refine k_icmp_ne X 83 dX9_law_64 (by decide) ?_ ?_
  · refine k_lv [0, 1, 2] rfl ?_
    exact kb_Md_law_b83 X  x1 x2 M
  · refine k_iload_n X 2 dX9_law_67 rfl rfl ?_
    refine k_i2l X dX9_law_68 ?_
    refine k_lconst X (v := 0) dX9_law_69 (by decide) ?_
    refine k_ldc2 X w_1186 dX9_law_70 ?_
    refine k_callSI X [.long (Int32.toInt64 x2), .long 0, .long 20] [] (mt_Md_in (zl Z) E (Int32.toInt64 x2) 0 20 M) mRX9_47 ⟨by decide, by decide⟩ rfl rfl (Nat.le_of_ble_eq_true rfl) dX9_law_73 (fun r9 M10 => ?_)
    refine k_if_eq X 83 dX9_law_76 (by decide) ?_ ?_
    · refine k_lv [0, 1, 2] rfl ?_
      exact kb_Md_law_b83 X  x1 x2 M10
    · refine k_lv [0, 1, 2] rfl ?_
      exact kb_Md_law_b79 X  x1 x2 M10
theorem kb_Md_law_b43 {Z : ZT} {E : En} (X : Cx Z E 5 cX9_law RX9 (some .int) 2 45) (x1 : Int32) (x2 : Int32) (M : Mem) : Kj Z E 5 (QI Z E) (Md_law_b43 x1 x2 M) M 43 [(0, .ref (ad E 326)), (1, .int x1), (2, .int x2)] [] := by
  unfold Md_law_b43
  refine k_iload_n X 1 dX9_law_43 rfl rfl ?_
  refine k_iconst X (v := 2) dX9_law_44 (by decide) ?_
  refine k_icmp_ne X 62 dX9_law_45 (by decide) ?_ ?_
  · refine k_lv [0, 1, 2] rfl ?_
    exact kb_Md_law_b62 X  x1 x2 M
  · refine k_iload_n X 2 dX9_law_48 rfl rfl ?_
    refine k_i2l X dX9_law_49 ?_
    refine k_ldc2 X w_1185 dX9_law_50 ?_
    refine k_ldc2 X w_1165 dX9_law_53 ?_
    refine k_callSI X [.long (Int32.toInt64 x2), .long 10, .long 99] [] (mt_Md_in (zl Z) E (Int32.toInt64 x2) 10 99 M) mRX9_47 ⟨by decide, by decide⟩ rfl rfl (Nat.le_of_ble_eq_true rfl) dX9_law_56 (fun r11 M12 => ?_)
    refine k_if_ne X 79 dX9_law_59 (by decide) ?_ ?_
    · refine k_lv [0, 1, 2] rfl ?_
      exact kb_Md_law_b79 X  x1 x2 M12
    · refine k_lv [0, 1, 2] rfl ?_
      exact kb_Md_law_b62 X  x1 x2 M12
theorem kb_Md_law_b26 {Z : ZT} {E : En} (X : Cx Z E 5 cX9_law RX9 (some .int) 2 45) (x1 : Int32) (x2 : Int32) (M : Mem) : Kj Z E 5 (QI Z E) (Md_law_b26 x1 x2 M) M 26 [(0, .ref (ad E 326)), (1, .int x1), (2, .int x2)] [] := by
  unfold Md_law_b26
  refine k_iload_n X 1 dX9_law_26 rfl rfl ?_
  refine k_iconst X (v := 1) dX9_law_27 (by decide) ?_
  refine k_icmp_ne X 43 dX9_law_28 (by decide) ?_ ?_
  · refine k_lv [0, 1, 2] rfl ?_
    exact kb_Md_law_b43 X  x1 x2 M
  · refine k_iload_n X 2 dX9_law_31 rfl rfl ?_
    refine k_i2l X dX9_law_32 ?_
    refine k_lconst X (v := 1) dX9_law_33 (by decide) ?_
    refine k_ldc2 X w_1184 dX9_law_34 ?_
    refine k_callSI X [.long (Int32.toInt64 x2), .long 1, .long 40] [] (mt_Md_in (zl Z) E (Int32.toInt64 x2) 1 40 M) mRX9_47 ⟨by decide, by decide⟩ rfl rfl (Nat.le_of_ble_eq_true rfl) dX9_law_37 (fun r13 M14 => ?_)
    refine k_if_ne X 79 dX9_law_40 (by decide) ?_ ?_
    · refine k_lv [0, 1, 2] rfl ?_
      exact kb_Md_law_b79 X  x1 x2 M14
    · refine k_lv [0, 1, 2] rfl ?_
      exact kb_Md_law_b43 X  x1 x2 M14
theorem kw_Md_law {Z : ZT} {E : En} (X : Cx Z E 5 cX9_law RX9 (some .int) 2 45) (x1 : Int32) (x2 : Int32) (M : Mem) : Kj Z E 5 (QI Z E) (j_Md_law x1 x2 M) M 0 [(0, .ref (ad E 326)), (1, .int x1), (2, .int x2)] [] := by
  unfold j_Md_law
  refine k_aload_n X 0 dX9_law_0 rfl rfl ?_
  refine k_callVI X [] [] c_326 rfl (by decide) rfl (mt_Md_isBook (zl Z) E  M) mRX9_200 ⟨by decide, by decide⟩ rfl rfl (Nat.le_of_ble_eq_true rfl) dX9_law_1 (fun r1 M2 => ?_)
  refine k_if_ne X 10 dX9_law_4 (by decide) ?_ ?_
  · refine k_iload_n X 1 dX9_law_10 rfl rfl ?_
    refine k_if_ne X 26 dX9_law_11 (by decide) ?_ ?_
    · refine k_lv [0, 1, 2] rfl ?_
      exact kb_Md_law_b26 X  x1 x2 M2
    · refine k_iload_n X 2 dX9_law_14 rfl rfl ?_
      refine k_i2l X dX9_law_15 ?_
      refine k_lconst X (v := 0) dX9_law_16 (by decide) ?_
      refine k_ldc2 X w_1183 dX9_law_17 ?_
      refine k_callSI X [.long (Int32.toInt64 x2), .long 0, .long 9] [] (mt_Md_in (zl Z) E (Int32.toInt64 x2) 0 9 M2) mRX9_47 ⟨by decide, by decide⟩ rfl rfl (Nat.le_of_ble_eq_true rfl) dX9_law_20 (fun r15 M16 => ?_)
      refine k_if_ne X 79 dX9_law_23 (by decide) ?_ ?_
      · refine k_lv [0, 1, 2] rfl ?_
        exact kb_Md_law_b79 X  x1 x2 M16
      · refine k_lv [0, 1, 2] rfl ?_
        exact kb_Md_law_b26 X  x1 x2 M16
  · refine k_ldc X w_1084 dX9_law_7 ?_
    exact k_iret X dX9_law_9
theorem mt_Md_law (l : Launch) (E : En) (x1 : Int32) (x2 : Int32) (M : Mem) : MI l E yX9_law cX9_law 5 (some .int) 2 45 [.ref (ad E 326), .int x1, .int x2] M (j_Md_law x1 x2 M) := MI_of (by decide) (Nat.le_of_ble_eq_true rfl) (fun Z _ X => k_lv [0, 1, 2] rfl (kw_Md_law X x1 x2 M))
-- FilmCansModel.shotOn
theorem kb_Md_shotOn_b39 {Z : ZT} {E : En} (X : Cx Z E 4 cX9_shotOn RX9 (some .int) 0 0) (k4 : Int32 → Int32 → Int32 → Mem → Option (Int32 × Mem)) (hk4 : ∀ (x1 : Int32) (x2 : Int32) (x3 : Int32) (M : Mem), Kj Z E 4 (QI Z E) (k4 x1 x2 x3 M) M 4 [(0, .ref (ad E 326)), (1, .int x1), (2, .int x2), (3, .int x3)] []) (x1 : Int32) (x3 : Int32) (xs0 : Int32) (xs1 : Int32) (M : Mem) : Kj Z E 4 (QI Z E) (Md_shotOn_b39 k4 x1 x3 xs0 xs1 M) M 39 [(0, .ref (ad E 326)), (1, .int x1), (3, .int x3)] [.int xs0, .int xs1] := by
  unfold Md_shotOn_b39
  refine k_ior X dX9_shotOn_39 ?_
  refine x_istore_n X [(0, .ref (ad E 326)), (1, .int x1), (3, .int x3)] dX9_shotOn_40 rfl (by decide) rfl (fun x5_ => ?_)
  refine x_iinc X 1 3 [(2, .int x5_), (0, .ref (ad E 326)), (1, .int x1)] dX9_shotOn_41 rfl (by decide) (by decide) rfl (fun x6_ => ?_)
  refine k_goto X 4 dX9_shotOn_44 (by decide) ?_
  refine k_lv [2, 3, 1, 0] rfl ?_
  exact hk4 x1 x5_ x6_ M
theorem kb_Md_shotOn_h4 {Z : ZT} {E : En} (X : Cx Z E 4 cX9_shotOn RX9 (some .int) 0 0)  : ∀ (n : Nat) (x1 : Int32) (x2 : Int32) (x3 : Int32) (M : Mem), Kj Z E 4 (QI Z E) (Md_shotOn_h4  n x1 x2 x3 M) M 4 [(0, .ref (ad E 326)), (1, .int x1), (2, .int x2), (3, .int x3)] [] := by
  intro n
  induction n with
  | zero => intro x1 x2 x3 M; exact k_none
  | succ n ih =>
    intro x1 x2 x3 M
    rw [Md_shotOn_h4]
    refine k_iload_n X 3 dX9_shotOn_4 rfl rfl ?_
    refine k_aload_n X 0 dX9_shotOn_5 rfl rfl ?_
    refine k_getR X c_326 fRX9_7 r_326_0 dX9_shotOn_6 ?_
    refine k_iconst X (v := 5) dX9_shotOn_9 (by decide) ?_
    refine k_ialdC X 5 c_327 l_327 (by decide) (by decide) dX9_shotOn_10 ?_
    refine k_icmp_ge X 47 dX9_shotOn_11 (by decide) ?_ ?_
    · refine k_iload_n X 2 dX9_shotOn_47 rfl rfl ?_
      exact k_iret X dX9_shotOn_48
    · refine k_iload_n X 2 dX9_shotOn_14 rfl rfl ?_
      refine k_aload_n X 0 dX9_shotOn_15 rfl rfl ?_
      refine k_getR X c_326 fRX9_7 r_326_0 dX9_shotOn_16 ?_
      refine k_bipush X (v := 41) dX9_shotOn_19 (by decide) ?_
      refine k_iconst X (v := 3) dX9_shotOn_21 (by decide) ?_
      refine k_iload_n X 3 dX9_shotOn_22 rfl rfl ?_
      refine k_imul X dX9_shotOn_23 ?_
      refine k_iadd X dX9_shotOn_24 ?_
      refine k_iconst X (v := 2) dX9_shotOn_25 (by decide) ?_
      refine k_iadd X dX9_shotOn_26 ?_
      refine k_iald X c_327 l_327 dX9_shotOn_27 (fun hb4 => ?_)
      refine k_iload_n X 1 dX9_shotOn_28 rfl rfl ?_
      refine k_icmp_ne X 38 dX9_shotOn_29 (by decide) ?_ ?_
      · refine k_iconst X (v := 0) dX9_shotOn_38 (by decide) ?_
        refine k_lv [0, 1, 3] rfl ?_
        exact kb_Md_shotOn_b39 X (fun x1 x2 x3 M => Md_shotOn_h4 n x1 x2 x3 M) (fun x1 x2 x3 M => ih x1 x2 x3 M) x1 x3 0 x2 M
      · refine k_iconst X (v := 1) dX9_shotOn_32 (by decide) ?_
        refine k_iload_n X 3 dX9_shotOn_33 rfl rfl ?_
        refine k_ishl X dX9_shotOn_34 ?_
        refine k_goto X 39 dX9_shotOn_35 (by decide) ?_
        refine k_lv [0, 1, 3] rfl ?_
        exact kb_Md_shotOn_b39 X (fun x1 x2 x3 M => Md_shotOn_h4 n x1 x2 x3 M) (fun x1 x2 x3 M => ih x1 x2 x3 M) x1 x3 ((1 : Int32) <<< (x3 &&& 31)) x2 M
theorem kw_Md_shotOn {Z : ZT} {E : En} (X : Cx Z E 4 cX9_shotOn RX9 (some .int) 0 0) (x1 : Int32) (M : Mem) : Kj Z E 4 (QI Z E) (j_Md_shotOn x1 M) M 0 [(0, .ref (ad E 326)), (1, .int x1)] [] := by
  unfold j_Md_shotOn
  refine k_iconst X (v := 0) dX9_shotOn_0 (by decide) ?_
  refine x_istore_n X [(0, .ref (ad E 326)), (1, .int x1)] dX9_shotOn_1 rfl (by decide) rfl (fun x1_ => ?_)
  refine k_iconst X (v := 0) dX9_shotOn_2 (by decide) ?_
  refine x_istore_n X [(2, .int x1_), (0, .ref (ad E 326)), (1, .int x1)] dX9_shotOn_3 rfl (by decide) rfl (fun x2_ => ?_)
  refine k_lv [2, 3, 1, 0] rfl ?_
  exact kb_Md_shotOn_h4 X  FU x1 x1_ x2_ M
theorem mt_Md_shotOn (l : Launch) (E : En) (x1 : Int32) (M : Mem) : MI l E yX9_shotOn cX9_shotOn 4 (some .int) 0 0 [.ref (ad E 326), .int x1] M (j_Md_shotOn x1 M) := MI_of (by decide) (Nat.le_of_ble_eq_true rfl) (fun Z _ X => k_lv [0, 1] rfl (kw_Md_shotOn X x1 M))
-- FilmCansModel.can
theorem kw_Md_can {Z : ZT} {E : En} (X : Cx Z E 3 cX9_can RX9 (some .int) 2 46) (x1 : Int32) (x2 : Int32) (M : Mem) : Kj Z E 3 (QI Z E) (j_Md_can x1 x2 M) M 0 [(0, .ref (ad E 326)), (1, .int x1), (2, .int x2)] [] := by
  unfold j_Md_can
  refine k_aload_n X 0 dX9_can_0 rfl rfl ?_
  refine k_iload_n X 1 dX9_can_1 rfl rfl ?_
  refine k_callVI X [.int x1] [] c_326 rfl (by decide) rfl (mt_Md_isCan (zl Z) E x1 M) mRX9_183 ⟨by decide, by decide⟩ rfl rfl (Nat.le_of_ble_eq_true rfl) dX9_can_2 (fun r1 M2 => ?_)
  refine k_if_ne X 11 dX9_can_5 (by decide) ?_ ?_
  · refine k_iload_n X 2 dX9_can_11 rfl rfl ?_
    refine k_if (fun hs0 => ?_) (fun hs0 => ?_)
    · refine k_lt_in X 0 (off := 48) 60 dX9_can_12 hs0 (by decide) (by decide) (by decide) (by decide) ?_
      refine k_aload_n X 0 dX9_can_60 rfl rfl ?_
      refine k_getR X c_326 fRX9_7 r_326_0 dX9_can_61 ?_
      refine k_bipush X (v := 13) dX9_can_64 (by decide) ?_
      refine k_iconst X (v := 4) dX9_can_66 (by decide) ?_
      refine k_iload_n X 1 dX9_can_67 rfl rfl ?_
      refine k_imul X dX9_can_68 ?_
      refine k_iadd X dX9_can_69 ?_
      refine k_iload_n X 2 dX9_can_70 rfl rfl ?_
      refine k_iadd X dX9_can_71 ?_
      refine k_iald X c_327 l_327 dX9_can_72 (fun hb3 => ?_)
      exact k_iret X dX9_can_73
    · refine k_if (fun hs1 => ?_) (fun hs1 => ?_)
      · refine k_lt_in X 1 (off := 48) 60 dX9_can_12 hs1 (by decide) (by decide) (by decide) (by decide) ?_
        refine k_aload_n X 0 dX9_can_60 rfl rfl ?_
        refine k_getR X c_326 fRX9_7 r_326_0 dX9_can_61 ?_
        refine k_bipush X (v := 13) dX9_can_64 (by decide) ?_
        refine k_iconst X (v := 4) dX9_can_66 (by decide) ?_
        refine k_iload_n X 1 dX9_can_67 rfl rfl ?_
        refine k_imul X dX9_can_68 ?_
        refine k_iadd X dX9_can_69 ?_
        refine k_iload_n X 2 dX9_can_70 rfl rfl ?_
        refine k_iadd X dX9_can_71 ?_
        refine k_iald X c_327 l_327 dX9_can_72 (fun hb4 => ?_)
        exact k_iret X dX9_can_73
      · refine k_if (fun hs2 => ?_) (fun hs2 => ?_)
        · refine k_lt_in X 2 (off := 48) 60 dX9_can_12 hs2 (by decide) (by decide) (by decide) (by decide) ?_
          refine k_aload_n X 0 dX9_can_60 rfl rfl ?_
          refine k_getR X c_326 fRX9_7 r_326_0 dX9_can_61 ?_
          refine k_bipush X (v := 13) dX9_can_64 (by decide) ?_
          refine k_iconst X (v := 4) dX9_can_66 (by decide) ?_
          refine k_iload_n X 1 dX9_can_67 rfl rfl ?_
          refine k_imul X dX9_can_68 ?_
          refine k_iadd X dX9_can_69 ?_
          refine k_iload_n X 2 dX9_can_70 rfl rfl ?_
          refine k_iadd X dX9_can_71 ?_
          refine k_iald X c_327 l_327 dX9_can_72 (fun hb5 => ?_)
          exact k_iret X dX9_can_73
        · refine k_if (fun hs3 => ?_) (fun hs3 => ?_)
          · refine k_lt_in X 3 (off := 48) 60 dX9_can_12 hs3 (by decide) (by decide) (by decide) (by decide) ?_
            refine k_aload_n X 0 dX9_can_60 rfl rfl ?_
            refine k_getR X c_326 fRX9_7 r_326_0 dX9_can_61 ?_
            refine k_bipush X (v := 13) dX9_can_64 (by decide) ?_
            refine k_iconst X (v := 4) dX9_can_66 (by decide) ?_
            refine k_iload_n X 1 dX9_can_67 rfl rfl ?_
            refine k_imul X dX9_can_68 ?_
            refine k_iadd X dX9_can_69 ?_
            refine k_iload_n X 2 dX9_can_70 rfl rfl ?_
            refine k_iadd X dX9_can_71 ?_
            refine k_iald X c_327 l_327 dX9_can_72 (fun hb6 => ?_)
            exact k_iret X dX9_can_73
          · refine k_if (fun hs4 => ?_) (fun hs4 => ?_)
            · refine k_lt_in X 4 (off := 62) 74 dX9_can_12 hs4 (by decide) (by decide) (by decide) (by decide) ?_
              refine k_aload_n X 0 dX9_can_74 rfl rfl ?_
              refine k_iload_n X 1 dX9_can_75 rfl rfl ?_
              refine k_callVI X [.int x1] [] c_326 rfl (by decide) rfl (mt_Md_shotOn (zl Z) E x1 M2) mRX9_217 ⟨by decide, by decide⟩ rfl rfl (Nat.le_of_ble_eq_true rfl) dX9_can_76 (fun r7 M8 => ?_)
              exact k_iret X dX9_can_79
            · refine k_if (fun hs5 => ?_) (fun hs5 => ?_)
              · refine k_lt_in X 5 (off := 68) 80 dX9_can_12 hs5 (by decide) (by decide) (by decide) (by decide) ?_
                refine k_aload_n X 0 dX9_can_80 rfl rfl ?_
                refine k_getR X c_326 fRX9_7 r_326_0 dX9_can_81 ?_
                refine k_iload_n X 1 dX9_can_84 rfl rfl ?_
                refine k_callSI X [.ref (ad E 327), .int x1] [] (mt_Md_lead (zl Z) E 327 x1 c_327 l_327 M2) mRX9_73 ⟨by decide, by decide⟩ rfl rfl (Nat.le_of_ble_eq_true rfl) dX9_can_85 (fun r9 M10 => ?_)
                exact k_iret X dX9_can_88
              · refine k_if (fun hs6 => ?_) (fun hs6 => ?_)
                · refine k_lt_in X 6 (off := 77) 89 dX9_can_12 hs6 (by decide) (by decide) (by decide) (by decide) ?_
                  refine k_aload_n X 0 dX9_can_89 rfl rfl ?_
                  refine k_getR X c_326 fRX9_7 r_326_0 dX9_can_90 ?_
                  refine k_iload_n X 1 dX9_can_93 rfl rfl ?_
                  refine k_callSI X [.ref (ad E 327), .int x1] [] (mt_Md_slate (zl Z) E 327 x1 c_327 l_327 M2) mRX9_83 ⟨by decide, by decide⟩ rfl rfl (Nat.le_of_ble_eq_true rfl) dX9_can_94 (fun r11 M12 => ?_)
                  exact k_iret X dX9_can_97
                · refine k_if (fun hs7 => ?_) (fun hs7 => ?_)
                  · refine k_lt_in X 7 (off := 86) 98 dX9_can_12 hs7 (by decide) (by decide) (by decide) (by decide) ?_
                    refine k_aload_n X 0 dX9_can_98 rfl rfl ?_
                    refine k_getR X c_326 fRX9_7 r_326_0 dX9_can_99 ?_
                    refine k_iload_n X 1 dX9_can_102 rfl rfl ?_
                    refine k_callSI X [.ref (ad E 327), .int x1] [] (mt_Md_leastEnd (zl Z) E 327 x1 c_327 l_327 M2) mRX9_60 ⟨by decide, by decide⟩ rfl rfl (Nat.le_of_ble_eq_true rfl) dX9_can_103 (fun r13 M14 => ?_)
                    exact k_iret X dX9_can_106
                  · refine k_lt_out X 107 dX9_can_12 (tsw_out 0 8 (by decide) (by decide) (by decide) (lt_s (lt_s (lt_s (lt_s (lt_s (lt_s (lt_s (lt_s lt_0 hs0) hs1) hs2) hs3) hs4) hs5) hs6) hs7)) (by decide) ?_
                    refine k_ldc X w_1016 dX9_can_107 ?_
                    exact k_iret X dX9_can_109
  · refine k_ldc X w_1016 dX9_can_8 ?_
    exact k_iret X dX9_can_10
theorem mt_Md_can (l : Launch) (E : En) (x1 : Int32) (x2 : Int32) (M : Mem) : MI l E yX9_can cX9_can 3 (some .int) 2 46 [.ref (ad E 326), .int x1, .int x2] M (j_Md_can x1 x2 M) := MI_of (by decide) (Nat.le_of_ble_eq_true rfl) (fun Z _ X => k_lv [0, 1, 2] rfl (kw_Md_can X x1 x2 M))
-- FilmCansModel.serving
theorem kb_Md_serving_b34 {Z : ZT} {E : En} (X : Cx Z E 4 cX9_serving RX9 (some .int) 2 43) (k4 : Int32 → Int32 → Int32 → Mem → Option (Int32 × Mem)) (hk4 : ∀ (x1 : Int32) (x2 : Int32) (x3 : Int32) (M : Mem), Kj Z E 4 (QI Z E) (k4 x1 x2 x3 M) M 4 [(0, .ref (ad E 326)), (1, .int x1), (2, .int x2), (3, .int x3)] []) (x1 : Int32) (x3 : Int32) (xs0 : Int32) (xs1 : Int32) (M : Mem) : Kj Z E 4 (QI Z E) (Md_serving_b34 k4 x1 x3 xs0 xs1 M) M 34 [(0, .ref (ad E 326)), (1, .int x1), (3, .int x3)] [.int xs0, .int xs1] := by
  unfold Md_serving_b34
  refine k_ior X dX9_serving_34 ?_
  refine x_istore_n X [(0, .ref (ad E 326)), (1, .int x1), (3, .int x3)] dX9_serving_35 rfl (by decide) rfl (fun x6_ => ?_)
  refine x_iinc X 1 3 [(2, .int x6_), (0, .ref (ad E 326)), (1, .int x1)] dX9_serving_36 rfl (by decide) (by decide) rfl (fun x7_ => ?_)
  refine k_goto X 4 dX9_serving_39 (by decide) ?_
  refine k_lv [2, 3, 1, 0] rfl ?_
  exact hk4 x1 x6_ x7_ M
theorem kb_Md_serving_h4 {Z : ZT} {E : En} (X : Cx Z E 4 cX9_serving RX9 (some .int) 2 43)  : ∀ (n : Nat) (x1 : Int32) (x2 : Int32) (x3 : Int32) (M : Mem), Kj Z E 4 (QI Z E) (Md_serving_h4  n x1 x2 x3 M) M 4 [(0, .ref (ad E 326)), (1, .int x1), (2, .int x2), (3, .int x3)] [] := by
  intro n
  induction n with
  | zero => intro x1 x2 x3 M; exact k_none
  | succ n ih =>
    intro x1 x2 x3 M
    rw [Md_serving_h4]
    refine k_iload_n X 3 dX9_serving_4 rfl rfl ?_
    refine k_aload_n X 0 dX9_serving_5 rfl rfl ?_
    refine k_getR X c_326 fRX9_7 r_326_0 dX9_serving_6 ?_
    refine k_iconst X (v := 4) dX9_serving_9 (by decide) ?_
    refine k_ialdC X 4 c_327 l_327 (by decide) (by decide) dX9_serving_10 ?_
    refine k_icmp_ge X 42 dX9_serving_11 (by decide) ?_ ?_
    · refine k_iload_n X 2 dX9_serving_42 rfl rfl ?_
      exact k_iret X dX9_serving_43
    · refine k_iload_n X 2 dX9_serving_14 rfl rfl ?_
      refine k_aload_n X 0 dX9_serving_15 rfl rfl ?_
      refine k_getR X c_326 fRX9_7 r_326_0 dX9_serving_16 ?_
      refine k_iload_n X 3 dX9_serving_19 rfl rfl ?_
      refine k_iload_n X 1 dX9_serving_20 rfl rfl ?_
      refine k_callSI X [.ref (ad E 327), .int x3, .int x1] [.int x2] (mt_Md_serves (zl Z) E 327 x3 x1 c_327 l_327 M) mRX9_79 ⟨by decide, by decide⟩ rfl rfl (Nat.le_of_ble_eq_true rfl) dX9_serving_21 (fun r4 M5 => ?_)
      refine k_if_eq X 33 dX9_serving_24 (by decide) ?_ ?_
      · refine k_iconst X (v := 0) dX9_serving_33 (by decide) ?_
        refine k_lv [0, 1, 3] rfl ?_
        exact kb_Md_serving_b34 X (fun x1 x2 x3 M => Md_serving_h4 n x1 x2 x3 M) (fun x1 x2 x3 M => ih x1 x2 x3 M) x1 x3 0 x2 M5
      · refine k_iconst X (v := 1) dX9_serving_27 (by decide) ?_
        refine k_iload_n X 3 dX9_serving_28 rfl rfl ?_
        refine k_ishl X dX9_serving_29 ?_
        refine k_goto X 34 dX9_serving_30 (by decide) ?_
        refine k_lv [0, 1, 3] rfl ?_
        exact kb_Md_serving_b34 X (fun x1 x2 x3 M => Md_serving_h4 n x1 x2 x3 M) (fun x1 x2 x3 M => ih x1 x2 x3 M) x1 x3 ((1 : Int32) <<< (x3 &&& 31)) x2 M5
theorem kw_Md_serving {Z : ZT} {E : En} (X : Cx Z E 4 cX9_serving RX9 (some .int) 2 43) (x1 : Int32) (M : Mem) : Kj Z E 4 (QI Z E) (j_Md_serving x1 M) M 0 [(0, .ref (ad E 326)), (1, .int x1)] [] := by
  unfold j_Md_serving
  refine k_iconst X (v := 0) dX9_serving_0 (by decide) ?_
  refine x_istore_n X [(0, .ref (ad E 326)), (1, .int x1)] dX9_serving_1 rfl (by decide) rfl (fun x1_ => ?_)
  refine k_iconst X (v := 0) dX9_serving_2 (by decide) ?_
  refine x_istore_n X [(2, .int x1_), (0, .ref (ad E 326)), (1, .int x1)] dX9_serving_3 rfl (by decide) rfl (fun x2_ => ?_)
  refine k_lv [2, 3, 1, 0] rfl ?_
  exact kb_Md_serving_h4 X  FU x1 x1_ x2_ M
theorem mt_Md_serving (l : Launch) (E : En) (x1 : Int32) (M : Mem) : MI l E yX9_serving cX9_serving 4 (some .int) 2 43 [.ref (ad E 326), .int x1] M (j_Md_serving x1 M) := MI_of (by decide) (Nat.le_of_ble_eq_true rfl) (fun Z _ X => k_lv [0, 1] rfl (kw_Md_serving X x1 M))
-- FilmCansModel.take
theorem kw_Md_take {Z : ZT} {E : En} (X : Cx Z E 3 cX9_take RX9 (some .int) 3 66) (x1 : Int32) (x2 : Int32) (M : Mem) : Kj Z E 3 (QI Z E) (j_Md_take x1 x2 M) M 0 [(0, .ref (ad E 326)), (1, .int x1), (2, .int x2)] [] := by
  unfold j_Md_take
  refine k_aload_n X 0 dX9_take_0 rfl rfl ?_
  refine k_iload_n X 1 dX9_take_1 rfl rfl ?_
  refine k_callVI X [.int x1] [] c_326 rfl (by decide) rfl (mt_Md_isTake (zl Z) E x1 M) mRX9_190 ⟨by decide, by decide⟩ rfl rfl (Nat.le_of_ble_eq_true rfl) dX9_take_2 (fun r1 M2 => ?_)
  refine k_if_ne X 11 dX9_take_5 (by decide) ?_ ?_
  · refine k_iload_n X 2 dX9_take_11 rfl rfl ?_
    refine k_if (fun hs0 => ?_) (fun hs0 => ?_)
    · refine k_lt_in X 0 (off := 32) 44 dX9_take_12 hs0 (by decide) (by decide) (by decide) (by decide) ?_
      refine k_aload_n X 0 dX9_take_44 rfl rfl ?_
      refine k_getR X c_326 fRX9_7 r_326_0 dX9_take_45 ?_
      refine k_bipush X (v := 41) dX9_take_48 (by decide) ?_
      refine k_iconst X (v := 3) dX9_take_50 (by decide) ?_
      refine k_iload_n X 1 dX9_take_51 rfl rfl ?_
      refine k_imul X dX9_take_52 ?_
      refine k_iadd X dX9_take_53 ?_
      refine k_iload_n X 2 dX9_take_54 rfl rfl ?_
      refine k_iadd X dX9_take_55 ?_
      refine k_iald X c_327 l_327 dX9_take_56 (fun hb3 => ?_)
      exact k_iret X dX9_take_57
    · refine k_if (fun hs1 => ?_) (fun hs1 => ?_)
      · refine k_lt_in X 1 (off := 32) 44 dX9_take_12 hs1 (by decide) (by decide) (by decide) (by decide) ?_
        refine k_aload_n X 0 dX9_take_44 rfl rfl ?_
        refine k_getR X c_326 fRX9_7 r_326_0 dX9_take_45 ?_
        refine k_bipush X (v := 41) dX9_take_48 (by decide) ?_
        refine k_iconst X (v := 3) dX9_take_50 (by decide) ?_
        refine k_iload_n X 1 dX9_take_51 rfl rfl ?_
        refine k_imul X dX9_take_52 ?_
        refine k_iadd X dX9_take_53 ?_
        refine k_iload_n X 2 dX9_take_54 rfl rfl ?_
        refine k_iadd X dX9_take_55 ?_
        refine k_iald X c_327 l_327 dX9_take_56 (fun hb4 => ?_)
        exact k_iret X dX9_take_57
      · refine k_if (fun hs2 => ?_) (fun hs2 => ?_)
        · refine k_lt_in X 2 (off := 46) 58 dX9_take_12 hs2 (by decide) (by decide) (by decide) (by decide) ?_
          refine k_aload_n X 0 dX9_take_58 rfl rfl ?_
          refine k_getR X c_326 fRX9_7 r_326_0 dX9_take_59 ?_
          refine k_iload_n X 1 dX9_take_62 rfl rfl ?_
          refine k_callSI X [.ref (ad E 327), .int x1] [] (mt_Md_isOpen (zl Z) E 327 x1 c_327 l_327 M2) mRX9_66 ⟨by decide, by decide⟩ rfl rfl (Nat.le_of_ble_eq_true rfl) dX9_take_63 (fun r5 M6 => ?_)
          refine k_if_eq X 74 dX9_take_66 (by decide) ?_ ?_
          · refine k_aload_n X 0 dX9_take_74 rfl rfl ?_
            refine k_getR X c_326 fRX9_7 r_326_0 dX9_take_75 ?_
            refine k_bipush X (v := 41) dX9_take_78 (by decide) ?_
            refine k_iconst X (v := 3) dX9_take_80 (by decide) ?_
            refine k_iload_n X 1 dX9_take_81 rfl rfl ?_
            refine k_imul X dX9_take_82 ?_
            refine k_iadd X dX9_take_83 ?_
            refine k_iconst X (v := 2) dX9_take_84 (by decide) ?_
            refine k_iadd X dX9_take_85 ?_
            refine k_iald X c_327 l_327 dX9_take_86 (fun hb7 => ?_)
            exact k_iret X dX9_take_87
          · refine k_ldc X w_1139 dX9_take_69 ?_
            refine k_goto X 87 dX9_take_71 (by decide) ?_
            exact k_iret X dX9_take_87
        · refine k_if (fun hs3 => ?_) (fun hs3 => ?_)
          · refine k_lt_in X 3 (off := 76) 88 dX9_take_12 hs3 (by decide) (by decide) (by decide) (by decide) ?_
            refine k_aload_n X 0 dX9_take_88 rfl rfl ?_
            refine k_iload_n X 1 dX9_take_89 rfl rfl ?_
            refine k_callVI X [.int x1] [] c_326 rfl (by decide) rfl (mt_Md_serving (zl Z) E x1 M2) mRX9_220 ⟨by decide, by decide⟩ rfl rfl (Nat.le_of_ble_eq_true rfl) dX9_take_90 (fun r8 M9 => ?_)
            exact k_iret X dX9_take_93
          · refine k_lt_out X 94 dX9_take_12 (tsw_out 0 4 (by decide) (by decide) (by decide) (lt_s (lt_s (lt_s (lt_s lt_0 hs0) hs1) hs2) hs3)) (by decide) ?_
            refine k_ldc X w_1016 dX9_take_94 ?_
            exact k_iret X dX9_take_96
  · refine k_ldc X w_1016 dX9_take_8 ?_
    exact k_iret X dX9_take_10
theorem mt_Md_take (l : Launch) (E : En) (x1 : Int32) (x2 : Int32) (M : Mem) : MI l E yX9_take cX9_take 3 (some .int) 3 66 [.ref (ad E 326), .int x1, .int x2] M (j_Md_take x1 x2 M) := MI_of (by decide) (Nat.le_of_ble_eq_true rfl) (fun Z _ X => k_lv [0, 1, 2] rfl (kw_Md_take X x1 x2 M))
-- FilmCansModel.roll
theorem kw_Md_roll {Z : ZT} {E : En} (X : Cx Z E 3 cX9_roll RX9 (some .int) 1 25) (x1 : Int32) (x2 : Int32) (M : Mem) : Kj Z E 3 (QI Z E) (j_Md_roll x1 x2 M) M 0 [(0, .ref (ad E 326)), (1, .int x1), (2, .int x2)] [] := by
  unfold j_Md_roll
  refine k_iload_n X 1 dX9_roll_0 rfl rfl ?_
  refine k_i2l X dX9_roll_1 ?_
  refine k_lconst X (v := 0) dX9_roll_2 (by decide) ?_
  refine k_aload_n X 0 dX9_roll_3 rfl rfl ?_
  refine k_getR X c_326 fRX9_7 r_326_0 dX9_roll_4 ?_
  refine k_bipush X (v := 6) dX9_roll_7 (by decide) ?_
  refine k_ialdC X 6 c_327 l_327 (by decide) (by decide) dX9_roll_9 ?_
  refine k_iconst X (v := 1) dX9_roll_10 (by decide) ?_
  refine k_isub X dX9_roll_11 ?_
  refine k_i2l X dX9_roll_12 ?_
  refine k_callSI X [.long (Int32.toInt64 x1), .long 0, .long (Int32.toInt64 ((gi M 327 6) - 1))] [] (mt_Md_in (zl Z) E (Int32.toInt64 x1) 0 (Int32.toInt64 ((gi M 327 6) - 1)) M) mRX9_47 ⟨by decide, by decide⟩ rfl rfl (Nat.le_of_ble_eq_true rfl) dX9_roll_13 (fun r2 M3 => ?_)
  refine k_if_eq X 47 dX9_roll_16 (by decide) ?_ ?_
  · refine k_ldc X w_1016 dX9_roll_47 ?_
    exact k_iret X dX9_roll_49
  · refine k_iload_n X 2 dX9_roll_19 rfl rfl ?_
    refine k_i2l X dX9_roll_20 ?_
    refine k_lconst X (v := 0) dX9_roll_21 (by decide) ?_
    refine k_ldc2 X w_1207 dX9_roll_22 ?_
    refine k_callSI X [.long (Int32.toInt64 x2), .long 0, .long 2] [] (mt_Md_in (zl Z) E (Int32.toInt64 x2) 0 2 M3) mRX9_47 ⟨by decide, by decide⟩ rfl rfl (Nat.le_of_ble_eq_true rfl) dX9_roll_25 (fun r4 M5 => ?_)
    refine k_if_eq X 47 dX9_roll_28 (by decide) ?_ ?_
    · refine k_ldc X w_1016 dX9_roll_47 ?_
      exact k_iret X dX9_roll_49
    · refine k_aload_n X 0 dX9_roll_31 rfl rfl ?_
      refine k_getR X c_326 fRX9_7 r_326_0 dX9_roll_32 ?_
      refine k_bipush X (v := 65) dX9_roll_35 (by decide) ?_
      refine k_iconst X (v := 3) dX9_roll_37 (by decide) ?_
      refine k_iload_n X 1 dX9_roll_38 rfl rfl ?_
      refine k_imul X dX9_roll_39 ?_
      refine k_iadd X dX9_roll_40 ?_
      refine k_iload_n X 2 dX9_roll_41 rfl rfl ?_
      refine k_iadd X dX9_roll_42 ?_
      refine k_iald X c_327 l_327 dX9_roll_43 (fun hb6 => ?_)
      refine k_goto X 49 dX9_roll_44 (by decide) ?_
      exact k_iret X dX9_roll_49
theorem mt_Md_roll (l : Launch) (E : En) (x1 : Int32) (x2 : Int32) (M : Mem) : MI l E yX9_roll cX9_roll 3 (some .int) 1 25 [.ref (ad E 326), .int x1, .int x2] M (j_Md_roll x1 x2 M) := MI_of (by decide) (Nat.le_of_ble_eq_true rfl) (fun Z _ X => k_lv [0, 1, 2] rfl (kw_Md_roll X x1 x2 M))
-- FilmCansModel.onShelf
theorem kb_Md_onShelf_b38 {Z : ZT} {E : En} (X : Cx Z E 3 cX9_onShelf RX9 (some .int) 1 21) (k4 : Int32 → Int32 → Mem → Option (Int32 × Mem)) (hk4 : ∀ (x1 : Int32) (x2 : Int32) (M : Mem), Kj Z E 3 (QI Z E) (k4 x1 x2 M) M 4 [(0, .ref (ad E 326)), (1, .int x1), (2, .int x2)] []) (x2 : Int32) (xs0 : Int32) (xs1 : Int32) (M : Mem) : Kj Z E 3 (QI Z E) (Md_onShelf_b38 k4 x2 xs0 xs1 M) M 38 [(0, .ref (ad E 326)), (2, .int x2)] [.int xs0, .int xs1] := by
  unfold Md_onShelf_b38
  refine k_iadd X dX9_onShelf_38 ?_
  refine x_istore_n X [(0, .ref (ad E 326)), (2, .int x2)] dX9_onShelf_39 rfl (by decide) rfl (fun x6_ => ?_)
  refine x_iinc X 1 2 [(1, .int x6_), (0, .ref (ad E 326))] dX9_onShelf_40 rfl (by decide) (by decide) rfl (fun x7_ => ?_)
  refine k_goto X 4 dX9_onShelf_43 (by decide) ?_
  refine k_lv [2, 1, 0] rfl ?_
  exact hk4 x6_ x7_ M
theorem kb_Md_onShelf_h4 {Z : ZT} {E : En} (X : Cx Z E 3 cX9_onShelf RX9 (some .int) 1 21)  : ∀ (n : Nat) (x1 : Int32) (x2 : Int32) (M : Mem), Kj Z E 3 (QI Z E) (Md_onShelf_h4  n x1 x2 M) M 4 [(0, .ref (ad E 326)), (1, .int x1), (2, .int x2)] [] := by
  intro n
  induction n with
  | zero => intro x1 x2 M; exact k_none
  | succ n ih =>
    intro x1 x2 M
    rw [Md_onShelf_h4]
    refine k_iload_n X 2 dX9_onShelf_4 rfl rfl ?_
    refine k_aload_n X 0 dX9_onShelf_5 rfl rfl ?_
    refine k_getR X c_326 fRX9_7 r_326_0 dX9_onShelf_6 ?_
    refine k_iconst X (v := 4) dX9_onShelf_9 (by decide) ?_
    refine k_ialdC X 4 c_327 l_327 (by decide) (by decide) dX9_onShelf_10 ?_
    refine k_icmp_ge X 46 dX9_onShelf_11 (by decide) ?_ ?_
    · refine k_iload_n X 1 dX9_onShelf_46 rfl rfl ?_
      exact k_iret X dX9_onShelf_47
    · refine k_iload_n X 1 dX9_onShelf_14 rfl rfl ?_
      refine k_aload_n X 0 dX9_onShelf_15 rfl rfl ?_
      refine k_getR X c_326 fRX9_7 r_326_0 dX9_onShelf_16 ?_
      refine k_iload_n X 2 dX9_onShelf_19 rfl rfl ?_
      refine k_callSI X [.ref (ad E 327), .int x2] [.int x1] (mt_Md_where (zl Z) E 327 x2 c_327 l_327 M) mRX9_63 ⟨by decide, by decide⟩ rfl rfl (Nat.le_of_ble_eq_true rfl) dX9_onShelf_20 (fun r4 M5 => ?_)
      refine k_if_ne X 37 dX9_onShelf_23 (by decide) ?_ ?_
      · refine k_iconst X (v := 0) dX9_onShelf_37 (by decide) ?_
        refine k_lv [0, 2] rfl ?_
        exact kb_Md_onShelf_b38 X (fun x1 x2 M => Md_onShelf_h4 n x1 x2 M) (fun x1 x2 M => ih x1 x2 M) x2 0 x1 M5
      · refine k_aload_n X 0 dX9_onShelf_26 rfl rfl ?_
        refine k_getR X c_326 fRX9_7 r_326_0 dX9_onShelf_27 ?_
        refine k_iload_n X 2 dX9_onShelf_30 rfl rfl ?_
        refine k_callSI X [.ref (ad E 327), .int x2] [.int x1] (mt_Md_feet (zl Z) E 327 x2 c_327 l_327 M5) mRX9_70 ⟨by decide, by decide⟩ rfl rfl (Nat.le_of_ble_eq_true rfl) dX9_onShelf_31 (fun r8 M9 => ?_)
        refine k_goto X 38 dX9_onShelf_34 (by decide) ?_
        refine k_lv [0, 2] rfl ?_
        exact kb_Md_onShelf_b38 X (fun x1 x2 M => Md_onShelf_h4 n x1 x2 M) (fun x1 x2 M => ih x1 x2 M) x2 r8 x1 M9
theorem kw_Md_onShelf {Z : ZT} {E : En} (X : Cx Z E 3 cX9_onShelf RX9 (some .int) 1 21) (M : Mem) : Kj Z E 3 (QI Z E) (j_Md_onShelf M) M 0 [(0, .ref (ad E 326))] [] := by
  unfold j_Md_onShelf
  refine k_iconst X (v := 0) dX9_onShelf_0 (by decide) ?_
  refine x_istore_n X [(0, .ref (ad E 326))] dX9_onShelf_1 rfl (by decide) rfl (fun x1_ => ?_)
  refine k_iconst X (v := 0) dX9_onShelf_2 (by decide) ?_
  refine x_istore_n X [(1, .int x1_), (0, .ref (ad E 326))] dX9_onShelf_3 rfl (by decide) rfl (fun x2_ => ?_)
  refine k_lv [2, 1, 0] rfl ?_
  exact kb_Md_onShelf_h4 X  FU x1_ x2_ M
theorem mt_Md_onShelf (l : Launch) (E : En) (M : Mem) : MI l E yX9_onShelf cX9_onShelf 3 (some .int) 1 21 [.ref (ad E 326)] M (j_Md_onShelf M) := MI_of (by decide) (Nat.le_of_ble_eq_true rfl) (fun Z _ X => k_lv [0] rfl (kw_Md_onShelf X M))
-- FilmCansModel.sums
theorem kw_Md_sums {Z : ZT} {E : En} (X : Cx Z E 2 cX9_sums RX9 (some .int) 2 43) (x1 : Int32) (M : Mem) : Kj Z E 2 (QI Z E) (j_Md_sums x1 M) M 0 [(0, .ref (ad E 326)), (1, .int x1)] [] := by
  unfold j_Md_sums
  refine k_iload_n X 1 dX9_sums_0 rfl rfl ?_
  refine k_if (fun hs0 => ?_) (fun hs0 => ?_)
  · refine k_lt_in X 0 (off := 47) 48 dX9_sums_1 hs0 (by decide) (by decide) (by decide) (by decide) ?_
    refine k_aload_n X 0 dX9_sums_48 rfl rfl ?_
    refine k_getR X c_326 fRX9_7 r_326_0 dX9_sums_49 ?_
    refine k_bipush X (v := 7) dX9_sums_52 (by decide) ?_
    refine k_ialdC X 7 c_327 l_327 (by decide) (by decide) dX9_sums_54 ?_
    exact k_iret X dX9_sums_55
  · refine k_if (fun hs1 => ?_) (fun hs1 => ?_)
    · refine k_lt_in X 1 (off := 55) 56 dX9_sums_1 hs1 (by decide) (by decide) (by decide) (by decide) ?_
      refine k_aload_n X 0 dX9_sums_56 rfl rfl ?_
      refine k_callVI X [] [] c_326 rfl (by decide) rfl (mt_Md_onShelf (zl Z) E  M) mRX9_225 ⟨by decide, by decide⟩ rfl rfl (Nat.le_of_ble_eq_true rfl) dX9_sums_57 (fun r2 M3 => ?_)
      exact k_iret X dX9_sums_60
    · refine k_if (fun hs2 => ?_) (fun hs2 => ?_)
      · refine k_lt_in X 2 (off := 60) 61 dX9_sums_1 hs2 (by decide) (by decide) (by decide) (by decide) ?_
        refine k_aload_n X 0 dX9_sums_61 rfl rfl ?_
        refine k_getR X c_326 fRX9_7 r_326_0 dX9_sums_62 ?_
        refine k_bipush X (v := 11) dX9_sums_65 (by decide) ?_
        refine k_ialdC X 11 c_327 l_327 (by decide) (by decide) dX9_sums_67 ?_
        refine k_if_ge X 75 dX9_sums_68 (by decide) ?_ ?_
        · refine k_aload_n X 0 dX9_sums_75 rfl rfl ?_
          refine k_getR X c_326 fRX9_7 r_326_0 dX9_sums_76 ?_
          refine k_aload_n X 0 dX9_sums_79 rfl rfl ?_
          refine k_getR X c_326 fRX9_7 r_326_0 dX9_sums_80 ?_
          refine k_bipush X (v := 11) dX9_sums_83 (by decide) ?_
          refine k_ialdC X 11 c_327 l_327 (by decide) (by decide) dX9_sums_85 ?_
          refine k_callSI X [.ref (ad E 327), .int (gi M 327 11)] [] (mt_Md_feet (zl Z) E 327 (gi M 327 11) c_327 l_327 M) mRX9_70 ⟨by decide, by decide⟩ rfl rfl (Nat.le_of_ble_eq_true rfl) dX9_sums_86 (fun r6 M7 => ?_)
          exact k_iret X dX9_sums_89
        · refine k_iconst X (v := 0) dX9_sums_71 (by decide) ?_
          refine k_goto X 89 dX9_sums_72 (by decide) ?_
          exact k_iret X dX9_sums_89
      · refine k_if (fun hs3 => ?_) (fun hs3 => ?_)
        · refine k_lt_in X 3 (off := 89) 90 dX9_sums_1 hs3 (by decide) (by decide) (by decide) (by decide) ?_
          refine k_aload_n X 0 dX9_sums_90 rfl rfl ?_
          refine k_getR X c_326 fRX9_7 r_326_0 dX9_sums_91 ?_
          refine k_bipush X (v := 8) dX9_sums_94 (by decide) ?_
          refine k_ialdC X 8 c_327 l_327 (by decide) (by decide) dX9_sums_96 ?_
          exact k_iret X dX9_sums_97
        · refine k_if (fun hs4 => ?_) (fun hs4 => ?_)
          · refine k_lt_in X 4 (off := 97) 98 dX9_sums_1 hs4 (by decide) (by decide) (by decide) (by decide) ?_
            refine k_aload_n X 0 dX9_sums_98 rfl rfl ?_
            refine k_getR X c_326 fRX9_7 r_326_0 dX9_sums_99 ?_
            refine k_bipush X (v := 9) dX9_sums_102 (by decide) ?_
            refine k_ialdC X 9 c_327 l_327 (by decide) (by decide) dX9_sums_104 ?_
            exact k_iret X dX9_sums_105
          · refine k_if (fun hs5 => ?_) (fun hs5 => ?_)
            · refine k_lt_in X 5 (off := 105) 106 dX9_sums_1 hs5 (by decide) (by decide) (by decide) (by decide) ?_
              refine k_aload_n X 0 dX9_sums_106 rfl rfl ?_
              refine k_callVI X [] [] c_326 rfl (by decide) rfl (mt_Md_waiting (zl Z) E  M) mRX9_197 ⟨by decide, by decide⟩ rfl rfl (Nat.le_of_ble_eq_true rfl) dX9_sums_107 (fun r10 M11 => ?_)
              exact k_iret X dX9_sums_110
            · refine k_if (fun hs6 => ?_) (fun hs6 => ?_)
              · refine k_lt_in X 6 (off := 110) 111 dX9_sums_1 hs6 (by decide) (by decide) (by decide) (by decide) ?_
                refine k_aload_n X 0 dX9_sums_111 rfl rfl ?_
                refine k_getR X c_326 fRX9_7 r_326_0 dX9_sums_112 ?_
                refine k_bipush X (v := 10) dX9_sums_115 (by decide) ?_
                refine k_ialdC X 10 c_327 l_327 (by decide) (by decide) dX9_sums_117 ?_
                exact k_iret X dX9_sums_118
              · refine k_if (fun hs7 => ?_) (fun hs7 => ?_)
                · refine k_lt_in X 7 (off := 118) 119 dX9_sums_1 hs7 (by decide) (by decide) (by decide) (by decide) ?_
                  refine k_aload_n X 0 dX9_sums_119 rfl rfl ?_
                  refine k_getR X c_326 fRX9_7 r_326_0 dX9_sums_120 ?_
                  refine k_bipush X (v := 12) dX9_sums_123 (by decide) ?_
                  refine k_ialdC X 12 c_327 l_327 (by decide) (by decide) dX9_sums_125 ?_
                  exact k_iret X dX9_sums_126
                · refine k_lt_out X 127 dX9_sums_1 (tsw_out 0 8 (by decide) (by decide) (by decide) (lt_s (lt_s (lt_s (lt_s (lt_s (lt_s (lt_s (lt_s lt_0 hs0) hs1) hs2) hs3) hs4) hs5) hs6) hs7)) (by decide) ?_
                  refine k_ldc X w_1016 dX9_sums_127 ?_
                  exact k_iret X dX9_sums_129
theorem mt_Md_sums (l : Launch) (E : En) (x1 : Int32) (M : Mem) : MI l E yX9_sums cX9_sums 2 (some .int) 2 43 [.ref (ad E 326), .int x1] M (j_Md_sums x1 M) := MI_of (by decide) (Nat.le_of_ble_eq_true rfl) (fun Z _ X => k_lv [0, 1] rfl (kw_Md_sums X x1 M))
-- FilmCansModel.isBatch
theorem kb_Md_isBatch_b105 {Z : ZT} {E : En} (X : Cx Z E 5 cX9_isBatch RX9 (some .boolean) 1 21) (M : Mem) : Kj Z E 5 (QI Z E) (Md_isBatch_b105 M) M 105 [] [] := by
  unfold Md_isBatch_b105
  refine k_iconst X (v := 1) dX9_isBatch_105 (by decide) ?_
  refine k_goto X 110 dX9_isBatch_106 (by decide) ?_
  exact k_zret X (by decide) dX9_isBatch_110
theorem kb_Md_isBatch_b74 {Z : ZT} {E : En} (X : Cx Z E 5 cX9_isBatch RX9 (some .boolean) 1 21) (k7 : Int32 → Int32 → Int32 → Int32 → Mem → Option (Int32 × Mem)) (hk7 : ∀ (x1 : Int32) (x2 : Int32) (x3 : Int32) (x4 : Int32) (M : Mem), Kj Z E 5 (QI Z E) (k7 x1 x2 x3 x4 M) M 7 [(0, .ref (ad E 326)), (1, .int x1), (2, .int x2), (3, .int x3), (4, .int x4)] []) (x1 : Int32) (x2 : Int32) (x4 : Int32) (xs0 : Int32) (xs1 : Int32) (M : Mem) : Kj Z E 5 (QI Z E) (Md_isBatch_b74 k7 x1 x2 x4 xs0 xs1 M) M 74 [(0, .ref (ad E 326)), (1, .int x1), (2, .int x2), (4, .int x4)] [.int xs0, .int xs1] := by
  unfold Md_isBatch_b74
  refine k_ior X dX9_isBatch_74 ?_
  refine x_istore_n X [(0, .ref (ad E 326)), (1, .int x1), (2, .int x2), (4, .int x4)] dX9_isBatch_75 rfl (by decide) rfl (fun x10_ => ?_)
  refine x_iinc X 1 4 [(3, .int x10_), (0, .ref (ad E 326)), (1, .int x1), (2, .int x2)] dX9_isBatch_76 rfl (by decide) (by decide) rfl (fun x11_ => ?_)
  refine k_goto X 7 dX9_isBatch_79 (by decide) ?_
  refine k_lv [2, 3, 4, 1, 0] rfl ?_
  exact hk7 x1 x2 x10_ x11_ M
theorem kb_Md_isBatch_b42 {Z : ZT} {E : En} (X : Cx Z E 5 cX9_isBatch RX9 (some .boolean) 1 21) (k7 : Int32 → Int32 → Int32 → Int32 → Mem → Option (Int32 × Mem)) (hk7 : ∀ (x1 : Int32) (x2 : Int32) (x3 : Int32) (x4 : Int32) (M : Mem), Kj Z E 5 (QI Z E) (k7 x1 x2 x3 x4 M) M 7 [(0, .ref (ad E 326)), (1, .int x1), (2, .int x2), (3, .int x3), (4, .int x4)] []) (x1 : Int32) (x3 : Int32) (x4 : Int32) (xs0 : Int32) (xs1 : Int32) (M : Mem) : Kj Z E 5 (QI Z E) (Md_isBatch_b42 k7 x1 x3 x4 xs0 xs1 M) M 42 [(0, .ref (ad E 326)), (1, .int x1), (3, .int x3), (4, .int x4)] [.int xs0, .int xs1] := by
  unfold Md_isBatch_b42
  refine k_iadd X dX9_isBatch_42 ?_
  refine x_istore_n X [(0, .ref (ad E 326)), (1, .int x1), (3, .int x3), (4, .int x4)] dX9_isBatch_43 rfl (by decide) rfl (fun x7_ => ?_)
  refine k_iload_n X 3 dX9_isBatch_44 rfl rfl ?_
  refine k_iload_n X 2 dX9_isBatch_45 rfl rfl ?_
  refine k_iload X 4 dX9_isBatch_46 rfl ?_
  refine k_callSI X [.int x1, .int x4] [.int x3] (mt_Md_has (zl Z) E x1 x4 M) mRX9_76 ⟨by decide, by decide⟩ rfl rfl (Nat.le_of_ble_eq_true rfl) dX9_isBatch_48 (fun r8 M9 => ?_)
  refine k_if_eq X 73 dX9_isBatch_51 (by decide) ?_ ?_
  · refine k_iconst X (v := 0) dX9_isBatch_73 (by decide) ?_
    refine k_lv [1, 2, 0, 4] rfl ?_
    exact kb_Md_isBatch_b74 X k7 hk7 x1 x7_ x4 0 x3 M9
  · refine k_iconst X (v := 1) dX9_isBatch_54 (by decide) ?_
    refine k_aload_n X 1 dX9_isBatch_55 rfl rfl ?_
    refine k_getR X c_326 fRX9_7 r_326_0 dX9_isBatch_56 ?_
    refine k_bipush X (v := 65) dX9_isBatch_59 (by decide) ?_
    refine k_iconst X (v := 3) dX9_isBatch_61 (by decide) ?_
    refine k_iload X 4 dX9_isBatch_62 rfl ?_
    refine k_imul X dX9_isBatch_64 ?_
    refine k_iadd X dX9_isBatch_65 ?_
    refine k_iconst X (v := 2) dX9_isBatch_66 (by decide) ?_
    refine k_iadd X dX9_isBatch_67 ?_
    refine k_iald X c_327 l_327 dX9_isBatch_68 (fun hb12 => ?_)
    refine k_ishl X dX9_isBatch_69 ?_
    refine k_goto X 74 dX9_isBatch_70 (by decide) ?_
    refine k_lv [1, 2, 0, 4] rfl ?_
    exact kb_Md_isBatch_b74 X k7 hk7 x1 x7_ x4 ((1 : Int32) <<< ((gi M9 327 (ix (((65 : Int32) + ((3 : Int32) * x4)) + 2))) &&& 31)) x3 M9
theorem kb_Md_isBatch_h7 {Z : ZT} {E : En} (X : Cx Z E 5 cX9_isBatch RX9 (some .boolean) 1 21)  : ∀ (n : Nat) (x1 : Int32) (x2 : Int32) (x3 : Int32) (x4 : Int32) (M : Mem), Kj Z E 5 (QI Z E) (Md_isBatch_h7  n x1 x2 x3 x4 M) M 7 [(0, .ref (ad E 326)), (1, .int x1), (2, .int x2), (3, .int x3), (4, .int x4)] [] := by
  intro n
  induction n with
  | zero => intro x1 x2 x3 x4 M; exact k_none
  | succ n ih =>
    intro x1 x2 x3 x4 M
    rw [Md_isBatch_h7]
    refine k_iload X 4 dX9_isBatch_7 rfl ?_
    refine k_bipush X (v := 8) dX9_isBatch_9 (by decide) ?_
    refine k_icmp_ge X 82 dX9_isBatch_11 (by decide) ?_ ?_
    · refine k_iload_n X 1 dX9_isBatch_82 rfl rfl ?_
      refine k_iload_n X 1 dX9_isBatch_83 rfl rfl ?_
      refine k_iconst X (v := 1) dX9_isBatch_84 (by decide) ?_
      refine k_isub X dX9_isBatch_85 ?_
      refine k_iand X dX9_isBatch_86 ?_
      refine k_if_eq X 105 dX9_isBatch_87 (by decide) ?_ ?_
      · refine k_lv [] rfl ?_
        exact kb_Md_isBatch_b105 X  M
      · refine k_iload_n X 3 dX9_isBatch_90 rfl rfl ?_
        refine k_iconst X (v := 3) dX9_isBatch_91 (by decide) ?_
        refine k_icmp_eq X 109 dX9_isBatch_92 (by decide) ?_ ?_
        · refine k_iconst X (v := 0) dX9_isBatch_109 (by decide) ?_
          exact k_zret X (by decide) dX9_isBatch_110
        · refine k_iload_n X 2 dX9_isBatch_95 rfl rfl ?_
          refine k_aload_n X 0 dX9_isBatch_96 rfl rfl ?_
          refine k_getR X c_326 fRX9_7 r_326_0 dX9_isBatch_97 ?_
          refine k_iconst X (v := 2) dX9_isBatch_100 (by decide) ?_
          refine k_ialdC X 2 c_327 l_327 (by decide) (by decide) dX9_isBatch_101 ?_
          refine k_icmp_gt X 109 dX9_isBatch_102 (by decide) ?_ ?_
          · refine k_iconst X (v := 0) dX9_isBatch_109 (by decide) ?_
            exact k_zret X (by decide) dX9_isBatch_110
          · refine k_lv [] rfl ?_
            exact kb_Md_isBatch_b105 X  M
    · refine k_iload_n X 2 dX9_isBatch_14 rfl rfl ?_
      refine k_iload_n X 1 dX9_isBatch_15 rfl rfl ?_
      refine k_iload X 4 dX9_isBatch_16 rfl ?_
      refine k_callSI X [.int x1, .int x4] [.int x2] (mt_Md_has (zl Z) E x1 x4 M) mRX9_76 ⟨by decide, by decide⟩ rfl rfl (Nat.le_of_ble_eq_true rfl) dX9_isBatch_18 (fun r5 M6 => ?_)
      refine k_if_eq X 41 dX9_isBatch_21 (by decide) ?_ ?_
      · refine k_iconst X (v := 0) dX9_isBatch_41 (by decide) ?_
        refine k_lv [0, 1, 3, 4] rfl ?_
        exact kb_Md_isBatch_b42 X (fun x1 x2 x3 x4 M => Md_isBatch_h7 n x1 x2 x3 x4 M) (fun x1 x2 x3 x4 M => ih x1 x2 x3 x4 M) x1 x3 x4 0 x2 M6
      · refine k_aload_n X 0 dX9_isBatch_24 rfl rfl ?_
        refine k_getR X c_326 fRX9_7 r_326_0 dX9_isBatch_25 ?_
        refine k_bipush X (v := 65) dX9_isBatch_28 (by decide) ?_
        refine k_iconst X (v := 3) dX9_isBatch_30 (by decide) ?_
        refine k_iload X 4 dX9_isBatch_31 rfl ?_
        refine k_imul X dX9_isBatch_33 ?_
        refine k_iadd X dX9_isBatch_34 ?_
        refine k_iconst X (v := 1) dX9_isBatch_35 (by decide) ?_
        refine k_iadd X dX9_isBatch_36 ?_
        refine k_iald X c_327 l_327 dX9_isBatch_37 (fun hb13 => ?_)
        refine k_goto X 42 dX9_isBatch_38 (by decide) ?_
        refine k_lv [0, 1, 3, 4] rfl ?_
        exact kb_Md_isBatch_b42 X (fun x1 x2 x3 x4 M => Md_isBatch_h7 n x1 x2 x3 x4 M) (fun x1 x2 x3 x4 M => ih x1 x2 x3 x4 M) x1 x3 x4 (gi M6 327 (ix (((65 : Int32) + ((3 : Int32) * x4)) + 1))) x2 M6
theorem kw_Md_isBatch {Z : ZT} {E : En} (X : Cx Z E 5 cX9_isBatch RX9 (some .boolean) 1 21) (x1 : Int32) (M : Mem) : Kj Z E 5 (QI Z E) (j_Md_isBatch x1 M) M 0 [(0, .ref (ad E 326)), (1, .int x1)] [] := by
  unfold j_Md_isBatch
  refine k_iconst X (v := 0) dX9_isBatch_0 (by decide) ?_
  refine x_istore_n X [(0, .ref (ad E 326)), (1, .int x1)] dX9_isBatch_1 rfl (by decide) rfl (fun x1_ => ?_)
  refine k_iconst X (v := 0) dX9_isBatch_2 (by decide) ?_
  refine x_istore_n X [(2, .int x1_), (0, .ref (ad E 326)), (1, .int x1)] dX9_isBatch_3 rfl (by decide) rfl (fun x2_ => ?_)
  refine k_iconst X (v := 0) dX9_isBatch_4 (by decide) ?_
  refine x_istore X [(3, .int x2_), (2, .int x1_), (0, .ref (ad E 326)), (1, .int x1)] dX9_isBatch_5 (by decide) rfl (fun x3_ => ?_)
  refine k_lv [3, 4, 2, 1, 0] rfl ?_
  exact kb_Md_isBatch_h7 X  FU x1 x1_ x2_ x3_ M
theorem mt_Md_isBatch (l : Launch) (E : En) (x1 : Int32) (M : Mem) : MI l E yX9_isBatch cX9_isBatch 5 (some .boolean) 1 21 [.ref (ad E 326), .int x1] M (j_Md_isBatch x1 M) := MI_of (by decide) (Nat.le_of_ble_eq_true rfl) (fun Z _ X => k_lv [0, 1] rfl (kw_Md_isBatch X x1 M))
-- FilmCansModel.fewest
theorem kb_Md_fewest_b87 {Z : ZT} {E : En} (X : Cx Z E 5 cX9_fewest RX9 (some .int) 2 45) (k21 : Int32 → Int32 → Mem → Option (Int32 × Mem)) (k36 : Int32 → Int32 → Int32 → Mem → Option (Int32 × Mem)) (hk21 : ∀ (x1 : Int32) (x2 : Int32) (M : Mem), Kj Z E 5 (QI Z E) (k21 x1 x2 M) M 21 [(0, .ref (ad E 326)), (1, .int x1), (2, .int x2)] []) (hk36 : ∀ (x1 : Int32) (x2 : Int32) (x3 : Int32) (M : Mem), Kj Z E 5 (QI Z E) (k36 x1 x2 x3 M) M 36 [(0, .ref (ad E 326)), (1, .int x1), (2, .int x2), (3, .int x3)] []) (x1 : Int32) (x2 : Int32) (x3 : Int32) (xs0 : Int32) (xs1 : Int32) (M : Mem) : Kj Z E 5 (QI Z E) (Md_fewest_b87 k21 k36 x1 x2 x3 xs0 xs1 M) M 87 [(0, .ref (ad E 326)), (1, .int x1), (2, .int x2), (3, .int x3)] [.int xs0, .int xs1, .ref (ad E 338)] := by
  unfold Md_fewest_b87
  refine k_iast X c_338 l_338 dX9_fewest_87 (fun hb14 => ?_)
  refine k_sq (fun M15 => ?_)
  refine k_iload_n X 3 dX9_fewest_88 rfl rfl ?_
  refine k_iconst X (v := 1) dX9_fewest_89 (by decide) ?_
  refine k_isub X dX9_fewest_90 ?_
  refine k_iload_n X 2 dX9_fewest_91 rfl rfl ?_
  refine k_iand X dX9_fewest_92 ?_
  refine x_istore_n X [(0, .ref (ad E 326)), (1, .int x1), (2, .int x2)] dX9_fewest_93 rfl (by decide) rfl (fun x16_ => ?_)
  refine k_goto X 36 dX9_fewest_94 (by decide) ?_
  refine k_lv [1, 2, 3, 0] rfl ?_
  exact hk36 x1 x2 x16_ M15
theorem kb_Md_fewest_b81 {Z : ZT} {E : En} (X : Cx Z E 5 cX9_fewest RX9 (some .int) 2 45) (k21 : Int32 → Int32 → Mem → Option (Int32 × Mem)) (k36 : Int32 → Int32 → Int32 → Mem → Option (Int32 × Mem)) (hk21 : ∀ (x1 : Int32) (x2 : Int32) (M : Mem), Kj Z E 5 (QI Z E) (k21 x1 x2 M) M 21 [(0, .ref (ad E 326)), (1, .int x1), (2, .int x2)] []) (hk36 : ∀ (x1 : Int32) (x2 : Int32) (x3 : Int32) (M : Mem), Kj Z E 5 (QI Z E) (k36 x1 x2 x3 M) M 36 [(0, .ref (ad E 326)), (1, .int x1), (2, .int x2), (3, .int x3)] []) (x1 : Int32) (x2 : Int32) (x3 : Int32) (xs0 : Int32) (M : Mem) : Kj Z E 5 (QI Z E) (Md_fewest_b81 k21 k36 x1 x2 x3 xs0 M) M 81 [(0, .ref (ad E 326)), (1, .int x1), (2, .int x2), (3, .int x3)] [.int xs0, .ref (ad E 338)] := by
  unfold Md_fewest_b81
  refine k_aload_n X 0 dX9_fewest_81 rfl rfl ?_
  refine k_getR X c_326 fRX9_44 r_326_20 dX9_fewest_82 ?_
  refine k_iload_n X 2 dX9_fewest_85 rfl rfl ?_
  refine k_iald X c_338 l_338 dX9_fewest_86 (fun hb13 => ?_)
  refine k_lv [0, 1, 2, 3] rfl ?_
  exact kb_Md_fewest_b87 X k21 k36 hk21 hk36 x1 x2 x3 (gi M 338 (ix x2)) xs0 M
theorem kb_Md_fewest_h36 {Z : ZT} {E : En} (X : Cx Z E 5 cX9_fewest RX9 (some .int) 2 45) (k21 : Int32 → Int32 → Mem → Option (Int32 × Mem)) (hk21 : ∀ (x1 : Int32) (x2 : Int32) (M : Mem), Kj Z E 5 (QI Z E) (k21 x1 x2 M) M 21 [(0, .ref (ad E 326)), (1, .int x1), (2, .int x2)] []) : ∀ (n : Nat) (x1 : Int32) (x2 : Int32) (x3 : Int32) (M : Mem), Kj Z E 5 (QI Z E) (Md_fewest_h36 k21 n x1 x2 x3 M) M 36 [(0, .ref (ad E 326)), (1, .int x1), (2, .int x2), (3, .int x3)] [] := by
  intro n
  induction n with
  | zero => intro x1 x2 x3 M; exact k_none
  | succ n ih =>
    intro x1 x2 x3 M
    rw [Md_fewest_h36]
    refine k_iload_n X 3 dX9_fewest_36 rfl rfl ?_
    refine k_if_le X 97 dX9_fewest_37 (by decide) ?_ ?_
    · refine x_iinc X 1 2 [(0, .ref (ad E 326)), (1, .int x1), (3, .int x3)] dX9_fewest_97 rfl (by decide) (by decide) rfl (fun x9_ => ?_)
      refine k_goto X 21 dX9_fewest_100 (by decide) ?_
      refine k_lv [1, 2, 0] rfl ?_
      exact hk21 x1 x9_ M
    · refine k_aload_n X 0 dX9_fewest_40 rfl rfl ?_
      refine k_getR X c_326 fRX9_44 r_326_20 dX9_fewest_41 ?_
      refine k_iload_n X 2 dX9_fewest_44 rfl rfl ?_
      refine k_iload_n X 3 dX9_fewest_45 rfl rfl ?_
      refine k_ixor X dX9_fewest_46 ?_
      refine k_iald X c_338 l_338 dX9_fewest_47 (fun hb10 => ?_)
      refine k_iconst X (v := 1) dX9_fewest_48 (by decide) ?_
      refine k_iadd X dX9_fewest_49 ?_
      refine x_istore X [(0, .ref (ad E 326)), (1, .int x1), (2, .int x2), (3, .int x3)] dX9_fewest_50 (by decide) rfl (fun x11_ => ?_)
      refine k_aload_n X 1 dX9_fewest_52 rfl rfl ?_
      refine k_getR X c_326 fRX9_44 r_326_20 dX9_fewest_53 ?_
      refine k_iload_n X 3 dX9_fewest_56 rfl rfl ?_
      refine k_iload X 0 dX9_fewest_57 rfl ?_
      refine k_aload_n X 1 dX9_fewest_59 rfl rfl ?_
      refine k_getR X c_326 fRX9_44 r_326_20 dX9_fewest_60 ?_
      refine k_iload_n X 3 dX9_fewest_63 rfl rfl ?_
      refine k_iald X c_338 l_338 dX9_fewest_64 (fun hb12 => ?_)
      refine k_icmp_ge X 81 dX9_fewest_65 (by decide) ?_ ?_
      · refine k_lv [1, 2, 3, 4] rfl ?_
        exact kb_Md_fewest_b81 X k21 (fun x1 x2 x3 M => Md_fewest_h36 k21 n x1 x2 x3 M) hk21 (fun x1 x2 x3 M => ih x1 x2 x3 M) x1 x2 x3 x2 M
      · refine k_aload_n X 1 dX9_fewest_68 rfl rfl ?_
        refine k_iload_n X 4 dX9_fewest_69 rfl rfl ?_
        refine k_callVI X [.int x3] [.int x2, .ref (ad E 338)] c_326 rfl (by decide) rfl (mt_Md_isBatch (zl Z) E x3 M) mRX9_228 ⟨by decide, by decide⟩ rfl rfl (Nat.le_of_ble_eq_true rfl) dX9_fewest_70 (fun r17 M18 => ?_)
        refine k_if_eq X 81 dX9_fewest_73 (by decide) ?_ ?_
        · refine k_lv [1, 2, 3, 4] rfl ?_
          exact kb_Md_fewest_b81 X k21 (fun x1 x2 x3 M => Md_fewest_h36 k21 n x1 x2 x3 M) hk21 (fun x1 x2 x3 M => ih x1 x2 x3 M) x1 x2 x3 x2 M18
        · refine k_iload X 0 dX9_fewest_76 rfl ?_
          refine k_goto X 87 dX9_fewest_78 (by decide) ?_
          refine k_lv [1, 2, 3, 4] rfl ?_
          exact kb_Md_fewest_b87 X k21 (fun x1 x2 x3 M => Md_fewest_h36 k21 n x1 x2 x3 M) hk21 (fun x1 x2 x3 M => ih x1 x2 x3 M) x1 x2 x3 x11_ x2 M18
theorem kb_Md_fewest_h21 {Z : ZT} {E : En} (X : Cx Z E 5 cX9_fewest RX9 (some .int) 2 45)  : ∀ (n : Nat) (x1 : Int32) (x2 : Int32) (M : Mem), Kj Z E 5 (QI Z E) (Md_fewest_h21  n x1 x2 M) M 21 [(0, .ref (ad E 326)), (1, .int x1), (2, .int x2)] [] := by
  intro n
  induction n with
  | zero => intro x1 x2 M; exact k_none
  | succ n ih =>
    intro x1 x2 M
    rw [Md_fewest_h21]
    refine k_iload_n X 2 dX9_fewest_21 rfl rfl ?_
    refine k_iload_n X 1 dX9_fewest_22 rfl rfl ?_
    refine k_icmp_gt X 103 dX9_fewest_23 (by decide) ?_ ?_
    · refine k_aload_n X 0 dX9_fewest_103 rfl rfl ?_
      refine k_getR X c_326 fRX9_44 r_326_20 dX9_fewest_104 ?_
      refine k_iload_n X 1 dX9_fewest_107 rfl rfl ?_
      refine k_iald X c_338 l_338 dX9_fewest_108 (fun hb6 => ?_)
      exact k_iret X dX9_fewest_109
    · refine k_aload_n X 0 dX9_fewest_26 rfl rfl ?_
      refine k_getR X c_326 fRX9_44 r_326_20 dX9_fewest_27 ?_
      refine k_iload_n X 2 dX9_fewest_30 rfl rfl ?_
      refine k_bipush X (v := 9) dX9_fewest_31 (by decide) ?_
      refine k_iast X c_338 l_338 dX9_fewest_33 (fun hb7 => ?_)
      refine k_sq (fun M8 => ?_)
      refine k_iload_n X 2 dX9_fewest_34 rfl rfl ?_
      refine k_istore_n X [(3, .int x2), (0, .ref (ad E 326)), (1, .int x1), (2, .int x2)] dX9_fewest_35 rfl (by decide) rfl ?_
      refine k_lv [1, 2, 3, 0] rfl ?_
      exact kb_Md_fewest_h36 X (fun x1 x2 M => Md_fewest_h21 n x1 x2 M) (fun x1 x2 M => ih x1 x2 M) FU x1 x2 x2 M8
theorem kw_Md_fewest {Z : ZT} {E : En} (X : Cx Z E 5 cX9_fewest RX9 (some .int) 2 45) (M : Mem) : Kj Z E 5 (QI Z E) (j_Md_fewest M) M 0 [(0, .ref (ad E 326))] [] := by
  unfold j_Md_fewest
  refine k_iconst X (v := 1) dX9_fewest_0 (by decide) ?_
  refine k_aload_n X 0 dX9_fewest_1 rfl rfl ?_
  refine k_getR X c_326 fRX9_7 r_326_0 dX9_fewest_2 ?_
  refine k_bipush X (v := 6) dX9_fewest_5 (by decide) ?_
  refine k_ialdC X 6 c_327 l_327 (by decide) (by decide) dX9_fewest_7 ?_
  refine k_ishl X dX9_fewest_8 ?_
  refine k_iconst X (v := 1) dX9_fewest_9 (by decide) ?_
  refine k_isub X dX9_fewest_10 ?_
  refine x_istore_n X [(0, .ref (ad E 326))] dX9_fewest_11 rfl (by decide) rfl (fun x2_ => ?_)
  refine k_aload_n X 1 dX9_fewest_12 rfl rfl ?_
  refine k_getR X c_326 fRX9_44 r_326_20 dX9_fewest_13 ?_
  refine k_iconst X (v := 0) dX9_fewest_16 (by decide) ?_
  refine k_iconst X (v := 0) dX9_fewest_17 (by decide) ?_
  refine k_iastC X 0 c_338 l_338 (by decide) (by decide) dX9_fewest_18 ?_
  refine k_sq (fun M4 => ?_)
  refine k_iconst X (v := 1) dX9_fewest_19 (by decide) ?_
  refine x_istore_n X [(1, .int x2_), (0, .ref (ad E 326))] dX9_fewest_20 rfl (by decide) rfl (fun x5_ => ?_)
  refine k_lv [2, 1, 0] rfl ?_
  exact kb_Md_fewest_h21 X  FU x2_ x5_ M4
theorem mt_Md_fewest (l : Launch) (E : En) (M : Mem) : MI l E yX9_fewest cX9_fewest 5 (some .int) 2 45 [.ref (ad E 326)] M (j_Md_fewest M) := MI_of (by decide) (Nat.le_of_ble_eq_true rfl) (fun Z _ X => k_lv [0] rfl (kw_Md_fewest X M))
-- FilmCansModel.batches
theorem kw_Md_batches {Z : ZT} {E : En} (X : Cx Z E 2 cX9_batches RX9 (some .int) 3 69) (x1 : Int32) (M : Mem) : Kj Z E 2 (QI Z E) (j_Md_batches x1 M) M 0 [(0, .ref (ad E 326)), (1, .int x1)] [] := by
  unfold j_Md_batches
  refine k_iload_n X 1 dX9_batches_0 rfl rfl ?_
  refine k_if_ne X 11 dX9_batches_1 (by decide) ?_ ?_
  · refine k_iload_n X 1 dX9_batches_11 rfl rfl ?_
    refine k_iconst X (v := 1) dX9_batches_12 (by decide) ?_
    refine k_icmp_ne X 23 dX9_batches_13 (by decide) ?_ ?_
    · refine k_ldc X w_1016 dX9_batches_23 ?_
      exact k_iret X dX9_batches_25
    · refine k_aload_n X 0 dX9_batches_16 rfl rfl ?_
      refine k_callVI X [] [] c_326 rfl (by decide) rfl (mt_Md_fewest (zl Z) E  M) mRX9_231 ⟨by decide, by decide⟩ rfl rfl (Nat.le_of_ble_eq_true rfl) dX9_batches_17 (fun r1 M2 => ?_)
      refine k_goto X 25 dX9_batches_20 (by decide) ?_
      exact k_iret X dX9_batches_25
  · refine k_aload_n X 0 dX9_batches_4 rfl rfl ?_
    refine k_callVI X [] [] c_326 rfl (by decide) rfl (mt_Md_batched (zl Z) E  M) mRX9_193 ⟨by decide, by decide⟩ rfl rfl (Nat.le_of_ble_eq_true rfl) dX9_batches_5 (fun r3 M4 => ?_)
    refine k_goto X 25 dX9_batches_8 (by decide) ?_
    exact k_iret X dX9_batches_25
theorem mt_Md_batches (l : Launch) (E : En) (x1 : Int32) (M : Mem) : MI l E yX9_batches cX9_batches 2 (some .int) 3 69 [.ref (ad E 326), .int x1] M (j_Md_batches x1 M) := MI_of (by decide) (Nat.le_of_ble_eq_true rfl) (fun Z _ X => k_lv [0, 1] rfl (kw_Md_batches X x1 M))
-- FilmCansModel.as
theorem kw_Md_as {Z : ZT} {E : En} (X : Cx Z E 3 cX9_as RX9 (some .int) 2 46) (x1 : Int32) (x2 : Int32) (M : Mem) : Kj Z E 3 (QI Z E) (j_Md_as x1 x2 M) M 0 [(0, .ref (ad E 326)), (1, .int x1), (2, .int x2)] [] := by
  unfold j_Md_as
  refine k_aload_n X 0 dX9_as_0 rfl rfl ?_
  refine k_iload_n X 1 dX9_as_1 rfl rfl ?_
  refine k_callVI X [.int x1] [] c_326 rfl (by decide) rfl (mt_Md_isCan (zl Z) E x1 M) mRX9_183 ⟨by decide, by decide⟩ rfl rfl (Nat.le_of_ble_eq_true rfl) dX9_as_2 (fun r1 M2 => ?_)
  refine k_if_eq X 20 dX9_as_5 (by decide) ?_ ?_
  · refine k_ldc X w_1016 dX9_as_20 ?_
    exact k_iret X dX9_as_22
  · refine k_iload_n X 2 dX9_as_8 rfl rfl ?_
    refine k_i2l X dX9_as_9 ?_
    refine k_lconst X (v := 0) dX9_as_10 (by decide) ?_
    refine k_ldc2 X w_1164 dX9_as_11 ?_
    refine k_callSI X [.long (Int32.toInt64 x2), .long 0, .long 5] [] (mt_Md_in (zl Z) E (Int32.toInt64 x2) 0 5 M2) mRX9_47 ⟨by decide, by decide⟩ rfl rfl (Nat.le_of_ble_eq_true rfl) dX9_as_14 (fun r3 M4 => ?_)
    refine k_if_ne X 23 dX9_as_17 (by decide) ?_ ?_
    · refine k_aload_n X 0 dX9_as_23 rfl rfl ?_
      refine k_getR X c_326 fRX9_7 r_326_0 dX9_as_24 ?_
      refine k_iload_n X 1 dX9_as_27 rfl rfl ?_
      refine k_callSI X [.ref (ad E 327), .int x1] [] (mt_Md_kind (zl Z) E 327 x1 c_327 l_327 M4) mRX9_51 ⟨by decide, by decide⟩ rfl rfl (Nat.le_of_ble_eq_true rfl) dX9_as_28 (fun r5 M6 => ?_)
      refine k_iload_n X 2 dX9_as_31 rfl rfl ?_
      refine k_callSI X [.int r5, .int x2] [] (mt_Md_isOf (zl Z) E r5 x2 M6) mRX9_55 ⟨by decide, by decide⟩ rfl rfl (Nat.le_of_ble_eq_true rfl) dX9_as_32 (fun r7 M8 => ?_)
      refine k_if_eq X 42 dX9_as_35 (by decide) ?_ ?_
      · refine k_ldc X w_1139 dX9_as_42 ?_
        exact k_iret X dX9_as_44
      · refine k_iload_n X 1 dX9_as_38 rfl rfl ?_
        refine k_goto X 44 dX9_as_39 (by decide) ?_
        exact k_iret X dX9_as_44
    · refine k_ldc X w_1016 dX9_as_20 ?_
      exact k_iret X dX9_as_22
theorem mt_Md_as (l : Launch) (E : En) (x1 : Int32) (x2 : Int32) (M : Mem) : MI l E yX9_as cX9_as 3 (some .int) 2 46 [.ref (ad E 326), .int x1, .int x2] M (j_Md_as x1 x2 M) := MI_of (by decide) (Nat.le_of_ble_eq_true rfl) (fun Z _ X => k_lv [0, 1, 2] rfl (kw_Md_as X x1 x2 M))
-- FilmCansModel.fits
theorem kb_Md_fits_b54 {Z : ZT} {E : En} (X : Cx Z E 4 cX9_fits RX9 (some .int) 3 68) (M : Mem) : Kj Z E 4 (QI Z E) (Md_fits_b54 M) M 54 [] [] := by
  unfold Md_fits_b54
  refine k_ldc X w_1139 dX9_fits_54 ?_
  refine k_goto X 60 dX9_fits_56 (by decide) ?_
  exact k_iret X dX9_fits_60
theorem kw_Md_fits {Z : ZT} {E : En} (X : Cx Z E 4 cX9_fits RX9 (some .int) 3 68) (x1 : Int32) (x2 : Int32) (M : Mem) : Kj Z E 4 (QI Z E) (j_Md_fits x1 x2 M) M 0 [(0, .ref (ad E 326)), (1, .int x1), (2, .int x2)] [] := by
  unfold j_Md_fits
  refine k_aload_n X 0 dX9_fits_0 rfl rfl ?_
  refine k_iload_n X 1 dX9_fits_1 rfl rfl ?_
  refine k_callVI X [.int x1] [] c_326 rfl (by decide) rfl (mt_Md_isCan (zl Z) E x1 M) mRX9_183 ⟨by decide, by decide⟩ rfl rfl (Nat.le_of_ble_eq_true rfl) dX9_fits_2 (fun r1 M2 => ?_)
  refine k_if_eq X 26 dX9_fits_5 (by decide) ?_ ?_
  · refine k_ldc X w_1016 dX9_fits_26 ?_
    exact k_iret X dX9_fits_28
  · refine k_iload_n X 2 dX9_fits_8 rfl rfl ?_
    refine k_if_lt X 26 dX9_fits_9 (by decide) ?_ ?_
    · refine k_ldc X w_1016 dX9_fits_26 ?_
      exact k_iret X dX9_fits_28
    · refine k_iload_n X 2 dX9_fits_12 rfl rfl ?_
      refine k_aload_n X 0 dX9_fits_13 rfl rfl ?_
      refine k_getR X c_326 fRX9_7 r_326_0 dX9_fits_14 ?_
      refine k_callSI X [.ref (ad E 327)] [.int x2] (mt_Md_openOnes (zl Z) E 327 c_327 l_327 M2) mRX9_234 ⟨by decide, by decide⟩ rfl rfl (Nat.le_of_ble_eq_true rfl) dX9_fits_17 (fun r3 M4 => ?_)
      refine k_iconst X (v := (-1)) dX9_fits_20 (by decide) ?_
      refine k_ixor X dX9_fits_21 ?_
      refine k_iand X dX9_fits_22 ?_
      refine k_if_eq X 29 dX9_fits_23 (by decide) ?_ ?_
      · refine k_aload_n X 0 dX9_fits_29 rfl rfl ?_
        refine k_getR X c_326 fRX9_7 r_326_0 dX9_fits_30 ?_
        refine k_iload_n X 1 dX9_fits_33 rfl rfl ?_
        refine k_iload_n X 2 dX9_fits_34 rfl rfl ?_
        refine k_callSI X [.ref (ad E 327), .int x1, .int x2] [] (mt_Md_left (zl Z) E 327 x1 x2 c_327 l_327 M4) mRX9_86 ⟨by decide, by decide⟩ rfl rfl (Nat.le_of_ble_eq_true rfl) dX9_fits_35 (fun r5 M6 => ?_)
        refine k_istore_n X [(3, .int r5), (0, .ref (ad E 326)), (1, .int x1), (2, .int x2)] dX9_fits_38 rfl (by decide) rfl ?_
        refine k_aload_n X 1 dX9_fits_39 rfl rfl ?_
        refine k_getR X c_326 fRX9_7 r_326_0 dX9_fits_40 ?_
        refine k_iload_n X 2 dX9_fits_43 rfl rfl ?_
        refine k_callSI X [.ref (ad E 327), .int x1] [] (mt_Md_isRoom (zl Z) E 327 x1 c_327 l_327 M6) mRX9_238 ⟨by decide, by decide⟩ rfl rfl (Nat.le_of_ble_eq_true rfl) dX9_fits_44 (fun r7 M8 => ?_)
        refine k_if_eq X 54 dX9_fits_47 (by decide) ?_ ?_
        · refine k_lv [] rfl ?_
          exact kb_Md_fits_b54 X  M8
        · refine k_iload_n X 0 dX9_fits_50 rfl rfl ?_
          refine k_if_ge X 59 dX9_fits_51 (by decide) ?_ ?_
          · refine k_iload_n X 0 dX9_fits_59 rfl rfl ?_
            exact k_iret X dX9_fits_60
          · refine k_lv [] rfl ?_
            exact kb_Md_fits_b54 X  M8
      · refine k_ldc X w_1016 dX9_fits_26 ?_
        exact k_iret X dX9_fits_28
theorem mt_Md_fits (l : Launch) (E : En) (x1 : Int32) (x2 : Int32) (M : Mem) : MI l E yX9_fits cX9_fits 4 (some .int) 3 68 [.ref (ad E 326), .int x1, .int x2] M (j_Md_fits x1 x2 M) := MI_of (by decide) (Nat.le_of_ble_eq_true rfl) (fun Z _ X => k_lv [0, 1, 2] rfl (kw_Md_fits X x1 x2 M))
-- FilmCansModel.weighs
theorem kb_Md_weighs_b225 {Z : ZT} {E : En} (X : Cx Z E 11 cX9_weighs RX9 none 4 91) (k48 : Nat → Int32 → Int32 → Int32 → Int32 → Int32 → Mem → Option (Unit × Mem)) (hk48 : ∀ (a1 : Nat) (x2 : Int32) (x3 : Int32) (x4 : Int32) (x5 : Int32) (x6 : Int32) (ha1 : isC a1 9) (ka1 : ln a1 = 89) (M : Mem), Kj Z E 11 (QV Z E) (k48 a1 x2 x3 x4 x5 x6 M) M 48 [(0, .ref (ad E 326)), (1, .ref (ad E a1)), (2, .int x2), (3, .int x3), (4, .int x4), (5, .int x5), (6, .int x6)] []) (a1 : Nat) (x2 : Int32) (x3 : Int32) (x4 : Int32) (x5 : Int32) (x6 : Int32) (ha1 : isC a1 9) (ka1 : ln a1 = 89) (M : Mem) : Kj Z E 11 (QV Z E) (Md_weighs_b225 k48 a1 x2 x3 x4 x5 x6 M) M 225 [(0, .ref (ad E 326)), (1, .ref (ad E a1)), (2, .int x2), (3, .int x3), (4, .int x4), (5, .int x5), (6, .int x6)] [] := by
  unfold Md_weighs_b225
  refine k_iload X 6 dX9_weighs_225 rfl ?_
  refine k_iconst X (v := 1) dX9_weighs_227 (by decide) ?_
  refine k_isub X dX9_weighs_228 ?_
  refine k_iload_n X 3 dX9_weighs_229 rfl rfl ?_
  refine k_iand X dX9_weighs_230 ?_
  refine x_istore X [(0, .ref (ad E 326)), (1, .ref (ad E a1)), (2, .int x2), (3, .int x3), (4, .int x4), (5, .int x5)] dX9_weighs_231 (by decide) rfl (fun x10_ => ?_)
  refine k_goto X 48 dX9_weighs_233 (by decide) ?_
  refine k_lv [1, 2, 3, 4, 5, 6, 0] rfl ?_
  exact hk48 a1 x2 x3 x4 x5 x10_ ha1 ka1 M
theorem kb_Md_weighs_b224 {Z : ZT} {E : En} (X : Cx Z E 11 cX9_weighs RX9 none 4 91) (k48 : Nat → Int32 → Int32 → Int32 → Int32 → Int32 → Mem → Option (Unit × Mem)) (hk48 : ∀ (a1 : Nat) (x2 : Int32) (x3 : Int32) (x4 : Int32) (x5 : Int32) (x6 : Int32) (ha1 : isC a1 9) (ka1 : ln a1 = 89) (M : Mem), Kj Z E 11 (QV Z E) (k48 a1 x2 x3 x4 x5 x6 M) M 48 [(0, .ref (ad E 326)), (1, .ref (ad E a1)), (2, .int x2), (3, .int x3), (4, .int x4), (5, .int x5), (6, .int x6)] []) (a1 : Nat) (x2 : Int32) (x3 : Int32) (x4 : Int32) (x5 : Int32) (x6 : Int32) (xs0 : Int32) (xs1 : Int32) (ha1 : isC a1 9) (ka1 : ln a1 = 89) (M : Mem) : Kj Z E 11 (QV Z E) (Md_weighs_b224 k48 a1 x2 x3 x4 x5 x6 xs0 xs1 M) M 224 [(0, .ref (ad E 326)), (1, .ref (ad E a1)), (2, .int x2), (3, .int x3), (4, .int x4), (5, .int x5), (6, .int x6)] [.int xs0, .int xs1, .ref (ad E 334)] := by
  unfold Md_weighs_b224
  refine k_iast X c_334 l_334 dX9_weighs_224 (fun hb24 => ?_)
  refine k_sq (fun M25 => ?_)
  refine k_lv [0, 1, 2, 3, 4, 5, 6] rfl ?_
  exact kb_Md_weighs_b225 X k48 hk48 a1 x2 x3 x4 x5 x6 ha1 ka1 M25
theorem kb_Md_weighs_b200 {Z : ZT} {E : En} (X : Cx Z E 11 cX9_weighs RX9 none 4 91) (k48 : Nat → Int32 → Int32 → Int32 → Int32 → Int32 → Mem → Option (Unit × Mem)) (hk48 : ∀ (a1 : Nat) (x2 : Int32) (x3 : Int32) (x4 : Int32) (x5 : Int32) (x6 : Int32) (ha1 : isC a1 9) (ka1 : ln a1 = 89) (M : Mem), Kj Z E 11 (QV Z E) (k48 a1 x2 x3 x4 x5 x6 M) M 48 [(0, .ref (ad E 326)), (1, .ref (ad E a1)), (2, .int x2), (3, .int x3), (4, .int x4), (5, .int x5), (6, .int x6)] []) (a1 : Nat) (x2 : Int32) (x3 : Int32) (x4 : Int32) (x5 : Int32) (x6 : Int32) (x9 : Int32) (x10 : Int32) (xs0 : Int32) (xs1 : Int32) (ha1 : isC a1 9) (ka1 : ln a1 = 89) (M : Mem) : Kj Z E 11 (QV Z E) (Md_weighs_b200 k48 a1 x2 x3 x4 x5 x6 x9 x10 xs0 xs1 M) M 200 [(0, .ref (ad E 326)), (1, .ref (ad E a1)), (2, .int x2), (3, .int x3), (4, .int x4), (5, .int x5), (6, .int x6), (9, .int x9), (10, .int x10)] [.int xs0, .int xs1, .ref (ad E 333)] := by
  unfold Md_weighs_b200
  refine k_iast X c_333 l_333 dX9_weighs_200 (fun hb21 => ?_)
  refine k_sq (fun M22 => ?_)
  refine k_aload_n X 0 dX9_weighs_201 rfl rfl ?_
  refine k_getR X c_326 fRX9_32 r_326_16 dX9_weighs_202 ?_
  refine k_iload X 5 dX9_weighs_205 rfl ?_
  refine k_iload X 8 dX9_weighs_207 rfl ?_
  refine k_if_eq X 217 dX9_weighs_209 (by decide) ?_ ?_
  · refine k_aload_n X 0 dX9_weighs_217 rfl rfl ?_
    refine k_getR X c_326 fRX9_32 r_326_16 dX9_weighs_218 ?_
    refine k_iload X 5 dX9_weighs_221 rfl ?_
    refine k_iald X c_334 l_334 dX9_weighs_223 (fun hb23 => ?_)
    refine k_lv [0, 1, 2, 3, 4, 5, 6] rfl ?_
    exact kb_Md_weighs_b224 X k48 hk48 a1 x2 x3 x4 x5 x6 (gi M22 334 (ix x5)) x5 ha1 ka1 M22
  · refine k_iload X 7 dX9_weighs_212 rfl ?_
    refine k_goto X 224 dX9_weighs_214 (by decide) ?_
    refine k_lv [0, 1, 2, 3, 4, 5, 6] rfl ?_
    exact kb_Md_weighs_b224 X k48 hk48 a1 x2 x3 x4 x5 x6 x9 x5 ha1 ka1 M22
theorem kb_Md_weighs_b175 {Z : ZT} {E : En} (X : Cx Z E 11 cX9_weighs RX9 none 4 91) (k48 : Nat → Int32 → Int32 → Int32 → Int32 → Int32 → Mem → Option (Unit × Mem)) (hk48 : ∀ (a1 : Nat) (x2 : Int32) (x3 : Int32) (x4 : Int32) (x5 : Int32) (x6 : Int32) (ha1 : isC a1 9) (ka1 : ln a1 = 89) (M : Mem), Kj Z E 11 (QV Z E) (k48 a1 x2 x3 x4 x5 x6 M) M 48 [(0, .ref (ad E 326)), (1, .ref (ad E a1)), (2, .int x2), (3, .int x3), (4, .int x4), (5, .int x5), (6, .int x6)] []) (a1 : Nat) (x2 : Int32) (x3 : Int32) (x4 : Int32) (x5 : Int32) (x6 : Int32) (x8 : Int32) (x9 : Int32) (xs0 : Int32) (ha1 : isC a1 9) (ka1 : ln a1 = 89) (M : Mem) : Kj Z E 11 (QV Z E) (Md_weighs_b175 k48 a1 x2 x3 x4 x5 x6 x8 x9 xs0 M) M 175 [(0, .ref (ad E 326)), (1, .ref (ad E a1)), (2, .int x2), (3, .int x3), (4, .int x4), (5, .int x5), (6, .int x6), (8, .int x8), (9, .int x9)] [.int xs0] := by
  unfold Md_weighs_b175
  refine k_istore X [(10, .int xs0), (0, .ref (ad E 326)), (1, .ref (ad E a1)), (2, .int x2), (3, .int x3), (4, .int x4), (5, .int x5), (6, .int x6), (8, .int x8), (9, .int x9)] dX9_weighs_175 (by decide) rfl ?_
  refine k_aload_n X 1 dX9_weighs_177 rfl rfl ?_
  refine k_getR X c_326 fRX9_29 r_326_15 dX9_weighs_178 ?_
  refine k_iload X 6 dX9_weighs_181 rfl ?_
  refine k_iload X 0 dX9_weighs_183 rfl ?_
  refine k_if_eq X 193 dX9_weighs_185 (by decide) ?_ ?_
  · refine k_aload_n X 1 dX9_weighs_193 rfl rfl ?_
    refine k_getR X c_326 fRX9_29 r_326_15 dX9_weighs_194 ?_
    refine k_iload X 6 dX9_weighs_197 rfl ?_
    refine k_iald X c_333 l_333 dX9_weighs_199 (fun hb20 => ?_)
    refine k_lv [1, 2, 3, 4, 5, 6, 7, 9, 0] rfl ?_
    exact kb_Md_weighs_b200 X k48 hk48 a1 x2 x3 x4 x5 x6 x9 xs0 (gi M 333 (ix x5)) x5 ha1 ka1 M
  · refine k_iload X 8 dX9_weighs_188 rfl ?_
    refine k_goto X 200 dX9_weighs_190 (by decide) ?_
    refine k_lv [1, 2, 3, 4, 5, 6, 7, 9, 0] rfl ?_
    exact kb_Md_weighs_b200 X k48 hk48 a1 x2 x3 x4 x5 x6 x9 xs0 x8 x5 ha1 ka1 M
theorem kb_Md_weighs_b170 {Z : ZT} {E : En} (X : Cx Z E 11 cX9_weighs RX9 none 4 91) (k48 : Nat → Int32 → Int32 → Int32 → Int32 → Int32 → Mem → Option (Unit × Mem)) (hk48 : ∀ (a1 : Nat) (x2 : Int32) (x3 : Int32) (x4 : Int32) (x5 : Int32) (x6 : Int32) (ha1 : isC a1 9) (ka1 : ln a1 = 89) (M : Mem), Kj Z E 11 (QV Z E) (k48 a1 x2 x3 x4 x5 x6 M) M 48 [(0, .ref (ad E 326)), (1, .ref (ad E a1)), (2, .int x2), (3, .int x3), (4, .int x4), (5, .int x5), (6, .int x6)] []) (a1 : Nat) (x2 : Int32) (x3 : Int32) (x4 : Int32) (x5 : Int32) (x6 : Int32) (x8 : Int32) (x9 : Int32) (ha1 : isC a1 9) (ka1 : ln a1 = 89) (M : Mem) : Kj Z E 11 (QV Z E) (Md_weighs_b170 k48 a1 x2 x3 x4 x5 x6 x8 x9 M) M 170 [(0, .ref (ad E 326)), (1, .ref (ad E a1)), (2, .int x2), (3, .int x3), (4, .int x4), (5, .int x5), (6, .int x6), (8, .int x8), (9, .int x9)] [] := by
  unfold Md_weighs_b170
  refine k_iconst X (v := 1) dX9_weighs_170 (by decide) ?_
  refine k_goto X 175 dX9_weighs_171 (by decide) ?_
  refine k_lv [0, 1, 2, 3, 4, 5, 6, 7, 8] rfl ?_
  exact kb_Md_weighs_b175 X k48 hk48 a1 x2 x3 x4 x5 x6 x8 x9 1 ha1 ka1 M
theorem kb_Md_weighs_b174 {Z : ZT} {E : En} (X : Cx Z E 11 cX9_weighs RX9 none 4 91) (k48 : Nat → Int32 → Int32 → Int32 → Int32 → Int32 → Mem → Option (Unit × Mem)) (hk48 : ∀ (a1 : Nat) (x2 : Int32) (x3 : Int32) (x4 : Int32) (x5 : Int32) (x6 : Int32) (ha1 : isC a1 9) (ka1 : ln a1 = 89) (M : Mem), Kj Z E 11 (QV Z E) (k48 a1 x2 x3 x4 x5 x6 M) M 48 [(0, .ref (ad E 326)), (1, .ref (ad E a1)), (2, .int x2), (3, .int x3), (4, .int x4), (5, .int x5), (6, .int x6)] []) (a1 : Nat) (x2 : Int32) (x3 : Int32) (x4 : Int32) (x5 : Int32) (x6 : Int32) (x8 : Int32) (x9 : Int32) (ha1 : isC a1 9) (ka1 : ln a1 = 89) (M : Mem) : Kj Z E 11 (QV Z E) (Md_weighs_b174 k48 a1 x2 x3 x4 x5 x6 x8 x9 M) M 174 [(0, .ref (ad E 326)), (1, .ref (ad E a1)), (2, .int x2), (3, .int x3), (4, .int x4), (5, .int x5), (6, .int x6), (8, .int x8), (9, .int x9)] [] := by
  unfold Md_weighs_b174
  refine k_iconst X (v := 0) dX9_weighs_174 (by decide) ?_
  refine k_lv [0, 1, 2, 3, 4, 5, 6, 7, 8] rfl ?_
  exact kb_Md_weighs_b175 X k48 hk48 a1 x2 x3 x4 x5 x6 x8 x9 0 ha1 ka1 M
theorem kb_Md_weighs_h48 {Z : ZT} {E : En} (X : Cx Z E 11 cX9_weighs RX9 none 4 91)  : ∀ (n : Nat) (a1 : Nat) (x2 : Int32) (x3 : Int32) (x4 : Int32) (x5 : Int32) (x6 : Int32) (ha1 : isC a1 9) (ka1 : ln a1 = 89) (M : Mem), Kj Z E 11 (QV Z E) (Md_weighs_h48  n a1 x2 x3 x4 x5 x6 M) M 48 [(0, .ref (ad E 326)), (1, .ref (ad E a1)), (2, .int x2), (3, .int x3), (4, .int x4), (5, .int x5), (6, .int x6)] [] := by
  intro n
  induction n with
  | zero => intro a1 x2 x3 x4 x5 x6 ha1 ka1 M; exact k_none
  | succ n ih =>
    intro a1 x2 x3 x4 x5 x6 ha1 ka1 M
    rw [Md_weighs_h48]
    refine k_iload X 6 dX9_weighs_48 rfl ?_
    refine k_if_le X 236 dX9_weighs_50 (by decide) ?_ ?_
    · exact k_vret X dX9_weighs_236
    · refine k_iload X 4 dX9_weighs_53 rfl ?_
      refine k_if_eq X 236 dX9_weighs_55 (by decide) ?_ ?_
      · exact k_vret X dX9_weighs_236
      · refine k_sipush X (v := 256) dX9_weighs_58 (by decide) ?_
        refine k_iload_n X 2 dX9_weighs_61 rfl rfl ?_
        refine k_iconst X (v := 1) dX9_weighs_62 (by decide) ?_
        refine k_iadd X dX9_weighs_63 ?_
        refine k_imul X dX9_weighs_64 ?_
        refine k_iload_n X 3 dX9_weighs_65 rfl rfl ?_
        refine k_iload X 6 dX9_weighs_66 rfl ?_
        refine k_ixor X dX9_weighs_68 ?_
        refine k_iadd X dX9_weighs_69 ?_
        refine x_istore X [(0, .ref (ad E 326)), (1, .ref (ad E a1)), (2, .int x2), (3, .int x3), (4, .int x4), (5, .int x5), (6, .int x6)] dX9_weighs_70 (by decide) rfl (fun x8_ => ?_)
        refine k_aload_n X 1 dX9_weighs_72 rfl rfl ?_
        refine k_getR X c_326 fRX9_29 r_326_15 dX9_weighs_73 ?_
        refine k_iload X 0 dX9_weighs_76 rfl ?_
        refine k_iald X c_333 l_333 dX9_weighs_78 (fun hb9 => ?_)
        refine k_ldc X w_1139 dX9_weighs_79 ?_
        refine k_icmp_eq X 225 dX9_weighs_81 (by decide) ?_ ?_
        · refine k_lv [1, 2, 3, 4, 5, 6, 7] rfl ?_
          exact kb_Md_weighs_b225 X (fun a1 x2 x3 x4 x5 x6 M => Md_weighs_h48 n a1 x2 x3 x4 x5 x6 M) (fun a1 x2 x3 x4 x5 x6 ha1 ka1 M => ih a1 x2 x3 x4 x5 x6 ha1 ka1 M) a1 x2 x3 x4 x5 x6 ha1 ka1 M
        · refine k_aload_n X 2 dX9_weighs_84 rfl rfl ?_
          refine k_iload_n X 3 dX9_weighs_85 rfl rfl ?_
          refine k_iload X 7 dX9_weighs_86 rfl ?_
          refine k_callSI X [.ref (ad E a1), .int x2, .int x6] [] (mt_Md_left (zl Z) E a1 x2 x6 ha1 ka1 M) mRX9_86 ⟨by decide, by decide⟩ rfl rfl (Nat.le_of_ble_eq_true rfl) dX9_weighs_88 (fun r11 M12 => ?_)
          refine k_if_lt X 225 dX9_weighs_91 (by decide) ?_ ?_
          · refine k_lv [1, 2, 3, 4, 5, 6, 7] rfl ?_
            exact kb_Md_weighs_b225 X (fun a1 x2 x3 x4 x5 x6 M => Md_weighs_h48 n a1 x2 x3 x4 x5 x6 M) (fun a1 x2 x3 x4 x5 x6 ha1 ka1 M => ih a1 x2 x3 x4 x5 x6 ha1 ka1 M) a1 x2 x3 x4 x5 x6 ha1 ka1 M12
          · refine k_aload_n X 1 dX9_weighs_94 rfl rfl ?_
            refine k_getR X c_326 fRX9_29 r_326_15 dX9_weighs_95 ?_
            refine k_iload X 0 dX9_weighs_98 rfl ?_
            refine k_iald X c_333 l_333 dX9_weighs_100 (fun hb13 => ?_)
            refine k_aload_n X 2 dX9_weighs_101 rfl rfl ?_
            refine k_iload_n X 3 dX9_weighs_102 rfl rfl ?_
            refine k_iload X 7 dX9_weighs_103 rfl ?_
            refine k_callSI X [.ref (ad E a1), .int x2, .int x6] [.int (gi M12 333 (ix x8_))] (mt_Md_lossOf (zl Z) E a1 x2 x6 ha1 ka1 M12) mRX9_245 ⟨by decide, by decide⟩ rfl rfl (Nat.le_of_ble_eq_true rfl) dX9_weighs_105 (fun r14 M15 => ?_)
            refine k_iadd X dX9_weighs_108 ?_
            refine x_istore X [(7, .int x8_), (0, .ref (ad E 326)), (1, .ref (ad E a1)), (2, .int x2), (3, .int x3), (4, .int x4), (5, .int x5), (6, .int x6)] dX9_weighs_109 (by decide) rfl (fun x16_ => ?_)
            refine k_aload_n X 2 dX9_weighs_111 rfl rfl ?_
            refine k_getR X c_326 fRX9_32 r_326_16 dX9_weighs_112 ?_
            refine k_iload X 1 dX9_weighs_115 rfl ?_
            refine k_iald X c_334 l_334 dX9_weighs_117 (fun hb17 => ?_)
            refine k_iconst X (v := 1) dX9_weighs_118 (by decide) ?_
            refine k_iadd X dX9_weighs_119 ?_
            refine x_istore X [(8, .int x16_), (7, .int x8_), (0, .ref (ad E 326)), (1, .ref (ad E a1)), (2, .int x2), (3, .int x3), (4, .int x4), (5, .int x5), (6, .int x6)] dX9_weighs_120 (by decide) rfl (fun x18_ => ?_)
            refine k_aload_n X 3 dX9_weighs_122 rfl rfl ?_
            refine k_getR X c_326 fRX9_29 r_326_15 dX9_weighs_123 ?_
            refine k_iload X 8 dX9_weighs_126 rfl ?_
            refine k_iald X c_333 l_333 dX9_weighs_128 (fun hb19 => ?_)
            refine k_ldc X w_1139 dX9_weighs_129 ?_
            refine k_icmp_eq X 170 dX9_weighs_131 (by decide) ?_ ?_
            · refine k_lv [3, 4, 5, 6, 7, 8, 9, 1, 0] rfl ?_
              exact kb_Md_weighs_b170 X (fun a1 x2 x3 x4 x5 x6 M => Md_weighs_h48 n a1 x2 x3 x4 x5 x6 M) (fun a1 x2 x3 x4 x5 x6 ha1 ka1 M => ih a1 x2 x3 x4 x5 x6 ha1 ka1 M) a1 x2 x3 x4 x5 x6 x16_ x18_ ha1 ka1 M15
            · refine k_iload X 1 dX9_weighs_134 rfl ?_
              refine k_aload_n X 3 dX9_weighs_136 rfl rfl ?_
              refine k_getR X c_326 fRX9_29 r_326_15 dX9_weighs_137 ?_
              refine k_iload X 8 dX9_weighs_140 rfl ?_
              refine k_iald X c_333 l_333 dX9_weighs_142 (fun hb26 => ?_)
              refine k_icmp_lt X 170 dX9_weighs_143 (by decide) ?_ ?_
              · refine k_lv [3, 4, 5, 6, 7, 8, 9, 1, 0] rfl ?_
                exact kb_Md_weighs_b170 X (fun a1 x2 x3 x4 x5 x6 M => Md_weighs_h48 n a1 x2 x3 x4 x5 x6 M) (fun a1 x2 x3 x4 x5 x6 ha1 ka1 M => ih a1 x2 x3 x4 x5 x6 ha1 ka1 M) a1 x2 x3 x4 x5 x6 x16_ x18_ ha1 ka1 M15
              · refine k_iload X 1 dX9_weighs_146 rfl ?_
                refine k_aload_n X 3 dX9_weighs_148 rfl rfl ?_
                refine k_getR X c_326 fRX9_29 r_326_15 dX9_weighs_149 ?_
                refine k_iload X 8 dX9_weighs_152 rfl ?_
                refine k_iald X c_333 l_333 dX9_weighs_154 (fun hb27 => ?_)
                refine k_icmp_ne X 174 dX9_weighs_155 (by decide) ?_ ?_
                · refine k_lv [3, 4, 5, 6, 7, 8, 9, 1, 0] rfl ?_
                  exact kb_Md_weighs_b174 X (fun a1 x2 x3 x4 x5 x6 M => Md_weighs_h48 n a1 x2 x3 x4 x5 x6 M) (fun a1 x2 x3 x4 x5 x6 ha1 ka1 M => ih a1 x2 x3 x4 x5 x6 ha1 ka1 M) a1 x2 x3 x4 x5 x6 x16_ x18_ ha1 ka1 M15
                · refine k_iload X 0 dX9_weighs_158 rfl ?_
                  refine k_aload_n X 3 dX9_weighs_160 rfl rfl ?_
                  refine k_getR X c_326 fRX9_32 r_326_16 dX9_weighs_161 ?_
                  refine k_iload X 8 dX9_weighs_164 rfl ?_
                  refine k_iald X c_334 l_334 dX9_weighs_166 (fun hb28 => ?_)
                  refine k_icmp_ge X 174 dX9_weighs_167 (by decide) ?_ ?_
                  · refine k_lv [3, 4, 5, 6, 7, 8, 9, 1, 0] rfl ?_
                    exact kb_Md_weighs_b174 X (fun a1 x2 x3 x4 x5 x6 M => Md_weighs_h48 n a1 x2 x3 x4 x5 x6 M) (fun a1 x2 x3 x4 x5 x6 ha1 ka1 M => ih a1 x2 x3 x4 x5 x6 ha1 ka1 M) a1 x2 x3 x4 x5 x6 x16_ x18_ ha1 ka1 M15
                  · refine k_lv [3, 4, 5, 6, 7, 8, 9, 1, 0] rfl ?_
                    exact kb_Md_weighs_b170 X (fun a1 x2 x3 x4 x5 x6 M => Md_weighs_h48 n a1 x2 x3 x4 x5 x6 M) (fun a1 x2 x3 x4 x5 x6 ha1 ka1 M => ih a1 x2 x3 x4 x5 x6 ha1 ka1 M) a1 x2 x3 x4 x5 x6 x16_ x18_ ha1 ka1 M15
theorem kw_Md_weighs {Z : ZT} {E : En} (X : Cx Z E 11 cX9_weighs RX9 none 4 91) (a1 : Nat) (x2 : Int32) (x3 : Int32) (x4 : Int32) (ha1 : isC a1 9) (ka1 : ln a1 = 89) (M : Mem) : Kj Z E 11 (QV Z E) (j_Md_weighs a1 x2 x3 x4 M) M 0 [(0, .ref (ad E 326)), (1, .ref (ad E a1)), (2, .int x2), (3, .int x3), (4, .int x4)] [] := by
  unfold j_Md_weighs
  refine k_sipush X (v := 256) dX9_weighs_0 (by decide) ?_
  refine k_iload_n X 2 dX9_weighs_3 rfl rfl ?_
  refine k_imul X dX9_weighs_4 ?_
  refine k_iload_n X 3 dX9_weighs_5 rfl rfl ?_
  refine k_iadd X dX9_weighs_6 ?_
  refine x_istore X [(0, .ref (ad E 326)), (1, .ref (ad E a1)), (2, .int x2), (3, .int x3), (4, .int x4)] dX9_weighs_7 (by decide) rfl (fun x1_ => ?_)
  refine k_aload_n X 1 dX9_weighs_9 rfl rfl ?_
  refine k_getR X c_326 fRX9_29 r_326_15 dX9_weighs_10 ?_
  refine k_iload X 0 dX9_weighs_13 rfl ?_
  refine k_aload_n X 1 dX9_weighs_15 rfl rfl ?_
  refine k_getR X c_326 fRX9_29 r_326_15 dX9_weighs_16 ?_
  refine k_iload X 0 dX9_weighs_19 rfl ?_
  refine k_sipush X (v := 256) dX9_weighs_21 (by decide) ?_
  refine k_iadd X dX9_weighs_24 ?_
  refine k_iald X c_333 l_333 dX9_weighs_25 (fun hb2 => ?_)
  refine k_iast X c_333 l_333 dX9_weighs_26 (fun hb3 => ?_)
  refine k_sq (fun M4 => ?_)
  refine k_aload_n X 1 dX9_weighs_27 rfl rfl ?_
  refine k_getR X c_326 fRX9_32 r_326_16 dX9_weighs_28 ?_
  refine k_iload X 0 dX9_weighs_31 rfl ?_
  refine k_aload_n X 1 dX9_weighs_33 rfl rfl ?_
  refine k_getR X c_326 fRX9_32 r_326_16 dX9_weighs_34 ?_
  refine k_iload X 0 dX9_weighs_37 rfl ?_
  refine k_sipush X (v := 256) dX9_weighs_39 (by decide) ?_
  refine k_iadd X dX9_weighs_42 ?_
  refine k_iald X c_334 l_334 dX9_weighs_43 (fun hb5 => ?_)
  refine k_iast X c_334 l_334 dX9_weighs_44 (fun hb6 => ?_)
  refine k_sq (fun M7 => ?_)
  refine k_iload_n X 4 dX9_weighs_45 rfl rfl ?_
  refine k_istore X [(6, .int x3), (5, .int x1_), (0, .ref (ad E 326)), (1, .ref (ad E a1)), (2, .int x2), (3, .int x3), (4, .int x4)] dX9_weighs_46 (by decide) rfl ?_
  refine k_lv [2, 3, 4, 5, 6, 1, 0] rfl ?_
  exact kb_Md_weighs_h48 X  FU a1 x2 x3 x4 x1_ x3 ha1 ka1 M7
theorem mt_Md_weighs (l : Launch) (E : En) (a1 : Nat) (x2 : Int32) (x3 : Int32) (x4 : Int32) (ha1 : isC a1 9) (ka1 : ln a1 = 89) (M : Mem) : MV l E yX9_weighs cX9_weighs 11 none 4 91 [.ref (ad E 326), .ref (ad E a1), .int x2, .int x3, .int x4] M (j_Md_weighs a1 x2 x3 x4 M) := MV_of (by decide) (Nat.le_of_ble_eq_true rfl) (fun Z _ X => k_lv [0, 1, 2, 3, 4] rfl (kw_Md_weighs X a1 x2 x3 x4 ha1 ka1 M))
-- FilmCansModel.plans
theorem kb_Md_plans_b126 {Z : ZT} {E : En} (X : Cx Z E 6 cX9_plans RX9 none 5 121) (k66 : Nat → Int32 → Int32 → Int32 → Mem → Option (Unit × Mem)) (k74 : Nat → Int32 → Int32 → Int32 → Int32 → Mem → Option (Unit × Mem)) (hk66 : ∀ (a1 : Nat) (x2 : Int32) (x3 : Int32) (x4 : Int32) (ha1 : isC a1 9) (ka1 : ln a1 = 89) (M : Mem), Kj Z E 6 (QV Z E) (k66 a1 x2 x3 x4 M) M 66 [(0, .ref (ad E 326)), (1, .ref (ad E a1)), (2, .int x2), (3, .int x3), (4, .int x4)] []) (hk74 : ∀ (a1 : Nat) (x2 : Int32) (x3 : Int32) (x4 : Int32) (x5 : Int32) (ha1 : isC a1 9) (ka1 : ln a1 = 89) (M : Mem), Kj Z E 6 (QV Z E) (k74 a1 x2 x3 x4 x5 M) M 74 [(0, .ref (ad E 326)), (1, .ref (ad E a1)), (2, .int x2), (3, .int x3), (4, .int x4), (5, .int x5)] []) (a1 : Nat) (x2 : Int32) (x3 : Int32) (x4 : Int32) (xs0 : Int32) (ha1 : isC a1 9) (ka1 : ln a1 = 89) (M : Mem) : Kj Z E 6 (QV Z E) (Md_plans_b126 k66 k74 a1 x2 x3 x4 xs0 M) M 126 [(0, .ref (ad E 326)), (1, .ref (ad E a1)), (2, .int x2), (3, .int x3), (4, .int x4)] [.int xs0] := by
  unfold Md_plans_b126
  refine k_istore X [(5, .int xs0), (0, .ref (ad E 326)), (1, .ref (ad E a1)), (2, .int x2), (3, .int x3), (4, .int x4)] dX9_plans_126 (by decide) rfl ?_
  refine k_goto X 74 dX9_plans_128 (by decide) ?_
  refine k_lv [1, 2, 3, 4, 5, 0] rfl ?_
  exact hk74 a1 x2 x3 x4 xs0 ha1 ka1 M
theorem kb_Md_plans_b108 {Z : ZT} {E : En} (X : Cx Z E 6 cX9_plans RX9 none 5 121) (k66 : Nat → Int32 → Int32 → Int32 → Mem → Option (Unit × Mem)) (k74 : Nat → Int32 → Int32 → Int32 → Int32 → Mem → Option (Unit × Mem)) (hk66 : ∀ (a1 : Nat) (x2 : Int32) (x3 : Int32) (x4 : Int32) (ha1 : isC a1 9) (ka1 : ln a1 = 89) (M : Mem), Kj Z E 6 (QV Z E) (k66 a1 x2 x3 x4 M) M 66 [(0, .ref (ad E 326)), (1, .ref (ad E a1)), (2, .int x2), (3, .int x3), (4, .int x4)] []) (hk74 : ∀ (a1 : Nat) (x2 : Int32) (x3 : Int32) (x4 : Int32) (x5 : Int32) (ha1 : isC a1 9) (ka1 : ln a1 = 89) (M : Mem), Kj Z E 6 (QV Z E) (k74 a1 x2 x3 x4 x5 M) M 74 [(0, .ref (ad E 326)), (1, .ref (ad E a1)), (2, .int x2), (3, .int x3), (4, .int x4), (5, .int x5)] []) (a1 : Nat) (x2 : Int32) (x3 : Int32) (x4 : Int32) (x5 : Int32) (xs0 : Int32) (xs1 : Int32) (xs2 : Int32) (as3 : Nat) (ha1 : isC a1 9) (ka1 : ln a1 = 89) (has3 : isC as3 9) (kas3 : ln as3 = 89) (M : Mem) : Kj Z E 6 (QV Z E) (Md_plans_b108 k66 k74 a1 x2 x3 x4 x5 xs0 xs1 xs2 as3 M) M 108 [(0, .ref (ad E 326)), (1, .ref (ad E a1)), (2, .int x2), (3, .int x3), (4, .int x4), (5, .int x5)] [.int xs0, .int xs1, .int xs2, .ref (ad E as3), .ref (ad E 326)] := by
  unfold Md_plans_b108
  refine k_callVV X [.ref (ad E as3), .int xs2, .int xs1, .int xs0] [] c_326 rfl (by decide) rfl (mt_Md_weighs (zl Z) E as3 xs2 xs1 xs0 has3 kas3 M) mRX9_241 ⟨by decide, by decide⟩ rfl rfl (Nat.le_of_ble_eq_true rfl) dX9_plans_108 (fun _ M8 => ?_)
  refine k_iload X 5 dX9_plans_111 rfl ?_
  refine k_if_ne X 120 dX9_plans_113 (by decide) ?_ ?_
  · refine k_iload X 5 dX9_plans_120 rfl ?_
    refine k_iconst X (v := 1) dX9_plans_122 (by decide) ?_
    refine k_isub X dX9_plans_123 ?_
    refine k_iload_n X 2 dX9_plans_124 rfl rfl ?_
    refine k_iand X dX9_plans_125 ?_
    refine k_lv [0, 1, 2, 3, 4] rfl ?_
    exact kb_Md_plans_b126 X k66 k74 hk66 hk74 a1 x2 x3 x4 ((x5 - 1) &&& x2) ha1 ka1 M8
  · refine k_iconst X (v := (-1)) dX9_plans_116 (by decide) ?_
    refine k_goto X 126 dX9_plans_117 (by decide) ?_
    refine k_lv [0, 1, 2, 3, 4] rfl ?_
    exact kb_Md_plans_b126 X k66 k74 hk66 hk74 a1 x2 x3 x4 (-1) ha1 ka1 M8
theorem kb_Md_plans_b107 {Z : ZT} {E : En} (X : Cx Z E 6 cX9_plans RX9 none 5 121) (k66 : Nat → Int32 → Int32 → Int32 → Mem → Option (Unit × Mem)) (k74 : Nat → Int32 → Int32 → Int32 → Int32 → Mem → Option (Unit × Mem)) (hk66 : ∀ (a1 : Nat) (x2 : Int32) (x3 : Int32) (x4 : Int32) (ha1 : isC a1 9) (ka1 : ln a1 = 89) (M : Mem), Kj Z E 6 (QV Z E) (k66 a1 x2 x3 x4 M) M 66 [(0, .ref (ad E 326)), (1, .ref (ad E a1)), (2, .int x2), (3, .int x3), (4, .int x4)] []) (hk74 : ∀ (a1 : Nat) (x2 : Int32) (x3 : Int32) (x4 : Int32) (x5 : Int32) (ha1 : isC a1 9) (ka1 : ln a1 = 89) (M : Mem), Kj Z E 6 (QV Z E) (k74 a1 x2 x3 x4 x5 M) M 74 [(0, .ref (ad E 326)), (1, .ref (ad E a1)), (2, .int x2), (3, .int x3), (4, .int x4), (5, .int x5)] []) (a1 : Nat) (x2 : Int32) (x3 : Int32) (x4 : Int32) (x5 : Int32) (xs0 : Int32) (xs1 : Int32) (as2 : Nat) (ha1 : isC a1 9) (ka1 : ln a1 = 89) (has2 : isC as2 9) (kas2 : ln as2 = 89) (M : Mem) : Kj Z E 6 (QV Z E) (Md_plans_b107 k66 k74 a1 x2 x3 x4 x5 xs0 xs1 as2 M) M 107 [(0, .ref (ad E 326)), (1, .ref (ad E a1)), (2, .int x2), (3, .int x3), (4, .int x4), (5, .int x5)] [.int xs0, .int xs1, .ref (ad E as2), .ref (ad E 326)] := by
  unfold Md_plans_b107
  refine k_iconst X (v := 0) dX9_plans_107 (by decide) ?_
  refine k_lv [0, 1, 2, 3, 4, 5] rfl ?_
  exact kb_Md_plans_b108 X k66 k74 hk66 hk74 a1 x2 x3 x4 x5 0 xs0 xs1 as2 ha1 ka1 has2 kas2 M
theorem kb_Md_plans_h74 {Z : ZT} {E : En} (X : Cx Z E 6 cX9_plans RX9 none 5 121) (k66 : Nat → Int32 → Int32 → Int32 → Mem → Option (Unit × Mem)) (hk66 : ∀ (a1 : Nat) (x2 : Int32) (x3 : Int32) (x4 : Int32) (ha1 : isC a1 9) (ka1 : ln a1 = 89) (M : Mem), Kj Z E 6 (QV Z E) (k66 a1 x2 x3 x4 M) M 66 [(0, .ref (ad E 326)), (1, .ref (ad E a1)), (2, .int x2), (3, .int x3), (4, .int x4)] []) : ∀ (n : Nat) (a1 : Nat) (x2 : Int32) (x3 : Int32) (x4 : Int32) (x5 : Int32) (ha1 : isC a1 9) (ka1 : ln a1 = 89) (M : Mem), Kj Z E 6 (QV Z E) (Md_plans_h74 k66 n a1 x2 x3 x4 x5 M) M 74 [(0, .ref (ad E 326)), (1, .ref (ad E a1)), (2, .int x2), (3, .int x3), (4, .int x4), (5, .int x5)] [] := by
  intro n
  induction n with
  | zero => intro a1 x2 x3 x4 x5 ha1 ka1 M; exact k_none
  | succ n ih =>
    intro a1 x2 x3 x4 x5 ha1 ka1 M
    rw [Md_plans_h74]
    refine k_iload X 5 dX9_plans_74 rfl ?_
    refine k_if_lt X 131 dX9_plans_76 (by decide) ?_ ?_
    · refine x_iinc X (-1) 4 [(0, .ref (ad E 326)), (1, .ref (ad E a1)), (2, .int x2), (3, .int x3), (5, .int x5)] dX9_plans_131 rfl (by decide) (by decide) rfl (fun x4_ => ?_)
      refine k_goto X 66 dX9_plans_134 (by decide) ?_
      refine k_lv [1, 2, 3, 4, 0] rfl ?_
      exact hk66 a1 x2 x3 x4_ ha1 ka1 M
    · refine k_aload_n X 0 dX9_plans_79 rfl rfl ?_
      refine k_aload_n X 1 dX9_plans_80 rfl rfl ?_
      refine k_iload X 4 dX9_plans_81 rfl ?_
      refine k_iload X 5 dX9_plans_83 rfl ?_
      refine k_aload_n X 1 dX9_plans_85 rfl rfl ?_
      refine k_iload X 4 dX9_plans_86 rfl ?_
      refine k_callSI X [.ref (ad E a1), .int x4] [.int x5, .int x4, .ref (ad E a1), .ref (ad E 326)] (mt_Md_isRoom (zl Z) E a1 x4 ha1 ka1 M) mRX9_238 ⟨by decide, by decide⟩ rfl rfl (Nat.le_of_ble_eq_true rfl) dX9_plans_88 (fun r5 M6 => ?_)
      refine k_if_eq X 107 dX9_plans_91 (by decide) ?_ ?_
      · refine k_lv [0, 1, 2, 3, 4, 5] rfl ?_
        exact kb_Md_plans_b107 X k66 (fun a1 x2 x3 x4 x5 M => Md_plans_h74 k66 n a1 x2 x3 x4 x5 M) hk66 (fun a1 x2 x3 x4 x5 ha1 ka1 M => ih a1 x2 x3 x4 x5 ha1 ka1 M) a1 x2 x3 x4 x5 x5 x4 a1 ha1 ka1 ha1 ka1 M6
      · refine k_iload_n X 3 dX9_plans_94 rfl rfl ?_
        refine k_iload X 4 dX9_plans_95 rfl ?_
        refine k_callSI X [.int x3, .int x4] [.int x5, .int x4, .ref (ad E a1), .ref (ad E 326)] (mt_Md_has (zl Z) E x3 x4 M6) mRX9_76 ⟨by decide, by decide⟩ rfl rfl (Nat.le_of_ble_eq_true rfl) dX9_plans_97 (fun r9 M10 => ?_)
        refine k_if_ne X 107 dX9_plans_100 (by decide) ?_ ?_
        · refine k_lv [0, 1, 2, 3, 4, 5] rfl ?_
          exact kb_Md_plans_b107 X k66 (fun a1 x2 x3 x4 x5 M => Md_plans_h74 k66 n a1 x2 x3 x4 x5 M) hk66 (fun a1 x2 x3 x4 x5 ha1 ka1 M => ih a1 x2 x3 x4 x5 ha1 ka1 M) a1 x2 x3 x4 x5 x5 x4 a1 ha1 ka1 ha1 ka1 M10
        · refine k_iconst X (v := 1) dX9_plans_103 (by decide) ?_
          refine k_goto X 108 dX9_plans_104 (by decide) ?_
          refine k_lv [0, 1, 2, 3, 4, 5] rfl ?_
          exact kb_Md_plans_b108 X k66 (fun a1 x2 x3 x4 x5 M => Md_plans_h74 k66 n a1 x2 x3 x4 x5 M) hk66 (fun a1 x2 x3 x4 x5 ha1 ka1 M => ih a1 x2 x3 x4 x5 ha1 ka1 M) a1 x2 x3 x4 x5 1 x5 x4 a1 ha1 ka1 ha1 ka1 M10
theorem kb_Md_plans_h66 {Z : ZT} {E : En} (X : Cx Z E 6 cX9_plans RX9 none 5 121)  : ∀ (n : Nat) (a1 : Nat) (x2 : Int32) (x3 : Int32) (x4 : Int32) (ha1 : isC a1 9) (ka1 : ln a1 = 89) (M : Mem), Kj Z E 6 (QV Z E) (Md_plans_h66  n a1 x2 x3 x4 M) M 66 [(0, .ref (ad E 326)), (1, .ref (ad E a1)), (2, .int x2), (3, .int x3), (4, .int x4)] [] := by
  intro n
  induction n with
  | zero => intro a1 x2 x3 x4 ha1 ka1 M; exact k_none
  | succ n ih =>
    intro a1 x2 x3 x4 ha1 ka1 M
    rw [Md_plans_h66]
    refine k_iload X 4 dX9_plans_66 rfl ?_
    refine k_if_lt X 137 dX9_plans_68 (by decide) ?_ ?_
    · exact k_vret X dX9_plans_137
    · refine k_iload_n X 2 dX9_plans_71 rfl rfl ?_
      refine k_istore X [(5, .int x2), (0, .ref (ad E 326)), (1, .ref (ad E a1)), (2, .int x2), (3, .int x3), (4, .int x4)] dX9_plans_72 (by decide) rfl ?_
      refine k_lv [1, 2, 3, 4, 5, 0] rfl ?_
      exact kb_Md_plans_h74 X (fun a1 x2 x3 x4 M => Md_plans_h66 n a1 x2 x3 x4 M) (fun a1 x2 x3 x4 ha1 ka1 M => ih a1 x2 x3 x4 ha1 ka1 M) FU a1 x2 x3 x4 x2 ha1 ka1 M
theorem kb_Md_plans_b36 {Z : ZT} {E : En} (X : Cx Z E 6 cX9_plans RX9 none 5 121) (k3 : Nat → Int32 → Int32 → Int32 → Mem → Option (Unit × Mem)) (hk3 : ∀ (a1 : Nat) (x2 : Int32) (x3 : Int32) (x4 : Int32) (ha1 : isC a1 9) (ka1 : ln a1 = 89) (M : Mem), Kj Z E 6 (QV Z E) (k3 a1 x2 x3 x4 M) M 3 [(0, .ref (ad E 326)), (1, .ref (ad E a1)), (2, .int x2), (3, .int x3), (4, .int x4)] []) (a1 : Nat) (x2 : Int32) (x3 : Int32) (x4 : Int32) (xs0 : Int32) (xs1 : Int32) (ha1 : isC a1 9) (ka1 : ln a1 = 89) (M : Mem) : Kj Z E 6 (QV Z E) (Md_plans_b36 k3 a1 x2 x3 x4 xs0 xs1 M) M 36 [(0, .ref (ad E 326)), (1, .ref (ad E a1)), (2, .int x2), (3, .int x3), (4, .int x4)] [.int xs0, .int xs1, .ref (ad E 333)] := by
  unfold Md_plans_b36
  refine k_iast X c_333 l_333 dX9_plans_36 (fun hb12 => ?_)
  refine k_sq (fun M13 => ?_)
  refine k_aload_n X 0 dX9_plans_37 rfl rfl ?_
  refine k_getR X c_326 fRX9_32 r_326_16 dX9_plans_38 ?_
  refine k_sipush X (v := 256) dX9_plans_41 (by decide) ?_
  refine k_aload_n X 1 dX9_plans_44 rfl rfl ?_
  refine k_iconst X (v := 4) dX9_plans_45 (by decide) ?_
  refine k_ialdC X 4 ha1 ka1 (by decide) (by decide) dX9_plans_46 ?_
  refine k_imul X dX9_plans_47 ?_
  refine k_iload X 4 dX9_plans_48 rfl ?_
  refine k_iadd X dX9_plans_50 ?_
  refine k_iconst X (v := 0) dX9_plans_51 (by decide) ?_
  refine k_iast X c_334 l_334 dX9_plans_52 (fun hb15 => ?_)
  refine k_sq (fun M16 => ?_)
  refine x_iinc X 1 4 [(0, .ref (ad E 326)), (1, .ref (ad E a1)), (2, .int x2), (3, .int x3)] dX9_plans_53 rfl (by decide) (by decide) rfl (fun x17_ => ?_)
  refine k_goto X 3 dX9_plans_56 (by decide) ?_
  refine k_lv [1, 2, 3, 4, 0] rfl ?_
  exact hk3 a1 x2 x3 x17_ ha1 ka1 M16
theorem kb_Md_plans_h3 {Z : ZT} {E : En} (X : Cx Z E 6 cX9_plans RX9 none 5 121)  : ∀ (n : Nat) (a1 : Nat) (x2 : Int32) (x3 : Int32) (x4 : Int32) (ha1 : isC a1 9) (ka1 : ln a1 = 89) (M : Mem), Kj Z E 6 (QV Z E) (Md_plans_h3  n a1 x2 x3 x4 M) M 3 [(0, .ref (ad E 326)), (1, .ref (ad E a1)), (2, .int x2), (3, .int x3), (4, .int x4)] [] := by
  intro n
  induction n with
  | zero => intro a1 x2 x3 x4 ha1 ka1 M; exact k_none
  | succ n ih =>
    intro a1 x2 x3 x4 ha1 ka1 M
    rw [Md_plans_h3]
    refine k_iload X 4 dX9_plans_3 rfl ?_
    refine k_sipush X (v := 256) dX9_plans_5 (by decide) ?_
    refine k_icmp_ge X 59 dX9_plans_8 (by decide) ?_ ?_
    · refine k_aload_n X 1 dX9_plans_59 rfl rfl ?_
      refine k_iconst X (v := 4) dX9_plans_60 (by decide) ?_
      refine k_ialdC X 4 ha1 ka1 (by decide) (by decide) dX9_plans_61 ?_
      refine k_iconst X (v := 1) dX9_plans_62 (by decide) ?_
      refine k_isub X dX9_plans_63 ?_
      refine x_istore X [(0, .ref (ad E 326)), (1, .ref (ad E a1)), (2, .int x2), (3, .int x3)] dX9_plans_64 (by decide) rfl (fun x3_ => ?_)
      refine k_lv [1, 2, 3, 4, 0] rfl ?_
      exact kb_Md_plans_h66 X  FU a1 x2 x3 x3_ ha1 ka1 M
    · refine k_aload_n X 0 dX9_plans_11 rfl rfl ?_
      refine k_getR X c_326 fRX9_29 r_326_15 dX9_plans_12 ?_
      refine k_sipush X (v := 256) dX9_plans_15 (by decide) ?_
      refine k_aload_n X 1 dX9_plans_18 rfl rfl ?_
      refine k_iconst X (v := 4) dX9_plans_19 (by decide) ?_
      refine k_ialdC X 4 ha1 ka1 (by decide) (by decide) dX9_plans_20 ?_
      refine k_imul X dX9_plans_21 ?_
      refine k_iload X 4 dX9_plans_22 rfl ?_
      refine k_iadd X dX9_plans_24 ?_
      refine k_iload X 4 dX9_plans_25 rfl ?_
      refine k_if_ne X 34 dX9_plans_27 (by decide) ?_ ?_
      · refine k_ldc X w_1139 dX9_plans_34 ?_
        refine k_lv [0, 1, 2, 3, 4] rfl ?_
        exact kb_Md_plans_b36 X (fun a1 x2 x3 x4 M => Md_plans_h3 n a1 x2 x3 x4 M) (fun a1 x2 x3 x4 ha1 ka1 M => ih a1 x2 x3 x4 ha1 ka1 M) a1 x2 x3 x4 (-1000000) (((256 : Int32) * (gi M a1 4)) + x4) ha1 ka1 M
      · refine k_iconst X (v := 0) dX9_plans_30 (by decide) ?_
        refine k_goto X 36 dX9_plans_31 (by decide) ?_
        refine k_lv [0, 1, 2, 3, 4] rfl ?_
        exact kb_Md_plans_b36 X (fun a1 x2 x3 x4 M => Md_plans_h3 n a1 x2 x3 x4 M) (fun a1 x2 x3 x4 ha1 ka1 M => ih a1 x2 x3 x4 ha1 ka1 M) a1 x2 x3 x4 0 (((256 : Int32) * (gi M a1 4)) + x4) ha1 ka1 M
theorem kw_Md_plans {Z : ZT} {E : En} (X : Cx Z E 6 cX9_plans RX9 none 5 121) (a1 : Nat) (x2 : Int32) (x3 : Int32) (ha1 : isC a1 9) (ka1 : ln a1 = 89) (M : Mem) : Kj Z E 6 (QV Z E) (j_Md_plans a1 x2 x3 M) M 0 [(0, .ref (ad E 326)), (1, .ref (ad E a1)), (2, .int x2), (3, .int x3)] [] := by
  unfold j_Md_plans
  refine k_iconst X (v := 0) dX9_plans_0 (by decide) ?_
  refine x_istore X [(0, .ref (ad E 326)), (1, .ref (ad E a1)), (2, .int x2), (3, .int x3)] dX9_plans_1 (by decide) rfl (fun x1_ => ?_)
  refine k_lv [1, 2, 3, 4, 0] rfl ?_
  exact kb_Md_plans_h3 X  FU a1 x2 x3 x1_ ha1 ka1 M
theorem mt_Md_plans (l : Launch) (E : En) (a1 : Nat) (x2 : Int32) (x3 : Int32) (ha1 : isC a1 9) (ka1 : ln a1 = 89) (M : Mem) : MV l E yX9_plans cX9_plans 6 none 5 121 [.ref (ad E 326), .ref (ad E a1), .int x2, .int x3] M (j_Md_plans a1 x2 x3 M) := MV_of (by decide) (Nat.le_of_ble_eq_true rfl) (fun Z _ X => k_lv [0, 1, 2, 3] rfl (kw_Md_plans X a1 x2 x3 ha1 ka1 M))
-- FilmCansModel.canBePlaced
theorem kw_Md_canBePlaced {Z : ZT} {E : En} (X : Cx Z E 3 cX9_canBePlaced RX9 (some .boolean) 6 146) (a1 : Nat) (x2 : Int32) (ha1 : isC a1 9) (ka1 : ln a1 = 89) (M : Mem) : Kj Z E 3 (QI Z E) (j_Md_canBePlaced a1 x2 M) M 0 [(0, .ref (ad E 326)), (1, .ref (ad E a1)), (2, .int x2)] [] := by
  unfold j_Md_canBePlaced
  refine k_aload_n X 0 dX9_canBePlaced_0 rfl rfl ?_
  refine k_aload_n X 1 dX9_canBePlaced_1 rfl rfl ?_
  refine k_aload_n X 1 dX9_canBePlaced_2 rfl rfl ?_
  refine k_callSI X [.ref (ad E a1)] [.ref (ad E a1), .ref (ad E 326)] (mt_Md_openOnes (zl Z) E a1 ha1 ka1 M) mRX9_234 ⟨by decide, by decide⟩ rfl rfl (Nat.le_of_ble_eq_true rfl) dX9_canBePlaced_3 (fun r1 M2 => ?_)
  refine k_iload_n X 2 dX9_canBePlaced_6 rfl rfl ?_
  refine k_callVV X [.ref (ad E a1), .int r1, .int x2] [] c_326 rfl (by decide) rfl (mt_Md_plans (zl Z) E a1 r1 x2 ha1 ka1 M2) mRX9_248 ⟨by decide, by decide⟩ rfl rfl (Nat.le_of_ble_eq_true rfl) dX9_canBePlaced_7 (fun _ M4 => ?_)
  refine k_aload_n X 0 dX9_canBePlaced_10 rfl rfl ?_
  refine k_getR X c_326 fRX9_29 r_326_15 dX9_canBePlaced_11 ?_
  refine k_aload_n X 1 dX9_canBePlaced_14 rfl rfl ?_
  refine k_callSI X [.ref (ad E a1)] [.ref (ad E 333)] (mt_Md_openOnes (zl Z) E a1 ha1 ka1 M4) mRX9_234 ⟨by decide, by decide⟩ rfl rfl (Nat.le_of_ble_eq_true rfl) dX9_canBePlaced_15 (fun r5 M6 => ?_)
  refine k_iald X c_333 l_333 dX9_canBePlaced_18 (fun hb7 => ?_)
  refine k_ldc X w_1139 dX9_canBePlaced_19 ?_
  refine k_icmp_eq X 28 dX9_canBePlaced_21 (by decide) ?_ ?_
  · refine k_iconst X (v := 0) dX9_canBePlaced_28 (by decide) ?_
    exact k_zret X (by decide) dX9_canBePlaced_29
  · refine k_iconst X (v := 1) dX9_canBePlaced_24 (by decide) ?_
    refine k_goto X 29 dX9_canBePlaced_25 (by decide) ?_
    exact k_zret X (by decide) dX9_canBePlaced_29
theorem mt_Md_canBePlaced (l : Launch) (E : En) (a1 : Nat) (x2 : Int32) (ha1 : isC a1 9) (ka1 : ln a1 = 89) (M : Mem) : MI l E yX9_canBePlaced cX9_canBePlaced 3 (some .boolean) 6 146 [.ref (ad E 326), .ref (ad E a1), .int x2] M (j_Md_canBePlaced a1 x2 M) := MI_of (by decide) (Nat.le_of_ble_eq_true rfl) (fun Z _ X => k_lv [0, 1, 2] rfl (kw_Md_canBePlaced X a1 x2 ha1 ka1 M))
-- FilmCansModel.leastAt
theorem kb_Md_leastAt_b163 {Z : ZT} {E : En} (X : Cx Z E 9 cX9_leastAt RX9 (some .int) 4 91) (k59 : Nat → Int32 → Int32 → Int32 → Int32 → Int32 → Mem → Option (Int32 × Mem)) (hk59 : ∀ (a1 : Nat) (x2 : Int32) (x3 : Int32) (x4 : Int32) (x5 : Int32) (x6 : Int32) (ha1 : isC a1 9) (ka1 : ln a1 = 89) (M : Mem), Kj Z E 9 (QI Z E) (k59 a1 x2 x3 x4 x5 x6 M) M 59 [(0, .ref (ad E 326)), (1, .ref (ad E a1)), (2, .int x2), (3, .int x3), (4, .int x4), (5, .int x5), (6, .int x6)] []) (a1 : Nat) (x2 : Int32) (x3 : Int32) (x4 : Int32) (x6 : Int32) (xs0 : Int32) (ha1 : isC a1 9) (ka1 : ln a1 = 89) (M : Mem) : Kj Z E 9 (QI Z E) (Md_leastAt_b163 k59 a1 x2 x3 x4 x6 xs0 M) M 163 [(0, .ref (ad E 326)), (1, .ref (ad E a1)), (2, .int x2), (3, .int x3), (4, .int x4), (6, .int x6)] [.int xs0] := by
  unfold Md_leastAt_b163
  refine k_istore X [(5, .int xs0), (0, .ref (ad E 326)), (1, .ref (ad E a1)), (2, .int x2), (3, .int x3), (4, .int x4), (6, .int x6)] dX9_leastAt_163 (by decide) rfl ?_
  refine k_iload X 6 dX9_leastAt_165 rfl ?_
  refine k_iconst X (v := 1) dX9_leastAt_167 (by decide) ?_
  refine k_isub X dX9_leastAt_168 ?_
  refine k_iload_n X 4 dX9_leastAt_169 rfl rfl ?_
  refine k_iand X dX9_leastAt_170 ?_
  refine x_istore X [(5, .int xs0), (0, .ref (ad E 326)), (1, .ref (ad E a1)), (2, .int x2), (3, .int x3), (4, .int x4)] dX9_leastAt_171 (by decide) rfl (fun x6_ => ?_)
  refine k_goto X 59 dX9_leastAt_173 (by decide) ?_
  refine k_lv [2, 3, 4, 5, 6, 1, 0] rfl ?_
  exact hk59 a1 x2 x3 x4 xs0 x6_ ha1 ka1 M
theorem kb_Md_leastAt_b149 {Z : ZT} {E : En} (X : Cx Z E 9 cX9_leastAt RX9 (some .int) 4 91) (k59 : Nat → Int32 → Int32 → Int32 → Int32 → Int32 → Mem → Option (Int32 × Mem)) (hk59 : ∀ (a1 : Nat) (x2 : Int32) (x3 : Int32) (x4 : Int32) (x5 : Int32) (x6 : Int32) (ha1 : isC a1 9) (ka1 : ln a1 = 89) (M : Mem), Kj Z E 9 (QI Z E) (k59 a1 x2 x3 x4 x5 x6 M) M 59 [(0, .ref (ad E 326)), (1, .ref (ad E a1)), (2, .int x2), (3, .int x3), (4, .int x4), (5, .int x5), (6, .int x6)] []) (a1 : Nat) (x2 : Int32) (x3 : Int32) (x4 : Int32) (x5 : Int32) (x6 : Int32) (xs0 : Int32) (ha1 : isC a1 9) (ka1 : ln a1 = 89) (M : Mem) : Kj Z E 9 (QI Z E) (Md_leastAt_b149 k59 a1 x2 x3 x4 x5 x6 xs0 M) M 149 [(0, .ref (ad E 326)), (1, .ref (ad E a1)), (2, .int x2), (3, .int x3), (4, .int x4), (5, .int x5), (6, .int x6)] [.int xs0] := by
  unfold Md_leastAt_b149
  refine k_istore X [(8, .int xs0), (0, .ref (ad E 326)), (1, .ref (ad E a1)), (2, .int x2), (3, .int x3), (4, .int x4), (5, .int x5), (6, .int x6)] dX9_leastAt_149 (by decide) rfl ?_
  refine k_iload X 0 dX9_leastAt_151 rfl ?_
  refine k_if_eq X 161 dX9_leastAt_153 (by decide) ?_ ?_
  · refine k_iload X 6 dX9_leastAt_161 rfl ?_
    refine k_lv [1, 2, 3, 4, 5, 7] rfl ?_
    exact kb_Md_leastAt_b163 X k59 hk59 a1 x2 x3 x4 x6 x5 ha1 ka1 M
  · refine k_iload X 7 dX9_leastAt_156 rfl ?_
    refine k_goto X 163 dX9_leastAt_158 (by decide) ?_
    refine k_lv [1, 2, 3, 4, 5, 7] rfl ?_
    exact kb_Md_leastAt_b163 X k59 hk59 a1 x2 x3 x4 x6 x6 ha1 ka1 M
theorem kb_Md_leastAt_b148 {Z : ZT} {E : En} (X : Cx Z E 9 cX9_leastAt RX9 (some .int) 4 91) (k59 : Nat → Int32 → Int32 → Int32 → Int32 → Int32 → Mem → Option (Int32 × Mem)) (hk59 : ∀ (a1 : Nat) (x2 : Int32) (x3 : Int32) (x4 : Int32) (x5 : Int32) (x6 : Int32) (ha1 : isC a1 9) (ka1 : ln a1 = 89) (M : Mem), Kj Z E 9 (QI Z E) (k59 a1 x2 x3 x4 x5 x6 M) M 59 [(0, .ref (ad E 326)), (1, .ref (ad E a1)), (2, .int x2), (3, .int x3), (4, .int x4), (5, .int x5), (6, .int x6)] []) (a1 : Nat) (x2 : Int32) (x3 : Int32) (x4 : Int32) (x5 : Int32) (x6 : Int32) (ha1 : isC a1 9) (ka1 : ln a1 = 89) (M : Mem) : Kj Z E 9 (QI Z E) (Md_leastAt_b148 k59 a1 x2 x3 x4 x5 x6 M) M 148 [(0, .ref (ad E 326)), (1, .ref (ad E a1)), (2, .int x2), (3, .int x3), (4, .int x4), (5, .int x5), (6, .int x6)] [] := by
  unfold Md_leastAt_b148
  refine k_iconst X (v := 0) dX9_leastAt_148 (by decide) ?_
  refine k_lv [0, 1, 2, 3, 4, 5, 6] rfl ?_
  exact kb_Md_leastAt_b149 X k59 hk59 a1 x2 x3 x4 x5 x6 0 ha1 ka1 M
theorem kb_Md_leastAt_h59 {Z : ZT} {E : En} (X : Cx Z E 9 cX9_leastAt RX9 (some .int) 4 91)  : ∀ (n : Nat) (a1 : Nat) (x2 : Int32) (x3 : Int32) (x4 : Int32) (x5 : Int32) (x6 : Int32) (ha1 : isC a1 9) (ka1 : ln a1 = 89) (M : Mem), Kj Z E 9 (QI Z E) (Md_leastAt_h59  n a1 x2 x3 x4 x5 x6 M) M 59 [(0, .ref (ad E 326)), (1, .ref (ad E a1)), (2, .int x2), (3, .int x3), (4, .int x4), (5, .int x5), (6, .int x6)] [] := by
  intro n
  induction n with
  | zero => intro a1 x2 x3 x4 x5 x6 ha1 ka1 M; exact k_none
  | succ n ih =>
    intro a1 x2 x3 x4 x5 x6 ha1 ka1 M
    rw [Md_leastAt_h59]
    refine k_iload X 6 dX9_leastAt_59 rfl ?_
    refine k_if_le X 176 dX9_leastAt_61 (by decide) ?_ ?_
    · refine k_iload X 5 dX9_leastAt_176 rfl ?_
      exact k_iret X dX9_leastAt_178
    · refine k_sipush X (v := 256) dX9_leastAt_64 (by decide) ?_
      refine k_iload_n X 2 dX9_leastAt_67 rfl rfl ?_
      refine k_iconst X (v := 1) dX9_leastAt_68 (by decide) ?_
      refine k_iadd X dX9_leastAt_69 ?_
      refine k_imul X dX9_leastAt_70 ?_
      refine k_iload_n X 3 dX9_leastAt_71 rfl rfl ?_
      refine k_iload X 6 dX9_leastAt_72 rfl ?_
      refine k_ixor X dX9_leastAt_74 ?_
      refine k_iadd X dX9_leastAt_75 ?_
      refine x_istore X [(0, .ref (ad E 326)), (1, .ref (ad E a1)), (2, .int x2), (3, .int x3), (4, .int x4), (5, .int x5), (6, .int x6)] dX9_leastAt_76 (by decide) rfl (fun x4_ => ?_)
      refine k_aload_n X 1 dX9_leastAt_78 rfl rfl ?_
      refine k_getR X c_326 fRX9_29 r_326_15 dX9_leastAt_79 ?_
      refine k_iload X 0 dX9_leastAt_82 rfl ?_
      refine k_iald X c_333 l_333 dX9_leastAt_84 (fun hb5 => ?_)
      refine k_ldc X w_1139 dX9_leastAt_85 ?_
      refine k_icmp_eq X 148 dX9_leastAt_87 (by decide) ?_ ?_
      · refine k_lv [1, 2, 3, 4, 5, 6, 7] rfl ?_
        exact kb_Md_leastAt_b148 X (fun a1 x2 x3 x4 x5 x6 M => Md_leastAt_h59 n a1 x2 x3 x4 x5 x6 M) (fun a1 x2 x3 x4 x5 x6 ha1 ka1 M => ih a1 x2 x3 x4 x5 x6 ha1 ka1 M) a1 x2 x3 x4 x5 x6 ha1 ka1 M
      · refine k_aload_n X 2 dX9_leastAt_90 rfl rfl ?_
        refine k_iload_n X 3 dX9_leastAt_91 rfl rfl ?_
        refine k_iload X 7 dX9_leastAt_92 rfl ?_
        refine k_callSI X [.ref (ad E a1), .int x2, .int x6] [] (mt_Md_left (zl Z) E a1 x2 x6 ha1 ka1 M) mRX9_86 ⟨by decide, by decide⟩ rfl rfl (Nat.le_of_ble_eq_true rfl) dX9_leastAt_94 (fun r7 M8 => ?_)
        refine k_if_lt X 148 dX9_leastAt_97 (by decide) ?_ ?_
        · refine k_lv [1, 2, 3, 4, 5, 6, 7] rfl ?_
          exact kb_Md_leastAt_b148 X (fun a1 x2 x3 x4 x5 x6 M => Md_leastAt_h59 n a1 x2 x3 x4 x5 x6 M) (fun a1 x2 x3 x4 x5 x6 ha1 ka1 M => ih a1 x2 x3 x4 x5 x6 ha1 ka1 M) a1 x2 x3 x4 x5 x6 ha1 ka1 M8
        · refine k_aload_n X 1 dX9_leastAt_100 rfl rfl ?_
          refine k_getR X c_326 fRX9_29 r_326_15 dX9_leastAt_101 ?_
          refine k_iload X 0 dX9_leastAt_104 rfl ?_
          refine k_iald X c_333 l_333 dX9_leastAt_106 (fun hb9 => ?_)
          refine k_aload_n X 2 dX9_leastAt_107 rfl rfl ?_
          refine k_iload_n X 3 dX9_leastAt_108 rfl rfl ?_
          refine k_iload X 7 dX9_leastAt_109 rfl ?_
          refine k_callSI X [.ref (ad E a1), .int x2, .int x6] [.int (gi M8 333 (ix x4_))] (mt_Md_lossOf (zl Z) E a1 x2 x6 ha1 ka1 M8) mRX9_245 ⟨by decide, by decide⟩ rfl rfl (Nat.le_of_ble_eq_true rfl) dX9_leastAt_111 (fun r10 M11 => ?_)
          refine k_iadd X dX9_leastAt_114 ?_
          refine k_aload_n X 1 dX9_leastAt_115 rfl rfl ?_
          refine k_getR X c_326 fRX9_29 r_326_15 dX9_leastAt_116 ?_
          refine k_iload X 5 dX9_leastAt_119 rfl ?_
          refine k_iald X c_333 l_333 dX9_leastAt_121 (fun hb12 => ?_)
          refine k_icmp_ne X 148 dX9_leastAt_122 (by decide) ?_ ?_
          · refine k_lv [1, 2, 3, 4, 5, 6, 7] rfl ?_
            exact kb_Md_leastAt_b148 X (fun a1 x2 x3 x4 x5 x6 M => Md_leastAt_h59 n a1 x2 x3 x4 x5 x6 M) (fun a1 x2 x3 x4 x5 x6 ha1 ka1 M => ih a1 x2 x3 x4 x5 x6 ha1 ka1 M) a1 x2 x3 x4 x5 x6 ha1 ka1 M11
          · refine k_aload_n X 1 dX9_leastAt_125 rfl rfl ?_
            refine k_getR X c_326 fRX9_32 r_326_16 dX9_leastAt_126 ?_
            refine k_iload X 0 dX9_leastAt_129 rfl ?_
            refine k_iald X c_334 l_334 dX9_leastAt_131 (fun hb13 => ?_)
            refine k_iconst X (v := 1) dX9_leastAt_132 (by decide) ?_
            refine k_iadd X dX9_leastAt_133 ?_
            refine k_aload_n X 1 dX9_leastAt_134 rfl rfl ?_
            refine k_getR X c_326 fRX9_32 r_326_16 dX9_leastAt_135 ?_
            refine k_iload X 5 dX9_leastAt_138 rfl ?_
            refine k_iald X c_334 l_334 dX9_leastAt_140 (fun hb14 => ?_)
            refine k_icmp_ne X 148 dX9_leastAt_141 (by decide) ?_ ?_
            · refine k_lv [1, 2, 3, 4, 5, 6, 7] rfl ?_
              exact kb_Md_leastAt_b148 X (fun a1 x2 x3 x4 x5 x6 M => Md_leastAt_h59 n a1 x2 x3 x4 x5 x6 M) (fun a1 x2 x3 x4 x5 x6 ha1 ka1 M => ih a1 x2 x3 x4 x5 x6 ha1 ka1 M) a1 x2 x3 x4 x5 x6 ha1 ka1 M11
            · refine k_iconst X (v := 1) dX9_leastAt_144 (by decide) ?_
              refine k_goto X 149 dX9_leastAt_145 (by decide) ?_
              refine k_lv [1, 2, 3, 4, 5, 6, 7] rfl ?_
              exact kb_Md_leastAt_b149 X (fun a1 x2 x3 x4 x5 x6 M => Md_leastAt_h59 n a1 x2 x3 x4 x5 x6 M) (fun a1 x2 x3 x4 x5 x6 ha1 ka1 M => ih a1 x2 x3 x4 x5 x6 ha1 ka1 M) a1 x2 x3 x4 x5 x6 1 ha1 ka1 M11
theorem kb_Md_leastAt_b53 {Z : ZT} {E : En} (X : Cx Z E 9 cX9_leastAt RX9 (some .int) 4 91) (a1 : Nat) (x2 : Int32) (x3 : Int32) (x4 : Int32) (ha1 : isC a1 9) (ka1 : ln a1 = 89) (M : Mem) : Kj Z E 9 (QI Z E) (Md_leastAt_b53 a1 x2 x3 x4 M) M 53 [(0, .ref (ad E 326)), (1, .ref (ad E a1)), (2, .int x2), (3, .int x3), (4, .int x4)] [] := by
  unfold Md_leastAt_b53
  refine k_iload_n X 3 dX9_leastAt_53 rfl rfl ?_
  refine k_istore X [(5, .int x3), (0, .ref (ad E 326)), (1, .ref (ad E a1)), (2, .int x2), (3, .int x3), (4, .int x4)] dX9_leastAt_54 (by decide) rfl ?_
  refine k_iload_n X 4 dX9_leastAt_56 rfl rfl ?_
  refine k_istore X [(6, .int x3), (5, .int x3), (0, .ref (ad E 326)), (1, .ref (ad E a1)), (2, .int x2), (3, .int x3), (4, .int x4)] dX9_leastAt_57 (by decide) rfl ?_
  refine k_lv [2, 3, 4, 5, 6, 1, 0] rfl ?_
  exact kb_Md_leastAt_h59 X  FU a1 x2 x3 x4 x3 x3 ha1 ka1 M
theorem kw_Md_leastAt {Z : ZT} {E : En} (X : Cx Z E 9 cX9_leastAt RX9 (some .int) 4 91) (a1 : Nat) (x2 : Int32) (x3 : Int32) (ha1 : isC a1 9) (ka1 : ln a1 = 89) (M : Mem) : Kj Z E 9 (QI Z E) (j_Md_leastAt a1 x2 x3 M) M 0 [(0, .ref (ad E 326)), (1, .ref (ad E a1)), (2, .int x2), (3, .int x3)] [] := by
  unfold j_Md_leastAt
  refine k_sipush X (v := 256) dX9_leastAt_0 (by decide) ?_
  refine k_iload_n X 2 dX9_leastAt_3 rfl rfl ?_
  refine k_imul X dX9_leastAt_4 ?_
  refine k_iload_n X 3 dX9_leastAt_5 rfl rfl ?_
  refine k_iadd X dX9_leastAt_6 ?_
  refine x_istore X [(0, .ref (ad E 326)), (1, .ref (ad E a1)), (2, .int x2), (3, .int x3)] dX9_leastAt_7 (by decide) rfl (fun x1_ => ?_)
  refine k_aload_n X 1 dX9_leastAt_9 rfl rfl ?_
  refine k_getR X c_326 fRX9_29 r_326_15 dX9_leastAt_10 ?_
  refine k_iload X 0 dX9_leastAt_13 rfl ?_
  refine k_sipush X (v := 256) dX9_leastAt_15 (by decide) ?_
  refine k_iadd X dX9_leastAt_18 ?_
  refine k_iald X c_333 l_333 dX9_leastAt_19 (fun hb2 => ?_)
  refine k_aload_n X 1 dX9_leastAt_20 rfl rfl ?_
  refine k_getR X c_326 fRX9_29 r_326_15 dX9_leastAt_21 ?_
  refine k_iload X 0 dX9_leastAt_24 rfl ?_
  refine k_iald X c_333 l_333 dX9_leastAt_26 (fun hb3 => ?_)
  refine k_icmp_ne X 53 dX9_leastAt_27 (by decide) ?_ ?_
  · refine k_lv [1, 2, 3, 4, 0] rfl ?_
    exact kb_Md_leastAt_b53 X  a1 x2 x3 x1_ ha1 ka1 M
  · refine k_aload_n X 1 dX9_leastAt_30 rfl rfl ?_
    refine k_getR X c_326 fRX9_32 r_326_16 dX9_leastAt_31 ?_
    refine k_iload X 0 dX9_leastAt_34 rfl ?_
    refine k_sipush X (v := 256) dX9_leastAt_36 (by decide) ?_
    refine k_iadd X dX9_leastAt_39 ?_
    refine k_iald X c_334 l_334 dX9_leastAt_40 (fun hb15 => ?_)
    refine k_aload_n X 1 dX9_leastAt_41 rfl rfl ?_
    refine k_getR X c_326 fRX9_32 r_326_16 dX9_leastAt_42 ?_
    refine k_iload X 0 dX9_leastAt_45 rfl ?_
    refine k_iald X c_334 l_334 dX9_leastAt_47 (fun hb16 => ?_)
    refine k_icmp_ne X 53 dX9_leastAt_48 (by decide) ?_ ?_
    · refine k_lv [1, 2, 3, 4, 0] rfl ?_
      exact kb_Md_leastAt_b53 X  a1 x2 x3 x1_ ha1 ka1 M
    · refine k_iconst X (v := 0) dX9_leastAt_51 (by decide) ?_
      exact k_iret X dX9_leastAt_52
theorem mt_Md_leastAt (l : Launch) (E : En) (a1 : Nat) (x2 : Int32) (x3 : Int32) (ha1 : isC a1 9) (ka1 : ln a1 = 89) (M : Mem) : MI l E yX9_leastAt cX9_leastAt 9 (some .int) 4 91 [.ref (ad E 326), .ref (ad E a1), .int x2, .int x3] M (j_Md_leastAt a1 x2 x3 M) := MI_of (by decide) (Nat.le_of_ble_eq_true rfl) (fun Z _ X => k_lv [0, 1, 2, 3] rfl (kw_Md_leastAt X a1 x2 x3 ha1 ka1 M))
-- FilmCansModel.best
theorem kb_Md_best_h18 {Z : ZT} {E : En} (X : Cx Z E 4 cX9_best RX9 (some .boolean) 7 168)  : ∀ (n : Nat) (a1 : Nat) (x2 : Int32) (x3 : Int32) (ha1 : isC a1 9) (ka1 : ln a1 = 89) (M : Mem), Kj Z E 4 (QI Z E) (Md_best_h18  n a1 x2 x3 M) M 18 [(0, .ref (ad E 326)), (1, .ref (ad E a1)), (2, .int x2), (3, .int x3)] [] := by
  intro n
  induction n with
  | zero => intro a1 x2 x3 ha1 ka1 M; exact k_none
  | succ n ih =>
    intro a1 x2 x3 ha1 ka1 M
    rw [Md_best_h18]
    refine k_iload_n X 3 dX9_best_18 rfl rfl ?_
    refine k_aload_n X 1 dX9_best_19 rfl rfl ?_
    refine k_iconst X (v := 4) dX9_best_20 (by decide) ?_
    refine k_ialdC X 4 ha1 ka1 (by decide) (by decide) dX9_best_21 ?_
    refine k_icmp_ge X 53 dX9_best_22 (by decide) ?_ ?_
    · refine k_iconst X (v := 1) dX9_best_53 (by decide) ?_
      exact k_zret X (by decide) dX9_best_54
    · refine k_aload_n X 0 dX9_best_25 rfl rfl ?_
      refine k_getR X c_326 fRX9_35 r_326_17 dX9_best_26 ?_
      refine k_iload_n X 3 dX9_best_29 rfl rfl ?_
      refine k_aload_n X 0 dX9_best_30 rfl rfl ?_
      refine k_aload_n X 1 dX9_best_31 rfl rfl ?_
      refine k_iload_n X 3 dX9_best_32 rfl rfl ?_
      refine k_iload_n X 2 dX9_best_33 rfl rfl ?_
      refine k_callVI X [.ref (ad E a1), .int x3, .int x2] [.int x3, .ref (ad E 335)] c_326 rfl (by decide) rfl (mt_Md_leastAt (zl Z) E a1 x3 x2 ha1 ka1 M) mRX9_254 ⟨by decide, by decide⟩ rfl rfl (Nat.le_of_ble_eq_true rfl) dX9_best_34 (fun r7 M8 => ?_)
      refine k_iast X c_335 l_335 dX9_best_37 (fun hb9 => ?_)
      refine k_sq (fun M10 => ?_)
      refine k_iload_n X 2 dX9_best_38 rfl rfl ?_
      refine k_aload_n X 0 dX9_best_39 rfl rfl ?_
      refine k_getR X c_326 fRX9_35 r_326_17 dX9_best_40 ?_
      refine k_iload_n X 3 dX9_best_43 rfl rfl ?_
      refine k_iald X c_335 l_335 dX9_best_44 (fun hb11 => ?_)
      refine k_ixor X dX9_best_45 ?_
      refine x_istore_n X [(0, .ref (ad E 326)), (1, .ref (ad E a1)), (3, .int x3)] dX9_best_46 rfl (by decide) rfl (fun x12_ => ?_)
      refine x_iinc X 1 3 [(2, .int x12_), (0, .ref (ad E 326)), (1, .ref (ad E a1))] dX9_best_47 rfl (by decide) (by decide) rfl (fun x13_ => ?_)
      refine k_goto X 18 dX9_best_50 (by decide) ?_
      refine k_lv [2, 3, 1, 0] rfl ?_
      exact ih a1 x12_ x13_ ha1 ka1 M10
theorem kw_Md_best {Z : ZT} {E : En} (X : Cx Z E 4 cX9_best RX9 (some .boolean) 7 168) (a1 : Nat) (ha1 : isC a1 9) (ka1 : ln a1 = 89) (M : Mem) : Kj Z E 4 (QI Z E) (j_Md_best a1 M) M 0 [(0, .ref (ad E 326)), (1, .ref (ad E a1))] [] := by
  unfold j_Md_best
  refine k_aload_n X 0 dX9_best_0 rfl rfl ?_
  refine k_aload_n X 1 dX9_best_1 rfl rfl ?_
  refine k_iconst X (v := 0) dX9_best_2 (by decide) ?_
  refine k_callVI X [.ref (ad E a1), .int 0] [] c_326 rfl (by decide) rfl (mt_Md_canBePlaced (zl Z) E a1 0 ha1 ka1 M) mRX9_251 ⟨by decide, by decide⟩ rfl rfl (Nat.le_of_ble_eq_true rfl) dX9_best_3 (fun r1 M2 => ?_)
  refine k_if_ne X 11 dX9_best_6 (by decide) ?_ ?_
  · refine k_aload_n X 1 dX9_best_11 rfl rfl ?_
    refine k_callSI X [.ref (ad E a1)] [] (mt_Md_openOnes (zl Z) E a1 ha1 ka1 M2) mRX9_234 ⟨by decide, by decide⟩ rfl rfl (Nat.le_of_ble_eq_true rfl) dX9_best_12 (fun r3 M4 => ?_)
    refine k_istore_n X [(2, .int r3), (0, .ref (ad E 326)), (1, .ref (ad E a1))] dX9_best_15 rfl (by decide) rfl ?_
    refine k_iconst X (v := 0) dX9_best_16 (by decide) ?_
    refine x_istore_n X [(2, .int r3), (0, .ref (ad E 326)), (1, .ref (ad E a1))] dX9_best_17 rfl (by decide) rfl (fun x5_ => ?_)
    refine k_lv [2, 3, 1, 0] rfl ?_
    exact kb_Md_best_h18 X  FU a1 r3 x5_ ha1 ka1 M4
  · refine k_iconst X (v := 0) dX9_best_9 (by decide) ?_
    exact k_zret X (by decide) dX9_best_10
theorem mt_Md_best (l : Launch) (E : En) (a1 : Nat) (ha1 : isC a1 9) (ka1 : ln a1 = 89) (M : Mem) : MI l E yX9_best cX9_best 4 (some .boolean) 7 168 [.ref (ad E 326), .ref (ad E a1)] M (j_Md_best a1 M) := MI_of (by decide) (Nat.le_of_ble_eq_true rfl) (fun Z _ X => k_lv [0, 1] rfl (kw_Md_best X a1 ha1 ka1 M))
-- FilmCansModel.lossOfPlan
theorem kb_Md_lossOfPlan_h4 {Z : ZT} {E : En} (X : Cx Z E 3 cX9_lossOfPlan RX9 (some .int) 4 91)  : ∀ (n : Nat) (x1 : Int32) (x2 : Int32) (M : Mem), Kj Z E 3 (QI Z E) (Md_lossOfPlan_h4  n x1 x2 M) M 4 [(0, .ref (ad E 326)), (1, .int x1), (2, .int x2)] [] := by
  intro n
  induction n with
  | zero => intro x1 x2 M; exact k_none
  | succ n ih =>
    intro x1 x2 M
    rw [Md_lossOfPlan_h4]
    refine k_iload_n X 2 dX9_lossOfPlan_4 rfl rfl ?_
    refine k_aload_n X 0 dX9_lossOfPlan_5 rfl rfl ?_
    refine k_getR X c_326 fRX9_7 r_326_0 dX9_lossOfPlan_6 ?_
    refine k_iconst X (v := 4) dX9_lossOfPlan_9 (by decide) ?_
    refine k_ialdC X 4 c_327 l_327 (by decide) (by decide) dX9_lossOfPlan_10 ?_
    refine k_icmp_ge X 37 dX9_lossOfPlan_11 (by decide) ?_ ?_
    · refine k_iload_n X 1 dX9_lossOfPlan_37 rfl rfl ?_
      exact k_iret X dX9_lossOfPlan_38
    · refine k_iload_n X 1 dX9_lossOfPlan_14 rfl rfl ?_
      refine k_aload_n X 0 dX9_lossOfPlan_15 rfl rfl ?_
      refine k_getR X c_326 fRX9_7 r_326_0 dX9_lossOfPlan_16 ?_
      refine k_iload_n X 2 dX9_lossOfPlan_19 rfl rfl ?_
      refine k_aload_n X 0 dX9_lossOfPlan_20 rfl rfl ?_
      refine k_getR X c_326 fRX9_35 r_326_17 dX9_lossOfPlan_21 ?_
      refine k_iload_n X 2 dX9_lossOfPlan_24 rfl rfl ?_
      refine k_iald X c_335 l_335 dX9_lossOfPlan_25 (fun hb4 => ?_)
      refine k_callSI X [.ref (ad E 327), .int x2, .int (gi M 335 (ix x2))] [.int x1] (mt_Md_lossOf (zl Z) E 327 x2 (gi M 335 (ix x2)) c_327 l_327 M) mRX9_245 ⟨by decide, by decide⟩ rfl rfl (Nat.le_of_ble_eq_true rfl) dX9_lossOfPlan_26 (fun r5 M6 => ?_)
      refine k_iadd X dX9_lossOfPlan_29 ?_
      refine x_istore_n X [(0, .ref (ad E 326)), (2, .int x2)] dX9_lossOfPlan_30 rfl (by decide) rfl (fun x7_ => ?_)
      refine x_iinc X 1 2 [(1, .int x7_), (0, .ref (ad E 326))] dX9_lossOfPlan_31 rfl (by decide) (by decide) rfl (fun x8_ => ?_)
      refine k_goto X 4 dX9_lossOfPlan_34 (by decide) ?_
      refine k_lv [2, 1, 0] rfl ?_
      exact ih x7_ x8_ M6
theorem kw_Md_lossOfPlan {Z : ZT} {E : En} (X : Cx Z E 3 cX9_lossOfPlan RX9 (some .int) 4 91) (M : Mem) : Kj Z E 3 (QI Z E) (j_Md_lossOfPlan M) M 0 [(0, .ref (ad E 326))] [] := by
  unfold j_Md_lossOfPlan
  refine k_iconst X (v := 0) dX9_lossOfPlan_0 (by decide) ?_
  refine x_istore_n X [(0, .ref (ad E 326))] dX9_lossOfPlan_1 rfl (by decide) rfl (fun x1_ => ?_)
  refine k_iconst X (v := 0) dX9_lossOfPlan_2 (by decide) ?_
  refine x_istore_n X [(1, .int x1_), (0, .ref (ad E 326))] dX9_lossOfPlan_3 rfl (by decide) rfl (fun x2_ => ?_)
  refine k_lv [2, 1, 0] rfl ?_
  exact kb_Md_lossOfPlan_h4 X  FU x1_ x2_ M
theorem mt_Md_lossOfPlan (l : Launch) (E : En) (M : Mem) : MI l E yX9_lossOfPlan cX9_lossOfPlan 3 (some .int) 4 91 [.ref (ad E 326)] M (j_Md_lossOfPlan M) := MI_of (by decide) (Nat.le_of_ble_eq_true rfl) (fun Z _ X => k_lv [0] rfl (kw_Md_lossOfPlan X M))
-- FilmCansModel.roomsOfPlan
theorem kb_Md_roomsOfPlan_b29 {Z : ZT} {E : En} (X : Cx Z E 3 cX9_roomsOfPlan RX9 (some .int) 0 0) (k4 : Int32 → Int32 → Mem → Option (Int32 × Mem)) (hk4 : ∀ (x1 : Int32) (x2 : Int32) (M : Mem), Kj Z E 3 (QI Z E) (k4 x1 x2 M) M 4 [(0, .ref (ad E 326)), (1, .int x1), (2, .int x2)] []) (x2 : Int32) (xs0 : Int32) (xs1 : Int32) (M : Mem) : Kj Z E 3 (QI Z E) (Md_roomsOfPlan_b29 k4 x2 xs0 xs1 M) M 29 [(0, .ref (ad E 326)), (2, .int x2)] [.int xs0, .int xs1] := by
  unfold Md_roomsOfPlan_b29
  refine k_iadd X dX9_roomsOfPlan_29 ?_
  refine x_istore_n X [(0, .ref (ad E 326)), (2, .int x2)] dX9_roomsOfPlan_30 rfl (by decide) rfl (fun x5_ => ?_)
  refine x_iinc X 1 2 [(1, .int x5_), (0, .ref (ad E 326))] dX9_roomsOfPlan_31 rfl (by decide) (by decide) rfl (fun x6_ => ?_)
  refine k_goto X 4 dX9_roomsOfPlan_34 (by decide) ?_
  refine k_lv [2, 1, 0] rfl ?_
  exact hk4 x5_ x6_ M
theorem kb_Md_roomsOfPlan_h4 {Z : ZT} {E : En} (X : Cx Z E 3 cX9_roomsOfPlan RX9 (some .int) 0 0)  : ∀ (n : Nat) (x1 : Int32) (x2 : Int32) (M : Mem), Kj Z E 3 (QI Z E) (Md_roomsOfPlan_h4  n x1 x2 M) M 4 [(0, .ref (ad E 326)), (1, .int x1), (2, .int x2)] [] := by
  intro n
  induction n with
  | zero => intro x1 x2 M; exact k_none
  | succ n ih =>
    intro x1 x2 M
    rw [Md_roomsOfPlan_h4]
    refine k_iload_n X 2 dX9_roomsOfPlan_4 rfl rfl ?_
    refine k_aload_n X 0 dX9_roomsOfPlan_5 rfl rfl ?_
    refine k_getR X c_326 fRX9_7 r_326_0 dX9_roomsOfPlan_6 ?_
    refine k_iconst X (v := 4) dX9_roomsOfPlan_9 (by decide) ?_
    refine k_ialdC X 4 c_327 l_327 (by decide) (by decide) dX9_roomsOfPlan_10 ?_
    refine k_icmp_ge X 37 dX9_roomsOfPlan_11 (by decide) ?_ ?_
    · refine k_iload_n X 1 dX9_roomsOfPlan_37 rfl rfl ?_
      exact k_iret X dX9_roomsOfPlan_38
    · refine k_iload_n X 1 dX9_roomsOfPlan_14 rfl rfl ?_
      refine k_aload_n X 0 dX9_roomsOfPlan_15 rfl rfl ?_
      refine k_getR X c_326 fRX9_35 r_326_17 dX9_roomsOfPlan_16 ?_
      refine k_iload_n X 2 dX9_roomsOfPlan_19 rfl rfl ?_
      refine k_iald X c_335 l_335 dX9_roomsOfPlan_20 (fun hb4 => ?_)
      refine k_if_ne X 28 dX9_roomsOfPlan_21 (by decide) ?_ ?_
      · refine k_iconst X (v := 1) dX9_roomsOfPlan_28 (by decide) ?_
        refine k_lv [0, 2] rfl ?_
        exact kb_Md_roomsOfPlan_b29 X (fun x1 x2 M => Md_roomsOfPlan_h4 n x1 x2 M) (fun x1 x2 M => ih x1 x2 M) x2 1 x1 M
      · refine k_iconst X (v := 0) dX9_roomsOfPlan_24 (by decide) ?_
        refine k_goto X 29 dX9_roomsOfPlan_25 (by decide) ?_
        refine k_lv [0, 2] rfl ?_
        exact kb_Md_roomsOfPlan_b29 X (fun x1 x2 M => Md_roomsOfPlan_h4 n x1 x2 M) (fun x1 x2 M => ih x1 x2 M) x2 0 x1 M
theorem kw_Md_roomsOfPlan {Z : ZT} {E : En} (X : Cx Z E 3 cX9_roomsOfPlan RX9 (some .int) 0 0) (M : Mem) : Kj Z E 3 (QI Z E) (j_Md_roomsOfPlan M) M 0 [(0, .ref (ad E 326))] [] := by
  unfold j_Md_roomsOfPlan
  refine k_iconst X (v := 0) dX9_roomsOfPlan_0 (by decide) ?_
  refine x_istore_n X [(0, .ref (ad E 326))] dX9_roomsOfPlan_1 rfl (by decide) rfl (fun x1_ => ?_)
  refine k_iconst X (v := 0) dX9_roomsOfPlan_2 (by decide) ?_
  refine x_istore_n X [(1, .int x1_), (0, .ref (ad E 326))] dX9_roomsOfPlan_3 rfl (by decide) rfl (fun x2_ => ?_)
  refine k_lv [2, 1, 0] rfl ?_
  exact kb_Md_roomsOfPlan_h4 X  FU x1_ x2_ M
theorem mt_Md_roomsOfPlan (l : Launch) (E : En) (M : Mem) : MI l E yX9_roomsOfPlan cX9_roomsOfPlan 3 (some .int) 0 0 [.ref (ad E 326)] M (j_Md_roomsOfPlan M) := MI_of (by decide) (Nat.le_of_ble_eq_true rfl) (fun Z _ X => k_lv [0] rfl (kw_Md_roomsOfPlan X M))
-- FilmCansModel.plan
theorem kw_Md_plan {Z : ZT} {E : En} (X : Cx Z E 2 cX9_plan RX9 (some .int) 8 191) (x1 : Int32) (M : Mem) : Kj Z E 2 (QI Z E) (j_Md_plan x1 M) M 0 [(0, .ref (ad E 326)), (1, .int x1)] [] := by
  unfold j_Md_plan
  refine k_aload_n X 0 dX9_plan_0 rfl rfl ?_
  refine k_callVI X [] [] c_326 rfl (by decide) rfl (mt_Md_isBook (zl Z) E  M) mRX9_200 ⟨by decide, by decide⟩ rfl rfl (Nat.le_of_ble_eq_true rfl) dX9_plan_1 (fun r1 M2 => ?_)
  refine k_if_ne X 10 dX9_plan_4 (by decide) ?_ ?_
  · refine k_iload_n X 1 dX9_plan_10 rfl rfl ?_
    refine k_i2l X dX9_plan_11 ?_
    refine k_lconst X (v := 0) dX9_plan_12 (by decide) ?_
    refine k_lconst X (v := 1) dX9_plan_13 (by decide) ?_
    refine k_callSI X [.long (Int32.toInt64 x1), .long 0, .long 1] [] (mt_Md_in (zl Z) E (Int32.toInt64 x1) 0 1 M2) mRX9_47 ⟨by decide, by decide⟩ rfl rfl (Nat.le_of_ble_eq_true rfl) dX9_plan_14 (fun r3 M4 => ?_)
    refine k_if_ne X 23 dX9_plan_17 (by decide) ?_ ?_
    · refine k_aload_n X 0 dX9_plan_23 rfl rfl ?_
      refine k_aload_n X 0 dX9_plan_24 rfl rfl ?_
      refine k_getR X c_326 fRX9_7 r_326_0 dX9_plan_25 ?_
      refine k_callVI X [.ref (ad E 327)] [] c_326 rfl (by decide) rfl (mt_Md_best (zl Z) E 327 c_327 l_327 M4) mRX9_257 ⟨by decide, by decide⟩ rfl rfl (Nat.le_of_ble_eq_true rfl) dX9_plan_28 (fun r5 M6 => ?_)
      refine k_if_ne X 39 dX9_plan_31 (by decide) ?_ ?_
      · refine k_iload_n X 1 dX9_plan_39 rfl rfl ?_
        refine k_if_ne X 50 dX9_plan_40 (by decide) ?_ ?_
        · refine k_aload_n X 0 dX9_plan_50 rfl rfl ?_
          refine k_callVI X [] [] c_326 rfl (by decide) rfl (mt_Md_roomsOfPlan (zl Z) E  M6) mRX9_264 ⟨by decide, by decide⟩ rfl rfl (Nat.le_of_ble_eq_true rfl) dX9_plan_51 (fun r7 M8 => ?_)
          exact k_iret X dX9_plan_54
        · refine k_aload_n X 0 dX9_plan_43 rfl rfl ?_
          refine k_callVI X [] [] c_326 rfl (by decide) rfl (mt_Md_lossOfPlan (zl Z) E  M6) mRX9_261 ⟨by decide, by decide⟩ rfl rfl (Nat.le_of_ble_eq_true rfl) dX9_plan_44 (fun r9 M10 => ?_)
          refine k_goto X 54 dX9_plan_47 (by decide) ?_
          exact k_iret X dX9_plan_54
      · refine k_ldc X w_1139 dX9_plan_34 ?_
        refine k_goto X 54 dX9_plan_36 (by decide) ?_
        exact k_iret X dX9_plan_54
    · refine k_ldc X w_1016 dX9_plan_20 ?_
      exact k_iret X dX9_plan_22
  · refine k_ldc X w_1084 dX9_plan_7 ?_
    exact k_iret X dX9_plan_9
theorem mt_Md_plan (l : Launch) (E : En) (x1 : Int32) (M : Mem) : MI l E yX9_plan cX9_plan 2 (some .int) 8 191 [.ref (ad E 326), .int x1] M (j_Md_plan x1 M) := MI_of (by decide) (Nat.le_of_ble_eq_true rfl) (fun Z _ X => k_lv [0, 1] rfl (kw_Md_plan X x1 M))
-- FilmCansModel.planOf
theorem kw_Md_planOf {Z : ZT} {E : En} (X : Cx Z E 2 cX9_planOf RX9 (some .int) 8 191) (x1 : Int32) (M : Mem) : Kj Z E 2 (QI Z E) (j_Md_planOf x1 M) M 0 [(0, .ref (ad E 326)), (1, .int x1)] [] := by
  unfold j_Md_planOf
  refine k_aload_n X 0 dX9_planOf_0 rfl rfl ?_
  refine k_iload_n X 1 dX9_planOf_1 rfl rfl ?_
  refine k_callVI X [.int x1] [] c_326 rfl (by decide) rfl (mt_Md_isCan (zl Z) E x1 M) mRX9_183 ⟨by decide, by decide⟩ rfl rfl (Nat.le_of_ble_eq_true rfl) dX9_planOf_2 (fun r1 M2 => ?_)
  refine k_if_ne X 11 dX9_planOf_5 (by decide) ?_ ?_
  · refine k_aload_n X 0 dX9_planOf_11 rfl rfl ?_
    refine k_aload_n X 0 dX9_planOf_12 rfl rfl ?_
    refine k_getR X c_326 fRX9_7 r_326_0 dX9_planOf_13 ?_
    refine k_callVI X [.ref (ad E 327)] [] c_326 rfl (by decide) rfl (mt_Md_best (zl Z) E 327 c_327 l_327 M2) mRX9_257 ⟨by decide, by decide⟩ rfl rfl (Nat.le_of_ble_eq_true rfl) dX9_planOf_16 (fun r3 M4 => ?_)
    refine k_if_eq X 31 dX9_planOf_19 (by decide) ?_ ?_
    · refine k_ldc X w_1139 dX9_planOf_31 ?_
      exact k_iret X dX9_planOf_33
    · refine k_aload_n X 0 dX9_planOf_22 rfl rfl ?_
      refine k_getR X c_326 fRX9_35 r_326_17 dX9_planOf_23 ?_
      refine k_iload_n X 1 dX9_planOf_26 rfl rfl ?_
      refine k_iald X c_335 l_335 dX9_planOf_27 (fun hb5 => ?_)
      refine k_goto X 33 dX9_planOf_28 (by decide) ?_
      exact k_iret X dX9_planOf_33
  · refine k_ldc X w_1016 dX9_planOf_8 ?_
    exact k_iret X dX9_planOf_10
theorem mt_Md_planOf (l : Launch) (E : En) (x1 : Int32) (M : Mem) : MI l E yX9_planOf cX9_planOf 2 (some .int) 8 191 [.ref (ad E 326), .int x1] M (j_Md_planOf x1 M) := MI_of (by decide) (Nat.le_of_ble_eq_true rfl) (fun Z _ X => k_lv [0, 1] rfl (kw_Md_planOf X x1 M))
-- FilmCansModel.roomFor
theorem kb_Md_roomFor_b85 {Z : ZT} {E : En} (X : Cx Z E 7 cX9_roomFor RX9 (some .int) 3 68) (k8 : Int32 → Int32 → Int32 → Int32 → Int32 → Mem → Option (Int32 × Mem)) (hk8 : ∀ (x1 : Int32) (x2 : Int32) (x3 : Int32) (x4 : Int32) (x5 : Int32) (M : Mem), Kj Z E 7 (QI Z E) (k8 x1 x2 x3 x4 x5 M) M 8 [(0, .ref (ad E 326)), (1, .int x1), (2, .int x2), (3, .int x3), (4, .int x4), (5, .int x5)] []) (x1 : Int32) (x2 : Int32) (x3 : Int32) (x4 : Int32) (x5 : Int32) (M : Mem) : Kj Z E 7 (QI Z E) (Md_roomFor_b85 k8 x1 x2 x3 x4 x5 M) M 85 [(0, .ref (ad E 326)), (1, .int x1), (2, .int x2), (3, .int x3), (4, .int x4), (5, .int x5)] [] := by
  unfold Md_roomFor_b85
  refine x_iinc X 1 5 [(0, .ref (ad E 326)), (1, .int x1), (2, .int x2), (3, .int x3), (4, .int x4)] dX9_roomFor_85 rfl (by decide) (by decide) rfl (fun x7_ => ?_)
  refine k_goto X 8 dX9_roomFor_88 (by decide) ?_
  refine k_lv [1, 2, 3, 4, 5, 0] rfl ?_
  exact hk8 x1 x2 x3 x4 x7_ M
theorem kb_Md_roomFor_b78 {Z : ZT} {E : En} (X : Cx Z E 7 cX9_roomFor RX9 (some .int) 3 68) (k8 : Int32 → Int32 → Int32 → Int32 → Int32 → Mem → Option (Int32 × Mem)) (hk8 : ∀ (x1 : Int32) (x2 : Int32) (x3 : Int32) (x4 : Int32) (x5 : Int32) (M : Mem), Kj Z E 7 (QI Z E) (k8 x1 x2 x3 x4 x5 M) M 8 [(0, .ref (ad E 326)), (1, .int x1), (2, .int x2), (3, .int x3), (4, .int x4), (5, .int x5)] []) (x1 : Int32) (x2 : Int32) (x5 : Int32) (x6 : Int32) (M : Mem) : Kj Z E 7 (QI Z E) (Md_roomFor_b78 k8 x1 x2 x5 x6 M) M 78 [(0, .ref (ad E 326)), (1, .int x1), (2, .int x2), (5, .int x5), (6, .int x6)] [] := by
  unfold Md_roomFor_b78
  refine k_iload X 3 dX9_roomFor_78 rfl ?_
  refine k_istore_n X [(3, .int x5), (0, .ref (ad E 326)), (1, .int x1), (2, .int x2), (5, .int x5), (6, .int x6)] dX9_roomFor_80 rfl (by decide) rfl ?_
  refine k_iload X 5 dX9_roomFor_81 rfl ?_
  refine k_istore X [(4, .int x6), (3, .int x5), (0, .ref (ad E 326)), (1, .int x1), (2, .int x2), (5, .int x5), (6, .int x6)] dX9_roomFor_83 (by decide) rfl ?_
  refine k_lv [2, 3, 4, 1, 0, 5] rfl ?_
  exact kb_Md_roomFor_b85 X k8 hk8 x1 x2 x5 x6 x5 M
theorem kb_Md_roomFor_b55 {Z : ZT} {E : En} (X : Cx Z E 7 cX9_roomFor RX9 (some .int) 3 68) (k8 : Int32 → Int32 → Int32 → Int32 → Int32 → Mem → Option (Int32 × Mem)) (hk8 : ∀ (x1 : Int32) (x2 : Int32) (x3 : Int32) (x4 : Int32) (x5 : Int32) (M : Mem), Kj Z E 7 (QI Z E) (k8 x1 x2 x3 x4 x5 M) M 8 [(0, .ref (ad E 326)), (1, .int x1), (2, .int x2), (3, .int x3), (4, .int x4), (5, .int x5)] []) (x1 : Int32) (x2 : Int32) (x3 : Int32) (x4 : Int32) (x5 : Int32) (xs0 : Int32) (M : Mem) : Kj Z E 7 (QI Z E) (Md_roomFor_b55 k8 x1 x2 x3 x4 x5 xs0 M) M 55 [(0, .ref (ad E 326)), (1, .int x1), (2, .int x2), (3, .int x3), (4, .int x4), (5, .int x5)] [.int xs0] := by
  unfold Md_roomFor_b55
  refine k_istore X [(6, .int xs0), (0, .ref (ad E 326)), (1, .int x1), (2, .int x2), (3, .int x3), (4, .int x4), (5, .int x5)] dX9_roomFor_55 (by decide) rfl ?_
  refine k_iload X 0 dX9_roomFor_57 rfl ?_
  refine k_if_lt X 85 dX9_roomFor_59 (by decide) ?_ ?_
  · refine k_lv [1, 2, 3, 4, 5, 6] rfl ?_
    exact kb_Md_roomFor_b85 X k8 hk8 x1 x2 x3 x4 x5 M
  · refine k_iload_n X 4 dX9_roomFor_62 rfl rfl ?_
    refine k_if_lt X 78 dX9_roomFor_63 (by decide) ?_ ?_
    · refine k_lv [1, 2, 3, 6, 0] rfl ?_
      exact kb_Md_roomFor_b78 X k8 hk8 x1 x2 x5 xs0 M
    · refine k_iload_n X 2 dX9_roomFor_66 rfl rfl ?_
      refine k_iconst X (v := 1) dX9_roomFor_67 (by decide) ?_
      refine k_icmp_ne X 85 dX9_roomFor_68 (by decide) ?_ ?_
      · refine k_lv [1, 2, 3, 4, 5, 6] rfl ?_
        exact kb_Md_roomFor_b85 X k8 hk8 x1 x2 x3 x4 x5 M
      · refine k_iload X 0 dX9_roomFor_71 rfl ?_
        refine k_iload X 5 dX9_roomFor_73 rfl ?_
        refine k_icmp_ge X 85 dX9_roomFor_75 (by decide) ?_ ?_
        · refine k_lv [1, 2, 3, 4, 5, 6] rfl ?_
          exact kb_Md_roomFor_b85 X k8 hk8 x1 x2 x3 x4 x5 M
        · refine k_lv [1, 2, 3, 6, 0] rfl ?_
          exact kb_Md_roomFor_b78 X k8 hk8 x1 x2 x5 xs0 M
theorem kb_Md_roomFor_h8 {Z : ZT} {E : En} (X : Cx Z E 7 cX9_roomFor RX9 (some .int) 3 68)  : ∀ (n : Nat) (x1 : Int32) (x2 : Int32) (x3 : Int32) (x4 : Int32) (x5 : Int32) (M : Mem), Kj Z E 7 (QI Z E) (Md_roomFor_h8  n x1 x2 x3 x4 x5 M) M 8 [(0, .ref (ad E 326)), (1, .int x1), (2, .int x2), (3, .int x3), (4, .int x4), (5, .int x5)] [] := by
  intro n
  induction n with
  | zero => intro x1 x2 x3 x4 x5 M; exact k_none
  | succ n ih =>
    intro x1 x2 x3 x4 x5 M
    rw [Md_roomFor_h8]
    refine k_iload X 5 dX9_roomFor_8 rfl ?_
    refine k_aload_n X 0 dX9_roomFor_10 rfl rfl ?_
    refine k_getR X c_326 fRX9_7 r_326_0 dX9_roomFor_11 ?_
    refine k_iconst X (v := 4) dX9_roomFor_14 (by decide) ?_
    refine k_ialdC X 4 c_327 l_327 (by decide) (by decide) dX9_roomFor_15 ?_
    refine k_icmp_ge X 91 dX9_roomFor_16 (by decide) ?_ ?_
    · refine k_iload_n X 3 dX9_roomFor_91 rfl rfl ?_
      exact k_iret X dX9_roomFor_92
    · refine k_aload_n X 0 dX9_roomFor_19 rfl rfl ?_
      refine k_getR X c_326 fRX9_7 r_326_0 dX9_roomFor_20 ?_
      refine k_iload X 5 dX9_roomFor_23 rfl ?_
      refine k_callSI X [.ref (ad E 327), .int x5] [] (mt_Md_isRoom (zl Z) E 327 x5 c_327 l_327 M) mRX9_238 ⟨by decide, by decide⟩ rfl rfl (Nat.le_of_ble_eq_true rfl) dX9_roomFor_25 (fun r5 M6 => ?_)
      refine k_if_eq X 54 dX9_roomFor_28 (by decide) ?_ ?_
      · refine k_iconst X (v := (-1)) dX9_roomFor_54 (by decide) ?_
        refine k_lv [0, 1, 2, 3, 4, 5] rfl ?_
        exact kb_Md_roomFor_b55 X (fun x1 x2 x3 x4 x5 M => Md_roomFor_h8 n x1 x2 x3 x4 x5 M) (fun x1 x2 x3 x4 x5 M => ih x1 x2 x3 x4 x5 M) x1 x2 x3 x4 x5 (-1) M6
      · refine k_aload_n X 0 dX9_roomFor_31 rfl rfl ?_
        refine k_getR X c_326 fRX9_7 r_326_0 dX9_roomFor_32 ?_
        refine k_iload X 5 dX9_roomFor_35 rfl ?_
        refine k_aload_n X 0 dX9_roomFor_37 rfl rfl ?_
        refine k_getR X c_326 fRX9_35 r_326_17 dX9_roomFor_38 ?_
        refine k_iload X 5 dX9_roomFor_41 rfl ?_
        refine k_iald X c_335 l_335 dX9_roomFor_43 (fun hb8 => ?_)
        refine k_iconst X (v := 1) dX9_roomFor_44 (by decide) ?_
        refine k_iload_n X 2 dX9_roomFor_45 rfl rfl ?_
        refine k_ishl X dX9_roomFor_46 ?_
        refine k_ior X dX9_roomFor_47 ?_
        refine k_callSI X [.ref (ad E 327), .int x5, .int ((gi M6 335 (ix x5)) ||| ((1 : Int32) <<< (x2 &&& 31)))] [] (mt_Md_left (zl Z) E 327 x5 ((gi M6 335 (ix x5)) ||| ((1 : Int32) <<< (x2 &&& 31))) c_327 l_327 M6) mRX9_86 ⟨by decide, by decide⟩ rfl rfl (Nat.le_of_ble_eq_true rfl) dX9_roomFor_48 (fun r9 M10 => ?_)
        refine k_goto X 55 dX9_roomFor_51 (by decide) ?_
        refine k_lv [0, 1, 2, 3, 4, 5] rfl ?_
        exact kb_Md_roomFor_b55 X (fun x1 x2 x3 x4 x5 M => Md_roomFor_h8 n x1 x2 x3 x4 x5 M) (fun x1 x2 x3 x4 x5 M => ih x1 x2 x3 x4 x5 M) x1 x2 x3 x4 x5 r9 M10
theorem kw_Md_roomFor {Z : ZT} {E : En} (X : Cx Z E 7 cX9_roomFor RX9 (some .int) 3 68) (x1 : Int32) (x2 : Int32) (M : Mem) : Kj Z E 7 (QI Z E) (j_Md_roomFor x1 x2 M) M 0 [(0, .ref (ad E 326)), (1, .int x1), (2, .int x2)] [] := by
  unfold j_Md_roomFor
  refine k_iconst X (v := (-1)) dX9_roomFor_0 (by decide) ?_
  refine x_istore_n X [(0, .ref (ad E 326)), (1, .int x1), (2, .int x2)] dX9_roomFor_1 rfl (by decide) rfl (fun x1_ => ?_)
  refine k_iconst X (v := 0) dX9_roomFor_2 (by decide) ?_
  refine x_istore X [(3, .int x1_), (0, .ref (ad E 326)), (1, .int x1), (2, .int x2)] dX9_roomFor_3 (by decide) rfl (fun x2_ => ?_)
  refine k_iconst X (v := 0) dX9_roomFor_5 (by decide) ?_
  refine x_istore X [(4, .int x2_), (3, .int x1_), (0, .ref (ad E 326)), (1, .int x1), (2, .int x2)] dX9_roomFor_6 (by decide) rfl (fun x3_ => ?_)
  refine k_lv [3, 4, 5, 2, 1, 0] rfl ?_
  exact kb_Md_roomFor_h8 X  FU x1 x2 x1_ x2_ x3_ M
theorem mt_Md_roomFor (l : Launch) (E : En) (x1 : Int32) (x2 : Int32) (M : Mem) : MI l E yX9_roomFor cX9_roomFor 7 (some .int) 3 68 [.ref (ad E 326), .int x1, .int x2] M (j_Md_roomFor x1 x2 M) := MI_of (by decide) (Nat.le_of_ble_eq_true rfl) (fun Z _ X => k_lv [0, 1, 2] rfl (kw_Md_roomFor X x1 x2 M))
-- FilmCansModel.puts
theorem kb_Md_puts_b88 {Z : ZT} {E : En} (X : Cx Z E 4 cX9_puts RX9 (some .boolean) 4 94) (k23 : Int32 → Int32 → Mem → Option (Int32 × Mem)) (hk23 : ∀ (x1 : Int32) (x2 : Int32) (M : Mem), Kj Z E 4 (QI Z E) (k23 x1 x2 M) M 23 [(0, .ref (ad E 326)), (1, .int x1), (2, .int x2)] []) (x1 : Int32) (x2 : Int32) (M : Mem) : Kj Z E 4 (QI Z E) (Md_puts_b88 k23 x1 x2 M) M 88 [(0, .ref (ad E 326)), (1, .int x1), (2, .int x2)] [] := by
  unfold Md_puts_b88
  refine x_iinc X 1 2 [(0, .ref (ad E 326)), (1, .int x1)] dX9_puts_88 rfl (by decide) (by decide) rfl (fun x6_ => ?_)
  refine k_goto X 23 dX9_puts_91 (by decide) ?_
  refine k_lv [1, 2, 0] rfl ?_
  exact hk23 x1 x6_ M
theorem kb_Md_puts_b72 {Z : ZT} {E : En} (X : Cx Z E 4 cX9_puts RX9 (some .boolean) 4 94) (k23 : Int32 → Int32 → Mem → Option (Int32 × Mem)) (hk23 : ∀ (x1 : Int32) (x2 : Int32) (M : Mem), Kj Z E 4 (QI Z E) (k23 x1 x2 M) M 23 [(0, .ref (ad E 326)), (1, .int x1), (2, .int x2)] []) (x1 : Int32) (x2 : Int32) (x3 : Int32) (M : Mem) : Kj Z E 4 (QI Z E) (Md_puts_b72 k23 x1 x2 x3 M) M 72 [(0, .ref (ad E 326)), (1, .int x1), (2, .int x2), (3, .int x3)] [] := by
  unfold Md_puts_b72
  refine k_iload_n X 3 dX9_puts_72 rfl rfl ?_
  refine k_if_lt X 88 dX9_puts_73 (by decide) ?_ ?_
  · refine k_lv [0, 1, 2] rfl ?_
    exact kb_Md_puts_b88 X k23 hk23 x1 x2 M
  · refine k_aload_n X 0 dX9_puts_76 rfl rfl ?_
    refine k_getR X c_326 fRX9_35 r_326_17 dX9_puts_77 ?_
    refine k_iload_n X 3 dX9_puts_80 rfl rfl ?_
    refine k_dup2 X dX9_puts_81 rfl rfl ?_
    refine k_iald X c_335 l_335 dX9_puts_82 (fun hb7 => ?_)
    refine k_iconst X (v := 1) dX9_puts_83 (by decide) ?_
    refine k_iload_n X 2 dX9_puts_84 rfl rfl ?_
    refine k_ishl X dX9_puts_85 ?_
    refine k_ior X dX9_puts_86 ?_
    refine k_iast X c_335 l_335 dX9_puts_87 (fun hb8 => ?_)
    refine k_sq (fun M9 => ?_)
    refine k_lv [0, 1, 2] rfl ?_
    exact kb_Md_puts_b88 X k23 hk23 x1 x2 M9
theorem kb_Md_puts_b54 {Z : ZT} {E : En} (X : Cx Z E 4 cX9_puts RX9 (some .boolean) 4 94) (k23 : Int32 → Int32 → Mem → Option (Int32 × Mem)) (hk23 : ∀ (x1 : Int32) (x2 : Int32) (M : Mem), Kj Z E 4 (QI Z E) (k23 x1 x2 M) M 23 [(0, .ref (ad E 326)), (1, .int x1), (2, .int x2)] []) (x1 : Int32) (x2 : Int32) (xs0 : Int32) (M : Mem) : Kj Z E 4 (QI Z E) (Md_puts_b54 k23 x1 x2 xs0 M) M 54 [(0, .ref (ad E 326)), (1, .int x1), (2, .int x2)] [.int xs0] := by
  unfold Md_puts_b54
  refine k_istore_n X [(3, .int xs0), (0, .ref (ad E 326)), (1, .int x1), (2, .int x2)] dX9_puts_54 rfl (by decide) rfl ?_
  refine k_iload_n X 0 dX9_puts_55 rfl rfl ?_
  refine k_if_ge X 72 dX9_puts_56 (by decide) ?_ ?_
  · refine k_lv [1, 2, 3, 0] rfl ?_
    exact kb_Md_puts_b72 X k23 hk23 x1 x2 xs0 M
  · refine k_aload_n X 1 dX9_puts_59 rfl rfl ?_
    refine k_getR X c_326 fRX9_7 r_326_0 dX9_puts_60 ?_
    refine k_iload_n X 3 dX9_puts_63 rfl rfl ?_
    refine k_callSI X [.ref (ad E 327), .int x2] [] (mt_Md_isOpen (zl Z) E 327 x2 c_327 l_327 M) mRX9_66 ⟨by decide, by decide⟩ rfl rfl (Nat.le_of_ble_eq_true rfl) dX9_puts_64 (fun r10 M11 => ?_)
    refine k_if_eq X 72 dX9_puts_67 (by decide) ?_ ?_
    · refine k_lv [1, 2, 3, 0] rfl ?_
      exact kb_Md_puts_b72 X k23 hk23 x1 x2 xs0 M11
    · refine k_iconst X (v := 0) dX9_puts_70 (by decide) ?_
      exact k_zret X (by decide) dX9_puts_71
theorem kb_Md_puts_h23 {Z : ZT} {E : En} (X : Cx Z E 4 cX9_puts RX9 (some .boolean) 4 94)  : ∀ (n : Nat) (x1 : Int32) (x2 : Int32) (M : Mem), Kj Z E 4 (QI Z E) (Md_puts_h23  n x1 x2 M) M 23 [(0, .ref (ad E 326)), (1, .int x1), (2, .int x2)] [] := by
  intro n
  induction n with
  | zero => intro x1 x2 M; exact k_none
  | succ n ih =>
    intro x1 x2 M
    rw [Md_puts_h23]
    refine k_iload_n X 2 dX9_puts_23 rfl rfl ?_
    refine k_aload_n X 0 dX9_puts_24 rfl rfl ?_
    refine k_getR X c_326 fRX9_7 r_326_0 dX9_puts_25 ?_
    refine k_iconst X (v := 5) dX9_puts_28 (by decide) ?_
    refine k_ialdC X 5 c_327 l_327 (by decide) (by decide) dX9_puts_29 ?_
    refine k_icmp_ge X 94 dX9_puts_30 (by decide) ?_ ?_
    · refine k_iconst X (v := 1) dX9_puts_94 (by decide) ?_
      exact k_zret X (by decide) dX9_puts_95
    · refine k_aload_n X 0 dX9_puts_33 rfl rfl ?_
      refine k_getR X c_326 fRX9_7 r_326_0 dX9_puts_34 ?_
      refine k_iload_n X 2 dX9_puts_37 rfl rfl ?_
      refine k_callSI X [.ref (ad E 327), .int x2] [] (mt_Md_isOpen (zl Z) E 327 x2 c_327 l_327 M) mRX9_66 ⟨by decide, by decide⟩ rfl rfl (Nat.le_of_ble_eq_true rfl) dX9_puts_38 (fun r4 M5 => ?_)
      refine k_if_eq X 53 dX9_puts_41 (by decide) ?_ ?_
      · refine k_iconst X (v := (-1)) dX9_puts_53 (by decide) ?_
        refine k_lv [0, 1, 2] rfl ?_
        exact kb_Md_puts_b54 X (fun x1 x2 M => Md_puts_h23 n x1 x2 M) (fun x1 x2 M => ih x1 x2 M) x1 x2 (-1) M5
      · refine k_aload_n X 0 dX9_puts_44 rfl rfl ?_
        refine k_iload_n X 1 dX9_puts_45 rfl rfl ?_
        refine k_iload_n X 2 dX9_puts_46 rfl rfl ?_
        refine k_callVI X [.int x1, .int x2] [] c_326 rfl (by decide) rfl (mt_Md_roomFor (zl Z) E x1 x2 M5) mRX9_267 ⟨by decide, by decide⟩ rfl rfl (Nat.le_of_ble_eq_true rfl) dX9_puts_47 (fun r12 M13 => ?_)
        refine k_goto X 54 dX9_puts_50 (by decide) ?_
        refine k_lv [0, 1, 2] rfl ?_
        exact kb_Md_puts_b54 X (fun x1 x2 M => Md_puts_h23 n x1 x2 M) (fun x1 x2 M => ih x1 x2 M) x1 x2 r12 M13
theorem kb_Md_puts_h2 {Z : ZT} {E : En} (X : Cx Z E 4 cX9_puts RX9 (some .boolean) 4 94)  : ∀ (n : Nat) (x1 : Int32) (x2 : Int32) (M : Mem), Kj Z E 4 (QI Z E) (Md_puts_h2  n x1 x2 M) M 2 [(0, .ref (ad E 326)), (1, .int x1), (2, .int x2)] [] := by
  intro n
  induction n with
  | zero => intro x1 x2 M; exact k_none
  | succ n ih =>
    intro x1 x2 M
    rw [Md_puts_h2]
    refine k_iload_n X 2 dX9_puts_2 rfl rfl ?_
    refine k_bipush X (v := 7) dX9_puts_3 (by decide) ?_
    refine k_icmp_ge X 21 dX9_puts_5 (by decide) ?_ ?_
    · refine k_iconst X (v := 0) dX9_puts_21 (by decide) ?_
      refine x_istore_n X [(0, .ref (ad E 326)), (1, .int x1)] dX9_puts_22 rfl (by decide) rfl (fun x2_ => ?_)
      refine k_lv [1, 2, 0] rfl ?_
      exact kb_Md_puts_h23 X  FU x1 x2_ M
    · refine k_aload_n X 0 dX9_puts_8 rfl rfl ?_
      refine k_getR X c_326 fRX9_35 r_326_17 dX9_puts_9 ?_
      refine k_iload_n X 2 dX9_puts_12 rfl rfl ?_
      refine k_iconst X (v := 0) dX9_puts_13 (by decide) ?_
      refine k_iast X c_335 l_335 dX9_puts_14 (fun hb14 => ?_)
      refine k_sq (fun M15 => ?_)
      refine x_iinc X 1 2 [(0, .ref (ad E 326)), (1, .int x1)] dX9_puts_15 rfl (by decide) (by decide) rfl (fun x16_ => ?_)
      refine k_goto X 2 dX9_puts_18 (by decide) ?_
      refine k_lv [1, 2, 0] rfl ?_
      exact ih x1 x16_ M15
theorem kw_Md_puts {Z : ZT} {E : En} (X : Cx Z E 4 cX9_puts RX9 (some .boolean) 4 94) (x1 : Int32) (M : Mem) : Kj Z E 4 (QI Z E) (j_Md_puts x1 M) M 0 [(0, .ref (ad E 326)), (1, .int x1)] [] := by
  unfold j_Md_puts
  refine k_iconst X (v := 0) dX9_puts_0 (by decide) ?_
  refine x_istore_n X [(0, .ref (ad E 326)), (1, .int x1)] dX9_puts_1 rfl (by decide) rfl (fun x1_ => ?_)
  refine k_lv [1, 2, 0] rfl ?_
  exact kb_Md_puts_h2 X  FU x1 x1_ M
theorem mt_Md_puts (l : Launch) (E : En) (x1 : Int32) (M : Mem) : MI l E yX9_puts cX9_puts 4 (some .boolean) 4 94 [.ref (ad E 326), .int x1] M (j_Md_puts x1 M) := MI_of (by decide) (Nat.le_of_ble_eq_true rfl) (fun Z _ X => k_lv [0, 1] rfl (kw_Md_puts X x1 M))
-- FilmCansModel.rule
theorem kw_Md_rule {Z : ZT} {E : En} (X : Cx Z E 3 cX9_rule RX9 (some .int) 5 117) (x1 : Int32) (x2 : Int32) (M : Mem) : Kj Z E 3 (QI Z E) (j_Md_rule x1 x2 M) M 0 [(0, .ref (ad E 326)), (1, .int x1), (2, .int x2)] [] := by
  unfold j_Md_rule
  refine k_aload_n X 0 dX9_rule_0 rfl rfl ?_
  refine k_callVI X [] [] c_326 rfl (by decide) rfl (mt_Md_isBook (zl Z) E  M) mRX9_200 ⟨by decide, by decide⟩ rfl rfl (Nat.le_of_ble_eq_true rfl) dX9_rule_1 (fun r1 M2 => ?_)
  refine k_if_ne X 10 dX9_rule_4 (by decide) ?_ ?_
  · refine k_iload_n X 1 dX9_rule_10 rfl rfl ?_
    refine k_i2l X dX9_rule_11 ?_
    refine k_lconst X (v := 0) dX9_rule_12 (by decide) ?_
    refine k_lconst X (v := 1) dX9_rule_13 (by decide) ?_
    refine k_callSI X [.long (Int32.toInt64 x1), .long 0, .long 1] [] (mt_Md_in (zl Z) E (Int32.toInt64 x1) 0 1 M2) mRX9_47 ⟨by decide, by decide⟩ rfl rfl (Nat.le_of_ble_eq_true rfl) dX9_rule_14 (fun r3 M4 => ?_)
    refine k_if_eq X 30 dX9_rule_17 (by decide) ?_ ?_
    · refine k_ldc X w_1016 dX9_rule_30 ?_
      exact k_iret X dX9_rule_32
    · refine k_iload_n X 2 dX9_rule_20 rfl rfl ?_
      refine k_i2l X dX9_rule_21 ?_
      refine k_lconst X (v := 0) dX9_rule_22 (by decide) ?_
      refine k_lconst X (v := 1) dX9_rule_23 (by decide) ?_
      refine k_callSI X [.long (Int32.toInt64 x2), .long 0, .long 1] [] (mt_Md_in (zl Z) E (Int32.toInt64 x2) 0 1 M4) mRX9_47 ⟨by decide, by decide⟩ rfl rfl (Nat.le_of_ble_eq_true rfl) dX9_rule_24 (fun r5 M6 => ?_)
      refine k_if_ne X 33 dX9_rule_27 (by decide) ?_ ?_
      · refine k_aload_n X 0 dX9_rule_33 rfl rfl ?_
        refine k_iload_n X 1 dX9_rule_34 rfl rfl ?_
        refine k_callVI X [.int x1] [] c_326 rfl (by decide) rfl (mt_Md_puts (zl Z) E x1 M6) mRX9_270 ⟨by decide, by decide⟩ rfl rfl (Nat.le_of_ble_eq_true rfl) dX9_rule_35 (fun r7 M8 => ?_)
        refine k_if_ne X 46 dX9_rule_38 (by decide) ?_ ?_
        · refine k_iload_n X 2 dX9_rule_46 rfl rfl ?_
          refine k_if_ne X 57 dX9_rule_47 (by decide) ?_ ?_
          · refine k_aload_n X 0 dX9_rule_57 rfl rfl ?_
            refine k_callVI X [] [] c_326 rfl (by decide) rfl (mt_Md_roomsOfPlan (zl Z) E  M8) mRX9_264 ⟨by decide, by decide⟩ rfl rfl (Nat.le_of_ble_eq_true rfl) dX9_rule_58 (fun r9 M10 => ?_)
            exact k_iret X dX9_rule_61
          · refine k_aload_n X 0 dX9_rule_50 rfl rfl ?_
            refine k_callVI X [] [] c_326 rfl (by decide) rfl (mt_Md_lossOfPlan (zl Z) E  M8) mRX9_261 ⟨by decide, by decide⟩ rfl rfl (Nat.le_of_ble_eq_true rfl) dX9_rule_51 (fun r11 M12 => ?_)
            refine k_goto X 61 dX9_rule_54 (by decide) ?_
            exact k_iret X dX9_rule_61
        · refine k_ldc X w_1139 dX9_rule_41 ?_
          refine k_goto X 61 dX9_rule_43 (by decide) ?_
          exact k_iret X dX9_rule_61
      · refine k_ldc X w_1016 dX9_rule_30 ?_
        exact k_iret X dX9_rule_32
  · refine k_ldc X w_1084 dX9_rule_7 ?_
    exact k_iret X dX9_rule_9
theorem mt_Md_rule (l : Launch) (E : En) (x1 : Int32) (x2 : Int32) (M : Mem) : MI l E yX9_rule cX9_rule 3 (some .int) 5 117 [.ref (ad E 326), .int x1, .int x2] M (j_Md_rule x1 x2 M) := MI_of (by decide) (Nat.le_of_ble_eq_true rfl) (fun Z _ X => k_lv [0, 1, 2] rfl (kw_Md_rule X x1 x2 M))
