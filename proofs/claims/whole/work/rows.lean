section
-- ===== PART A: goes FIRST, ahead of the names: the tables' words, and 'selects' of the private methods out of them =====
/-- a private method of a class that the tables say can be made, by its rows of tables_1 -/
def lw_okq (q : MethodName × Nat) : Prop := (q.1.cls ≠ "java/lang/invoke/MethodHandle" ∧ q.1.cls ≠ "java/lang/invoke/VarHandle") ∧ Cond.instantiable q.1.cls q.2 ∈ tables_1 ∧ Cond.privateMethod q.1 ∈ tables_1 ∧ Cond.instanceMethod q.1 ∈ tables_1
theorem lw_p0 : lw_okq (⟨"FilmCans$Tape", "readLaws", "(LFilmCans$Day;)Z"⟩, 4) := ⟨⟨by decide +kernel, by decide +kernel⟩, List.mem_of_getElem? (i := 24) (by decide +kernel), List.mem_of_getElem? (i := 313) (by decide +kernel), List.mem_of_getElem? (i := 314) (by decide +kernel)⟩
theorem lw_p1 : lw_okq (⟨"FilmCans$Tape", "pass", "(I)Z"⟩, 4) := ⟨⟨by decide +kernel, by decide +kernel⟩, List.mem_of_getElem? (i := 24) (by decide +kernel), List.mem_of_getElem? (i := 317) (by decide +kernel), List.mem_of_getElem? (i := 318) (by decide +kernel)⟩
theorem lw_p2 : lw_okq (⟨"FilmCans$Tape", "next", "()I"⟩, 4) := ⟨⟨by decide +kernel, by decide +kernel⟩, List.mem_of_getElem? (i := 24) (by decide +kernel), List.mem_of_getElem? (i := 321) (by decide +kernel), List.mem_of_getElem? (i := 322) (by decide +kernel)⟩
theorem lw_p3 : lw_okq (⟨"FilmCans$Tape", "byteAt", "(I)I"⟩, 4) := ⟨⟨by decide +kernel, by decide +kernel⟩, List.mem_of_getElem? (i := 24) (by decide +kernel), List.mem_of_getElem? (i := 325) (by decide +kernel), List.mem_of_getElem? (i := 326) (by decide +kernel)⟩
theorem lw_p4 : lw_okq (⟨"FilmCans$Tape", "refuse", "(I)Z"⟩, 4) := ⟨⟨by decide +kernel, by decide +kernel⟩, List.mem_of_getElem? (i := 24) (by decide +kernel), List.mem_of_getElem? (i := 330) (by decide +kernel), List.mem_of_getElem? (i := 331) (by decide +kernel)⟩
theorem lw_p5 : lw_okq (⟨"FilmCans$Tape", "readNumber", "(II)I"⟩, 4) := ⟨⟨by decide +kernel, by decide +kernel⟩, List.mem_of_getElem? (i := 24) (by decide +kernel), List.mem_of_getElem? (i := 338) (by decide +kernel), List.mem_of_getElem? (i := 339) (by decide +kernel)⟩
theorem lw_p6 : lw_okq (⟨"FilmCans$Tape", "figuresFrom", "(I)I"⟩, 4) := ⟨⟨by decide +kernel, by decide +kernel⟩, List.mem_of_getElem? (i := 24) (by decide +kernel), List.mem_of_getElem? (i := 342) (by decide +kernel), List.mem_of_getElem? (i := 343) (by decide +kernel)⟩
theorem lw_p7 : lw_okq (⟨"FilmCans$Tape", "readCans", "(LFilmCans$Day;)Z"⟩, 4) := ⟨⟨by decide +kernel, by decide +kernel⟩, List.mem_of_getElem? (i := 24) (by decide +kernel), List.mem_of_getElem? (i := 346) (by decide +kernel), List.mem_of_getElem? (i := 347) (by decide +kernel)⟩
theorem lw_p8 : lw_okq (⟨"FilmCans$Tape", "readCan", "(LFilmCans$Day;)Z"⟩, 4) := ⟨⟨by decide +kernel, by decide +kernel⟩, List.mem_of_getElem? (i := 24) (by decide +kernel), List.mem_of_getElem? (i := 354) (by decide +kernel), List.mem_of_getElem? (i := 355) (by decide +kernel)⟩
theorem lw_p9 : lw_okq (⟨"FilmCans$Tape", "readTakes", "(LFilmCans$Day;)Z"⟩, 4) := ⟨⟨by decide +kernel, by decide +kernel⟩, List.mem_of_getElem? (i := 24) (by decide +kernel), List.mem_of_getElem? (i := 362) (by decide +kernel), List.mem_of_getElem? (i := 363) (by decide +kernel)⟩
theorem lw_p10 : lw_okq (⟨"FilmCans$Tape", "readTake", "(LFilmCans$Day;)Z"⟩, 4) := ⟨⟨by decide +kernel, by decide +kernel⟩, List.mem_of_getElem? (i := 24) (by decide +kernel), List.mem_of_getElem? (i := 366) (by decide +kernel), List.mem_of_getElem? (i := 367) (by decide +kernel)⟩
theorem lw_p11 : lw_okq (⟨"FilmCans$Laboratory", "firstWithRoom", "(LFilmCans$Day;II)I"⟩, 4) := ⟨⟨by decide +kernel, by decide +kernel⟩, List.mem_of_getElem? (i := 167) (by decide +kernel), List.mem_of_getElem? (i := 493) (by decide +kernel), List.mem_of_getElem? (i := 494) (by decide +kernel)⟩
theorem lw_p12 : lw_okq (⟨"FilmCans", "hasNoBook", "()Z"⟩, 9) := ⟨⟨by decide +kernel, by decide +kernel⟩, List.mem_of_getElem? (i := 16) (by decide +kernel), List.mem_of_getElem? (i := 517) (by decide +kernel), List.mem_of_getElem? (i := 518) (by decide +kernel)⟩
theorem lw_p13 : lw_okq (⟨"FilmCans$Laboratory", "sumUp", "(LFilmCans$Day;)V"⟩, 4) := ⟨⟨by decide +kernel, by decide +kernel⟩, List.mem_of_getElem? (i := 167) (by decide +kernel), List.mem_of_getElem? (i := 594) (by decide +kernel), List.mem_of_getElem? (i := 595) (by decide +kernel)⟩
theorem lw_p14 : lw_okq (⟨"FilmCans$Laboratory", "reversalRolls", "(LFilmCans$Day;)I"⟩, 4) := ⟨⟨by decide +kernel, by decide +kernel⟩, List.mem_of_getElem? (i := 167) (by decide +kernel), List.mem_of_getElem? (i := 598) (by decide +kernel), List.mem_of_getElem? (i := 599) (by decide +kernel)⟩
theorem lw_p15 : lw_okq (⟨"FilmCans$Laboratory", "leastOf", "(III)I"⟩, 4) := ⟨⟨by decide +kernel, by decide +kernel⟩, List.mem_of_getElem? (i := 167) (by decide +kernel), List.mem_of_getElem? (i := 602) (by decide +kernel), List.mem_of_getElem? (i := 603) (by decide +kernel)⟩
def lw_privs_1 : List (MethodName × Nat) := [(⟨"FilmCans$Tape", "readLaws", "(LFilmCans$Day;)Z"⟩, 4), (⟨"FilmCans$Tape", "pass", "(I)Z"⟩, 4), (⟨"FilmCans$Tape", "next", "()I"⟩, 4), (⟨"FilmCans$Tape", "byteAt", "(I)I"⟩, 4), (⟨"FilmCans$Tape", "refuse", "(I)Z"⟩, 4), (⟨"FilmCans$Tape", "readNumber", "(II)I"⟩, 4), (⟨"FilmCans$Tape", "figuresFrom", "(I)I"⟩, 4), (⟨"FilmCans$Tape", "readCans", "(LFilmCans$Day;)Z"⟩, 4), (⟨"FilmCans$Tape", "readCan", "(LFilmCans$Day;)Z"⟩, 4), (⟨"FilmCans$Tape", "readTakes", "(LFilmCans$Day;)Z"⟩, 4), (⟨"FilmCans$Tape", "readTake", "(LFilmCans$Day;)Z"⟩, 4), (⟨"FilmCans$Laboratory", "firstWithRoom", "(LFilmCans$Day;II)I"⟩, 4), (⟨"FilmCans", "hasNoBook", "()Z"⟩, 9), (⟨"FilmCans$Laboratory", "sumUp", "(LFilmCans$Day;)V"⟩, 4), (⟨"FilmCans$Laboratory", "reversalRolls", "(LFilmCans$Day;)I"⟩, 4), (⟨"FilmCans$Laboratory", "leastOf", "(III)I"⟩, 4)]
theorem lw_r1 : ∀ q ∈ lw_privs_1, lw_okq q := List.forall_mem_cons.mpr ⟨lw_p0, List.forall_mem_cons.mpr ⟨lw_p1, List.forall_mem_cons.mpr ⟨lw_p2, List.forall_mem_cons.mpr ⟨lw_p3, List.forall_mem_cons.mpr ⟨lw_p4, List.forall_mem_cons.mpr ⟨lw_p5, List.forall_mem_cons.mpr ⟨lw_p6, List.forall_mem_cons.mpr ⟨lw_p7, List.forall_mem_cons.mpr ⟨lw_p8, List.forall_mem_cons.mpr ⟨lw_p9, List.forall_mem_cons.mpr ⟨lw_p10, List.forall_mem_cons.mpr ⟨lw_p11, List.forall_mem_cons.mpr ⟨lw_p12, List.forall_mem_cons.mpr ⟨lw_p13, List.forall_mem_cons.mpr ⟨lw_p14, List.forall_mem_cons.mpr ⟨lw_p15, fun _ h => absurd h List.not_mem_nil⟩⟩⟩⟩⟩⟩⟩⟩⟩⟩⟩⟩⟩⟩⟩⟩
theorem lw_p16 : lw_okq (⟨"FilmCans$Rooms", "lookAtCan", "(LFilmCans$Day;I)V"⟩, 11) := ⟨⟨by decide +kernel, by decide +kernel⟩, List.mem_of_getElem? (i := 186) (by decide +kernel), List.mem_of_getElem? (i := 635) (by decide +kernel), List.mem_of_getElem? (i := 636) (by decide +kernel)⟩
theorem lw_p17 : lw_okq (⟨"FilmCans$Rooms", "isOpen", "(I)Z"⟩, 11) := ⟨⟨by decide +kernel, by decide +kernel⟩, List.mem_of_getElem? (i := 186) (by decide +kernel), List.mem_of_getElem? (i := 651) (by decide +kernel), List.mem_of_getElem? (i := 652) (by decide +kernel)⟩
theorem lw_p18 : lw_okq (⟨"FilmCans$Rooms", "measure", "()V"⟩, 11) := ⟨⟨by decide +kernel, by decide +kernel⟩, List.mem_of_getElem? (i := 186) (by decide +kernel), List.mem_of_getElem? (i := 655) (by decide +kernel), List.mem_of_getElem? (i := 656) (by decide +kernel)⟩
theorem lw_p19 : lw_okq (⟨"FilmCans$Rooms", "measureEnds", "(I)V"⟩, 11) := ⟨⟨by decide +kernel, by decide +kernel⟩, List.mem_of_getElem? (i := 186) (by decide +kernel), List.mem_of_getElem? (i := 662) (by decide +kernel), List.mem_of_getElem? (i := 663) (by decide +kernel)⟩
theorem lw_p20 : lw_okq (⟨"FilmCans", "placeBest", "()Z"⟩, 9) := ⟨⟨by decide +kernel, by decide +kernel⟩, List.mem_of_getElem? (i := 16) (by decide +kernel), List.mem_of_getElem? (i := 683) (by decide +kernel), List.mem_of_getElem? (i := 684) (by decide +kernel)⟩
theorem lw_p21 : lw_okq (⟨"FilmCans$Best", "admit", "(LFilmCans$Rooms;II)V"⟩, 1) := ⟨⟨by decide +kernel, by decide +kernel⟩, List.mem_of_getElem? (i := 238) (by decide +kernel), List.mem_of_getElem? (i := 694) (by decide +kernel), List.mem_of_getElem? (i := 695) (by decide +kernel)⟩
theorem lw_p22 : lw_okq (⟨"FilmCans$Best", "spread", "(IIII)V"⟩, 1) := ⟨⟨by decide +kernel, by decide +kernel⟩, List.mem_of_getElem? (i := 238) (by decide +kernel), List.mem_of_getElem? (i := 706) (by decide +kernel), List.mem_of_getElem? (i := 707) (by decide +kernel)⟩
theorem lw_p23 : lw_okq (⟨"FilmCans$Best", "choose", "(LFilmCans$Rooms;)Z"⟩, 1) := ⟨⟨by decide +kernel, by decide +kernel⟩, List.mem_of_getElem? (i := 238) (by decide +kernel), List.mem_of_getElem? (i := 711) (by decide +kernel), List.mem_of_getElem? (i := 712) (by decide +kernel)⟩
theorem lw_p24 : lw_okq (⟨"FilmCans$Best", "cheapestSet", "(LFilmCans$Rooms;II)I"⟩, 1) := ⟨⟨by decide +kernel, by decide +kernel⟩, List.mem_of_getElem? (i := 238) (by decide +kernel), List.mem_of_getElem? (i := 715) (by decide +kernel), List.mem_of_getElem? (i := 716) (by decide +kernel)⟩
theorem lw_p25 : lw_okq (⟨"FilmCans", "wholeAnswer", "(ZI)I"⟩, 9) := ⟨⟨by decide +kernel, by decide +kernel⟩, List.mem_of_getElem? (i := 16) (by decide +kernel), List.mem_of_getElem? (i := 720) (by decide +kernel), List.mem_of_getElem? (i := 721) (by decide +kernel)⟩
theorem lw_p26 : lw_okq (⟨"FilmCans", "placeByRule", "(I)Z"⟩, 9) := ⟨⟨by decide +kernel, by decide +kernel⟩, List.mem_of_getElem? (i := 16) (by decide +kernel), List.mem_of_getElem? (i := 741) (by decide +kernel), List.mem_of_getElem? (i := 742) (by decide +kernel)⟩
theorem lw_p27 : lw_okq (⟨"FilmCans$Rooms", "tightestFor", "(I)I"⟩, 11) := ⟨⟨by decide +kernel, by decide +kernel⟩, List.mem_of_getElem? (i := 186) (by decide +kernel), List.mem_of_getElem? (i := 749) (by decide +kernel), List.mem_of_getElem? (i := 750) (by decide +kernel)⟩
theorem lw_p28 : lw_okq (⟨"FilmCans$Rooms", "firstFor", "(I)I"⟩, 11) := ⟨⟨by decide +kernel, by decide +kernel⟩, List.mem_of_getElem? (i := 186) (by decide +kernel), List.mem_of_getElem? (i := 753) (by decide +kernel), List.mem_of_getElem? (i := 754) (by decide +kernel)⟩
theorem lw_p29 : lw_okq (⟨"FilmCans", "lookAhead", "()V"⟩, 9) := ⟨⟨by decide +kernel, by decide +kernel⟩, List.mem_of_getElem? (i := 16) (by decide +kernel), List.mem_of_getElem? (i := 766) (by decide +kernel), List.mem_of_getElem? (i := 767) (by decide +kernel)⟩
theorem lw_p30 : lw_okq (⟨"FilmCans$Reach", "holdersOf", "(LFilmCans$Rooms;I)I"⟩, 2) := ⟨⟨by decide +kernel, by decide +kernel⟩, List.mem_of_getElem? (i := 249) (by decide +kernel), List.mem_of_getElem? (i := 775) (by decide +kernel), List.mem_of_getElem? (i := 776) (by decide +kernel)⟩
theorem lw_p31 : lw_okq (⟨"FilmCans$Reach", "roomSetsFor", "(I)J"⟩, 2) := ⟨⟨by decide +kernel, by decide +kernel⟩, List.mem_of_getElem? (i := 249) (by decide +kernel), List.mem_of_getElem? (i := 780) (by decide +kernel), List.mem_of_getElem? (i := 781) (by decide +kernel)⟩
def lw_privs_2 : List (MethodName × Nat) := [(⟨"FilmCans$Rooms", "lookAtCan", "(LFilmCans$Day;I)V"⟩, 11), (⟨"FilmCans$Rooms", "isOpen", "(I)Z"⟩, 11), (⟨"FilmCans$Rooms", "measure", "()V"⟩, 11), (⟨"FilmCans$Rooms", "measureEnds", "(I)V"⟩, 11), (⟨"FilmCans", "placeBest", "()Z"⟩, 9), (⟨"FilmCans$Best", "admit", "(LFilmCans$Rooms;II)V"⟩, 1), (⟨"FilmCans$Best", "spread", "(IIII)V"⟩, 1), (⟨"FilmCans$Best", "choose", "(LFilmCans$Rooms;)Z"⟩, 1), (⟨"FilmCans$Best", "cheapestSet", "(LFilmCans$Rooms;II)I"⟩, 1), (⟨"FilmCans", "wholeAnswer", "(ZI)I"⟩, 9), (⟨"FilmCans", "placeByRule", "(I)Z"⟩, 9), (⟨"FilmCans$Rooms", "tightestFor", "(I)I"⟩, 11), (⟨"FilmCans$Rooms", "firstFor", "(I)I"⟩, 11), (⟨"FilmCans", "lookAhead", "()V"⟩, 9), (⟨"FilmCans$Reach", "holdersOf", "(LFilmCans$Rooms;I)I"⟩, 2), (⟨"FilmCans$Reach", "roomSetsFor", "(I)J"⟩, 2)]
theorem lw_r2 : ∀ q ∈ lw_privs_2, lw_okq q := List.forall_mem_cons.mpr ⟨lw_p16, List.forall_mem_cons.mpr ⟨lw_p17, List.forall_mem_cons.mpr ⟨lw_p18, List.forall_mem_cons.mpr ⟨lw_p19, List.forall_mem_cons.mpr ⟨lw_p20, List.forall_mem_cons.mpr ⟨lw_p21, List.forall_mem_cons.mpr ⟨lw_p22, List.forall_mem_cons.mpr ⟨lw_p23, List.forall_mem_cons.mpr ⟨lw_p24, List.forall_mem_cons.mpr ⟨lw_p25, List.forall_mem_cons.mpr ⟨lw_p26, List.forall_mem_cons.mpr ⟨lw_p27, List.forall_mem_cons.mpr ⟨lw_p28, List.forall_mem_cons.mpr ⟨lw_p29, List.forall_mem_cons.mpr ⟨lw_p30, List.forall_mem_cons.mpr ⟨lw_p31, fun _ h => absurd h List.not_mem_nil⟩⟩⟩⟩⟩⟩⟩⟩⟩⟩⟩⟩⟩⟩⟩⟩
theorem lw_p32 : lw_okq (⟨"FilmCans$Reach", "withOneMore", "(JI)J"⟩, 2) := ⟨⟨by decide +kernel, by decide +kernel⟩, List.mem_of_getElem? (i := 249) (by decide +kernel), List.mem_of_getElem? (i := 784) (by decide +kernel), List.mem_of_getElem? (i := 785) (by decide +kernel)⟩
theorem lw_p33 : lw_okq (⟨"FilmCans$Reach", "longestOn", "(IIILFilmCans$Rooms;)I"⟩, 2) := ⟨⟨by decide +kernel, by decide +kernel⟩, List.mem_of_getElem? (i := 249) (by decide +kernel), List.mem_of_getElem? (i := 794) (by decide +kernel), List.mem_of_getElem? (i := 795) (by decide +kernel)⟩
theorem lw_p34 : lw_okq (⟨"FilmCans$Reach", "isPlaced", "(II)Z"⟩, 2) := ⟨⟨by decide +kernel, by decide +kernel⟩, List.mem_of_getElem? (i := 249) (by decide +kernel), List.mem_of_getElem? (i := 798) (by decide +kernel), List.mem_of_getElem? (i := 799) (by decide +kernel)⟩
theorem lw_p35 : lw_okq (⟨"FilmCansModel", "next", "()V"⟩, 21) := ⟨⟨by decide +kernel, by decide +kernel⟩, List.mem_of_getElem? (i := 873) (by decide +kernel), List.mem_of_getElem? (i := 958) (by decide +kernel), List.mem_of_getElem? (i := 959) (by decide +kernel)⟩
theorem lw_p36 : lw_okq (⟨"FilmCansModel", "byteAt", "(I)I"⟩, 21) := ⟨⟨by decide +kernel, by decide +kernel⟩, List.mem_of_getElem? (i := 873) (by decide +kernel), List.mem_of_getElem? (i := 962) (by decide +kernel), List.mem_of_getElem? (i := 963) (by decide +kernel)⟩
theorem lw_p37 : lw_okq (⟨"FilmCansModel", "letter", "(I)V"⟩, 21) := ⟨⟨by decide +kernel, by decide +kernel⟩, List.mem_of_getElem? (i := 873) (by decide +kernel), List.mem_of_getElem? (i := 970) (by decide +kernel), List.mem_of_getElem? (i := 971) (by decide +kernel)⟩
theorem lw_p38 : lw_okq (⟨"FilmCansModel", "bad", "(I)V"⟩, 21) := ⟨⟨by decide +kernel, by decide +kernel⟩, List.mem_of_getElem? (i := 873) (by decide +kernel), List.mem_of_getElem? (i := 974) (by decide +kernel), List.mem_of_getElem? (i := 975) (by decide +kernel)⟩
theorem lw_p39 : lw_okq (⟨"FilmCansModel", "goesOn", "()V"⟩, 21) := ⟨⟨by decide +kernel, by decide +kernel⟩, List.mem_of_getElem? (i := 873) (by decide +kernel), List.mem_of_getElem? (i := 978) (by decide +kernel), List.mem_of_getElem? (i := 979) (by decide +kernel)⟩
theorem lw_p40 : lw_okq (⟨"FilmCansModel", "number", "(II)I"⟩, 21) := ⟨⟨by decide +kernel, by decide +kernel⟩, List.mem_of_getElem? (i := 873) (by decide +kernel), List.mem_of_getElem? (i := 982) (by decide +kernel), List.mem_of_getElem? (i := 983) (by decide +kernel)⟩
theorem lw_p41 : lw_okq (⟨"FilmCansModel", "sign", "(I)V"⟩, 21) := ⟨⟨by decide +kernel, by decide +kernel⟩, List.mem_of_getElem? (i := 873) (by decide +kernel), List.mem_of_getElem? (i := 986) (by decide +kernel), List.mem_of_getElem? (i := 987) (by decide +kernel)⟩
theorem lw_p42 : lw_okq (⟨"FilmCansModel", "isCanTold", "()Z"⟩, 21) := ⟨⟨by decide +kernel, by decide +kernel⟩, List.mem_of_getElem? (i := 873) (by decide +kernel), List.mem_of_getElem? (i := 990) (by decide +kernel), List.mem_of_getElem? (i := 991) (by decide +kernel)⟩
theorem lw_p43 : lw_okq (⟨"FilmCansModel", "readsCan", "()V"⟩, 21) := ⟨⟨by decide +kernel, by decide +kernel⟩, List.mem_of_getElem? (i := 873) (by decide +kernel), List.mem_of_getElem? (i := 997) (by decide +kernel), List.mem_of_getElem? (i := 998) (by decide +kernel)⟩
theorem lw_p44 : lw_okq (⟨"FilmCansModel", "readsTake", "()V"⟩, 21) := ⟨⟨by decide +kernel, by decide +kernel⟩, List.mem_of_getElem? (i := 873) (by decide +kernel), List.mem_of_getElem? (i := 1004) (by decide +kernel), List.mem_of_getElem? (i := 1005) (by decide +kernel)⟩
theorem lw_p45 : lw_okq (⟨"FilmCansModel", "isCan", "(I)Z"⟩, 21) := ⟨⟨by decide +kernel, by decide +kernel⟩, List.mem_of_getElem? (i := 873) (by decide +kernel), List.mem_of_getElem? (i := 1025) (by decide +kernel), List.mem_of_getElem? (i := 1026) (by decide +kernel)⟩
theorem lw_p46 : lw_okq (⟨"FilmCansModel", "notes", "()V"⟩, 21) := ⟨⟨by decide +kernel, by decide +kernel⟩, List.mem_of_getElem? (i := 873) (by decide +kernel), List.mem_of_getElem? (i := 1041) (by decide +kernel), List.mem_of_getElem? (i := 1042) (by decide +kernel)⟩
theorem lw_p47 : lw_okq (⟨"FilmCansModel", "isTake", "(I)Z"⟩, 21) := ⟨⟨by decide +kernel, by decide +kernel⟩, List.mem_of_getElem? (i := 873) (by decide +kernel), List.mem_of_getElem? (i := 1049) (by decide +kernel), List.mem_of_getElem? (i := 1050) (by decide +kernel)⟩
def lw_privs_3 : List (MethodName × Nat) := [(⟨"FilmCans$Reach", "withOneMore", "(JI)J"⟩, 2), (⟨"FilmCans$Reach", "longestOn", "(IIILFilmCans$Rooms;)I"⟩, 2), (⟨"FilmCans$Reach", "isPlaced", "(II)Z"⟩, 2), (⟨"FilmCansModel", "next", "()V"⟩, 21), (⟨"FilmCansModel", "byteAt", "(I)I"⟩, 21), (⟨"FilmCansModel", "letter", "(I)V"⟩, 21), (⟨"FilmCansModel", "bad", "(I)V"⟩, 21), (⟨"FilmCansModel", "goesOn", "()V"⟩, 21), (⟨"FilmCansModel", "number", "(II)I"⟩, 21), (⟨"FilmCansModel", "sign", "(I)V"⟩, 21), (⟨"FilmCansModel", "isCanTold", "()Z"⟩, 21), (⟨"FilmCansModel", "readsCan", "()V"⟩, 21), (⟨"FilmCansModel", "readsTake", "()V"⟩, 21), (⟨"FilmCansModel", "isCan", "(I)Z"⟩, 21), (⟨"FilmCansModel", "notes", "()V"⟩, 21), (⟨"FilmCansModel", "isTake", "(I)Z"⟩, 21)]
theorem lw_r3 : ∀ q ∈ lw_privs_3, lw_okq q := List.forall_mem_cons.mpr ⟨lw_p32, List.forall_mem_cons.mpr ⟨lw_p33, List.forall_mem_cons.mpr ⟨lw_p34, List.forall_mem_cons.mpr ⟨lw_p35, List.forall_mem_cons.mpr ⟨lw_p36, List.forall_mem_cons.mpr ⟨lw_p37, List.forall_mem_cons.mpr ⟨lw_p38, List.forall_mem_cons.mpr ⟨lw_p39, List.forall_mem_cons.mpr ⟨lw_p40, List.forall_mem_cons.mpr ⟨lw_p41, List.forall_mem_cons.mpr ⟨lw_p42, List.forall_mem_cons.mpr ⟨lw_p43, List.forall_mem_cons.mpr ⟨lw_p44, List.forall_mem_cons.mpr ⟨lw_p45, List.forall_mem_cons.mpr ⟨lw_p46, List.forall_mem_cons.mpr ⟨lw_p47, fun _ h => absurd h List.not_mem_nil⟩⟩⟩⟩⟩⟩⟩⟩⟩⟩⟩⟩⟩⟩⟩⟩
theorem lw_p48 : lw_okq (⟨"FilmCansModel", "batched", "()I"⟩, 21) := ⟨⟨by decide +kernel, by decide +kernel⟩, List.mem_of_getElem? (i := 873) (by decide +kernel), List.mem_of_getElem? (i := 1080) (by decide +kernel), List.mem_of_getElem? (i := 1081) (by decide +kernel)⟩
theorem lw_p49 : lw_okq (⟨"FilmCansModel", "waiting", "()I"⟩, 21) := ⟨⟨by decide +kernel, by decide +kernel⟩, List.mem_of_getElem? (i := 873) (by decide +kernel), List.mem_of_getElem? (i := 1084) (by decide +kernel), List.mem_of_getElem? (i := 1085) (by decide +kernel)⟩
theorem lw_p50 : lw_okq (⟨"FilmCansModel", "isBook", "()Z"⟩, 21) := ⟨⟨by decide +kernel, by decide +kernel⟩, List.mem_of_getElem? (i := 873) (by decide +kernel), List.mem_of_getElem? (i := 1096) (by decide +kernel), List.mem_of_getElem? (i := 1097) (by decide +kernel)⟩
theorem lw_p51 : lw_okq (⟨"FilmCansModel", "shotOn", "(I)I"⟩, 21) := ⟨⟨by decide +kernel, by decide +kernel⟩, List.mem_of_getElem? (i := 873) (by decide +kernel), List.mem_of_getElem? (i := 1127) (by decide +kernel), List.mem_of_getElem? (i := 1128) (by decide +kernel)⟩
theorem lw_p52 : lw_okq (⟨"FilmCansModel", "serving", "(I)I"⟩, 21) := ⟨⟨by decide +kernel, by decide +kernel⟩, List.mem_of_getElem? (i := 873) (by decide +kernel), List.mem_of_getElem? (i := 1135) (by decide +kernel), List.mem_of_getElem? (i := 1136) (by decide +kernel)⟩
theorem lw_p53 : lw_okq (⟨"FilmCansModel", "onShelf", "()I"⟩, 21) := ⟨⟨by decide +kernel, by decide +kernel⟩, List.mem_of_getElem? (i := 873) (by decide +kernel), List.mem_of_getElem? (i := 1148) (by decide +kernel), List.mem_of_getElem? (i := 1149) (by decide +kernel)⟩
theorem lw_p54 : lw_okq (⟨"FilmCansModel", "fewest", "()I"⟩, 21) := ⟨⟨by decide +kernel, by decide +kernel⟩, List.mem_of_getElem? (i := 873) (by decide +kernel), List.mem_of_getElem? (i := 1156) (by decide +kernel), List.mem_of_getElem? (i := 1157) (by decide +kernel)⟩
theorem lw_p55 : lw_okq (⟨"FilmCansModel", "isBatch", "(I)Z"⟩, 21) := ⟨⟨by decide +kernel, by decide +kernel⟩, List.mem_of_getElem? (i := 873) (by decide +kernel), List.mem_of_getElem? (i := 1160) (by decide +kernel), List.mem_of_getElem? (i := 1161) (by decide +kernel)⟩
theorem lw_p56 : lw_okq (⟨"FilmCansModel", "best", "([I)Z"⟩, 21) := ⟨⟨by decide +kernel, by decide +kernel⟩, List.mem_of_getElem? (i := 873) (by decide +kernel), List.mem_of_getElem? (i := 1188) (by decide +kernel), List.mem_of_getElem? (i := 1189) (by decide +kernel)⟩
theorem lw_p57 : lw_okq (⟨"FilmCansModel", "canBePlaced", "([II)Z"⟩, 21) := ⟨⟨by decide +kernel, by decide +kernel⟩, List.mem_of_getElem? (i := 873) (by decide +kernel), List.mem_of_getElem? (i := 1192) (by decide +kernel), List.mem_of_getElem? (i := 1193) (by decide +kernel)⟩
theorem lw_p58 : lw_okq (⟨"FilmCansModel", "plans", "([III)V"⟩, 21) := ⟨⟨by decide +kernel, by decide +kernel⟩, List.mem_of_getElem? (i := 873) (by decide +kernel), List.mem_of_getElem? (i := 1196) (by decide +kernel), List.mem_of_getElem? (i := 1197) (by decide +kernel)⟩
theorem lw_p59 : lw_okq (⟨"FilmCansModel", "weighs", "([IIIZ)V"⟩, 21) := ⟨⟨by decide +kernel, by decide +kernel⟩, List.mem_of_getElem? (i := 873) (by decide +kernel), List.mem_of_getElem? (i := 1200) (by decide +kernel), List.mem_of_getElem? (i := 1201) (by decide +kernel)⟩
theorem lw_p60 : lw_okq (⟨"FilmCansModel", "leastAt", "([III)I"⟩, 21) := ⟨⟨by decide +kernel, by decide +kernel⟩, List.mem_of_getElem? (i := 873) (by decide +kernel), List.mem_of_getElem? (i := 1210) (by decide +kernel), List.mem_of_getElem? (i := 1211) (by decide +kernel)⟩
theorem lw_p61 : lw_okq (⟨"FilmCansModel", "lossOfPlan", "()I"⟩, 21) := ⟨⟨by decide +kernel, by decide +kernel⟩, List.mem_of_getElem? (i := 873) (by decide +kernel), List.mem_of_getElem? (i := 1214) (by decide +kernel), List.mem_of_getElem? (i := 1215) (by decide +kernel)⟩
theorem lw_p62 : lw_okq (⟨"FilmCansModel", "roomsOfPlan", "()I"⟩, 21) := ⟨⟨by decide +kernel, by decide +kernel⟩, List.mem_of_getElem? (i := 873) (by decide +kernel), List.mem_of_getElem? (i := 1218) (by decide +kernel), List.mem_of_getElem? (i := 1219) (by decide +kernel)⟩
theorem lw_p63 : lw_okq (⟨"FilmCansModel", "puts", "(I)Z"⟩, 21) := ⟨⟨by decide +kernel, by decide +kernel⟩, List.mem_of_getElem? (i := 873) (by decide +kernel), List.mem_of_getElem? (i := 1230) (by decide +kernel), List.mem_of_getElem? (i := 1231) (by decide +kernel)⟩
def lw_privs_4 : List (MethodName × Nat) := [(⟨"FilmCansModel", "batched", "()I"⟩, 21), (⟨"FilmCansModel", "waiting", "()I"⟩, 21), (⟨"FilmCansModel", "isBook", "()Z"⟩, 21), (⟨"FilmCansModel", "shotOn", "(I)I"⟩, 21), (⟨"FilmCansModel", "serving", "(I)I"⟩, 21), (⟨"FilmCansModel", "onShelf", "()I"⟩, 21), (⟨"FilmCansModel", "fewest", "()I"⟩, 21), (⟨"FilmCansModel", "isBatch", "(I)Z"⟩, 21), (⟨"FilmCansModel", "best", "([I)Z"⟩, 21), (⟨"FilmCansModel", "canBePlaced", "([II)Z"⟩, 21), (⟨"FilmCansModel", "plans", "([III)V"⟩, 21), (⟨"FilmCansModel", "weighs", "([IIIZ)V"⟩, 21), (⟨"FilmCansModel", "leastAt", "([III)I"⟩, 21), (⟨"FilmCansModel", "lossOfPlan", "()I"⟩, 21), (⟨"FilmCansModel", "roomsOfPlan", "()I"⟩, 21), (⟨"FilmCansModel", "puts", "(I)Z"⟩, 21)]
theorem lw_r4 : ∀ q ∈ lw_privs_4, lw_okq q := List.forall_mem_cons.mpr ⟨lw_p48, List.forall_mem_cons.mpr ⟨lw_p49, List.forall_mem_cons.mpr ⟨lw_p50, List.forall_mem_cons.mpr ⟨lw_p51, List.forall_mem_cons.mpr ⟨lw_p52, List.forall_mem_cons.mpr ⟨lw_p53, List.forall_mem_cons.mpr ⟨lw_p54, List.forall_mem_cons.mpr ⟨lw_p55, List.forall_mem_cons.mpr ⟨lw_p56, List.forall_mem_cons.mpr ⟨lw_p57, List.forall_mem_cons.mpr ⟨lw_p58, List.forall_mem_cons.mpr ⟨lw_p59, List.forall_mem_cons.mpr ⟨lw_p60, List.forall_mem_cons.mpr ⟨lw_p61, List.forall_mem_cons.mpr ⟨lw_p62, List.forall_mem_cons.mpr ⟨lw_p63, fun _ h => absurd h List.not_mem_nil⟩⟩⟩⟩⟩⟩⟩⟩⟩⟩⟩⟩⟩⟩⟩⟩
theorem lw_p64 : lw_okq (⟨"FilmCansModel", "roomFor", "(II)I"⟩, 21) := ⟨⟨by decide +kernel, by decide +kernel⟩, List.mem_of_getElem? (i := 873) (by decide +kernel), List.mem_of_getElem? (i := 1234) (by decide +kernel), List.mem_of_getElem? (i := 1235) (by decide +kernel)⟩
def lw_privs_5 : List (MethodName × Nat) := [(⟨"FilmCansModel", "roomFor", "(II)I"⟩, 21)]
theorem lw_r5 : ∀ q ∈ lw_privs_5, lw_okq q := List.forall_mem_cons.mpr ⟨lw_p64, fun _ h => absurd h List.not_mem_nil⟩
def lw_privs : List (MethodName × Nat) := lw_privs_1 ++ (lw_privs_2 ++ (lw_privs_3 ++ (lw_privs_4 ++ (lw_privs_5))))
def lw_tbl : List Cond := k2_sels lw_privs ++ tables_1
theorem lw_privs_ok : ∀ q ∈ lw_privs, lw_okq q := by
  show ∀ q ∈ lw_privs_1 ++ (lw_privs_2 ++ (lw_privs_3 ++ (lw_privs_4 ++ (lw_privs_5)))), lw_okq q
  exact List.forall_mem_append.mpr ⟨lw_r1, List.forall_mem_append.mpr ⟨lw_r2, List.forall_mem_append.mpr ⟨lw_r3, List.forall_mem_append.mpr ⟨lw_r4, lw_r5⟩⟩⟩⟩
end
section
theorem goodIn_r {big : List Cond} (ws : List Cond) (ps : List Nat) (hp : ws = ps.filterMap (fun i => big[i]?)) (h : ws.all goodWord = true) : GoodIn big ws := by
  intro w hw
  have h1 := List.all_eq_true.mp h w hw
  rw [hp] at hw
  obtain ⟨i, -, hi⟩ := List.mem_filterMap.mp hw
  have hm : w ∈ big := by first | exact List.mem_of_getElem? hi | exact List.getElem?_mem hi
  exact ⟨hm, good_of_word h1⟩
theorem goodIn_app {big a b : List Cond} (ha : GoodIn big a) (hb : GoodIn big b) : GoodIn big (a ++ b) := fun w h => (List.mem_append.mp h).elim (ha w) (hb w)
theorem goodIn_ca {big a b : List Cond} {c : Cond} (ha : GoodIn big (c :: a)) (hb : GoodIn big b) : GoodIn big (c :: (a ++ b)) := fun w h => (List.mem_cons.mp h).elim (fun e => ha w (List.mem_cons.mpr (Or.inl e))) (fun h => (List.mem_append.mp h).elim (fun h => ha w (List.mem_cons.mpr (Or.inr h))) (hb w))
theorem goodIn_sub {big ws : List Cond} (hm : ∀ w ∈ ws, w ∈ big) (h : ws.all goodWord = true) : GoodIn big ws := fun w hw => ⟨hm w hw, good_of_word (List.all_eq_true.mp h w hw)⟩
def RX0 : String := "FilmCans$Best"
def TX0 : u_T := fun k => match k with
  | _ => ("FilmCans$Best", "behind", "[[I", true)
def tyX0 : Nat → FieldType := fun k => match k with
  | _ => .array (.array .int)
abbrev wsX00 : List Cond := u_ws RX0 TX0 1
theorem nmX0 : ∀ a, a < 1 → ∀ b, b < 1 → a ≠ b → (TX0 a).2.1 ≠ (TX0 b).2.1 := by decide +kernel
theorem tyX0_ok : ∀ k, k < 1 → parseFieldDescriptor (TX0 k).2.2.1 = some (tyX0 k) := by decide +kernel
abbrev cX0_init : ByteArray := prog_2_method_1_code
def yX0_init : MethodName := ⟨RX0, "<init>", "()V"⟩
abbrev cX0_place : ByteArray := prog_2_method_2_code
def yX0_place : MethodName := ⟨RX0, "place", "(LFilmCans$Rooms;)Z"⟩
abbrev cX0_admit : ByteArray := prog_2_method_3_code
def yX0_admit : MethodName := ⟨RX0, "admit", "(LFilmCans$Rooms;II)V"⟩
abbrev cX0_spread : ByteArray := prog_2_method_4_code
def yX0_spread : MethodName := ⟨RX0, "spread", "(IIII)V"⟩
abbrev cX0_choose : ByteArray := prog_2_method_5_code
def yX0_choose : MethodName := ⟨RX0, "choose", "(LFilmCans$Rooms;)Z"⟩
abbrev cX0_cheapestSet : ByteArray := prog_2_method_6_code
def yX0_cheapestSet : MethodName := ⟨RX0, "cheapestSet", "(LFilmCans$Rooms;II)I"⟩
abbrev cX0_priceOf : ByteArray := prog_2_method_7_code
def yX0_priceOf : MethodName := ⟨RX0, "priceOf", "(LFilmCans$Rooms;II)I"⟩
def RX1 : String := "FilmCans$Day"
def TX1 : u_T := fun k => match k with
  | 0 => ("FilmCans$Day", "cans", "I", false)
  | 1 => ("FilmCans$Day", "takes", "I", false)
  | 2 => ("FilmCans$Day", "rolls", "I", false)
  | 3 => ("FilmCans$Day", "camera", "I", false)
  | 4 => ("FilmCans$Day", "cameraRoll", "I", false)
  | 5 => ("FilmCans$Day", "bought", "I", false)
  | 6 => ("FilmCans$Day", "exposed", "I", false)
  | 7 => ("FilmCans$Day", "waste", "I", false)
  | 8 => ("FilmCans$Day", "paid", "I", false)
  | 9 => ("FilmCans$Day", "laws", "[I", true)
  | 10 => ("FilmCans$Day", "canKind", "[I", true)
  | 11 => ("FilmCans$Day", "canFeet", "[I", true)
  | 12 => ("FilmCans$Day", "canPlace", "[I", true)
  | 13 => ("FilmCans$Day", "canShort", "[I", true)
  | 14 => ("FilmCans$Day", "takeKind", "[I", true)
  | 15 => ("FilmCans$Day", "takeFeet", "[I", true)
  | 16 => ("FilmCans$Day", "takeCan", "[I", true)
  | 17 => ("FilmCans$Day", "rollCan", "[I", true)
  | 18 => ("FilmCans$Day", "rollFeet", "[I", true)
  | _ => ("FilmCans$Day", "rollFamily", "[I", true)
def tyX1 : Nat → FieldType := fun k => match k with
  | 0 => .int
  | 1 => .int
  | 2 => .int
  | 3 => .int
  | 4 => .int
  | 5 => .int
  | 6 => .int
  | 7 => .int
  | 8 => .int
  | 9 => .array .int
  | 10 => .array .int
  | 11 => .array .int
  | 12 => .array .int
  | 13 => .array .int
  | 14 => .array .int
  | 15 => .array .int
  | 16 => .array .int
  | 17 => .array .int
  | 18 => .array .int
  | _ => .array .int
abbrev wsX10 : List Cond := u_ws RX1 TX1 20
theorem nmX1 : ∀ a, a < 20 → ∀ b, b < 20 → a ≠ b → (TX1 a).2.1 ≠ (TX1 b).2.1 := by decide +kernel
theorem tyX1_ok : ∀ k, k < 20 → parseFieldDescriptor (TX1 k).2.2.1 = some (tyX1 k) := by decide +kernel
abbrev cX1_init : ByteArray := prog_3_method_1_code
def yX1_init : MethodName := ⟨RX1, "<init>", "()V"⟩
abbrev cX1_isEmpty : ByteArray := prog_3_method_2_code
def yX1_isEmpty : MethodName := ⟨RX1, "isEmpty", "()Z"⟩
abbrev cX1_clear : ByteArray := prog_3_method_3_code
def yX1_clear : MethodName := ⟨RX1, "clear", "()V"⟩
abbrev cX1_copyFrom : ByteArray := prog_3_method_4_code
def yX1_copyFrom : MethodName := ⟨RX1, "copyFrom", "(LFilmCans$Day;)V"⟩
abbrev cX1_hasCan : ByteArray := prog_3_method_5_code
def yX1_hasCan : MethodName := ⟨RX1, "hasCan", "(I)Z"⟩
abbrev cX1_hasTake : ByteArray := prog_3_method_6_code
def yX1_hasTake : MethodName := ⟨RX1, "hasTake", "(I)Z"⟩
abbrev cX1_isOpen : ByteArray := prog_3_method_7_code
def yX1_isOpen : MethodName := ⟨RX1, "isOpen", "(I)Z"⟩
abbrev cX1_isRoom : ByteArray := prog_3_method_8_code
def yX1_isRoom : MethodName := ⟨RX1, "isRoom", "(I)Z"⟩
abbrev cX1_serves : ByteArray := prog_3_method_9_code
def yX1_serves : MethodName := ⟨RX1, "serves", "(II)Z"⟩
abbrev cX1_leadOf : ByteArray := prog_3_method_10_code
def yX1_leadOf : MethodName := ⟨RX1, "leadOf", "(I)I"⟩
abbrev cX1_leastKeptOf : ByteArray := prog_3_method_11_code
def yX1_leastKeptOf : MethodName := ⟨RX1, "leastKeptOf", "(I)I"⟩
abbrev cX1_openTakes : ByteArray := prog_3_method_12_code
def yX1_openTakes : MethodName := ⟨RX1, "openTakes", "()I"⟩
abbrev cX1_takesShotOn : ByteArray := prog_3_method_13_code
def yX1_takesShotOn : MethodName := ⟨RX1, "takesShotOn", "(I)I"⟩
abbrev cX1_takesServedBy : ByteArray := prog_3_method_14_code
def yX1_takesServedBy : MethodName := ⟨RX1, "takesServedBy", "(I)I"⟩
abbrev cX1_cansThatServe : ByteArray := prog_3_method_15_code
def yX1_cansThatServe : MethodName := ⟨RX1, "cansThatServe", "(I)I"⟩
abbrev cX1_rooms : ByteArray := prog_3_method_16_code
def yX1_rooms : MethodName := ⟨RX1, "rooms", "()I"⟩
abbrev cX1_feetOnShelf : ByteArray := prog_3_method_17_code
def yX1_feetOnShelf : MethodName := ⟨RX1, "feetOnShelf", "()I"⟩
abbrev cX1_feetThatWait : ByteArray := prog_3_method_18_code
def yX1_feetThatWait : MethodName := ⟨RX1, "feetThatWait", "()I"⟩
abbrev cX1_addCan : ByteArray := prog_3_method_19_code
def yX1_addCan : MethodName := ⟨RX1, "addCan", "(II)I"⟩
abbrev cX1_addTake : ByteArray := prog_3_method_20_code
def yX1_addTake : MethodName := ⟨RX1, "addTake", "(II)I"⟩
abbrev cX1_thread : ByteArray := prog_3_method_21_code
def yX1_thread : MethodName := ⟨RX1, "thread", "(I)V"⟩
abbrev cX1_expose : ByteArray := prog_3_method_22_code
def yX1_expose : MethodName := ⟨RX1, "expose", "(II)V"⟩
abbrev cX1_takeOut : ByteArray := prog_3_method_23_code
def yX1_takeOut : MethodName := ⟨RX1, "takeOut", "(I)V"⟩
abbrev cX1_develop : ByteArray := prog_3_method_24_code
def yX1_develop : MethodName := ⟨RX1, "develop", "(I)V"⟩
abbrev cX1_reopen : ByteArray := prog_3_method_25_code
def yX1_reopen : MethodName := ⟨RX1, "reopen", "(I)V"⟩
def RX2 : String := "FilmCans$History"
def TX2 : u_T := fun k => match k with
  | 0 => ("FilmCans$History", "ring", "[LFilmCans$Day;", true)
  | 1 => ("FilmCans$History", "next", "I", false)
  | _ => ("FilmCans$History", "kept", "I", false)
def tyX2 : Nat → FieldType := fun k => match k with
  | 0 => .array (.object "FilmCans$Day")
  | 1 => .int
  | _ => .int
abbrev wsX20 : List Cond := u_ws RX2 TX2 3
theorem nmX2 : ∀ a, a < 3 → ∀ b, b < 3 → a ≠ b → (TX2 a).2.1 ≠ (TX2 b).2.1 := by decide +kernel
theorem tyX2_ok : ∀ k, k < 3 → parseFieldDescriptor (TX2 k).2.2.1 = some (tyX2 k) := by decide +kernel
abbrev cX2_init : ByteArray := prog_4_method_1_code
def yX2_init : MethodName := ⟨RX2, "<init>", "()V"⟩
abbrev cX2_keep : ByteArray := prog_4_method_2_code
def yX2_keep : MethodName := ⟨RX2, "keep", "(LFilmCans$Day;)V"⟩
abbrev cX2_stepBack : ByteArray := prog_4_method_3_code
def yX2_stepBack : MethodName := ⟨RX2, "stepBack", "(LFilmCans$Day;)Z"⟩
abbrev cX2_forget : ByteArray := prog_4_method_4_code
def yX2_forget : MethodName := ⟨RX2, "forget", "()V"⟩
def RX3 : String := "FilmCans$Kinds"
def TX3 : u_T := fun k => match k with
  | _ => ("", "", "", false)
def tyX3 : Nat → FieldType := fun k => match k with
  | _ => .int
abbrev wsX30 : List Cond := u_ws RX3 TX3 0
theorem nmX3 : ∀ a, a < 0 → ∀ b, b < 0 → a ≠ b → (TX3 a).2.1 ≠ (TX3 b).2.1 := by decide +kernel
theorem tyX3_ok : ∀ k, k < 0 → parseFieldDescriptor (TX3 k).2.2.1 = some (tyX3 k) := by decide +kernel
abbrev cX3_isKind : ByteArray := prog_5_method_2_code
def yX3_isKind : MethodName := ⟨RX3, "isKind", "(I)Z"⟩
abbrev cX3_isOf : ByteArray := prog_5_method_3_code
def yX3_isOf : MethodName := ⟨RX3, "isOf", "(II)Z"⟩
abbrev cX3_familyOf : ByteArray := prog_5_method_4_code
def yX3_familyOf : MethodName := ⟨RX3, "familyOf", "(I)I"⟩
abbrev cX3_leadOf : ByteArray := prog_5_method_5_code
def yX3_leadOf : MethodName := ⟨RX3, "leadOf", "(II)I"⟩
abbrev cX3_slateOf : ByteArray := prog_5_method_6_code
def yX3_slateOf : MethodName := ⟨RX3, "slateOf", "(I)I"⟩
abbrev cX3_leastKept : ByteArray := prog_5_method_7_code
def yX3_leastKept : MethodName := ⟨RX3, "leastKept", "(II)I"⟩
abbrev cX3_isKept : ByteArray := prog_5_method_8_code
def yX3_isKept : MethodName := ⟨RX3, "isKept", "(II)Z"⟩
abbrev cX3_ofLetter : ByteArray := prog_5_method_9_code
def yX3_ofLetter : MethodName := ⟨RX3, "ofLetter", "(I)I"⟩
def RX4 : String := "FilmCans$Laboratory"
def TX4 : u_T := fun k => match k with
  | 0 => ("FilmCans$Laboratory", "batchFeet", "[I", true)
  | 1 => ("FilmCans$Laboratory", "batchFamily", "[I", true)
  | 2 => ("FilmCans$Laboratory", "feetOf", "[I", true)
  | _ => ("FilmCans$Laboratory", "fewest", "[I", true)
def tyX4 : Nat → FieldType := fun k => match k with
  | 0 => .array .int
  | 1 => .array .int
  | 2 => .array .int
  | _ => .array .int
abbrev wsX40 : List Cond := u_ws RX4 TX4 4
theorem nmX4 : ∀ a, a < 4 → ∀ b, b < 4 → a ≠ b → (TX4 a).2.1 ≠ (TX4 b).2.1 := by decide +kernel
theorem tyX4_ok : ∀ k, k < 4 → parseFieldDescriptor (TX4 k).2.2.1 = some (tyX4 k) := by decide +kernel
abbrev cX4_init : ByteArray := prog_6_method_1_code
def yX4_init : MethodName := ⟨RX4, "<init>", "()V"⟩
abbrev cX4_byLab : ByteArray := prog_6_method_2_code
def yX4_byLab : MethodName := ⟨RX4, "byLab", "(LFilmCans$Day;)I"⟩
abbrev cX4_firstWithRoom : ByteArray := prog_6_method_3_code
def yX4_firstWithRoom : MethodName := ⟨RX4, "firstWithRoom", "(LFilmCans$Day;II)I"⟩
abbrev cX4_leastBatches : ByteArray := prog_6_method_4_code
def yX4_leastBatches : MethodName := ⟨RX4, "leastBatches", "(LFilmCans$Day;)I"⟩
abbrev cX4_leastOf : ByteArray := prog_6_method_5_code
def yX4_leastOf : MethodName := ⟨RX4, "leastOf", "(III)I"⟩
abbrev cX4_sumUp : ByteArray := prog_6_method_6_code
def yX4_sumUp : MethodName := ⟨RX4, "sumUp", "(LFilmCans$Day;)V"⟩
abbrev cX4_reversalRolls : ByteArray := prog_6_method_7_code
def yX4_reversalRolls : MethodName := ⟨RX4, "reversalRolls", "(LFilmCans$Day;)I"⟩
def RX5 : String := "FilmCans$Reach"
def TX5 : u_T := fun k => match k with
  | 0 => ("FilmCans$Reach", "placed", "[J", true)
  | _ => ("FilmCans$Reach", "holders", "[I", true)
def tyX5 : Nat → FieldType := fun k => match k with
  | 0 => .array .long
  | _ => .array .int
abbrev wsX50 : List Cond := u_ws RX5 TX5 2
theorem nmX5 : ∀ a, a < 2 → ∀ b, b < 2 → a ≠ b → (TX5 a).2.1 ≠ (TX5 b).2.1 := by decide +kernel
theorem tyX5_ok : ∀ k, k < 2 → parseFieldDescriptor (TX5 k).2.2.1 = some (tyX5 k) := by decide +kernel
abbrev cX5_init : ByteArray := prog_7_method_1_code
def yX5_init : MethodName := ⟨RX5, "<init>", "()V"⟩
abbrev cX5_work : ByteArray := prog_7_method_2_code
def yX5_work : MethodName := ⟨RX5, "work", "(LFilmCans$Rooms;)V"⟩
abbrev cX5_holdersOf : ByteArray := prog_7_method_3_code
def yX5_holdersOf : MethodName := ⟨RX5, "holdersOf", "(LFilmCans$Rooms;I)I"⟩
abbrev cX5_roomSetsFor : ByteArray := prog_7_method_4_code
def yX5_roomSetsFor : MethodName := ⟨RX5, "roomSetsFor", "(I)J"⟩
abbrev cX5_withOneMore : ByteArray := prog_7_method_5_code
def yX5_withOneMore : MethodName := ⟨RX5, "withOneMore", "(JI)J"⟩
abbrev cX5_isPlaced : ByteArray := prog_7_method_6_code
def yX5_isPlaced : MethodName := ⟨RX5, "isPlaced", "(II)Z"⟩
abbrev cX5_canPlaceAll : ByteArray := prog_7_method_7_code
def yX5_canPlaceAll : MethodName := ⟨RX5, "canPlaceAll", "(LFilmCans$Rooms;)Z"⟩
abbrev cX5_roomsNeeded : ByteArray := prog_7_method_8_code
def yX5_roomsNeeded : MethodName := ⟨RX5, "roomsNeeded", "(LFilmCans$Rooms;)I"⟩
abbrev cX5_casesAmongTens : ByteArray := prog_7_method_9_code
def yX5_casesAmongTens : MethodName := ⟨RX5, "casesAmongTens", "(LFilmCans$Rooms;I)J"⟩
abbrev cX5_longestOf : ByteArray := prog_7_method_10_code
def yX5_longestOf : MethodName := ⟨RX5, "longestOf", "(ILFilmCans$Rooms;)I"⟩
abbrev cX5_longestOn : ByteArray := prog_7_method_11_code
def yX5_longestOn : MethodName := ⟨RX5, "longestOn", "(IIILFilmCans$Rooms;)I"⟩
abbrev cX5_leastRest : ByteArray := prog_7_method_12_code
def yX5_leastRest : MethodName := ⟨RX5, "leastRest", "(LFilmCans$Rooms;III)I"⟩
def RX6 : String := "FilmCans$Rooms"
def TX6 : u_T := fun k => match k with
  | 0 => ("FilmCans$Rooms", "there", "I", false)
  | 1 => ("FilmCans$Rooms", "open", "I", false)
  | 2 => ("FilmCans$Rooms", "feet", "[I", true)
  | 3 => ("FilmCans$Rooms", "lead", "[I", true)
  | 4 => ("FilmCans$Rooms", "slate", "[I", true)
  | 5 => ("FilmCans$Rooms", "keptFrom", "[I", true)
  | 6 => ("FilmCans$Rooms", "serves", "[I", true)
  | 7 => ("FilmCans$Rooms", "takeFeet", "[I", true)
  | 8 => ("FilmCans$Rooms", "feetOf", "[I", true)
  | 9 => ("FilmCans$Rooms", "ends", "[[I", true)
  | _ => ("FilmCans$Rooms", "sets", "[I", true)
def tyX6 : Nat → FieldType := fun k => match k with
  | 0 => .int
  | 1 => .int
  | 2 => .array .int
  | 3 => .array .int
  | 4 => .array .int
  | 5 => .array .int
  | 6 => .array .int
  | 7 => .array .int
  | 8 => .array .int
  | 9 => .array (.array .int)
  | _ => .array .int
abbrev wsX60 : List Cond := u_ws RX6 TX6 11
theorem nmX6 : ∀ a, a < 11 → ∀ b, b < 11 → a ≠ b → (TX6 a).2.1 ≠ (TX6 b).2.1 := by decide +kernel
theorem tyX6_ok : ∀ k, k < 11 → parseFieldDescriptor (TX6 k).2.2.1 = some (tyX6 k) := by decide +kernel
abbrev cX6_init : ByteArray := prog_8_method_1_code
def yX6_init : MethodName := ⟨RX6, "<init>", "()V"⟩
abbrev cX6_lookAt : ByteArray := prog_8_method_2_code
def yX6_lookAt : MethodName := ⟨RX6, "lookAt", "(LFilmCans$Day;)V"⟩
abbrev cX6_lookAtCan : ByteArray := prog_8_method_3_code
def yX6_lookAtCan : MethodName := ⟨RX6, "lookAtCan", "(LFilmCans$Day;I)V"⟩
abbrev cX6_drawLength : ByteArray := prog_8_method_4_code
def yX6_drawLength : MethodName := ⟨RX6, "drawLength", "(J)V"⟩
abbrev cX6_measure : ByteArray := prog_8_method_5_code
def yX6_measure : MethodName := ⟨RX6, "measure", "()V"⟩
abbrev cX6_measureEnds : ByteArray := prog_8_method_6_code
def yX6_measureEnds : MethodName := ⟨RX6, "measureEnds", "(I)V"⟩
abbrev cX6_has : ByteArray := prog_8_method_7_code
def yX6_has : MethodName := ⟨RX6, "has", "(I)Z"⟩
abbrev cX6_isOpen : ByteArray := prog_8_method_8_code
def yX6_isOpen : MethodName := ⟨RX6, "isOpen", "(I)Z"⟩
abbrev cX6_holds : ByteArray := prog_8_method_9_code
def yX6_holds : MethodName := ⟨RX6, "holds", "(II)Z"⟩
abbrev cX6_lossOf : ByteArray := prog_8_method_10_code
def yX6_lossOf : MethodName := ⟨RX6, "lossOf", "(II)I"⟩
abbrev cX6_losses : ByteArray := prog_8_method_11_code
def yX6_losses : MethodName := ⟨RX6, "losses", "()I"⟩
abbrev cX6_used : ByteArray := prog_8_method_12_code
def yX6_used : MethodName := ⟨RX6, "used", "()I"⟩
abbrev cX6_placeRising : ByteArray := prog_8_method_13_code
def yX6_placeRising : MethodName := ⟨RX6, "placeRising", "(Z)Z"⟩
abbrev cX6_firstFor : ByteArray := prog_8_method_14_code
def yX6_firstFor : MethodName := ⟨RX6, "firstFor", "(I)I"⟩
abbrev cX6_tightestFor : ByteArray := prog_8_method_15_code
def yX6_tightestFor : MethodName := ⟨RX6, "tightestFor", "(I)I"⟩
def RX7 : String := "FilmCans$Tape"
def TX7 : u_T := fun k => match k with
  | 0 => ("FilmCans$Tape", "bytes", "[I", true)
  | 1 => ("FilmCans$Tape", "length", "I", false)
  | 2 => ("FilmCans$Tape", "place", "I", false)
  | _ => ("FilmCans$Tape", "fault", "I", false)
def tyX7 : Nat → FieldType := fun k => match k with
  | 0 => .array .int
  | 1 => .int
  | 2 => .int
  | _ => .int
abbrev wsX70 : List Cond := u_ws RX7 TX7 4
theorem nmX7 : ∀ a, a < 4 → ∀ b, b < 4 → a ≠ b → (TX7 a).2.1 ≠ (TX7 b).2.1 := by decide +kernel
theorem tyX7_ok : ∀ k, k < 4 → parseFieldDescriptor (TX7 k).2.2.1 = some (tyX7 k) := by decide +kernel
abbrev cX7_init : ByteArray := prog_9_method_1_code
def yX7_init : MethodName := ⟨RX7, "<init>", "()V"⟩
abbrev cX7_append : ByteArray := prog_9_method_2_code
def yX7_append : MethodName := ⟨RX7, "append", "(I)Z"⟩
abbrev cX7_readInto : ByteArray := prog_9_method_3_code
def yX7_readInto : MethodName := ⟨RX7, "readInto", "(LFilmCans$Day;)Z"⟩
abbrev cX7_readLaws : ByteArray := prog_9_method_4_code
def yX7_readLaws : MethodName := ⟨RX7, "readLaws", "(LFilmCans$Day;)Z"⟩
abbrev cX7_readCans : ByteArray := prog_9_method_5_code
def yX7_readCans : MethodName := ⟨RX7, "readCans", "(LFilmCans$Day;)Z"⟩
abbrev cX7_readCan : ByteArray := prog_9_method_6_code
def yX7_readCan : MethodName := ⟨RX7, "readCan", "(LFilmCans$Day;)Z"⟩
abbrev cX7_readTakes : ByteArray := prog_9_method_7_code
def yX7_readTakes : MethodName := ⟨RX7, "readTakes", "(LFilmCans$Day;)Z"⟩
abbrev cX7_readTake : ByteArray := prog_9_method_8_code
def yX7_readTake : MethodName := ⟨RX7, "readTake", "(LFilmCans$Day;)Z"⟩
abbrev cX7_readNumber : ByteArray := prog_9_method_9_code
def yX7_readNumber : MethodName := ⟨RX7, "readNumber", "(II)I"⟩
abbrev cX7_figuresFrom : ByteArray := prog_9_method_10_code
def yX7_figuresFrom : MethodName := ⟨RX7, "figuresFrom", "(I)I"⟩
abbrev cX7_pass : ByteArray := prog_9_method_11_code
def yX7_pass : MethodName := ⟨RX7, "pass", "(I)Z"⟩
abbrev cX7_refuse : ByteArray := prog_9_method_12_code
def yX7_refuse : MethodName := ⟨RX7, "refuse", "(I)Z"⟩
abbrev cX7_next : ByteArray := prog_9_method_13_code
def yX7_next : MethodName := ⟨RX7, "next", "()I"⟩
abbrev cX7_byteAt : ByteArray := prog_9_method_14_code
def yX7_byteAt : MethodName := ⟨RX7, "byteAt", "(I)I"⟩
def RX8 : String := "FilmCans"
def TX8 : u_T := fun k => match k with
  | 0 => ("FilmCans", "tape", "LFilmCans$Tape;", true)
  | 1 => ("FilmCans", "day", "LFilmCans$Day;", true)
  | 2 => ("FilmCans", "draft", "LFilmCans$Day;", true)
  | 3 => ("FilmCans", "history", "LFilmCans$History;", true)
  | 4 => ("FilmCans", "images", "[LFilmCans$Day;", true)
  | 5 => ("FilmCans", "laboratory", "LFilmCans$Laboratory;", true)
  | 6 => ("FilmCans", "rooms", "LFilmCans$Rooms;", true)
  | 7 => ("FilmCans", "best", "LFilmCans$Best;", true)
  | _ => ("FilmCans", "reach", "LFilmCans$Reach;", true)
def tyX8 : Nat → FieldType := fun k => match k with
  | 0 => .object "FilmCans$Tape"
  | 1 => .object "FilmCans$Day"
  | 2 => .object "FilmCans$Day"
  | 3 => .object "FilmCans$History"
  | 4 => .array (.object "FilmCans$Day")
  | 5 => .object "FilmCans$Laboratory"
  | 6 => .object "FilmCans$Rooms"
  | 7 => .object "FilmCans$Best"
  | _ => .object "FilmCans$Reach"
abbrev wsX80 : List Cond := u_ws RX8 TX8 9
theorem nmX8 : ∀ a, a < 9 → ∀ b, b < 9 → a ≠ b → (TX8 a).2.1 ≠ (TX8 b).2.1 := by decide +kernel
theorem tyX8_ok : ∀ k, k < 9 → parseFieldDescriptor (TX8 k).2.2.1 = some (tyX8 k) := by decide +kernel
abbrev cX8_init : ByteArray := prog_1_method_1_code
def yX8_init : MethodName := ⟨RX8, "<init>", "()V"⟩
abbrev cX8_feed : ByteArray := prog_1_method_2_code
def yX8_feed : MethodName := ⟨RX8, "feed", "(I)I"⟩
abbrev cX8_book : ByteArray := prog_1_method_3_code
def yX8_book : MethodName := ⟨RX8, "book", "()I"⟩
abbrev cX8_fault : ByteArray := prog_1_method_4_code
def yX8_fault : MethodName := ⟨RX8, "fault", "()I"⟩
abbrev cX8_undo : ByteArray := prog_1_method_5_code
def yX8_undo : MethodName := ⟨RX8, "undo", "()I"⟩
abbrev cX8_load : ByteArray := prog_1_method_6_code
def yX8_load : MethodName := ⟨RX8, "load", "(I)I"⟩
abbrev cX8_shoot : ByteArray := prog_1_method_7_code
def yX8_shoot : MethodName := ⟨RX8, "shoot", "(I)I"⟩
abbrev cX8_unload : ByteArray := prog_1_method_8_code
def yX8_unload : MethodName := ⟨RX8, "unload", "()I"⟩
abbrev cX8_lab : ByteArray := prog_1_method_9_code
def yX8_lab : MethodName := ⟨RX8, "lab", "()I"⟩
abbrev cX8_again : ByteArray := prog_1_method_10_code
def yX8_again : MethodName := ⟨RX8, "again", "(I)I"⟩
abbrev cX8_buy : ByteArray := prog_1_method_11_code
def yX8_buy : MethodName := ⟨RX8, "buy", "(II)I"⟩
abbrev cX8_ask : ByteArray := prog_1_method_12_code
def yX8_ask : MethodName := ⟨RX8, "ask", "(II)I"⟩
abbrev cX8_become : ByteArray := prog_1_method_13_code
def yX8_become : MethodName := ⟨RX8, "become", "(II)I"⟩
abbrev cX8_demand : ByteArray := prog_1_method_14_code
def yX8_demand : MethodName := ⟨RX8, "demand", "(III)I"⟩
abbrev cX8_law : ByteArray := prog_1_method_15_code
def yX8_law : MethodName := ⟨RX8, "law", "(II)I"⟩
abbrev cX8_can : ByteArray := prog_1_method_16_code
def yX8_can : MethodName := ⟨RX8, "can", "(II)I"⟩
abbrev cX8_take : ByteArray := prog_1_method_17_code
def yX8_take : MethodName := ⟨RX8, "take", "(II)I"⟩
abbrev cX8_roll : ByteArray := prog_1_method_18_code
def yX8_roll : MethodName := ⟨RX8, "roll", "(II)I"⟩
abbrev cX8_sums : ByteArray := prog_1_method_19_code
def yX8_sums : MethodName := ⟨RX8, "sums", "(I)I"⟩
abbrev cX8_batches : ByteArray := prog_1_method_20_code
def yX8_batches : MethodName := ⟨RX8, "batches", "(I)I"⟩
abbrev cX8_as : ByteArray := prog_1_method_21_code
def yX8_as : MethodName := ⟨RX8, "as", "(II)I"⟩
abbrev cX8_fits : ByteArray := prog_1_method_22_code
def yX8_fits : MethodName := ⟨RX8, "fits", "(II)I"⟩
abbrev cX8_plan : ByteArray := prog_1_method_23_code
def yX8_plan : MethodName := ⟨RX8, "plan", "(I)I"⟩
abbrev cX8_planOf : ByteArray := prog_1_method_24_code
def yX8_planOf : MethodName := ⟨RX8, "planOf", "(I)I"⟩
abbrev cX8_rule : ByteArray := prog_1_method_25_code
def yX8_rule : MethodName := ⟨RX8, "rule", "(II)I"⟩
abbrev cX8_ruleOf : ByteArray := prog_1_method_26_code
def yX8_ruleOf : MethodName := ⟨RX8, "ruleOf", "(II)I"⟩
abbrev cX8_longer : ByteArray := prog_1_method_27_code
def yX8_longer : MethodName := ⟨RX8, "longer", "(I)I"⟩
abbrev cX8_more : ByteArray := prog_1_method_28_code
def yX8_more : MethodName := ⟨RX8, "more", "(I)I"⟩
abbrev cX8_needed : ByteArray := prog_1_method_29_code
def yX8_needed : MethodName := ⟨RX8, "needed", "()I"⟩
abbrev cX8_fogged : ByteArray := prog_1_method_30_code
def yX8_fogged : MethodName := ⟨RX8, "fogged", "(II)J"⟩
abbrev cX8_drawn : ByteArray := prog_1_method_31_code
def yX8_drawn : MethodName := ⟨RX8, "drawn", "(III)I"⟩
abbrev cX8_image : ByteArray := prog_1_method_32_code
def yX8_image : MethodName := ⟨RX8, "image", "(I)I"⟩
abbrev cX8_restore : ByteArray := prog_1_method_33_code
def yX8_restore : MethodName := ⟨RX8, "restore", "(I)I"⟩
abbrev cX8_count : ByteArray := prog_1_method_34_code
def yX8_count : MethodName := ⟨RX8, "count", "(I)I"⟩
abbrev cX8_hasNoBook : ByteArray := prog_1_method_35_code
def yX8_hasNoBook : MethodName := ⟨RX8, "hasNoBook", "()Z"⟩
abbrev cX8_isCanKind : ByteArray := prog_1_method_36_code
def yX8_isCanKind : MethodName := ⟨RX8, "isCanKind", "(I)Z"⟩
abbrev cX8_isCanFeet : ByteArray := prog_1_method_37_code
def yX8_isCanFeet : MethodName := ⟨RX8, "isCanFeet", "(I)Z"⟩
abbrev cX8_isTakeFeet : ByteArray := prog_1_method_38_code
def yX8_isTakeFeet : MethodName := ⟨RX8, "isTakeFeet", "(I)Z"⟩
abbrev cX8_isZeroOrOne : ByteArray := prog_1_method_39_code
def yX8_isZeroOrOne : MethodName := ⟨RX8, "isZeroOrOne", "(I)Z"⟩
abbrev cX8_placeBest : ByteArray := prog_1_method_40_code
def yX8_placeBest : MethodName := ⟨RX8, "placeBest", "()Z"⟩
abbrev cX8_placeByRule : ByteArray := prog_1_method_41_code
def yX8_placeByRule : MethodName := ⟨RX8, "placeByRule", "(I)Z"⟩
abbrev cX8_wholeAnswer : ByteArray := prog_1_method_42_code
def yX8_wholeAnswer : MethodName := ⟨RX8, "wholeAnswer", "(ZI)I"⟩
abbrev cX8_lookAhead : ByteArray := prog_1_method_43_code
def yX8_lookAhead : MethodName := ⟨RX8, "lookAhead", "()V"⟩
abbrev cX8_power : ByteArray := prog_1_method_44_code
def yX8_power : MethodName := ⟨RX8, "power", "(II)J"⟩
abbrev cX8_greatestDivisor : ByteArray := prog_1_method_45_code
def yX8_greatestDivisor : MethodName := ⟨RX8, "greatestDivisor", "(JJ)J"⟩
def RX9 : String := "FilmCansModel"
def TX9 : u_T := fun k => match k with
  | 0 => ("FilmCansModel", "now", "[I", true)
  | 1 => ("FilmCansModel", "draft", "[I", true)
  | 2 => ("FilmCansModel", "past", "[I", true)
  | 3 => ("FilmCansModel", "acts", "I", false)
  | 4 => ("FilmCansModel", "images", "[I", true)
  | 5 => ("FilmCansModel", "kept", "[Z", true)
  | 6 => ("FilmCansModel", "tape", "[I", true)
  | 7 => ("FilmCansModel", "taped", "I", false)
  | 8 => ("FilmCansModel", "at", "I", false)
  | 9 => ("FilmCansModel", "start", "I", false)
  | 10 => ("FilmCansModel", "token", "I", false)
  | 11 => ("FilmCansModel", "value", "I", false)
  | 12 => ("FilmCansModel", "fault", "I", false)
  | 13 => ("FilmCansModel", "place", "I", false)
  | 14 => ("FilmCansModel", "latest", "I", false)
  | 15 => ("FilmCansModel", "loss", "[I", true)
  | 16 => ("FilmCansModel", "rooms", "[I", true)
  | 17 => ("FilmCansModel", "plan", "[I", true)
  | 18 => ("FilmCansModel", "filled", "[I", true)
  | 19 => ("FilmCansModel", "family", "[I", true)
  | _ => ("FilmCansModel", "few", "[I", true)
def tyX9 : Nat → FieldType := fun k => match k with
  | 0 => .array .int
  | 1 => .array .int
  | 2 => .array .int
  | 3 => .int
  | 4 => .array .int
  | 5 => .array .boolean
  | 6 => .array .int
  | 7 => .int
  | 8 => .int
  | 9 => .int
  | 10 => .int
  | 11 => .int
  | 12 => .int
  | 13 => .int
  | 14 => .int
  | 15 => .array .int
  | 16 => .array .int
  | 17 => .array .int
  | 18 => .array .int
  | 19 => .array .int
  | _ => .array .int
abbrev wsX90 : List Cond := u_ws RX9 TX9 21
theorem nmX9 : ∀ a, a < 21 → ∀ b, b < 21 → a ≠ b → (TX9 a).2.1 ≠ (TX9 b).2.1 := by decide +kernel
theorem tyX9_ok : ∀ k, k < 21 → parseFieldDescriptor (TX9 k).2.2.1 = some (tyX9 k) := by decide +kernel
abbrev cX9_init : ByteArray := prog_11_method_1_code
def yX9_init : MethodName := ⟨RX9, "<init>", "()V"⟩
abbrev cX9_in : ByteArray := prog_11_method_3_code
def yX9_in : MethodName := ⟨RX9, "in", "(JJJ)Z"⟩
abbrev cX9_has : ByteArray := prog_11_method_4_code
def yX9_has : MethodName := ⟨RX9, "has", "(II)Z"⟩
abbrev cX9_copies : ByteArray := prog_11_method_5_code
def yX9_copies : MethodName := ⟨RX9, "copies", "([II[II)V"⟩
abbrev cX9_isBook : ByteArray := prog_11_method_6_code
def yX9_isBook : MethodName := ⟨RX9, "isBook", "()Z"⟩
abbrev cX9_isCan : ByteArray := prog_11_method_7_code
def yX9_isCan : MethodName := ⟨RX9, "isCan", "(I)Z"⟩
abbrev cX9_isTake : ByteArray := prog_11_method_8_code
def yX9_isTake : MethodName := ⟨RX9, "isTake", "(I)Z"⟩
abbrev cX9_kind : ByteArray := prog_11_method_9_code
def yX9_kind : MethodName := ⟨RX9, "kind", "([II)I"⟩
abbrev cX9_feet : ByteArray := prog_11_method_10_code
def yX9_feet : MethodName := ⟨RX9, "feet", "([II)I"⟩
abbrev cX9_where : ByteArray := prog_11_method_11_code
def yX9_where : MethodName := ⟨RX9, "where", "([II)I"⟩
abbrev cX9_isOpen : ByteArray := prog_11_method_12_code
def yX9_isOpen : MethodName := ⟨RX9, "isOpen", "([II)Z"⟩
abbrev cX9_isOf : ByteArray := prog_11_method_13_code
def yX9_isOf : MethodName := ⟨RX9, "isOf", "(II)Z"⟩
abbrev cX9_serves : ByteArray := prog_11_method_14_code
def yX9_serves : MethodName := ⟨RX9, "serves", "([III)Z"⟩
abbrev cX9_lead : ByteArray := prog_11_method_15_code
def yX9_lead : MethodName := ⟨RX9, "lead", "([II)I"⟩
abbrev cX9_slate : ByteArray := prog_11_method_16_code
def yX9_slate : MethodName := ⟨RX9, "slate", "([II)I"⟩
abbrev cX9_leastEnd : ByteArray := prog_11_method_17_code
def yX9_leastEnd : MethodName := ⟨RX9, "leastEnd", "([II)I"⟩
abbrev cX9_isKept : ByteArray := prog_11_method_18_code
def yX9_isKept : MethodName := ⟨RX9, "isKept", "([III)Z"⟩
abbrev cX9_isRoom : ByteArray := prog_11_method_19_code
def yX9_isRoom : MethodName := ⟨RX9, "isRoom", "([II)Z"⟩
abbrev cX9_openOnes : ByteArray := prog_11_method_20_code
def yX9_openOnes : MethodName := ⟨RX9, "openOnes", "([I)I"⟩
abbrev cX9_left : ByteArray := prog_11_method_21_code
def yX9_left : MethodName := ⟨RX9, "left", "([III)I"⟩
abbrev cX9_ones : ByteArray := prog_11_method_22_code
def yX9_ones : MethodName := ⟨RX9, "ones", "(I)I"⟩
abbrev cX9_lossOf : ByteArray := prog_11_method_23_code
def yX9_lossOf : MethodName := ⟨RX9, "lossOf", "([III)I"⟩
abbrev cX9_byteAt : ByteArray := prog_11_method_24_code
def yX9_byteAt : MethodName := ⟨RX9, "byteAt", "(I)I"⟩
abbrev cX9_next : ByteArray := prog_11_method_25_code
def yX9_next : MethodName := ⟨RX9, "next", "()V"⟩
abbrev cX9_bad : ByteArray := prog_11_method_26_code
def yX9_bad : MethodName := ⟨RX9, "bad", "(I)V"⟩
abbrev cX9_goesOn : ByteArray := prog_11_method_27_code
def yX9_goesOn : MethodName := ⟨RX9, "goesOn", "()V"⟩
abbrev cX9_number : ByteArray := prog_11_method_28_code
def yX9_number : MethodName := ⟨RX9, "number", "(II)I"⟩
abbrev cX9_sign : ByteArray := prog_11_method_29_code
def yX9_sign : MethodName := ⟨RX9, "sign", "(I)V"⟩
abbrev cX9_letter : ByteArray := prog_11_method_30_code
def yX9_letter : MethodName := ⟨RX9, "letter", "(I)V"⟩
abbrev cX9_kindOf : ByteArray := prog_11_method_31_code
def yX9_kindOf : MethodName := ⟨RX9, "kindOf", "(I)I"⟩
abbrev cX9_isCanTold : ByteArray := prog_11_method_32_code
def yX9_isCanTold : MethodName := ⟨RX9, "isCanTold", "()Z"⟩
abbrev cX9_readsCan : ByteArray := prog_11_method_33_code
def yX9_readsCan : MethodName := ⟨RX9, "readsCan", "()V"⟩
abbrev cX9_readsTake : ByteArray := prog_11_method_34_code
def yX9_readsTake : MethodName := ⟨RX9, "readsTake", "()V"⟩
abbrev cX9_adds : ByteArray := prog_11_method_35_code
def yX9_adds : MethodName := ⟨RX9, "adds", "([III)V"⟩
abbrev cX9_feed : ByteArray := prog_11_method_36_code
def yX9_feed : MethodName := ⟨RX9, "feed", "(I)I"⟩
abbrev cX9_book : ByteArray := prog_11_method_37_code
def yX9_book : MethodName := ⟨RX9, "book", "()I"⟩
abbrev cX9_fault : ByteArray := prog_11_method_38_code
def yX9_fault : MethodName := ⟨RX9, "fault", "()I"⟩
abbrev cX9_notes : ByteArray := prog_11_method_39_code
def yX9_notes : MethodName := ⟨RX9, "notes", "()V"⟩
abbrev cX9_undo : ByteArray := prog_11_method_40_code
def yX9_undo : MethodName := ⟨RX9, "undo", "()I"⟩
abbrev cX9_load : ByteArray := prog_11_method_41_code
def yX9_load : MethodName := ⟨RX9, "load", "(I)I"⟩
abbrev cX9_shoot : ByteArray := prog_11_method_42_code
def yX9_shoot : MethodName := ⟨RX9, "shoot", "(I)I"⟩
abbrev cX9_unload : ByteArray := prog_11_method_43_code
def yX9_unload : MethodName := ⟨RX9, "unload", "()I"⟩
abbrev cX9_batched : ByteArray := prog_11_method_44_code
def yX9_batched : MethodName := ⟨RX9, "batched", "()I"⟩
abbrev cX9_waiting : ByteArray := prog_11_method_45_code
def yX9_waiting : MethodName := ⟨RX9, "waiting", "()I"⟩
abbrev cX9_lab : ByteArray := prog_11_method_46_code
def yX9_lab : MethodName := ⟨RX9, "lab", "()I"⟩
abbrev cX9_again : ByteArray := prog_11_method_47_code
def yX9_again : MethodName := ⟨RX9, "again", "(I)I"⟩
abbrev cX9_buy : ByteArray := prog_11_method_48_code
def yX9_buy : MethodName := ⟨RX9, "buy", "(II)I"⟩
abbrev cX9_ask : ByteArray := prog_11_method_49_code
def yX9_ask : MethodName := ⟨RX9, "ask", "(II)I"⟩
abbrev cX9_become : ByteArray := prog_11_method_50_code
def yX9_become : MethodName := ⟨RX9, "become", "(II)I"⟩
abbrev cX9_demand : ByteArray := prog_11_method_51_code
def yX9_demand : MethodName := ⟨RX9, "demand", "(III)I"⟩
abbrev cX9_law : ByteArray := prog_11_method_52_code
def yX9_law : MethodName := ⟨RX9, "law", "(II)I"⟩
abbrev cX9_shotOn : ByteArray := prog_11_method_53_code
def yX9_shotOn : MethodName := ⟨RX9, "shotOn", "(I)I"⟩
abbrev cX9_can : ByteArray := prog_11_method_54_code
def yX9_can : MethodName := ⟨RX9, "can", "(II)I"⟩
abbrev cX9_serving : ByteArray := prog_11_method_55_code
def yX9_serving : MethodName := ⟨RX9, "serving", "(I)I"⟩
abbrev cX9_take : ByteArray := prog_11_method_56_code
def yX9_take : MethodName := ⟨RX9, "take", "(II)I"⟩
abbrev cX9_roll : ByteArray := prog_11_method_57_code
def yX9_roll : MethodName := ⟨RX9, "roll", "(II)I"⟩
abbrev cX9_onShelf : ByteArray := prog_11_method_58_code
def yX9_onShelf : MethodName := ⟨RX9, "onShelf", "()I"⟩
abbrev cX9_sums : ByteArray := prog_11_method_59_code
def yX9_sums : MethodName := ⟨RX9, "sums", "(I)I"⟩
abbrev cX9_isBatch : ByteArray := prog_11_method_60_code
def yX9_isBatch : MethodName := ⟨RX9, "isBatch", "(I)Z"⟩
abbrev cX9_fewest : ByteArray := prog_11_method_61_code
def yX9_fewest : MethodName := ⟨RX9, "fewest", "()I"⟩
abbrev cX9_batches : ByteArray := prog_11_method_62_code
def yX9_batches : MethodName := ⟨RX9, "batches", "(I)I"⟩
abbrev cX9_as : ByteArray := prog_11_method_63_code
def yX9_as : MethodName := ⟨RX9, "as", "(II)I"⟩
abbrev cX9_fits : ByteArray := prog_11_method_64_code
def yX9_fits : MethodName := ⟨RX9, "fits", "(II)I"⟩
abbrev cX9_plans : ByteArray := prog_11_method_65_code
def yX9_plans : MethodName := ⟨RX9, "plans", "([III)V"⟩
abbrev cX9_weighs : ByteArray := prog_11_method_66_code
def yX9_weighs : MethodName := ⟨RX9, "weighs", "([IIIZ)V"⟩
abbrev cX9_canBePlaced : ByteArray := prog_11_method_67_code
def yX9_canBePlaced : MethodName := ⟨RX9, "canBePlaced", "([II)Z"⟩
abbrev cX9_best : ByteArray := prog_11_method_68_code
def yX9_best : MethodName := ⟨RX9, "best", "([I)Z"⟩
abbrev cX9_leastAt : ByteArray := prog_11_method_69_code
def yX9_leastAt : MethodName := ⟨RX9, "leastAt", "([III)I"⟩
abbrev cX9_lossOfPlan : ByteArray := prog_11_method_70_code
def yX9_lossOfPlan : MethodName := ⟨RX9, "lossOfPlan", "()I"⟩
abbrev cX9_roomsOfPlan : ByteArray := prog_11_method_71_code
def yX9_roomsOfPlan : MethodName := ⟨RX9, "roomsOfPlan", "()I"⟩
abbrev cX9_plan : ByteArray := prog_11_method_72_code
def yX9_plan : MethodName := ⟨RX9, "plan", "(I)I"⟩
abbrev cX9_planOf : ByteArray := prog_11_method_73_code
def yX9_planOf : MethodName := ⟨RX9, "planOf", "(I)I"⟩
abbrev cX9_puts : ByteArray := prog_11_method_74_code
def yX9_puts : MethodName := ⟨RX9, "puts", "(I)Z"⟩
abbrev cX9_roomFor : ByteArray := prog_11_method_75_code
def yX9_roomFor : MethodName := ⟨RX9, "roomFor", "(II)I"⟩
abbrev cX9_rule : ByteArray := prog_11_method_76_code
def yX9_rule : MethodName := ⟨RX9, "rule", "(II)I"⟩
abbrev cX9_ruleOf : ByteArray := prog_11_method_77_code
def yX9_ruleOf : MethodName := ⟨RX9, "ruleOf", "(II)I"⟩
abbrev cX9_longer : ByteArray := prog_11_method_78_code
def yX9_longer : MethodName := ⟨RX9, "longer", "(I)I"⟩
abbrev cX9_more : ByteArray := prog_11_method_79_code
def yX9_more : MethodName := ⟨RX9, "more", "(I)I"⟩
abbrev cX9_needed : ByteArray := prog_11_method_80_code
def yX9_needed : MethodName := ⟨RX9, "needed", "()I"⟩
abbrev cX9_gcd : ByteArray := prog_11_method_81_code
def yX9_gcd : MethodName := ⟨RX9, "gcd", "(JJ)J"⟩
abbrev cX9_fogged : ByteArray := prog_11_method_82_code
def yX9_fogged : MethodName := ⟨RX9, "fogged", "(II)J"⟩
abbrev cX9_nth : ByteArray := prog_11_method_83_code
def yX9_nth : MethodName := ⟨RX9, "nth", "(IJ)I"⟩
abbrev cX9_drawn : ByteArray := prog_11_method_84_code
def yX9_drawn : MethodName := ⟨RX9, "drawn", "(III)I"⟩
abbrev cX9_image : ByteArray := prog_11_method_85_code
def yX9_image : MethodName := ⟨RX9, "image", "(I)I"⟩
abbrev cX9_restore : ByteArray := prog_11_method_86_code
def yX9_restore : MethodName := ⟨RX9, "restore", "(I)I"⟩
abbrev cX9_count : ByteArray := prog_11_method_87_code
def yX9_count : MethodName := ⟨RX9, "count", "(I)I"⟩
def RJ6 : String := "java/lang/Integer"
def TJ6 : u_T := fun k => match k with
  | _ => ("", "", "", false)
def tyJ6 : Nat → FieldType := fun k => match k with
  | _ => .int
abbrev wsJ60 : List Cond := u_ws RJ6 TJ6 0
theorem nmJ6 : ∀ a, a < 0 → ∀ b, b < 0 → a ≠ b → (TJ6 a).2.1 ≠ (TJ6 b).2.1 := by decide +kernel
theorem tyJ6_ok : ∀ k, k < 0 → parseFieldDescriptor (TJ6 k).2.2.1 = some (tyJ6 k) := by decide +kernel
abbrev cJ6_bitCount_0f7a4 : ByteArray := prog_12_method_49_code
def yJ6_bitCount_0f7a4 : MethodName := ⟨RJ6, "bitCount", "(I)I"⟩
def RJ9 : String := "java/lang/Math"
def TJ9 : u_T := fun k => match k with
  | _ => ("", "", "", false)
def tyJ9 : Nat → FieldType := fun k => match k with
  | _ => .int
abbrev wsJ90 : List Cond := u_ws RJ9 TJ9 0
theorem nmJ9 : ∀ a, a < 0 → ∀ b, b < 0 → a ≠ b → (TJ9 a).2.1 ≠ (TJ9 b).2.1 := by decide +kernel
theorem tyJ9_ok : ∀ k, k < 0 → parseFieldDescriptor (TJ9 k).2.2.1 = some (tyJ9 k) := by decide +kernel
abbrev cJ9_max_7cf53 : ByteArray := prog_13_method_65_code
def yJ9_max_7cf53 : MethodName := ⟨RJ9, "max", "(II)I"⟩
abbrev cJ9_min_7cf53 : ByteArray := prog_13_method_69_code
def yJ9_min_7cf53 : MethodName := ⟨RJ9, "min", "(II)I"⟩
def RJ10 : String := "java/lang/System"
def TJ10 : u_T := fun k => match k with
  | _ => ("", "", "", false)
def tyJ10 : Nat → FieldType := fun k => match k with
  | _ => .int
abbrev wsJ100 : List Cond := u_ws RJ10 TJ10 0
theorem nmJ10 : ∀ a, a < 0 → ∀ b, b < 0 → a ≠ b → (TJ10 a).2.1 ≠ (TJ10 b).2.1 := by decide +kernel
theorem tyJ10_ok : ∀ k, k < 0 → parseFieldDescriptor (TJ10 k).2.2.1 = some (tyJ10 k) := by decide +kernel
def RJ7 : String := "java/util/Arrays"
def TJ7 : u_T := fun k => match k with
  | _ => ("", "", "", false)
def tyJ7 : Nat → FieldType := fun k => match k with
  | _ => .int
abbrev wsJ70 : List Cond := u_ws RJ7 TJ7 0
theorem nmJ7 : ∀ a, a < 0 → ∀ b, b < 0 → a ≠ b → (TJ7 a).2.1 ≠ (TJ7 b).2.1 := by decide +kernel
theorem tyJ7_ok : ∀ k, k < 0 → parseFieldDescriptor (TJ7 k).2.2.1 = some (tyJ7 k) := by decide +kernel
abbrev cJ7_fill_53178 : ByteArray := prog_15_method_103_code
def yJ7_fill_53178 : MethodName := ⟨RJ7, "fill", "([II)V"⟩
def RL : String := "FilmCansLaw"
abbrev cL_law : ByteArray := code
def yL_law : MethodName := ⟨RL, "law", "([I)Z"⟩
abbrev vwCl : List vw_C := [(RX0, TX0, 1), (RX1, TX1, 20), (RX2, TX2, 3), (RX4, TX4, 4), (RX5, TX5, 2), (RX6, TX6, 11), (RX7, TX7, 4), (RX8, TX8, 9), (RX9, TX9, 21)]
end
section
theorem dX0_init_0 : decode cX0_init 0 = .ok (.aload_n 0, 1) := by decide +kernel
theorem dX0_init_1 : decode cX0_init 1 = .ok (.invokespecial 3, 3) := by decide +kernel
theorem dX0_init_4 : decode cX0_init 4 = .ok (.aload_n 0, 1) := by decide +kernel
theorem dX0_init_5 : decode cX0_init 5 = .ok (.bipush 6, 2) := by decide +kernel
theorem dX0_init_7 : decode cX0_init 7 = .ok (.sipush 256, 3) := by decide +kernel
theorem dX0_init_10 : decode cX0_init 10 = .ok (.multianewarray 9 2, 4) := by decide +kernel
theorem dX0_init_14 : decode cX0_init 14 = .ok (.putfield 11, 3) := by decide +kernel
theorem dX0_init_17 : decode cX0_init 17 = .ok (.return_, 1) := by decide +kernel
theorem dX0_place_0 : decode cX0_place 0 = .ok (.iconst 5, 1) := by decide +kernel
theorem dX0_place_1 : decode cX0_place 1 = .ok (.istore_n 2, 1) := by decide +kernel
theorem dX0_place_2 : decode cX0_place 2 = .ok (.aload_n 0, 1) := by decide +kernel
theorem dX0_place_3 : decode cX0_place 3 = .ok (.getfield 11, 3) := by decide +kernel
theorem dX0_place_6 : decode cX0_place 6 = .ok (.iload_n 2, 1) := by decide +kernel
theorem dX0_place_7 : decode cX0_place 7 = .ok (.aaload, 1) := by decide +kernel
theorem dX0_place_8 : decode cX0_place 8 = .ok (.ldc 16, 2) := by decide +kernel
theorem dX0_place_10 : decode cX0_place 10 = .ok (.invokestatic 17, 3) := by decide +kernel
theorem dX0_place_13 : decode cX0_place 13 = .ok (.aload_n 0, 1) := by decide +kernel
theorem dX0_place_14 : decode cX0_place 14 = .ok (.getfield 11, 3) := by decide +kernel
theorem dX0_place_17 : decode cX0_place 17 = .ok (.iload_n 2, 1) := by decide +kernel
theorem dX0_place_18 : decode cX0_place 18 = .ok (.aaload, 1) := by decide +kernel
theorem dX0_place_19 : decode cX0_place 19 = .ok (.iconst 0, 1) := by decide +kernel
theorem dX0_place_20 : decode cX0_place 20 = .ok (.iconst 0, 1) := by decide +kernel
theorem dX0_place_21 : decode cX0_place 21 = .ok (.iastore, 1) := by decide +kernel
theorem dX0_place_22 : decode cX0_place 22 = .ok (.iconst 0, 1) := by decide +kernel
theorem dX0_place_23 : decode cX0_place 23 = .ok (.istore_n 3, 1) := by decide +kernel
theorem dX0_place_24 : decode cX0_place 24 = .ok (.iload_n 2, 1) := by decide +kernel
theorem dX0_place_25 : decode cX0_place 25 = .ok (.istore 4, 2) := by decide +kernel
theorem dX0_place_27 : decode cX0_place 27 = .ok (.iload 4, 2) := by decide +kernel
theorem dX0_place_29 : decode cX0_place 29 = .ok (.ifCond .le 51, 3) := by decide +kernel
theorem dX0_place_32 : decode cX0_place 32 = .ok (.aload_n 0, 1) := by decide +kernel
theorem dX0_place_33 : decode cX0_place 33 = .ok (.getfield 11, 3) := by decide +kernel
theorem dX0_place_36 : decode cX0_place 36 = .ok (.iload 4, 2) := by decide +kernel
theorem dX0_place_38 : decode cX0_place 38 = .ok (.aaload, 1) := by decide +kernel
theorem dX0_place_39 : decode cX0_place 39 = .ok (.iconst 0, 1) := by decide +kernel
theorem dX0_place_40 : decode cX0_place 40 = .ok (.aload_n 0, 1) := by decide +kernel
theorem dX0_place_41 : decode cX0_place 41 = .ok (.getfield 11, 3) := by decide +kernel
theorem dX0_place_44 : decode cX0_place 44 = .ok (.iload 4, 2) := by decide +kernel
theorem dX0_place_46 : decode cX0_place 46 = .ok (.iconst 1, 1) := by decide +kernel
theorem dX0_place_47 : decode cX0_place 47 = .ok (.isub, 1) := by decide +kernel
theorem dX0_place_48 : decode cX0_place 48 = .ok (.aaload, 1) := by decide +kernel
theorem dX0_place_49 : decode cX0_place 49 = .ok (.iconst 0, 1) := by decide +kernel
theorem dX0_place_50 : decode cX0_place 50 = .ok (.sipush 256, 3) := by decide +kernel
theorem dX0_place_53 : decode cX0_place 53 = .ok (.invokestatic 23, 3) := by decide +kernel
theorem dX0_place_56 : decode cX0_place 56 = .ok (.aload_n 0, 1) := by decide +kernel
theorem dX0_place_57 : decode cX0_place 57 = .ok (.aload_n 1, 1) := by decide +kernel
theorem dX0_place_58 : decode cX0_place 58 = .ok (.iload 4, 2) := by decide +kernel
theorem dX0_place_60 : decode cX0_place 60 = .ok (.iload_n 3, 1) := by decide +kernel
theorem dX0_place_61 : decode cX0_place 61 = .ok (.invokevirtual 29, 3) := by decide +kernel
theorem dX0_place_64 : decode cX0_place 64 = .ok (.iload_n 3, 1) := by decide +kernel
theorem dX0_place_65 : decode cX0_place 65 = .ok (.aload_n 1, 1) := by decide +kernel
theorem dX0_place_66 : decode cX0_place 66 = .ok (.getfield 33, 3) := by decide +kernel
theorem dX0_place_69 : decode cX0_place 69 = .ok (.iload 4, 2) := by decide +kernel
theorem dX0_place_71 : decode cX0_place 71 = .ok (.iaload, 1) := by decide +kernel
theorem dX0_place_72 : decode cX0_place 72 = .ok (.ior, 1) := by decide +kernel
theorem dX0_place_73 : decode cX0_place 73 = .ok (.istore_n 3, 1) := by decide +kernel
theorem dX0_place_74 : decode cX0_place 74 = .ok (.iinc 4 (-1), 3) := by decide +kernel
theorem dX0_place_77 : decode cX0_place 77 = .ok (.goto (-50), 3) := by decide +kernel
theorem dX0_place_80 : decode cX0_place 80 = .ok (.aload_n 0, 1) := by decide +kernel
theorem dX0_place_81 : decode cX0_place 81 = .ok (.aload_n 1, 1) := by decide +kernel
theorem dX0_place_82 : decode cX0_place 82 = .ok (.invokevirtual 39, 3) := by decide +kernel
theorem dX0_place_85 : decode cX0_place 85 = .ok (.ireturn, 1) := by decide +kernel
theorem dX0_admit_0 : decode cX0_admit 0 = .ok (.aload_n 1, 1) := by decide +kernel
theorem dX0_admit_1 : decode cX0_admit 1 = .ok (.getfield 33, 3) := by decide +kernel
theorem dX0_admit_4 : decode cX0_admit 4 = .ok (.iload_n 2, 1) := by decide +kernel
theorem dX0_admit_5 : decode cX0_admit 5 = .ok (.iaload, 1) := by decide +kernel
theorem dX0_admit_6 : decode cX0_admit 6 = .ok (.istore 4, 2) := by decide +kernel
theorem dX0_admit_8 : decode cX0_admit 8 = .ok (.iload 4, 2) := by decide +kernel
theorem dX0_admit_10 : decode cX0_admit 10 = .ok (.istore 5, 2) := by decide +kernel
theorem dX0_admit_12 : decode cX0_admit 12 = .ok (.iload 5, 2) := by decide +kernel
theorem dX0_admit_14 : decode cX0_admit 14 = .ok (.ifCond .le 45, 3) := by decide +kernel
theorem dX0_admit_17 : decode cX0_admit 17 = .ok (.aload_n 1, 1) := by decide +kernel
theorem dX0_admit_18 : decode cX0_admit 18 = .ok (.iload_n 2, 1) := by decide +kernel
theorem dX0_admit_19 : decode cX0_admit 19 = .ok (.iload 5, 2) := by decide +kernel
theorem dX0_admit_21 : decode cX0_admit 21 = .ok (.invokevirtual 43, 3) := by decide +kernel
theorem dX0_admit_24 : decode cX0_admit 24 = .ok (.ifCond .eq 23, 3) := by decide +kernel
theorem dX0_admit_27 : decode cX0_admit 27 = .ok (.aload_n 0, 1) := by decide +kernel
theorem dX0_admit_28 : decode cX0_admit 28 = .ok (.iload_n 2, 1) := by decide +kernel
theorem dX0_admit_29 : decode cX0_admit 29 = .ok (.iload 5, 2) := by decide +kernel
theorem dX0_admit_31 : decode cX0_admit 31 = .ok (.aload_n 1, 1) := by decide +kernel
theorem dX0_admit_32 : decode cX0_admit 32 = .ok (.iload_n 2, 1) := by decide +kernel
theorem dX0_admit_33 : decode cX0_admit 33 = .ok (.iload 5, 2) := by decide +kernel
theorem dX0_admit_35 : decode cX0_admit 35 = .ok (.invokestatic 47, 3) := by decide +kernel
theorem dX0_admit_38 : decode cX0_admit 38 = .ok (.iload_n 3, 1) := by decide +kernel
theorem dX0_admit_39 : decode cX0_admit 39 = .ok (.iload 5, 2) := by decide +kernel
theorem dX0_admit_41 : decode cX0_admit 41 = .ok (.iconst (-1), 1) := by decide +kernel
theorem dX0_admit_42 : decode cX0_admit 42 = .ok (.ixor, 1) := by decide +kernel
theorem dX0_admit_43 : decode cX0_admit 43 = .ok (.iand, 1) := by decide +kernel
theorem dX0_admit_44 : decode cX0_admit 44 = .ok (.invokevirtual 51, 3) := by decide +kernel
theorem dX0_admit_47 : decode cX0_admit 47 = .ok (.iload 5, 2) := by decide +kernel
theorem dX0_admit_49 : decode cX0_admit 49 = .ok (.iconst 1, 1) := by decide +kernel
theorem dX0_admit_50 : decode cX0_admit 50 = .ok (.isub, 1) := by decide +kernel
theorem dX0_admit_51 : decode cX0_admit 51 = .ok (.iload 4, 2) := by decide +kernel
theorem dX0_admit_53 : decode cX0_admit 53 = .ok (.iand, 1) := by decide +kernel
theorem dX0_admit_54 : decode cX0_admit 54 = .ok (.istore 5, 2) := by decide +kernel
theorem dX0_admit_56 : decode cX0_admit 56 = .ok (.goto (-44), 3) := by decide +kernel
theorem dX0_admit_59 : decode cX0_admit 59 = .ok (.return_, 1) := by decide +kernel
theorem dX0_spread_0 : decode cX0_spread 0 = .ok (.aload_n 0, 1) := by decide +kernel
theorem dX0_spread_1 : decode cX0_spread 1 = .ok (.getfield 11, 3) := by decide +kernel
theorem dX0_spread_4 : decode cX0_spread 4 = .ok (.iload_n 1, 1) := by decide +kernel
theorem dX0_spread_5 : decode cX0_spread 5 = .ok (.aaload, 1) := by decide +kernel
theorem dX0_spread_6 : decode cX0_spread 6 = .ok (.astore 5, 2) := by decide +kernel
theorem dX0_spread_8 : decode cX0_spread 8 = .ok (.aload_n 0, 1) := by decide +kernel
theorem dX0_spread_9 : decode cX0_spread 9 = .ok (.getfield 11, 3) := by decide +kernel
theorem dX0_spread_12 : decode cX0_spread 12 = .ok (.iload_n 1, 1) := by decide +kernel
theorem dX0_spread_13 : decode cX0_spread 13 = .ok (.iconst 1, 1) := by decide +kernel
theorem dX0_spread_14 : decode cX0_spread 14 = .ok (.isub, 1) := by decide +kernel
theorem dX0_spread_15 : decode cX0_spread 15 = .ok (.aaload, 1) := by decide +kernel
theorem dX0_spread_16 : decode cX0_spread 16 = .ok (.astore 6, 2) := by decide +kernel
theorem dX0_spread_18 : decode cX0_spread 18 = .ok (.aload 6, 2) := by decide +kernel
theorem dX0_spread_20 : decode cX0_spread 20 = .ok (.iload_n 2, 1) := by decide +kernel
theorem dX0_spread_21 : decode cX0_spread 21 = .ok (.aload 6, 2) := by decide +kernel
theorem dX0_spread_23 : decode cX0_spread 23 = .ok (.iload_n 2, 1) := by decide +kernel
theorem dX0_spread_24 : decode cX0_spread 24 = .ok (.iaload, 1) := by decide +kernel
theorem dX0_spread_25 : decode cX0_spread 25 = .ok (.iload_n 3, 1) := by decide +kernel
theorem dX0_spread_26 : decode cX0_spread 26 = .ok (.invokestatic 55, 3) := by decide +kernel
theorem dX0_spread_29 : decode cX0_spread 29 = .ok (.iastore, 1) := by decide +kernel
theorem dX0_spread_30 : decode cX0_spread 30 = .ok (.iload 4, 2) := by decide +kernel
theorem dX0_spread_32 : decode cX0_spread 32 = .ok (.istore 7, 2) := by decide +kernel
theorem dX0_spread_34 : decode cX0_spread 34 = .ok (.iload 7, 2) := by decide +kernel
theorem dX0_spread_36 : decode cX0_spread 36 = .ok (.ifCond .le 45, 3) := by decide +kernel
theorem dX0_spread_39 : decode cX0_spread 39 = .ok (.iload_n 3, 1) := by decide +kernel
theorem dX0_spread_40 : decode cX0_spread 40 = .ok (.aload 5, 2) := by decide +kernel
theorem dX0_spread_42 : decode cX0_spread 42 = .ok (.iload 7, 2) := by decide +kernel
theorem dX0_spread_44 : decode cX0_spread 44 = .ok (.iaload, 1) := by decide +kernel
theorem dX0_spread_45 : decode cX0_spread 45 = .ok (.iadd, 1) := by decide +kernel
theorem dX0_spread_46 : decode cX0_spread 46 = .ok (.istore 8, 2) := by decide +kernel
theorem dX0_spread_48 : decode cX0_spread 48 = .ok (.iload 8, 2) := by decide +kernel
theorem dX0_spread_50 : decode cX0_spread 50 = .ok (.aload 6, 2) := by decide +kernel
theorem dX0_spread_52 : decode cX0_spread 52 = .ok (.iload_n 2, 1) := by decide +kernel
theorem dX0_spread_53 : decode cX0_spread 53 = .ok (.iload 7, 2) := by decide +kernel
theorem dX0_spread_55 : decode cX0_spread 55 = .ok (.ior, 1) := by decide +kernel
theorem dX0_spread_56 : decode cX0_spread 56 = .ok (.iaload, 1) := by decide +kernel
theorem dX0_spread_57 : decode cX0_spread 57 = .ok (.if_icmp .ge 12, 3) := by decide +kernel
theorem dX0_spread_60 : decode cX0_spread 60 = .ok (.aload 6, 2) := by decide +kernel
theorem dX0_spread_62 : decode cX0_spread 62 = .ok (.iload_n 2, 1) := by decide +kernel
theorem dX0_spread_63 : decode cX0_spread 63 = .ok (.iload 7, 2) := by decide +kernel
theorem dX0_spread_65 : decode cX0_spread 65 = .ok (.ior, 1) := by decide +kernel
theorem dX0_spread_66 : decode cX0_spread 66 = .ok (.iload 8, 2) := by decide +kernel
theorem dX0_spread_68 : decode cX0_spread 68 = .ok (.iastore, 1) := by decide +kernel
theorem dX0_spread_69 : decode cX0_spread 69 = .ok (.iload 7, 2) := by decide +kernel
theorem dX0_spread_71 : decode cX0_spread 71 = .ok (.iconst 1, 1) := by decide +kernel
theorem dX0_spread_72 : decode cX0_spread 72 = .ok (.isub, 1) := by decide +kernel
theorem dX0_spread_73 : decode cX0_spread 73 = .ok (.iload 4, 2) := by decide +kernel
theorem dX0_spread_75 : decode cX0_spread 75 = .ok (.iand, 1) := by decide +kernel
theorem dX0_spread_76 : decode cX0_spread 76 = .ok (.istore 7, 2) := by decide +kernel
theorem dX0_spread_78 : decode cX0_spread 78 = .ok (.goto (-44), 3) := by decide +kernel
theorem dX0_spread_81 : decode cX0_spread 81 = .ok (.return_, 1) := by decide +kernel
theorem dX0_choose_0 : decode cX0_choose 0 = .ok (.aload_n 1, 1) := by decide +kernel
theorem dX0_choose_1 : decode cX0_choose 1 = .ok (.getfield 61, 3) := by decide +kernel
theorem dX0_choose_4 : decode cX0_choose 4 = .ok (.istore_n 2, 1) := by decide +kernel
theorem dX0_choose_5 : decode cX0_choose 5 = .ok (.iconst 0, 1) := by decide +kernel
theorem dX0_choose_6 : decode cX0_choose 6 = .ok (.istore_n 3, 1) := by decide +kernel
theorem dX0_choose_7 : decode cX0_choose 7 = .ok (.iload_n 3, 1) := by decide +kernel
theorem dX0_choose_8 : decode cX0_choose 8 = .ok (.bipush 6, 2) := by decide +kernel
theorem dX0_choose_10 : decode cX0_choose 10 = .ok (.if_icmp .ge 42, 3) := by decide +kernel
theorem dX0_choose_13 : decode cX0_choose 13 = .ok (.aload_n 0, 1) := by decide +kernel
theorem dX0_choose_14 : decode cX0_choose 14 = .ok (.aload_n 1, 1) := by decide +kernel
theorem dX0_choose_15 : decode cX0_choose 15 = .ok (.iload_n 3, 1) := by decide +kernel
theorem dX0_choose_16 : decode cX0_choose 16 = .ok (.iload_n 2, 1) := by decide +kernel
theorem dX0_choose_17 : decode cX0_choose 17 = .ok (.invokevirtual 65, 3) := by decide +kernel
theorem dX0_choose_20 : decode cX0_choose 20 = .ok (.istore 4, 2) := by decide +kernel
theorem dX0_choose_22 : decode cX0_choose 22 = .ok (.iload 4, 2) := by decide +kernel
theorem dX0_choose_24 : decode cX0_choose 24 = .ok (.ldc 68, 2) := by decide +kernel
theorem dX0_choose_26 : decode cX0_choose 26 = .ok (.if_icmp .ne 5, 3) := by decide +kernel
theorem dX0_choose_29 : decode cX0_choose 29 = .ok (.iconst 0, 1) := by decide +kernel
theorem dX0_choose_30 : decode cX0_choose 30 = .ok (.ireturn, 1) := by decide +kernel
theorem dX0_choose_31 : decode cX0_choose 31 = .ok (.aload_n 1, 1) := by decide +kernel
theorem dX0_choose_32 : decode cX0_choose 32 = .ok (.getfield 69, 3) := by decide +kernel
theorem dX0_choose_35 : decode cX0_choose 35 = .ok (.iload_n 3, 1) := by decide +kernel
theorem dX0_choose_36 : decode cX0_choose 36 = .ok (.iload 4, 2) := by decide +kernel
theorem dX0_choose_38 : decode cX0_choose 38 = .ok (.iastore, 1) := by decide +kernel
theorem dX0_choose_39 : decode cX0_choose 39 = .ok (.iload_n 2, 1) := by decide +kernel
theorem dX0_choose_40 : decode cX0_choose 40 = .ok (.iload 4, 2) := by decide +kernel
theorem dX0_choose_42 : decode cX0_choose 42 = .ok (.iconst (-1), 1) := by decide +kernel
theorem dX0_choose_43 : decode cX0_choose 43 = .ok (.ixor, 1) := by decide +kernel
theorem dX0_choose_44 : decode cX0_choose 44 = .ok (.iand, 1) := by decide +kernel
theorem dX0_choose_45 : decode cX0_choose 45 = .ok (.istore_n 2, 1) := by decide +kernel
theorem dX0_choose_46 : decode cX0_choose 46 = .ok (.iinc 3 1, 3) := by decide +kernel
theorem dX0_choose_49 : decode cX0_choose 49 = .ok (.goto (-42), 3) := by decide +kernel
theorem dX0_choose_52 : decode cX0_choose 52 = .ok (.iconst 1, 1) := by decide +kernel
theorem dX0_choose_53 : decode cX0_choose 53 = .ok (.ireturn, 1) := by decide +kernel
theorem dX0_cheapestSet_0 : decode cX0_cheapestSet 0 = .ok (.aload_n 0, 1) := by decide +kernel
theorem dX0_cheapestSet_1 : decode cX0_cheapestSet 1 = .ok (.getfield 11, 3) := by decide +kernel
theorem dX0_cheapestSet_4 : decode cX0_cheapestSet 4 = .ok (.iload_n 2, 1) := by decide +kernel
theorem dX0_cheapestSet_5 : decode cX0_cheapestSet 5 = .ok (.aaload, 1) := by decide +kernel
theorem dX0_cheapestSet_6 : decode cX0_cheapestSet 6 = .ok (.iload_n 3, 1) := by decide +kernel
theorem dX0_cheapestSet_7 : decode cX0_cheapestSet 7 = .ok (.iaload, 1) := by decide +kernel
theorem dX0_cheapestSet_8 : decode cX0_cheapestSet 8 = .ok (.istore 4, 2) := by decide +kernel
theorem dX0_cheapestSet_10 : decode cX0_cheapestSet 10 = .ok (.iload 4, 2) := by decide +kernel
theorem dX0_cheapestSet_12 : decode cX0_cheapestSet 12 = .ok (.ldc 16, 2) := by decide +kernel
theorem dX0_cheapestSet_14 : decode cX0_cheapestSet 14 = .ok (.if_icmp .ge 7, 3) := by decide +kernel
theorem dX0_cheapestSet_17 : decode cX0_cheapestSet 17 = .ok (.iconst 0, 1) := by decide +kernel
theorem dX0_cheapestSet_18 : decode cX0_cheapestSet 18 = .ok (.goto 5, 3) := by decide +kernel
theorem dX0_cheapestSet_21 : decode cX0_cheapestSet 21 = .ok (.ldc 68, 2) := by decide +kernel
theorem dX0_cheapestSet_23 : decode cX0_cheapestSet 23 = .ok (.istore 5, 2) := by decide +kernel
theorem dX0_cheapestSet_25 : decode cX0_cheapestSet 25 = .ok (.iconst 1, 1) := by decide +kernel
theorem dX0_cheapestSet_26 : decode cX0_cheapestSet 26 = .ok (.istore 6, 2) := by decide +kernel
theorem dX0_cheapestSet_28 : decode cX0_cheapestSet 28 = .ok (.iload 6, 2) := by decide +kernel
theorem dX0_cheapestSet_30 : decode cX0_cheapestSet 30 = .ok (.iload_n 3, 1) := by decide +kernel
theorem dX0_cheapestSet_31 : decode cX0_cheapestSet 31 = .ok (.if_icmp .gt 64, 3) := by decide +kernel
theorem dX0_cheapestSet_34 : decode cX0_cheapestSet 34 = .ok (.iload 6, 2) := by decide +kernel
theorem dX0_cheapestSet_36 : decode cX0_cheapestSet 36 = .ok (.iload_n 3, 1) := by decide +kernel
theorem dX0_cheapestSet_37 : decode cX0_cheapestSet 37 = .ok (.iconst (-1), 1) := by decide +kernel
theorem dX0_cheapestSet_38 : decode cX0_cheapestSet 38 = .ok (.ixor, 1) := by decide +kernel
theorem dX0_cheapestSet_39 : decode cX0_cheapestSet 39 = .ok (.iand, 1) := by decide +kernel
theorem dX0_cheapestSet_40 : decode cX0_cheapestSet 40 = .ok (.ifCond .ne 49, 3) := by decide +kernel
theorem dX0_cheapestSet_43 : decode cX0_cheapestSet 43 = .ok (.aload_n 1, 1) := by decide +kernel
theorem dX0_cheapestSet_44 : decode cX0_cheapestSet 44 = .ok (.iload_n 2, 1) := by decide +kernel
theorem dX0_cheapestSet_45 : decode cX0_cheapestSet 45 = .ok (.iload 6, 2) := by decide +kernel
theorem dX0_cheapestSet_47 : decode cX0_cheapestSet 47 = .ok (.invokevirtual 43, 3) := by decide +kernel
theorem dX0_cheapestSet_50 : decode cX0_cheapestSet 50 = .ok (.ifCond .eq 39, 3) := by decide +kernel
theorem dX0_cheapestSet_53 : decode cX0_cheapestSet 53 = .ok (.aload_n 1, 1) := by decide +kernel
theorem dX0_cheapestSet_54 : decode cX0_cheapestSet 54 = .ok (.iload_n 2, 1) := by decide +kernel
theorem dX0_cheapestSet_55 : decode cX0_cheapestSet 55 = .ok (.iload 6, 2) := by decide +kernel
theorem dX0_cheapestSet_57 : decode cX0_cheapestSet 57 = .ok (.invokestatic 47, 3) := by decide +kernel
theorem dX0_cheapestSet_60 : decode cX0_cheapestSet 60 = .ok (.aload_n 0, 1) := by decide +kernel
theorem dX0_cheapestSet_61 : decode cX0_cheapestSet 61 = .ok (.getfield 11, 3) := by decide +kernel
theorem dX0_cheapestSet_64 : decode cX0_cheapestSet 64 = .ok (.iload_n 2, 1) := by decide +kernel
theorem dX0_cheapestSet_65 : decode cX0_cheapestSet 65 = .ok (.aaload, 1) := by decide +kernel
theorem dX0_cheapestSet_66 : decode cX0_cheapestSet 66 = .ok (.iload_n 3, 1) := by decide +kernel
theorem dX0_cheapestSet_67 : decode cX0_cheapestSet 67 = .ok (.iload 6, 2) := by decide +kernel
theorem dX0_cheapestSet_69 : decode cX0_cheapestSet 69 = .ok (.ixor, 1) := by decide +kernel
theorem dX0_cheapestSet_70 : decode cX0_cheapestSet 70 = .ok (.iaload, 1) := by decide +kernel
theorem dX0_cheapestSet_71 : decode cX0_cheapestSet 71 = .ok (.iadd, 1) := by decide +kernel
theorem dX0_cheapestSet_72 : decode cX0_cheapestSet 72 = .ok (.istore 7, 2) := by decide +kernel
theorem dX0_cheapestSet_74 : decode cX0_cheapestSet 74 = .ok (.iload 7, 2) := by decide +kernel
theorem dX0_cheapestSet_76 : decode cX0_cheapestSet 76 = .ok (.iload 4, 2) := by decide +kernel
theorem dX0_cheapestSet_78 : decode cX0_cheapestSet 78 = .ok (.if_icmp .ge 11, 3) := by decide +kernel
theorem dX0_cheapestSet_81 : decode cX0_cheapestSet 81 = .ok (.iload 7, 2) := by decide +kernel
theorem dX0_cheapestSet_83 : decode cX0_cheapestSet 83 = .ok (.istore 4, 2) := by decide +kernel
theorem dX0_cheapestSet_85 : decode cX0_cheapestSet 85 = .ok (.iload 6, 2) := by decide +kernel
theorem dX0_cheapestSet_87 : decode cX0_cheapestSet 87 = .ok (.istore 5, 2) := by decide +kernel
theorem dX0_cheapestSet_89 : decode cX0_cheapestSet 89 = .ok (.iinc 6 1, 3) := by decide +kernel
theorem dX0_cheapestSet_92 : decode cX0_cheapestSet 92 = .ok (.goto (-64), 3) := by decide +kernel
theorem dX0_cheapestSet_95 : decode cX0_cheapestSet 95 = .ok (.iload 5, 2) := by decide +kernel
theorem dX0_cheapestSet_97 : decode cX0_cheapestSet 97 = .ok (.ireturn, 1) := by decide +kernel
theorem dX0_priceOf_0 : decode cX0_priceOf 0 = .ok (.aload_n 0, 1) := by decide +kernel
theorem dX0_priceOf_1 : decode cX0_priceOf 1 = .ok (.iload_n 1, 1) := by decide +kernel
theorem dX0_priceOf_2 : decode cX0_priceOf 2 = .ok (.iload_n 2, 1) := by decide +kernel
theorem dX0_priceOf_3 : decode cX0_priceOf 3 = .ok (.invokevirtual 72, 3) := by decide +kernel
theorem dX0_priceOf_6 : decode cX0_priceOf 6 = .ok (.bipush 16, 2) := by decide +kernel
theorem dX0_priceOf_8 : decode cX0_priceOf 8 = .ok (.imul, 1) := by decide +kernel
theorem dX0_priceOf_9 : decode cX0_priceOf 9 = .ok (.iconst 1, 1) := by decide +kernel
theorem dX0_priceOf_10 : decode cX0_priceOf 10 = .ok (.iadd, 1) := by decide +kernel
theorem dX0_priceOf_11 : decode cX0_priceOf 11 = .ok (.ireturn, 1) := by decide +kernel
theorem dX1_init_0 : decode cX1_init 0 = .ok (.aload_n 0, 1) := by decide +kernel
theorem dX1_init_1 : decode cX1_init 1 = .ok (.invokespecial 3, 3) := by decide +kernel
theorem dX1_init_4 : decode cX1_init 4 = .ok (.aload_n 0, 1) := by decide +kernel
theorem dX1_init_5 : decode cX1_init 5 = .ok (.ldc 9, 2) := by decide +kernel
theorem dX1_init_7 : decode cX1_init 7 = .ok (.putfield 10, 3) := by decide +kernel
theorem dX1_init_10 : decode cX1_init 10 = .ok (.aload_n 0, 1) := by decide +kernel
theorem dX1_init_11 : decode cX1_init 11 = .ok (.iconst 4, 1) := by decide +kernel
theorem dX1_init_12 : decode cX1_init 12 = .ok (.newarray .int, 2) := by decide +kernel
theorem dX1_init_14 : decode cX1_init 14 = .ok (.putfield 16, 3) := by decide +kernel
theorem dX1_init_17 : decode cX1_init 17 = .ok (.aload_n 0, 1) := by decide +kernel
theorem dX1_init_18 : decode cX1_init 18 = .ok (.bipush 6, 2) := by decide +kernel
theorem dX1_init_20 : decode cX1_init 20 = .ok (.newarray .int, 2) := by decide +kernel
theorem dX1_init_22 : decode cX1_init 22 = .ok (.putfield 20, 3) := by decide +kernel
theorem dX1_init_25 : decode cX1_init 25 = .ok (.aload_n 0, 1) := by decide +kernel
theorem dX1_init_26 : decode cX1_init 26 = .ok (.bipush 6, 2) := by decide +kernel
theorem dX1_init_28 : decode cX1_init 28 = .ok (.newarray .int, 2) := by decide +kernel
theorem dX1_init_30 : decode cX1_init 30 = .ok (.putfield 23, 3) := by decide +kernel
theorem dX1_init_33 : decode cX1_init 33 = .ok (.aload_n 0, 1) := by decide +kernel
theorem dX1_init_34 : decode cX1_init 34 = .ok (.bipush 6, 2) := by decide +kernel
theorem dX1_init_36 : decode cX1_init 36 = .ok (.newarray .int, 2) := by decide +kernel
theorem dX1_init_38 : decode cX1_init 38 = .ok (.putfield 26, 3) := by decide +kernel
theorem dX1_init_41 : decode cX1_init 41 = .ok (.aload_n 0, 1) := by decide +kernel
theorem dX1_init_42 : decode cX1_init 42 = .ok (.bipush 6, 2) := by decide +kernel
theorem dX1_init_44 : decode cX1_init 44 = .ok (.newarray .int, 2) := by decide +kernel
theorem dX1_init_46 : decode cX1_init 46 = .ok (.putfield 29, 3) := by decide +kernel
theorem dX1_init_49 : decode cX1_init 49 = .ok (.aload_n 0, 1) := by decide +kernel
theorem dX1_init_50 : decode cX1_init 50 = .ok (.bipush 8, 2) := by decide +kernel
theorem dX1_init_52 : decode cX1_init 52 = .ok (.newarray .int, 2) := by decide +kernel
theorem dX1_init_54 : decode cX1_init 54 = .ok (.putfield 32, 3) := by decide +kernel
theorem dX1_init_57 : decode cX1_init 57 = .ok (.aload_n 0, 1) := by decide +kernel
theorem dX1_init_58 : decode cX1_init 58 = .ok (.bipush 8, 2) := by decide +kernel
theorem dX1_init_60 : decode cX1_init 60 = .ok (.newarray .int, 2) := by decide +kernel
theorem dX1_init_62 : decode cX1_init 62 = .ok (.putfield 35, 3) := by decide +kernel
theorem dX1_init_65 : decode cX1_init 65 = .ok (.aload_n 0, 1) := by decide +kernel
theorem dX1_init_66 : decode cX1_init 66 = .ok (.bipush 8, 2) := by decide +kernel
theorem dX1_init_68 : decode cX1_init 68 = .ok (.newarray .int, 2) := by decide +kernel
theorem dX1_init_70 : decode cX1_init 70 = .ok (.putfield 38, 3) := by decide +kernel
theorem dX1_init_73 : decode cX1_init 73 = .ok (.aload_n 0, 1) := by decide +kernel
theorem dX1_init_74 : decode cX1_init 74 = .ok (.bipush 8, 2) := by decide +kernel
theorem dX1_init_76 : decode cX1_init 76 = .ok (.newarray .int, 2) := by decide +kernel
theorem dX1_init_78 : decode cX1_init 78 = .ok (.putfield 41, 3) := by decide +kernel
theorem dX1_init_81 : decode cX1_init 81 = .ok (.aload_n 0, 1) := by decide +kernel
theorem dX1_init_82 : decode cX1_init 82 = .ok (.bipush 8, 2) := by decide +kernel
theorem dX1_init_84 : decode cX1_init 84 = .ok (.newarray .int, 2) := by decide +kernel
theorem dX1_init_86 : decode cX1_init 86 = .ok (.putfield 44, 3) := by decide +kernel
theorem dX1_init_89 : decode cX1_init 89 = .ok (.aload_n 0, 1) := by decide +kernel
theorem dX1_init_90 : decode cX1_init 90 = .ok (.bipush 8, 2) := by decide +kernel
theorem dX1_init_92 : decode cX1_init 92 = .ok (.newarray .int, 2) := by decide +kernel
theorem dX1_init_94 : decode cX1_init 94 = .ok (.putfield 47, 3) := by decide +kernel
theorem dX1_init_97 : decode cX1_init 97 = .ok (.return_, 1) := by decide +kernel
theorem dX1_isEmpty_0 : decode cX1_isEmpty 0 = .ok (.aload_n 0, 1) := by decide +kernel
theorem dX1_isEmpty_1 : decode cX1_isEmpty 1 = .ok (.getfield 50, 3) := by decide +kernel
theorem dX1_isEmpty_4 : decode cX1_isEmpty 4 = .ok (.ifCond .ne 7, 3) := by decide +kernel
theorem dX1_isEmpty_7 : decode cX1_isEmpty 7 = .ok (.iconst 1, 1) := by decide +kernel
theorem dX1_isEmpty_8 : decode cX1_isEmpty 8 = .ok (.goto 4, 3) := by decide +kernel
theorem dX1_isEmpty_11 : decode cX1_isEmpty 11 = .ok (.iconst 0, 1) := by decide +kernel
theorem dX1_isEmpty_12 : decode cX1_isEmpty 12 = .ok (.ireturn, 1) := by decide +kernel
theorem dX1_clear_0 : decode cX1_clear 0 = .ok (.aload_n 0, 1) := by decide +kernel
theorem dX1_clear_1 : decode cX1_clear 1 = .ok (.iconst 0, 1) := by decide +kernel
theorem dX1_clear_2 : decode cX1_clear 2 = .ok (.putfield 50, 3) := by decide +kernel
theorem dX1_clear_5 : decode cX1_clear 5 = .ok (.aload_n 0, 1) := by decide +kernel
theorem dX1_clear_6 : decode cX1_clear 6 = .ok (.iconst 0, 1) := by decide +kernel
theorem dX1_clear_7 : decode cX1_clear 7 = .ok (.putfield 53, 3) := by decide +kernel
theorem dX1_clear_10 : decode cX1_clear 10 = .ok (.aload_n 0, 1) := by decide +kernel
theorem dX1_clear_11 : decode cX1_clear 11 = .ok (.iconst 0, 1) := by decide +kernel
theorem dX1_clear_12 : decode cX1_clear 12 = .ok (.putfield 56, 3) := by decide +kernel
theorem dX1_clear_15 : decode cX1_clear 15 = .ok (.aload_n 0, 1) := by decide +kernel
theorem dX1_clear_16 : decode cX1_clear 16 = .ok (.ldc 9, 2) := by decide +kernel
theorem dX1_clear_18 : decode cX1_clear 18 = .ok (.putfield 10, 3) := by decide +kernel
theorem dX1_clear_21 : decode cX1_clear 21 = .ok (.aload_n 0, 1) := by decide +kernel
theorem dX1_clear_22 : decode cX1_clear 22 = .ok (.iconst 0, 1) := by decide +kernel
theorem dX1_clear_23 : decode cX1_clear 23 = .ok (.putfield 59, 3) := by decide +kernel
theorem dX1_clear_26 : decode cX1_clear 26 = .ok (.aload_n 0, 1) := by decide +kernel
theorem dX1_clear_27 : decode cX1_clear 27 = .ok (.iconst 0, 1) := by decide +kernel
theorem dX1_clear_28 : decode cX1_clear 28 = .ok (.putfield 62, 3) := by decide +kernel
theorem dX1_clear_31 : decode cX1_clear 31 = .ok (.aload_n 0, 1) := by decide +kernel
theorem dX1_clear_32 : decode cX1_clear 32 = .ok (.iconst 0, 1) := by decide +kernel
theorem dX1_clear_33 : decode cX1_clear 33 = .ok (.putfield 65, 3) := by decide +kernel
theorem dX1_clear_36 : decode cX1_clear 36 = .ok (.aload_n 0, 1) := by decide +kernel
theorem dX1_clear_37 : decode cX1_clear 37 = .ok (.iconst 0, 1) := by decide +kernel
theorem dX1_clear_38 : decode cX1_clear 38 = .ok (.putfield 68, 3) := by decide +kernel
theorem dX1_clear_41 : decode cX1_clear 41 = .ok (.aload_n 0, 1) := by decide +kernel
theorem dX1_clear_42 : decode cX1_clear 42 = .ok (.iconst 0, 1) := by decide +kernel
theorem dX1_clear_43 : decode cX1_clear 43 = .ok (.putfield 71, 3) := by decide +kernel
theorem dX1_clear_46 : decode cX1_clear 46 = .ok (.return_, 1) := by decide +kernel
theorem dX1_copyFrom_0 : decode cX1_copyFrom 0 = .ok (.aload_n 0, 1) := by decide +kernel
theorem dX1_copyFrom_1 : decode cX1_copyFrom 1 = .ok (.aload_n 1, 1) := by decide +kernel
theorem dX1_copyFrom_2 : decode cX1_copyFrom 2 = .ok (.getfield 50, 3) := by decide +kernel
theorem dX1_copyFrom_5 : decode cX1_copyFrom 5 = .ok (.putfield 50, 3) := by decide +kernel
theorem dX1_copyFrom_8 : decode cX1_copyFrom 8 = .ok (.aload_n 0, 1) := by decide +kernel
theorem dX1_copyFrom_9 : decode cX1_copyFrom 9 = .ok (.aload_n 1, 1) := by decide +kernel
theorem dX1_copyFrom_10 : decode cX1_copyFrom 10 = .ok (.getfield 53, 3) := by decide +kernel
theorem dX1_copyFrom_13 : decode cX1_copyFrom 13 = .ok (.putfield 53, 3) := by decide +kernel
theorem dX1_copyFrom_16 : decode cX1_copyFrom 16 = .ok (.aload_n 0, 1) := by decide +kernel
theorem dX1_copyFrom_17 : decode cX1_copyFrom 17 = .ok (.aload_n 1, 1) := by decide +kernel
theorem dX1_copyFrom_18 : decode cX1_copyFrom 18 = .ok (.getfield 56, 3) := by decide +kernel
theorem dX1_copyFrom_21 : decode cX1_copyFrom 21 = .ok (.putfield 56, 3) := by decide +kernel
theorem dX1_copyFrom_24 : decode cX1_copyFrom 24 = .ok (.aload_n 0, 1) := by decide +kernel
theorem dX1_copyFrom_25 : decode cX1_copyFrom 25 = .ok (.aload_n 1, 1) := by decide +kernel
theorem dX1_copyFrom_26 : decode cX1_copyFrom 26 = .ok (.getfield 10, 3) := by decide +kernel
theorem dX1_copyFrom_29 : decode cX1_copyFrom 29 = .ok (.putfield 10, 3) := by decide +kernel
theorem dX1_copyFrom_32 : decode cX1_copyFrom 32 = .ok (.aload_n 0, 1) := by decide +kernel
theorem dX1_copyFrom_33 : decode cX1_copyFrom 33 = .ok (.aload_n 1, 1) := by decide +kernel
theorem dX1_copyFrom_34 : decode cX1_copyFrom 34 = .ok (.getfield 59, 3) := by decide +kernel
theorem dX1_copyFrom_37 : decode cX1_copyFrom 37 = .ok (.putfield 59, 3) := by decide +kernel
theorem dX1_copyFrom_40 : decode cX1_copyFrom 40 = .ok (.aload_n 0, 1) := by decide +kernel
theorem dX1_copyFrom_41 : decode cX1_copyFrom 41 = .ok (.aload_n 1, 1) := by decide +kernel
theorem dX1_copyFrom_42 : decode cX1_copyFrom 42 = .ok (.getfield 62, 3) := by decide +kernel
theorem dX1_copyFrom_45 : decode cX1_copyFrom 45 = .ok (.putfield 62, 3) := by decide +kernel
theorem dX1_copyFrom_48 : decode cX1_copyFrom 48 = .ok (.aload_n 0, 1) := by decide +kernel
theorem dX1_copyFrom_49 : decode cX1_copyFrom 49 = .ok (.aload_n 1, 1) := by decide +kernel
theorem dX1_copyFrom_50 : decode cX1_copyFrom 50 = .ok (.getfield 65, 3) := by decide +kernel
theorem dX1_copyFrom_53 : decode cX1_copyFrom 53 = .ok (.putfield 65, 3) := by decide +kernel
theorem dX1_copyFrom_56 : decode cX1_copyFrom 56 = .ok (.aload_n 0, 1) := by decide +kernel
theorem dX1_copyFrom_57 : decode cX1_copyFrom 57 = .ok (.aload_n 1, 1) := by decide +kernel
theorem dX1_copyFrom_58 : decode cX1_copyFrom 58 = .ok (.getfield 68, 3) := by decide +kernel
theorem dX1_copyFrom_61 : decode cX1_copyFrom 61 = .ok (.putfield 68, 3) := by decide +kernel
theorem dX1_copyFrom_64 : decode cX1_copyFrom 64 = .ok (.aload_n 0, 1) := by decide +kernel
theorem dX1_copyFrom_65 : decode cX1_copyFrom 65 = .ok (.aload_n 1, 1) := by decide +kernel
theorem dX1_copyFrom_66 : decode cX1_copyFrom 66 = .ok (.getfield 71, 3) := by decide +kernel
theorem dX1_copyFrom_69 : decode cX1_copyFrom 69 = .ok (.putfield 71, 3) := by decide +kernel
theorem dX1_copyFrom_72 : decode cX1_copyFrom 72 = .ok (.aload_n 1, 1) := by decide +kernel
theorem dX1_copyFrom_73 : decode cX1_copyFrom 73 = .ok (.getfield 16, 3) := by decide +kernel
theorem dX1_copyFrom_76 : decode cX1_copyFrom 76 = .ok (.iconst 0, 1) := by decide +kernel
theorem dX1_copyFrom_77 : decode cX1_copyFrom 77 = .ok (.aload_n 0, 1) := by decide +kernel
theorem dX1_copyFrom_78 : decode cX1_copyFrom 78 = .ok (.getfield 16, 3) := by decide +kernel
theorem dX1_copyFrom_81 : decode cX1_copyFrom 81 = .ok (.iconst 0, 1) := by decide +kernel
theorem dX1_copyFrom_82 : decode cX1_copyFrom 82 = .ok (.iconst 4, 1) := by decide +kernel
theorem dX1_copyFrom_83 : decode cX1_copyFrom 83 = .ok (.invokestatic 74, 3) := by decide +kernel
theorem dX1_copyFrom_86 : decode cX1_copyFrom 86 = .ok (.aload_n 1, 1) := by decide +kernel
theorem dX1_copyFrom_87 : decode cX1_copyFrom 87 = .ok (.getfield 20, 3) := by decide +kernel
theorem dX1_copyFrom_90 : decode cX1_copyFrom 90 = .ok (.iconst 0, 1) := by decide +kernel
theorem dX1_copyFrom_91 : decode cX1_copyFrom 91 = .ok (.aload_n 0, 1) := by decide +kernel
theorem dX1_copyFrom_92 : decode cX1_copyFrom 92 = .ok (.getfield 20, 3) := by decide +kernel
theorem dX1_copyFrom_95 : decode cX1_copyFrom 95 = .ok (.iconst 0, 1) := by decide +kernel
theorem dX1_copyFrom_96 : decode cX1_copyFrom 96 = .ok (.bipush 6, 2) := by decide +kernel
theorem dX1_copyFrom_98 : decode cX1_copyFrom 98 = .ok (.invokestatic 74, 3) := by decide +kernel
theorem dX1_copyFrom_101 : decode cX1_copyFrom 101 = .ok (.aload_n 1, 1) := by decide +kernel
theorem dX1_copyFrom_102 : decode cX1_copyFrom 102 = .ok (.getfield 23, 3) := by decide +kernel
theorem dX1_copyFrom_105 : decode cX1_copyFrom 105 = .ok (.iconst 0, 1) := by decide +kernel
theorem dX1_copyFrom_106 : decode cX1_copyFrom 106 = .ok (.aload_n 0, 1) := by decide +kernel
theorem dX1_copyFrom_107 : decode cX1_copyFrom 107 = .ok (.getfield 23, 3) := by decide +kernel
theorem dX1_copyFrom_110 : decode cX1_copyFrom 110 = .ok (.iconst 0, 1) := by decide +kernel
theorem dX1_copyFrom_111 : decode cX1_copyFrom 111 = .ok (.bipush 6, 2) := by decide +kernel
theorem dX1_copyFrom_113 : decode cX1_copyFrom 113 = .ok (.invokestatic 74, 3) := by decide +kernel
theorem dX1_copyFrom_116 : decode cX1_copyFrom 116 = .ok (.aload_n 1, 1) := by decide +kernel
theorem dX1_copyFrom_117 : decode cX1_copyFrom 117 = .ok (.getfield 26, 3) := by decide +kernel
theorem dX1_copyFrom_120 : decode cX1_copyFrom 120 = .ok (.iconst 0, 1) := by decide +kernel
theorem dX1_copyFrom_121 : decode cX1_copyFrom 121 = .ok (.aload_n 0, 1) := by decide +kernel
theorem dX1_copyFrom_122 : decode cX1_copyFrom 122 = .ok (.getfield 26, 3) := by decide +kernel
theorem dX1_copyFrom_125 : decode cX1_copyFrom 125 = .ok (.iconst 0, 1) := by decide +kernel
theorem dX1_copyFrom_126 : decode cX1_copyFrom 126 = .ok (.bipush 6, 2) := by decide +kernel
theorem dX1_copyFrom_128 : decode cX1_copyFrom 128 = .ok (.invokestatic 74, 3) := by decide +kernel
theorem dX1_copyFrom_131 : decode cX1_copyFrom 131 = .ok (.aload_n 1, 1) := by decide +kernel
theorem dX1_copyFrom_132 : decode cX1_copyFrom 132 = .ok (.getfield 29, 3) := by decide +kernel
theorem dX1_copyFrom_135 : decode cX1_copyFrom 135 = .ok (.iconst 0, 1) := by decide +kernel
theorem dX1_copyFrom_136 : decode cX1_copyFrom 136 = .ok (.aload_n 0, 1) := by decide +kernel
theorem dX1_copyFrom_137 : decode cX1_copyFrom 137 = .ok (.getfield 29, 3) := by decide +kernel
theorem dX1_copyFrom_140 : decode cX1_copyFrom 140 = .ok (.iconst 0, 1) := by decide +kernel
theorem dX1_copyFrom_141 : decode cX1_copyFrom 141 = .ok (.bipush 6, 2) := by decide +kernel
theorem dX1_copyFrom_143 : decode cX1_copyFrom 143 = .ok (.invokestatic 74, 3) := by decide +kernel
theorem dX1_copyFrom_146 : decode cX1_copyFrom 146 = .ok (.aload_n 1, 1) := by decide +kernel
theorem dX1_copyFrom_147 : decode cX1_copyFrom 147 = .ok (.getfield 32, 3) := by decide +kernel
theorem dX1_copyFrom_150 : decode cX1_copyFrom 150 = .ok (.iconst 0, 1) := by decide +kernel
theorem dX1_copyFrom_151 : decode cX1_copyFrom 151 = .ok (.aload_n 0, 1) := by decide +kernel
theorem dX1_copyFrom_152 : decode cX1_copyFrom 152 = .ok (.getfield 32, 3) := by decide +kernel
theorem dX1_copyFrom_155 : decode cX1_copyFrom 155 = .ok (.iconst 0, 1) := by decide +kernel
theorem dX1_copyFrom_156 : decode cX1_copyFrom 156 = .ok (.bipush 8, 2) := by decide +kernel
theorem dX1_copyFrom_158 : decode cX1_copyFrom 158 = .ok (.invokestatic 74, 3) := by decide +kernel
theorem dX1_copyFrom_161 : decode cX1_copyFrom 161 = .ok (.aload_n 1, 1) := by decide +kernel
theorem dX1_copyFrom_162 : decode cX1_copyFrom 162 = .ok (.getfield 35, 3) := by decide +kernel
theorem dX1_copyFrom_165 : decode cX1_copyFrom 165 = .ok (.iconst 0, 1) := by decide +kernel
theorem dX1_copyFrom_166 : decode cX1_copyFrom 166 = .ok (.aload_n 0, 1) := by decide +kernel
theorem dX1_copyFrom_167 : decode cX1_copyFrom 167 = .ok (.getfield 35, 3) := by decide +kernel
theorem dX1_copyFrom_170 : decode cX1_copyFrom 170 = .ok (.iconst 0, 1) := by decide +kernel
theorem dX1_copyFrom_171 : decode cX1_copyFrom 171 = .ok (.bipush 8, 2) := by decide +kernel
theorem dX1_copyFrom_173 : decode cX1_copyFrom 173 = .ok (.invokestatic 74, 3) := by decide +kernel
theorem dX1_copyFrom_176 : decode cX1_copyFrom 176 = .ok (.aload_n 1, 1) := by decide +kernel
theorem dX1_copyFrom_177 : decode cX1_copyFrom 177 = .ok (.getfield 38, 3) := by decide +kernel
theorem dX1_copyFrom_180 : decode cX1_copyFrom 180 = .ok (.iconst 0, 1) := by decide +kernel
theorem dX1_copyFrom_181 : decode cX1_copyFrom 181 = .ok (.aload_n 0, 1) := by decide +kernel
theorem dX1_copyFrom_182 : decode cX1_copyFrom 182 = .ok (.getfield 38, 3) := by decide +kernel
theorem dX1_copyFrom_185 : decode cX1_copyFrom 185 = .ok (.iconst 0, 1) := by decide +kernel
theorem dX1_copyFrom_186 : decode cX1_copyFrom 186 = .ok (.bipush 8, 2) := by decide +kernel
theorem dX1_copyFrom_188 : decode cX1_copyFrom 188 = .ok (.invokestatic 74, 3) := by decide +kernel
theorem dX1_copyFrom_191 : decode cX1_copyFrom 191 = .ok (.aload_n 1, 1) := by decide +kernel
theorem dX1_copyFrom_192 : decode cX1_copyFrom 192 = .ok (.getfield 41, 3) := by decide +kernel
theorem dX1_copyFrom_195 : decode cX1_copyFrom 195 = .ok (.iconst 0, 1) := by decide +kernel
theorem dX1_copyFrom_196 : decode cX1_copyFrom 196 = .ok (.aload_n 0, 1) := by decide +kernel
theorem dX1_copyFrom_197 : decode cX1_copyFrom 197 = .ok (.getfield 41, 3) := by decide +kernel
theorem dX1_copyFrom_200 : decode cX1_copyFrom 200 = .ok (.iconst 0, 1) := by decide +kernel
theorem dX1_copyFrom_201 : decode cX1_copyFrom 201 = .ok (.bipush 8, 2) := by decide +kernel
theorem dX1_copyFrom_203 : decode cX1_copyFrom 203 = .ok (.invokestatic 74, 3) := by decide +kernel
theorem dX1_copyFrom_206 : decode cX1_copyFrom 206 = .ok (.aload_n 1, 1) := by decide +kernel
theorem dX1_copyFrom_207 : decode cX1_copyFrom 207 = .ok (.getfield 44, 3) := by decide +kernel
theorem dX1_copyFrom_210 : decode cX1_copyFrom 210 = .ok (.iconst 0, 1) := by decide +kernel
theorem dX1_copyFrom_211 : decode cX1_copyFrom 211 = .ok (.aload_n 0, 1) := by decide +kernel
theorem dX1_copyFrom_212 : decode cX1_copyFrom 212 = .ok (.getfield 44, 3) := by decide +kernel
theorem dX1_copyFrom_215 : decode cX1_copyFrom 215 = .ok (.iconst 0, 1) := by decide +kernel
theorem dX1_copyFrom_216 : decode cX1_copyFrom 216 = .ok (.bipush 8, 2) := by decide +kernel
theorem dX1_copyFrom_218 : decode cX1_copyFrom 218 = .ok (.invokestatic 74, 3) := by decide +kernel
theorem dX1_copyFrom_221 : decode cX1_copyFrom 221 = .ok (.aload_n 1, 1) := by decide +kernel
theorem dX1_copyFrom_222 : decode cX1_copyFrom 222 = .ok (.getfield 47, 3) := by decide +kernel
theorem dX1_copyFrom_225 : decode cX1_copyFrom 225 = .ok (.iconst 0, 1) := by decide +kernel
theorem dX1_copyFrom_226 : decode cX1_copyFrom 226 = .ok (.aload_n 0, 1) := by decide +kernel
theorem dX1_copyFrom_227 : decode cX1_copyFrom 227 = .ok (.getfield 47, 3) := by decide +kernel
theorem dX1_copyFrom_230 : decode cX1_copyFrom 230 = .ok (.iconst 0, 1) := by decide +kernel
theorem dX1_copyFrom_231 : decode cX1_copyFrom 231 = .ok (.bipush 8, 2) := by decide +kernel
theorem dX1_copyFrom_233 : decode cX1_copyFrom 233 = .ok (.invokestatic 74, 3) := by decide +kernel
theorem dX1_copyFrom_236 : decode cX1_copyFrom 236 = .ok (.return_, 1) := by decide +kernel
theorem dX1_hasCan_0 : decode cX1_hasCan 0 = .ok (.iload_n 1, 1) := by decide +kernel
theorem dX1_hasCan_1 : decode cX1_hasCan 1 = .ok (.ifCond .lt 15, 3) := by decide +kernel
theorem dX1_hasCan_4 : decode cX1_hasCan 4 = .ok (.iload_n 1, 1) := by decide +kernel
theorem dX1_hasCan_5 : decode cX1_hasCan 5 = .ok (.aload_n 0, 1) := by decide +kernel
theorem dX1_hasCan_6 : decode cX1_hasCan 6 = .ok (.getfield 50, 3) := by decide +kernel
theorem dX1_hasCan_9 : decode cX1_hasCan 9 = .ok (.if_icmp .ge 7, 3) := by decide +kernel
theorem dX1_hasCan_12 : decode cX1_hasCan 12 = .ok (.iconst 1, 1) := by decide +kernel
theorem dX1_hasCan_13 : decode cX1_hasCan 13 = .ok (.goto 4, 3) := by decide +kernel
theorem dX1_hasCan_16 : decode cX1_hasCan 16 = .ok (.iconst 0, 1) := by decide +kernel
theorem dX1_hasCan_17 : decode cX1_hasCan 17 = .ok (.ireturn, 1) := by decide +kernel
theorem dX1_hasTake_0 : decode cX1_hasTake 0 = .ok (.iload_n 1, 1) := by decide +kernel
theorem dX1_hasTake_1 : decode cX1_hasTake 1 = .ok (.ifCond .lt 15, 3) := by decide +kernel
theorem dX1_hasTake_4 : decode cX1_hasTake 4 = .ok (.iload_n 1, 1) := by decide +kernel
theorem dX1_hasTake_5 : decode cX1_hasTake 5 = .ok (.aload_n 0, 1) := by decide +kernel
theorem dX1_hasTake_6 : decode cX1_hasTake 6 = .ok (.getfield 53, 3) := by decide +kernel
theorem dX1_hasTake_9 : decode cX1_hasTake 9 = .ok (.if_icmp .ge 7, 3) := by decide +kernel
theorem dX1_hasTake_12 : decode cX1_hasTake 12 = .ok (.iconst 1, 1) := by decide +kernel
theorem dX1_hasTake_13 : decode cX1_hasTake 13 = .ok (.goto 4, 3) := by decide +kernel
theorem dX1_hasTake_16 : decode cX1_hasTake 16 = .ok (.iconst 0, 1) := by decide +kernel
theorem dX1_hasTake_17 : decode cX1_hasTake 17 = .ok (.ireturn, 1) := by decide +kernel
theorem dX1_isOpen_0 : decode cX1_isOpen 0 = .ok (.aload_n 0, 1) := by decide +kernel
theorem dX1_isOpen_1 : decode cX1_isOpen 1 = .ok (.getfield 38, 3) := by decide +kernel
theorem dX1_isOpen_4 : decode cX1_isOpen 4 = .ok (.iload_n 1, 1) := by decide +kernel
theorem dX1_isOpen_5 : decode cX1_isOpen 5 = .ok (.iaload, 1) := by decide +kernel
theorem dX1_isOpen_6 : decode cX1_isOpen 6 = .ok (.ldc 9, 2) := by decide +kernel
theorem dX1_isOpen_8 : decode cX1_isOpen 8 = .ok (.if_icmp .ne 7, 3) := by decide +kernel
theorem dX1_isOpen_11 : decode cX1_isOpen 11 = .ok (.iconst 1, 1) := by decide +kernel
theorem dX1_isOpen_12 : decode cX1_isOpen 12 = .ok (.goto 4, 3) := by decide +kernel
theorem dX1_isOpen_15 : decode cX1_isOpen 15 = .ok (.iconst 0, 1) := by decide +kernel
theorem dX1_isOpen_16 : decode cX1_isOpen 16 = .ok (.ireturn, 1) := by decide +kernel
theorem dX1_isRoom_0 : decode cX1_isRoom 0 = .ok (.aload_n 0, 1) := by decide +kernel
theorem dX1_isRoom_1 : decode cX1_isRoom 1 = .ok (.getfield 26, 3) := by decide +kernel
theorem dX1_isRoom_4 : decode cX1_isRoom 4 = .ok (.iload_n 1, 1) := by decide +kernel
theorem dX1_isRoom_5 : decode cX1_isRoom 5 = .ok (.iaload, 1) := by decide +kernel
theorem dX1_isRoom_6 : decode cX1_isRoom 6 = .ok (.iconst 2, 1) := by decide +kernel
theorem dX1_isRoom_7 : decode cX1_isRoom 7 = .ok (.if_icmp .eq 7, 3) := by decide +kernel
theorem dX1_isRoom_10 : decode cX1_isRoom 10 = .ok (.iconst 1, 1) := by decide +kernel
theorem dX1_isRoom_11 : decode cX1_isRoom 11 = .ok (.goto 4, 3) := by decide +kernel
theorem dX1_isRoom_14 : decode cX1_isRoom 14 = .ok (.iconst 0, 1) := by decide +kernel
theorem dX1_isRoom_15 : decode cX1_isRoom 15 = .ok (.ireturn, 1) := by decide +kernel
theorem dX1_serves_0 : decode cX1_serves 0 = .ok (.aload_n 0, 1) := by decide +kernel
theorem dX1_serves_1 : decode cX1_serves 1 = .ok (.getfield 20, 3) := by decide +kernel
theorem dX1_serves_4 : decode cX1_serves 4 = .ok (.iload_n 1, 1) := by decide +kernel
theorem dX1_serves_5 : decode cX1_serves 5 = .ok (.iaload, 1) := by decide +kernel
theorem dX1_serves_6 : decode cX1_serves 6 = .ok (.aload_n 0, 1) := by decide +kernel
theorem dX1_serves_7 : decode cX1_serves 7 = .ok (.getfield 32, 3) := by decide +kernel
theorem dX1_serves_10 : decode cX1_serves 10 = .ok (.iload_n 2, 1) := by decide +kernel
theorem dX1_serves_11 : decode cX1_serves 11 = .ok (.iaload, 1) := by decide +kernel
theorem dX1_serves_12 : decode cX1_serves 12 = .ok (.invokestatic 80, 3) := by decide +kernel
theorem dX1_serves_15 : decode cX1_serves 15 = .ok (.ireturn, 1) := by decide +kernel
theorem dX1_leadOf_0 : decode cX1_leadOf 0 = .ok (.aload_n 0, 1) := by decide +kernel
theorem dX1_leadOf_1 : decode cX1_leadOf 1 = .ok (.getfield 20, 3) := by decide +kernel
theorem dX1_leadOf_4 : decode cX1_leadOf 4 = .ok (.iload_n 1, 1) := by decide +kernel
theorem dX1_leadOf_5 : decode cX1_leadOf 5 = .ok (.iaload, 1) := by decide +kernel
theorem dX1_leadOf_6 : decode cX1_leadOf 6 = .ok (.aload_n 0, 1) := by decide +kernel
theorem dX1_leadOf_7 : decode cX1_leadOf 7 = .ok (.getfield 16, 3) := by decide +kernel
theorem dX1_leadOf_10 : decode cX1_leadOf 10 = .ok (.iconst 0, 1) := by decide +kernel
theorem dX1_leadOf_11 : decode cX1_leadOf 11 = .ok (.iaload, 1) := by decide +kernel
theorem dX1_leadOf_12 : decode cX1_leadOf 12 = .ok (.invokestatic 86, 3) := by decide +kernel
theorem dX1_leadOf_15 : decode cX1_leadOf 15 = .ok (.ireturn, 1) := by decide +kernel
theorem dX1_leastKeptOf_0 : decode cX1_leastKeptOf 0 = .ok (.aload_n 0, 1) := by decide +kernel
theorem dX1_leastKeptOf_1 : decode cX1_leastKeptOf 1 = .ok (.getfield 20, 3) := by decide +kernel
theorem dX1_leastKeptOf_4 : decode cX1_leastKeptOf 4 = .ok (.iload_n 1, 1) := by decide +kernel
theorem dX1_leastKeptOf_5 : decode cX1_leastKeptOf 5 = .ok (.iaload, 1) := by decide +kernel
theorem dX1_leastKeptOf_6 : decode cX1_leastKeptOf 6 = .ok (.aload_n 0, 1) := by decide +kernel
theorem dX1_leastKeptOf_7 : decode cX1_leastKeptOf 7 = .ok (.getfield 16, 3) := by decide +kernel
theorem dX1_leastKeptOf_10 : decode cX1_leastKeptOf 10 = .ok (.iconst 1, 1) := by decide +kernel
theorem dX1_leastKeptOf_11 : decode cX1_leastKeptOf 11 = .ok (.iaload, 1) := by decide +kernel
theorem dX1_leastKeptOf_12 : decode cX1_leastKeptOf 12 = .ok (.invokestatic 90, 3) := by decide +kernel
theorem dX1_leastKeptOf_15 : decode cX1_leastKeptOf 15 = .ok (.ireturn, 1) := by decide +kernel
theorem dX1_openTakes_0 : decode cX1_openTakes 0 = .ok (.aload_n 0, 1) := by decide +kernel
theorem dX1_openTakes_1 : decode cX1_openTakes 1 = .ok (.ldc 9, 2) := by decide +kernel
theorem dX1_openTakes_3 : decode cX1_openTakes 3 = .ok (.invokevirtual 93, 3) := by decide +kernel
theorem dX1_openTakes_6 : decode cX1_openTakes 6 = .ok (.ireturn, 1) := by decide +kernel
theorem dX1_takesShotOn_0 : decode cX1_takesShotOn 0 = .ok (.iconst 0, 1) := by decide +kernel
theorem dX1_takesShotOn_1 : decode cX1_takesShotOn 1 = .ok (.istore_n 2, 1) := by decide +kernel
theorem dX1_takesShotOn_2 : decode cX1_takesShotOn 2 = .ok (.iconst 0, 1) := by decide +kernel
theorem dX1_takesShotOn_3 : decode cX1_takesShotOn 3 = .ok (.istore_n 3, 1) := by decide +kernel
theorem dX1_takesShotOn_4 : decode cX1_takesShotOn 4 = .ok (.iload_n 3, 1) := by decide +kernel
theorem dX1_takesShotOn_5 : decode cX1_takesShotOn 5 = .ok (.aload_n 0, 1) := by decide +kernel
theorem dX1_takesShotOn_6 : decode cX1_takesShotOn 6 = .ok (.getfield 53, 3) := by decide +kernel
theorem dX1_takesShotOn_9 : decode cX1_takesShotOn 9 = .ok (.if_icmp .ge 25, 3) := by decide +kernel
theorem dX1_takesShotOn_12 : decode cX1_takesShotOn 12 = .ok (.aload_n 0, 1) := by decide +kernel
theorem dX1_takesShotOn_13 : decode cX1_takesShotOn 13 = .ok (.getfield 38, 3) := by decide +kernel
theorem dX1_takesShotOn_16 : decode cX1_takesShotOn 16 = .ok (.iload_n 3, 1) := by decide +kernel
theorem dX1_takesShotOn_17 : decode cX1_takesShotOn 17 = .ok (.iaload, 1) := by decide +kernel
theorem dX1_takesShotOn_18 : decode cX1_takesShotOn 18 = .ok (.iload_n 1, 1) := by decide +kernel
theorem dX1_takesShotOn_19 : decode cX1_takesShotOn 19 = .ok (.if_icmp .ne 9, 3) := by decide +kernel
theorem dX1_takesShotOn_22 : decode cX1_takesShotOn 22 = .ok (.iload_n 2, 1) := by decide +kernel
theorem dX1_takesShotOn_23 : decode cX1_takesShotOn 23 = .ok (.iconst 1, 1) := by decide +kernel
theorem dX1_takesShotOn_24 : decode cX1_takesShotOn 24 = .ok (.iload_n 3, 1) := by decide +kernel
theorem dX1_takesShotOn_25 : decode cX1_takesShotOn 25 = .ok (.ishl, 1) := by decide +kernel
theorem dX1_takesShotOn_26 : decode cX1_takesShotOn 26 = .ok (.ior, 1) := by decide +kernel
theorem dX1_takesShotOn_27 : decode cX1_takesShotOn 27 = .ok (.istore_n 2, 1) := by decide +kernel
theorem dX1_takesShotOn_28 : decode cX1_takesShotOn 28 = .ok (.iinc 3 1, 3) := by decide +kernel
theorem dX1_takesShotOn_31 : decode cX1_takesShotOn 31 = .ok (.goto (-27), 3) := by decide +kernel
theorem dX1_takesShotOn_34 : decode cX1_takesShotOn 34 = .ok (.iload_n 2, 1) := by decide +kernel
theorem dX1_takesShotOn_35 : decode cX1_takesShotOn 35 = .ok (.ireturn, 1) := by decide +kernel
theorem dX1_takesServedBy_0 : decode cX1_takesServedBy 0 = .ok (.iconst 0, 1) := by decide +kernel
theorem dX1_takesServedBy_1 : decode cX1_takesServedBy 1 = .ok (.istore_n 2, 1) := by decide +kernel
theorem dX1_takesServedBy_2 : decode cX1_takesServedBy 2 = .ok (.iconst 0, 1) := by decide +kernel
theorem dX1_takesServedBy_3 : decode cX1_takesServedBy 3 = .ok (.istore_n 3, 1) := by decide +kernel
theorem dX1_takesServedBy_4 : decode cX1_takesServedBy 4 = .ok (.iload_n 3, 1) := by decide +kernel
theorem dX1_takesServedBy_5 : decode cX1_takesServedBy 5 = .ok (.aload_n 0, 1) := by decide +kernel
theorem dX1_takesServedBy_6 : decode cX1_takesServedBy 6 = .ok (.getfield 53, 3) := by decide +kernel
theorem dX1_takesServedBy_9 : decode cX1_takesServedBy 9 = .ok (.if_icmp .ge 28, 3) := by decide +kernel
theorem dX1_takesServedBy_12 : decode cX1_takesServedBy 12 = .ok (.iload_n 1, 1) := by decide +kernel
theorem dX1_takesServedBy_13 : decode cX1_takesServedBy 13 = .ok (.aload_n 0, 1) := by decide +kernel
theorem dX1_takesServedBy_14 : decode cX1_takesServedBy 14 = .ok (.getfield 32, 3) := by decide +kernel
theorem dX1_takesServedBy_17 : decode cX1_takesServedBy 17 = .ok (.iload_n 3, 1) := by decide +kernel
theorem dX1_takesServedBy_18 : decode cX1_takesServedBy 18 = .ok (.iaload, 1) := by decide +kernel
theorem dX1_takesServedBy_19 : decode cX1_takesServedBy 19 = .ok (.invokestatic 80, 3) := by decide +kernel
theorem dX1_takesServedBy_22 : decode cX1_takesServedBy 22 = .ok (.ifCond .eq 9, 3) := by decide +kernel
theorem dX1_takesServedBy_25 : decode cX1_takesServedBy 25 = .ok (.iload_n 2, 1) := by decide +kernel
theorem dX1_takesServedBy_26 : decode cX1_takesServedBy 26 = .ok (.iconst 1, 1) := by decide +kernel
theorem dX1_takesServedBy_27 : decode cX1_takesServedBy 27 = .ok (.iload_n 3, 1) := by decide +kernel
theorem dX1_takesServedBy_28 : decode cX1_takesServedBy 28 = .ok (.ishl, 1) := by decide +kernel
theorem dX1_takesServedBy_29 : decode cX1_takesServedBy 29 = .ok (.ior, 1) := by decide +kernel
theorem dX1_takesServedBy_30 : decode cX1_takesServedBy 30 = .ok (.istore_n 2, 1) := by decide +kernel
theorem dX1_takesServedBy_31 : decode cX1_takesServedBy 31 = .ok (.iinc 3 1, 3) := by decide +kernel
theorem dX1_takesServedBy_34 : decode cX1_takesServedBy 34 = .ok (.goto (-30), 3) := by decide +kernel
theorem dX1_takesServedBy_37 : decode cX1_takesServedBy 37 = .ok (.iload_n 2, 1) := by decide +kernel
theorem dX1_takesServedBy_38 : decode cX1_takesServedBy 38 = .ok (.ireturn, 1) := by decide +kernel
theorem dX1_cansThatServe_0 : decode cX1_cansThatServe 0 = .ok (.iconst 0, 1) := by decide +kernel
theorem dX1_cansThatServe_1 : decode cX1_cansThatServe 1 = .ok (.istore_n 2, 1) := by decide +kernel
theorem dX1_cansThatServe_2 : decode cX1_cansThatServe 2 = .ok (.iconst 0, 1) := by decide +kernel
theorem dX1_cansThatServe_3 : decode cX1_cansThatServe 3 = .ok (.istore_n 3, 1) := by decide +kernel
theorem dX1_cansThatServe_4 : decode cX1_cansThatServe 4 = .ok (.iload_n 3, 1) := by decide +kernel
theorem dX1_cansThatServe_5 : decode cX1_cansThatServe 5 = .ok (.aload_n 0, 1) := by decide +kernel
theorem dX1_cansThatServe_6 : decode cX1_cansThatServe 6 = .ok (.getfield 50, 3) := by decide +kernel
theorem dX1_cansThatServe_9 : decode cX1_cansThatServe 9 = .ok (.if_icmp .ge 24, 3) := by decide +kernel
theorem dX1_cansThatServe_12 : decode cX1_cansThatServe 12 = .ok (.aload_n 0, 1) := by decide +kernel
theorem dX1_cansThatServe_13 : decode cX1_cansThatServe 13 = .ok (.iload_n 3, 1) := by decide +kernel
theorem dX1_cansThatServe_14 : decode cX1_cansThatServe 14 = .ok (.iload_n 1, 1) := by decide +kernel
theorem dX1_cansThatServe_15 : decode cX1_cansThatServe 15 = .ok (.invokevirtual 97, 3) := by decide +kernel
theorem dX1_cansThatServe_18 : decode cX1_cansThatServe 18 = .ok (.ifCond .eq 9, 3) := by decide +kernel
theorem dX1_cansThatServe_21 : decode cX1_cansThatServe 21 = .ok (.iload_n 2, 1) := by decide +kernel
theorem dX1_cansThatServe_22 : decode cX1_cansThatServe 22 = .ok (.iconst 1, 1) := by decide +kernel
theorem dX1_cansThatServe_23 : decode cX1_cansThatServe 23 = .ok (.iload_n 3, 1) := by decide +kernel
theorem dX1_cansThatServe_24 : decode cX1_cansThatServe 24 = .ok (.ishl, 1) := by decide +kernel
theorem dX1_cansThatServe_25 : decode cX1_cansThatServe 25 = .ok (.ior, 1) := by decide +kernel
theorem dX1_cansThatServe_26 : decode cX1_cansThatServe 26 = .ok (.istore_n 2, 1) := by decide +kernel
theorem dX1_cansThatServe_27 : decode cX1_cansThatServe 27 = .ok (.iinc 3 1, 3) := by decide +kernel
theorem dX1_cansThatServe_30 : decode cX1_cansThatServe 30 = .ok (.goto (-26), 3) := by decide +kernel
theorem dX1_cansThatServe_33 : decode cX1_cansThatServe 33 = .ok (.iload_n 2, 1) := by decide +kernel
theorem dX1_cansThatServe_34 : decode cX1_cansThatServe 34 = .ok (.ireturn, 1) := by decide +kernel
theorem dX1_rooms_0 : decode cX1_rooms 0 = .ok (.iconst 0, 1) := by decide +kernel
theorem dX1_rooms_1 : decode cX1_rooms 1 = .ok (.istore_n 1, 1) := by decide +kernel
theorem dX1_rooms_2 : decode cX1_rooms 2 = .ok (.iconst 0, 1) := by decide +kernel
theorem dX1_rooms_3 : decode cX1_rooms 3 = .ok (.istore_n 2, 1) := by decide +kernel
theorem dX1_rooms_4 : decode cX1_rooms 4 = .ok (.iload_n 2, 1) := by decide +kernel
theorem dX1_rooms_5 : decode cX1_rooms 5 = .ok (.aload_n 0, 1) := by decide +kernel
theorem dX1_rooms_6 : decode cX1_rooms 6 = .ok (.getfield 50, 3) := by decide +kernel
theorem dX1_rooms_9 : decode cX1_rooms 9 = .ok (.if_icmp .ge 23, 3) := by decide +kernel
theorem dX1_rooms_12 : decode cX1_rooms 12 = .ok (.aload_n 0, 1) := by decide +kernel
theorem dX1_rooms_13 : decode cX1_rooms 13 = .ok (.iload_n 2, 1) := by decide +kernel
theorem dX1_rooms_14 : decode cX1_rooms 14 = .ok (.invokevirtual 100, 3) := by decide +kernel
theorem dX1_rooms_17 : decode cX1_rooms 17 = .ok (.ifCond .eq 9, 3) := by decide +kernel
theorem dX1_rooms_20 : decode cX1_rooms 20 = .ok (.iload_n 1, 1) := by decide +kernel
theorem dX1_rooms_21 : decode cX1_rooms 21 = .ok (.iconst 1, 1) := by decide +kernel
theorem dX1_rooms_22 : decode cX1_rooms 22 = .ok (.iload_n 2, 1) := by decide +kernel
theorem dX1_rooms_23 : decode cX1_rooms 23 = .ok (.ishl, 1) := by decide +kernel
theorem dX1_rooms_24 : decode cX1_rooms 24 = .ok (.ior, 1) := by decide +kernel
theorem dX1_rooms_25 : decode cX1_rooms 25 = .ok (.istore_n 1, 1) := by decide +kernel
theorem dX1_rooms_26 : decode cX1_rooms 26 = .ok (.iinc 2 1, 3) := by decide +kernel
theorem dX1_rooms_29 : decode cX1_rooms 29 = .ok (.goto (-25), 3) := by decide +kernel
theorem dX1_rooms_32 : decode cX1_rooms 32 = .ok (.iload_n 1, 1) := by decide +kernel
theorem dX1_rooms_33 : decode cX1_rooms 33 = .ok (.ireturn, 1) := by decide +kernel
theorem dX1_feetOnShelf_0 : decode cX1_feetOnShelf 0 = .ok (.iconst 0, 1) := by decide +kernel
theorem dX1_feetOnShelf_1 : decode cX1_feetOnShelf 1 = .ok (.istore_n 1, 1) := by decide +kernel
theorem dX1_feetOnShelf_2 : decode cX1_feetOnShelf 2 = .ok (.iconst 0, 1) := by decide +kernel
theorem dX1_feetOnShelf_3 : decode cX1_feetOnShelf 3 = .ok (.istore_n 2, 1) := by decide +kernel
theorem dX1_feetOnShelf_4 : decode cX1_feetOnShelf 4 = .ok (.iload_n 2, 1) := by decide +kernel
theorem dX1_feetOnShelf_5 : decode cX1_feetOnShelf 5 = .ok (.aload_n 0, 1) := by decide +kernel
theorem dX1_feetOnShelf_6 : decode cX1_feetOnShelf 6 = .ok (.getfield 50, 3) := by decide +kernel
theorem dX1_feetOnShelf_9 : decode cX1_feetOnShelf 9 = .ok (.if_icmp .ge 27, 3) := by decide +kernel
theorem dX1_feetOnShelf_12 : decode cX1_feetOnShelf 12 = .ok (.aload_n 0, 1) := by decide +kernel
theorem dX1_feetOnShelf_13 : decode cX1_feetOnShelf 13 = .ok (.getfield 26, 3) := by decide +kernel
theorem dX1_feetOnShelf_16 : decode cX1_feetOnShelf 16 = .ok (.iload_n 2, 1) := by decide +kernel
theorem dX1_feetOnShelf_17 : decode cX1_feetOnShelf 17 = .ok (.iaload, 1) := by decide +kernel
theorem dX1_feetOnShelf_18 : decode cX1_feetOnShelf 18 = .ok (.ifCond .ne 12, 3) := by decide +kernel
theorem dX1_feetOnShelf_21 : decode cX1_feetOnShelf 21 = .ok (.iload_n 1, 1) := by decide +kernel
theorem dX1_feetOnShelf_22 : decode cX1_feetOnShelf 22 = .ok (.aload_n 0, 1) := by decide +kernel
theorem dX1_feetOnShelf_23 : decode cX1_feetOnShelf 23 = .ok (.getfield 23, 3) := by decide +kernel
theorem dX1_feetOnShelf_26 : decode cX1_feetOnShelf 26 = .ok (.iload_n 2, 1) := by decide +kernel
theorem dX1_feetOnShelf_27 : decode cX1_feetOnShelf 27 = .ok (.iaload, 1) := by decide +kernel
theorem dX1_feetOnShelf_28 : decode cX1_feetOnShelf 28 = .ok (.iadd, 1) := by decide +kernel
theorem dX1_feetOnShelf_29 : decode cX1_feetOnShelf 29 = .ok (.istore_n 1, 1) := by decide +kernel
theorem dX1_feetOnShelf_30 : decode cX1_feetOnShelf 30 = .ok (.iinc 2 1, 3) := by decide +kernel
theorem dX1_feetOnShelf_33 : decode cX1_feetOnShelf 33 = .ok (.goto (-29), 3) := by decide +kernel
theorem dX1_feetOnShelf_36 : decode cX1_feetOnShelf 36 = .ok (.iload_n 1, 1) := by decide +kernel
theorem dX1_feetOnShelf_37 : decode cX1_feetOnShelf 37 = .ok (.ireturn, 1) := by decide +kernel
theorem dX1_feetThatWait_0 : decode cX1_feetThatWait 0 = .ok (.iconst 0, 1) := by decide +kernel
theorem dX1_feetThatWait_1 : decode cX1_feetThatWait 1 = .ok (.istore_n 1, 1) := by decide +kernel
theorem dX1_feetThatWait_2 : decode cX1_feetThatWait 2 = .ok (.iconst 0, 1) := by decide +kernel
theorem dX1_feetThatWait_3 : decode cX1_feetThatWait 3 = .ok (.istore_n 2, 1) := by decide +kernel
theorem dX1_feetThatWait_4 : decode cX1_feetThatWait 4 = .ok (.iload_n 2, 1) := by decide +kernel
theorem dX1_feetThatWait_5 : decode cX1_feetThatWait 5 = .ok (.aload_n 0, 1) := by decide +kernel
theorem dX1_feetThatWait_6 : decode cX1_feetThatWait 6 = .ok (.getfield 56, 3) := by decide +kernel
theorem dX1_feetThatWait_9 : decode cX1_feetThatWait 9 = .ok (.if_icmp .ge 18, 3) := by decide +kernel
theorem dX1_feetThatWait_12 : decode cX1_feetThatWait 12 = .ok (.iload_n 1, 1) := by decide +kernel
theorem dX1_feetThatWait_13 : decode cX1_feetThatWait 13 = .ok (.aload_n 0, 1) := by decide +kernel
theorem dX1_feetThatWait_14 : decode cX1_feetThatWait 14 = .ok (.getfield 44, 3) := by decide +kernel
theorem dX1_feetThatWait_17 : decode cX1_feetThatWait 17 = .ok (.iload_n 2, 1) := by decide +kernel
theorem dX1_feetThatWait_18 : decode cX1_feetThatWait 18 = .ok (.iaload, 1) := by decide +kernel
theorem dX1_feetThatWait_19 : decode cX1_feetThatWait 19 = .ok (.iadd, 1) := by decide +kernel
theorem dX1_feetThatWait_20 : decode cX1_feetThatWait 20 = .ok (.istore_n 1, 1) := by decide +kernel
theorem dX1_feetThatWait_21 : decode cX1_feetThatWait 21 = .ok (.iinc 2 1, 3) := by decide +kernel
theorem dX1_feetThatWait_24 : decode cX1_feetThatWait 24 = .ok (.goto (-20), 3) := by decide +kernel
theorem dX1_feetThatWait_27 : decode cX1_feetThatWait 27 = .ok (.iload_n 1, 1) := by decide +kernel
theorem dX1_feetThatWait_28 : decode cX1_feetThatWait 28 = .ok (.ireturn, 1) := by decide +kernel
theorem dX1_addCan_0 : decode cX1_addCan 0 = .ok (.aload_n 0, 1) := by decide +kernel
theorem dX1_addCan_1 : decode cX1_addCan 1 = .ok (.getfield 50, 3) := by decide +kernel
theorem dX1_addCan_4 : decode cX1_addCan 4 = .ok (.bipush 6, 2) := by decide +kernel
theorem dX1_addCan_6 : decode cX1_addCan 6 = .ok (.if_icmp .lt 6, 3) := by decide +kernel
theorem dX1_addCan_9 : decode cX1_addCan 9 = .ok (.ldc 9, 2) := by decide +kernel
theorem dX1_addCan_11 : decode cX1_addCan 11 = .ok (.ireturn, 1) := by decide +kernel
theorem dX1_addCan_12 : decode cX1_addCan 12 = .ok (.aload_n 0, 1) := by decide +kernel
theorem dX1_addCan_13 : decode cX1_addCan 13 = .ok (.getfield 50, 3) := by decide +kernel
theorem dX1_addCan_16 : decode cX1_addCan 16 = .ok (.istore_n 3, 1) := by decide +kernel
theorem dX1_addCan_17 : decode cX1_addCan 17 = .ok (.aload_n 0, 1) := by decide +kernel
theorem dX1_addCan_18 : decode cX1_addCan 18 = .ok (.getfield 20, 3) := by decide +kernel
theorem dX1_addCan_21 : decode cX1_addCan 21 = .ok (.iload_n 3, 1) := by decide +kernel
theorem dX1_addCan_22 : decode cX1_addCan 22 = .ok (.iload_n 1, 1) := by decide +kernel
theorem dX1_addCan_23 : decode cX1_addCan 23 = .ok (.iastore, 1) := by decide +kernel
theorem dX1_addCan_24 : decode cX1_addCan 24 = .ok (.aload_n 0, 1) := by decide +kernel
theorem dX1_addCan_25 : decode cX1_addCan 25 = .ok (.getfield 23, 3) := by decide +kernel
theorem dX1_addCan_28 : decode cX1_addCan 28 = .ok (.iload_n 3, 1) := by decide +kernel
theorem dX1_addCan_29 : decode cX1_addCan 29 = .ok (.iload_n 2, 1) := by decide +kernel
theorem dX1_addCan_30 : decode cX1_addCan 30 = .ok (.iastore, 1) := by decide +kernel
theorem dX1_addCan_31 : decode cX1_addCan 31 = .ok (.aload_n 0, 1) := by decide +kernel
theorem dX1_addCan_32 : decode cX1_addCan 32 = .ok (.getfield 26, 3) := by decide +kernel
theorem dX1_addCan_35 : decode cX1_addCan 35 = .ok (.iload_n 3, 1) := by decide +kernel
theorem dX1_addCan_36 : decode cX1_addCan 36 = .ok (.iconst 0, 1) := by decide +kernel
theorem dX1_addCan_37 : decode cX1_addCan 37 = .ok (.iastore, 1) := by decide +kernel
theorem dX1_addCan_38 : decode cX1_addCan 38 = .ok (.aload_n 0, 1) := by decide +kernel
theorem dX1_addCan_39 : decode cX1_addCan 39 = .ok (.getfield 29, 3) := by decide +kernel
theorem dX1_addCan_42 : decode cX1_addCan 42 = .ok (.iload_n 3, 1) := by decide +kernel
theorem dX1_addCan_43 : decode cX1_addCan 43 = .ok (.iconst 0, 1) := by decide +kernel
theorem dX1_addCan_44 : decode cX1_addCan 44 = .ok (.iastore, 1) := by decide +kernel
theorem dX1_addCan_45 : decode cX1_addCan 45 = .ok (.aload_n 0, 1) := by decide +kernel
theorem dX1_addCan_46 : decode cX1_addCan 46 = .ok (.dup, 1) := by decide +kernel
theorem dX1_addCan_47 : decode cX1_addCan 47 = .ok (.getfield 62, 3) := by decide +kernel
theorem dX1_addCan_50 : decode cX1_addCan 50 = .ok (.iload_n 2, 1) := by decide +kernel
theorem dX1_addCan_51 : decode cX1_addCan 51 = .ok (.iadd, 1) := by decide +kernel
theorem dX1_addCan_52 : decode cX1_addCan 52 = .ok (.putfield 62, 3) := by decide +kernel
theorem dX1_addCan_55 : decode cX1_addCan 55 = .ok (.aload_n 0, 1) := by decide +kernel
theorem dX1_addCan_56 : decode cX1_addCan 56 = .ok (.dup, 1) := by decide +kernel
theorem dX1_addCan_57 : decode cX1_addCan 57 = .ok (.getfield 50, 3) := by decide +kernel
theorem dX1_addCan_60 : decode cX1_addCan 60 = .ok (.iconst 1, 1) := by decide +kernel
theorem dX1_addCan_61 : decode cX1_addCan 61 = .ok (.iadd, 1) := by decide +kernel
theorem dX1_addCan_62 : decode cX1_addCan 62 = .ok (.putfield 50, 3) := by decide +kernel
theorem dX1_addCan_65 : decode cX1_addCan 65 = .ok (.iload_n 3, 1) := by decide +kernel
theorem dX1_addCan_66 : decode cX1_addCan 66 = .ok (.ireturn, 1) := by decide +kernel
theorem dX1_addTake_0 : decode cX1_addTake 0 = .ok (.aload_n 0, 1) := by decide +kernel
theorem dX1_addTake_1 : decode cX1_addTake 1 = .ok (.getfield 53, 3) := by decide +kernel
theorem dX1_addTake_4 : decode cX1_addTake 4 = .ok (.bipush 8, 2) := by decide +kernel
theorem dX1_addTake_6 : decode cX1_addTake 6 = .ok (.if_icmp .lt 6, 3) := by decide +kernel
theorem dX1_addTake_9 : decode cX1_addTake 9 = .ok (.ldc 9, 2) := by decide +kernel
theorem dX1_addTake_11 : decode cX1_addTake 11 = .ok (.ireturn, 1) := by decide +kernel
theorem dX1_addTake_12 : decode cX1_addTake 12 = .ok (.aload_n 0, 1) := by decide +kernel
theorem dX1_addTake_13 : decode cX1_addTake 13 = .ok (.getfield 53, 3) := by decide +kernel
theorem dX1_addTake_16 : decode cX1_addTake 16 = .ok (.istore_n 3, 1) := by decide +kernel
theorem dX1_addTake_17 : decode cX1_addTake 17 = .ok (.aload_n 0, 1) := by decide +kernel
theorem dX1_addTake_18 : decode cX1_addTake 18 = .ok (.getfield 32, 3) := by decide +kernel
theorem dX1_addTake_21 : decode cX1_addTake 21 = .ok (.iload_n 3, 1) := by decide +kernel
theorem dX1_addTake_22 : decode cX1_addTake 22 = .ok (.iload_n 1, 1) := by decide +kernel
theorem dX1_addTake_23 : decode cX1_addTake 23 = .ok (.iastore, 1) := by decide +kernel
theorem dX1_addTake_24 : decode cX1_addTake 24 = .ok (.aload_n 0, 1) := by decide +kernel
theorem dX1_addTake_25 : decode cX1_addTake 25 = .ok (.getfield 35, 3) := by decide +kernel
theorem dX1_addTake_28 : decode cX1_addTake 28 = .ok (.iload_n 3, 1) := by decide +kernel
theorem dX1_addTake_29 : decode cX1_addTake 29 = .ok (.iload_n 2, 1) := by decide +kernel
theorem dX1_addTake_30 : decode cX1_addTake 30 = .ok (.iastore, 1) := by decide +kernel
theorem dX1_addTake_31 : decode cX1_addTake 31 = .ok (.aload_n 0, 1) := by decide +kernel
theorem dX1_addTake_32 : decode cX1_addTake 32 = .ok (.getfield 38, 3) := by decide +kernel
theorem dX1_addTake_35 : decode cX1_addTake 35 = .ok (.iload_n 3, 1) := by decide +kernel
theorem dX1_addTake_36 : decode cX1_addTake 36 = .ok (.ldc 9, 2) := by decide +kernel
theorem dX1_addTake_38 : decode cX1_addTake 38 = .ok (.iastore, 1) := by decide +kernel
theorem dX1_addTake_39 : decode cX1_addTake 39 = .ok (.aload_n 0, 1) := by decide +kernel
theorem dX1_addTake_40 : decode cX1_addTake 40 = .ok (.dup, 1) := by decide +kernel
theorem dX1_addTake_41 : decode cX1_addTake 41 = .ok (.getfield 53, 3) := by decide +kernel
theorem dX1_addTake_44 : decode cX1_addTake 44 = .ok (.iconst 1, 1) := by decide +kernel
theorem dX1_addTake_45 : decode cX1_addTake 45 = .ok (.iadd, 1) := by decide +kernel
theorem dX1_addTake_46 : decode cX1_addTake 46 = .ok (.putfield 53, 3) := by decide +kernel
theorem dX1_addTake_49 : decode cX1_addTake 49 = .ok (.iload_n 3, 1) := by decide +kernel
theorem dX1_addTake_50 : decode cX1_addTake 50 = .ok (.ireturn, 1) := by decide +kernel
theorem dX1_thread_0 : decode cX1_thread 0 = .ok (.aload_n 0, 1) := by decide +kernel
theorem dX1_thread_1 : decode cX1_thread 1 = .ok (.iload_n 1, 1) := by decide +kernel
theorem dX1_thread_2 : decode cX1_thread 2 = .ok (.invokevirtual 104, 3) := by decide +kernel
theorem dX1_thread_5 : decode cX1_thread 5 = .ok (.istore_n 2, 1) := by decide +kernel
theorem dX1_thread_6 : decode cX1_thread 6 = .ok (.aload_n 0, 1) := by decide +kernel
theorem dX1_thread_7 : decode cX1_thread 7 = .ok (.getfield 26, 3) := by decide +kernel
theorem dX1_thread_10 : decode cX1_thread 10 = .ok (.iload_n 1, 1) := by decide +kernel
theorem dX1_thread_11 : decode cX1_thread 11 = .ok (.iconst 1, 1) := by decide +kernel
theorem dX1_thread_12 : decode cX1_thread 12 = .ok (.iastore, 1) := by decide +kernel
theorem dX1_thread_13 : decode cX1_thread 13 = .ok (.aload_n 0, 1) := by decide +kernel
theorem dX1_thread_14 : decode cX1_thread 14 = .ok (.getfield 23, 3) := by decide +kernel
theorem dX1_thread_17 : decode cX1_thread 17 = .ok (.iload_n 1, 1) := by decide +kernel
theorem dX1_thread_18 : decode cX1_thread 18 = .ok (.dup2, 1) := by decide +kernel
theorem dX1_thread_19 : decode cX1_thread 19 = .ok (.iaload, 1) := by decide +kernel
theorem dX1_thread_20 : decode cX1_thread 20 = .ok (.iload_n 2, 1) := by decide +kernel
theorem dX1_thread_21 : decode cX1_thread 21 = .ok (.isub, 1) := by decide +kernel
theorem dX1_thread_22 : decode cX1_thread 22 = .ok (.iastore, 1) := by decide +kernel
theorem dX1_thread_23 : decode cX1_thread 23 = .ok (.aload_n 0, 1) := by decide +kernel
theorem dX1_thread_24 : decode cX1_thread 24 = .ok (.dup, 1) := by decide +kernel
theorem dX1_thread_25 : decode cX1_thread 25 = .ok (.getfield 68, 3) := by decide +kernel
theorem dX1_thread_28 : decode cX1_thread 28 = .ok (.iload_n 2, 1) := by decide +kernel
theorem dX1_thread_29 : decode cX1_thread 29 = .ok (.iadd, 1) := by decide +kernel
theorem dX1_thread_30 : decode cX1_thread 30 = .ok (.putfield 68, 3) := by decide +kernel
theorem dX1_thread_33 : decode cX1_thread 33 = .ok (.aload_n 0, 1) := by decide +kernel
theorem dX1_thread_34 : decode cX1_thread 34 = .ok (.iload_n 1, 1) := by decide +kernel
theorem dX1_thread_35 : decode cX1_thread 35 = .ok (.putfield 10, 3) := by decide +kernel
theorem dX1_thread_38 : decode cX1_thread 38 = .ok (.aload_n 0, 1) := by decide +kernel
theorem dX1_thread_39 : decode cX1_thread 39 = .ok (.iconst 0, 1) := by decide +kernel
theorem dX1_thread_40 : decode cX1_thread 40 = .ok (.putfield 59, 3) := by decide +kernel
theorem dX1_thread_43 : decode cX1_thread 43 = .ok (.return_, 1) := by decide +kernel
theorem dX1_expose_0 : decode cX1_expose 0 = .ok (.aload_n 0, 1) := by decide +kernel
theorem dX1_expose_1 : decode cX1_expose 1 = .ok (.getfield 35, 3) := by decide +kernel
theorem dX1_expose_4 : decode cX1_expose 4 = .ok (.iload_n 2, 1) := by decide +kernel
theorem dX1_expose_5 : decode cX1_expose 5 = .ok (.iaload, 1) := by decide +kernel
theorem dX1_expose_6 : decode cX1_expose 6 = .ok (.istore_n 3, 1) := by decide +kernel
theorem dX1_expose_7 : decode cX1_expose 7 = .ok (.aload_n 0, 1) := by decide +kernel
theorem dX1_expose_8 : decode cX1_expose 8 = .ok (.getfield 20, 3) := by decide +kernel
theorem dX1_expose_11 : decode cX1_expose 11 = .ok (.iload_n 1, 1) := by decide +kernel
theorem dX1_expose_12 : decode cX1_expose 12 = .ok (.iaload, 1) := by decide +kernel
theorem dX1_expose_13 : decode cX1_expose 13 = .ok (.invokestatic 106, 3) := by decide +kernel
theorem dX1_expose_16 : decode cX1_expose 16 = .ok (.istore 4, 2) := by decide +kernel
theorem dX1_expose_18 : decode cX1_expose 18 = .ok (.aload_n 0, 1) := by decide +kernel
theorem dX1_expose_19 : decode cX1_expose 19 = .ok (.getfield 23, 3) := by decide +kernel
theorem dX1_expose_22 : decode cX1_expose 22 = .ok (.iload_n 1, 1) := by decide +kernel
theorem dX1_expose_23 : decode cX1_expose 23 = .ok (.dup2, 1) := by decide +kernel
theorem dX1_expose_24 : decode cX1_expose 24 = .ok (.iaload, 1) := by decide +kernel
theorem dX1_expose_25 : decode cX1_expose 25 = .ok (.iload_n 3, 1) := by decide +kernel
theorem dX1_expose_26 : decode cX1_expose 26 = .ok (.iload 4, 2) := by decide +kernel
theorem dX1_expose_28 : decode cX1_expose 28 = .ok (.iadd, 1) := by decide +kernel
theorem dX1_expose_29 : decode cX1_expose 29 = .ok (.isub, 1) := by decide +kernel
theorem dX1_expose_30 : decode cX1_expose 30 = .ok (.iastore, 1) := by decide +kernel
theorem dX1_expose_31 : decode cX1_expose 31 = .ok (.aload_n 0, 1) := by decide +kernel
theorem dX1_expose_32 : decode cX1_expose 32 = .ok (.dup, 1) := by decide +kernel
theorem dX1_expose_33 : decode cX1_expose 33 = .ok (.getfield 65, 3) := by decide +kernel
theorem dX1_expose_36 : decode cX1_expose 36 = .ok (.iload_n 3, 1) := by decide +kernel
theorem dX1_expose_37 : decode cX1_expose 37 = .ok (.iadd, 1) := by decide +kernel
theorem dX1_expose_38 : decode cX1_expose 38 = .ok (.putfield 65, 3) := by decide +kernel
theorem dX1_expose_41 : decode cX1_expose 41 = .ok (.aload_n 0, 1) := by decide +kernel
theorem dX1_expose_42 : decode cX1_expose 42 = .ok (.dup, 1) := by decide +kernel
theorem dX1_expose_43 : decode cX1_expose 43 = .ok (.getfield 68, 3) := by decide +kernel
theorem dX1_expose_46 : decode cX1_expose 46 = .ok (.iload 4, 2) := by decide +kernel
theorem dX1_expose_48 : decode cX1_expose 48 = .ok (.iadd, 1) := by decide +kernel
theorem dX1_expose_49 : decode cX1_expose 49 = .ok (.putfield 68, 3) := by decide +kernel
theorem dX1_expose_52 : decode cX1_expose 52 = .ok (.aload_n 0, 1) := by decide +kernel
theorem dX1_expose_53 : decode cX1_expose 53 = .ok (.dup, 1) := by decide +kernel
theorem dX1_expose_54 : decode cX1_expose 54 = .ok (.getfield 59, 3) := by decide +kernel
theorem dX1_expose_57 : decode cX1_expose 57 = .ok (.iload_n 3, 1) := by decide +kernel
theorem dX1_expose_58 : decode cX1_expose 58 = .ok (.iadd, 1) := by decide +kernel
theorem dX1_expose_59 : decode cX1_expose 59 = .ok (.putfield 59, 3) := by decide +kernel
theorem dX1_expose_62 : decode cX1_expose 62 = .ok (.aload_n 0, 1) := by decide +kernel
theorem dX1_expose_63 : decode cX1_expose 63 = .ok (.getfield 38, 3) := by decide +kernel
theorem dX1_expose_66 : decode cX1_expose 66 = .ok (.iload_n 2, 1) := by decide +kernel
theorem dX1_expose_67 : decode cX1_expose 67 = .ok (.iload_n 1, 1) := by decide +kernel
theorem dX1_expose_68 : decode cX1_expose 68 = .ok (.iastore, 1) := by decide +kernel
theorem dX1_expose_69 : decode cX1_expose 69 = .ok (.return_, 1) := by decide +kernel
theorem dX1_takeOut_0 : decode cX1_takeOut 0 = .ok (.aload_n 0, 1) := by decide +kernel
theorem dX1_takeOut_1 : decode cX1_takeOut 1 = .ok (.getfield 59, 3) := by decide +kernel
theorem dX1_takeOut_4 : decode cX1_takeOut 4 = .ok (.ifCond .le 63, 3) := by decide +kernel
theorem dX1_takeOut_7 : decode cX1_takeOut 7 = .ok (.aload_n 0, 1) := by decide +kernel
theorem dX1_takeOut_8 : decode cX1_takeOut 8 = .ok (.getfield 56, 3) := by decide +kernel
theorem dX1_takeOut_11 : decode cX1_takeOut 11 = .ok (.bipush 8, 2) := by decide +kernel
theorem dX1_takeOut_13 : decode cX1_takeOut 13 = .ok (.if_icmp .ge 54, 3) := by decide +kernel
theorem dX1_takeOut_16 : decode cX1_takeOut 16 = .ok (.aload_n 0, 1) := by decide +kernel
theorem dX1_takeOut_17 : decode cX1_takeOut 17 = .ok (.getfield 41, 3) := by decide +kernel
theorem dX1_takeOut_20 : decode cX1_takeOut 20 = .ok (.aload_n 0, 1) := by decide +kernel
theorem dX1_takeOut_21 : decode cX1_takeOut 21 = .ok (.getfield 56, 3) := by decide +kernel
theorem dX1_takeOut_24 : decode cX1_takeOut 24 = .ok (.iload_n 1, 1) := by decide +kernel
theorem dX1_takeOut_25 : decode cX1_takeOut 25 = .ok (.iastore, 1) := by decide +kernel
theorem dX1_takeOut_26 : decode cX1_takeOut 26 = .ok (.aload_n 0, 1) := by decide +kernel
theorem dX1_takeOut_27 : decode cX1_takeOut 27 = .ok (.getfield 44, 3) := by decide +kernel
theorem dX1_takeOut_30 : decode cX1_takeOut 30 = .ok (.aload_n 0, 1) := by decide +kernel
theorem dX1_takeOut_31 : decode cX1_takeOut 31 = .ok (.getfield 56, 3) := by decide +kernel
theorem dX1_takeOut_34 : decode cX1_takeOut 34 = .ok (.aload_n 0, 1) := by decide +kernel
theorem dX1_takeOut_35 : decode cX1_takeOut 35 = .ok (.getfield 59, 3) := by decide +kernel
theorem dX1_takeOut_38 : decode cX1_takeOut 38 = .ok (.iastore, 1) := by decide +kernel
theorem dX1_takeOut_39 : decode cX1_takeOut 39 = .ok (.aload_n 0, 1) := by decide +kernel
theorem dX1_takeOut_40 : decode cX1_takeOut 40 = .ok (.getfield 47, 3) := by decide +kernel
theorem dX1_takeOut_43 : decode cX1_takeOut 43 = .ok (.aload_n 0, 1) := by decide +kernel
theorem dX1_takeOut_44 : decode cX1_takeOut 44 = .ok (.getfield 56, 3) := by decide +kernel
theorem dX1_takeOut_47 : decode cX1_takeOut 47 = .ok (.aload_n 0, 1) := by decide +kernel
theorem dX1_takeOut_48 : decode cX1_takeOut 48 = .ok (.getfield 20, 3) := by decide +kernel
theorem dX1_takeOut_51 : decode cX1_takeOut 51 = .ok (.iload_n 1, 1) := by decide +kernel
theorem dX1_takeOut_52 : decode cX1_takeOut 52 = .ok (.iaload, 1) := by decide +kernel
theorem dX1_takeOut_53 : decode cX1_takeOut 53 = .ok (.invokestatic 109, 3) := by decide +kernel
theorem dX1_takeOut_56 : decode cX1_takeOut 56 = .ok (.iastore, 1) := by decide +kernel
theorem dX1_takeOut_57 : decode cX1_takeOut 57 = .ok (.aload_n 0, 1) := by decide +kernel
theorem dX1_takeOut_58 : decode cX1_takeOut 58 = .ok (.dup, 1) := by decide +kernel
theorem dX1_takeOut_59 : decode cX1_takeOut 59 = .ok (.getfield 56, 3) := by decide +kernel
theorem dX1_takeOut_62 : decode cX1_takeOut 62 = .ok (.iconst 1, 1) := by decide +kernel
theorem dX1_takeOut_63 : decode cX1_takeOut 63 = .ok (.iadd, 1) := by decide +kernel
theorem dX1_takeOut_64 : decode cX1_takeOut 64 = .ok (.putfield 56, 3) := by decide +kernel
theorem dX1_takeOut_67 : decode cX1_takeOut 67 = .ok (.aload_n 0, 1) := by decide +kernel
theorem dX1_takeOut_68 : decode cX1_takeOut 68 = .ok (.iconst 0, 1) := by decide +kernel
theorem dX1_takeOut_69 : decode cX1_takeOut 69 = .ok (.putfield 59, 3) := by decide +kernel
theorem dX1_takeOut_72 : decode cX1_takeOut 72 = .ok (.aload_n 0, 1) := by decide +kernel
theorem dX1_takeOut_73 : decode cX1_takeOut 73 = .ok (.ldc 9, 2) := by decide +kernel
theorem dX1_takeOut_75 : decode cX1_takeOut 75 = .ok (.putfield 10, 3) := by decide +kernel
theorem dX1_takeOut_78 : decode cX1_takeOut 78 = .ok (.aload_n 0, 1) := by decide +kernel
theorem dX1_takeOut_79 : decode cX1_takeOut 79 = .ok (.getfield 23, 3) := by decide +kernel
theorem dX1_takeOut_82 : decode cX1_takeOut 82 = .ok (.iload_n 1, 1) := by decide +kernel
theorem dX1_takeOut_83 : decode cX1_takeOut 83 = .ok (.iaload, 1) := by decide +kernel
theorem dX1_takeOut_84 : decode cX1_takeOut 84 = .ok (.aload_n 0, 1) := by decide +kernel
theorem dX1_takeOut_85 : decode cX1_takeOut 85 = .ok (.iload_n 1, 1) := by decide +kernel
theorem dX1_takeOut_86 : decode cX1_takeOut 86 = .ok (.invokevirtual 112, 3) := by decide +kernel
theorem dX1_takeOut_89 : decode cX1_takeOut 89 = .ok (.invokestatic 115, 3) := by decide +kernel
theorem dX1_takeOut_92 : decode cX1_takeOut 92 = .ok (.ifCond .eq 20, 3) := by decide +kernel
theorem dX1_takeOut_95 : decode cX1_takeOut 95 = .ok (.aload_n 0, 1) := by decide +kernel
theorem dX1_takeOut_96 : decode cX1_takeOut 96 = .ok (.getfield 26, 3) := by decide +kernel
theorem dX1_takeOut_99 : decode cX1_takeOut 99 = .ok (.iload_n 1, 1) := by decide +kernel
theorem dX1_takeOut_100 : decode cX1_takeOut 100 = .ok (.iconst 0, 1) := by decide +kernel
theorem dX1_takeOut_101 : decode cX1_takeOut 101 = .ok (.iastore, 1) := by decide +kernel
theorem dX1_takeOut_102 : decode cX1_takeOut 102 = .ok (.aload_n 0, 1) := by decide +kernel
theorem dX1_takeOut_103 : decode cX1_takeOut 103 = .ok (.getfield 29, 3) := by decide +kernel
theorem dX1_takeOut_106 : decode cX1_takeOut 106 = .ok (.iload_n 1, 1) := by decide +kernel
theorem dX1_takeOut_107 : decode cX1_takeOut 107 = .ok (.iconst 1, 1) := by decide +kernel
theorem dX1_takeOut_108 : decode cX1_takeOut 108 = .ok (.iastore, 1) := by decide +kernel
theorem dX1_takeOut_109 : decode cX1_takeOut 109 = .ok (.goto 32, 3) := by decide +kernel
theorem dX1_takeOut_112 : decode cX1_takeOut 112 = .ok (.aload_n 0, 1) := by decide +kernel
theorem dX1_takeOut_113 : decode cX1_takeOut 113 = .ok (.dup, 1) := by decide +kernel
theorem dX1_takeOut_114 : decode cX1_takeOut 114 = .ok (.getfield 68, 3) := by decide +kernel
theorem dX1_takeOut_117 : decode cX1_takeOut 117 = .ok (.aload_n 0, 1) := by decide +kernel
theorem dX1_takeOut_118 : decode cX1_takeOut 118 = .ok (.getfield 23, 3) := by decide +kernel
theorem dX1_takeOut_121 : decode cX1_takeOut 121 = .ok (.iload_n 1, 1) := by decide +kernel
theorem dX1_takeOut_122 : decode cX1_takeOut 122 = .ok (.iaload, 1) := by decide +kernel
theorem dX1_takeOut_123 : decode cX1_takeOut 123 = .ok (.iadd, 1) := by decide +kernel
theorem dX1_takeOut_124 : decode cX1_takeOut 124 = .ok (.putfield 68, 3) := by decide +kernel
theorem dX1_takeOut_127 : decode cX1_takeOut 127 = .ok (.aload_n 0, 1) := by decide +kernel
theorem dX1_takeOut_128 : decode cX1_takeOut 128 = .ok (.getfield 23, 3) := by decide +kernel
theorem dX1_takeOut_131 : decode cX1_takeOut 131 = .ok (.iload_n 1, 1) := by decide +kernel
theorem dX1_takeOut_132 : decode cX1_takeOut 132 = .ok (.iconst 0, 1) := by decide +kernel
theorem dX1_takeOut_133 : decode cX1_takeOut 133 = .ok (.iastore, 1) := by decide +kernel
theorem dX1_takeOut_134 : decode cX1_takeOut 134 = .ok (.aload_n 0, 1) := by decide +kernel
theorem dX1_takeOut_135 : decode cX1_takeOut 135 = .ok (.getfield 26, 3) := by decide +kernel
theorem dX1_takeOut_138 : decode cX1_takeOut 138 = .ok (.iload_n 1, 1) := by decide +kernel
theorem dX1_takeOut_139 : decode cX1_takeOut 139 = .ok (.iconst 2, 1) := by decide +kernel
theorem dX1_takeOut_140 : decode cX1_takeOut 140 = .ok (.iastore, 1) := by decide +kernel
theorem dX1_takeOut_141 : decode cX1_takeOut 141 = .ok (.return_, 1) := by decide +kernel
theorem dX1_develop_0 : decode cX1_develop 0 = .ok (.aload_n 0, 1) := by decide +kernel
theorem dX1_develop_1 : decode cX1_develop 1 = .ok (.dup, 1) := by decide +kernel
theorem dX1_develop_2 : decode cX1_develop 2 = .ok (.getfield 71, 3) := by decide +kernel
theorem dX1_develop_5 : decode cX1_develop 5 = .ok (.aload_n 0, 1) := by decide +kernel
theorem dX1_develop_6 : decode cX1_develop 6 = .ok (.getfield 16, 3) := by decide +kernel
theorem dX1_develop_9 : decode cX1_develop 9 = .ok (.iconst 3, 1) := by decide +kernel
theorem dX1_develop_10 : decode cX1_develop 10 = .ok (.iaload, 1) := by decide +kernel
theorem dX1_develop_11 : decode cX1_develop 11 = .ok (.iload_n 1, 1) := by decide +kernel
theorem dX1_develop_12 : decode cX1_develop 12 = .ok (.imul, 1) := by decide +kernel
theorem dX1_develop_13 : decode cX1_develop 13 = .ok (.aload_n 0, 1) := by decide +kernel
theorem dX1_develop_14 : decode cX1_develop 14 = .ok (.invokevirtual 118, 3) := by decide +kernel
theorem dX1_develop_17 : decode cX1_develop 17 = .ok (.iadd, 1) := by decide +kernel
theorem dX1_develop_18 : decode cX1_develop 18 = .ok (.iadd, 1) := by decide +kernel
theorem dX1_develop_19 : decode cX1_develop 19 = .ok (.putfield 71, 3) := by decide +kernel
theorem dX1_develop_22 : decode cX1_develop 22 = .ok (.aload_n 0, 1) := by decide +kernel
theorem dX1_develop_23 : decode cX1_develop 23 = .ok (.iconst 0, 1) := by decide +kernel
theorem dX1_develop_24 : decode cX1_develop 24 = .ok (.putfield 56, 3) := by decide +kernel
theorem dX1_develop_27 : decode cX1_develop 27 = .ok (.return_, 1) := by decide +kernel
theorem dX1_reopen_0 : decode cX1_reopen 0 = .ok (.aload_n 0, 1) := by decide +kernel
theorem dX1_reopen_1 : decode cX1_reopen 1 = .ok (.dup, 1) := by decide +kernel
theorem dX1_reopen_2 : decode cX1_reopen 2 = .ok (.getfield 65, 3) := by decide +kernel
theorem dX1_reopen_5 : decode cX1_reopen 5 = .ok (.aload_n 0, 1) := by decide +kernel
theorem dX1_reopen_6 : decode cX1_reopen 6 = .ok (.getfield 35, 3) := by decide +kernel
theorem dX1_reopen_9 : decode cX1_reopen 9 = .ok (.iload_n 1, 1) := by decide +kernel
theorem dX1_reopen_10 : decode cX1_reopen 10 = .ok (.iaload, 1) := by decide +kernel
theorem dX1_reopen_11 : decode cX1_reopen 11 = .ok (.isub, 1) := by decide +kernel
theorem dX1_reopen_12 : decode cX1_reopen 12 = .ok (.putfield 65, 3) := by decide +kernel
theorem dX1_reopen_15 : decode cX1_reopen 15 = .ok (.aload_n 0, 1) := by decide +kernel
theorem dX1_reopen_16 : decode cX1_reopen 16 = .ok (.dup, 1) := by decide +kernel
theorem dX1_reopen_17 : decode cX1_reopen 17 = .ok (.getfield 68, 3) := by decide +kernel
theorem dX1_reopen_20 : decode cX1_reopen 20 = .ok (.aload_n 0, 1) := by decide +kernel
theorem dX1_reopen_21 : decode cX1_reopen 21 = .ok (.getfield 35, 3) := by decide +kernel
theorem dX1_reopen_24 : decode cX1_reopen 24 = .ok (.iload_n 1, 1) := by decide +kernel
theorem dX1_reopen_25 : decode cX1_reopen 25 = .ok (.iaload, 1) := by decide +kernel
theorem dX1_reopen_26 : decode cX1_reopen 26 = .ok (.iadd, 1) := by decide +kernel
theorem dX1_reopen_27 : decode cX1_reopen 27 = .ok (.putfield 68, 3) := by decide +kernel
theorem dX1_reopen_30 : decode cX1_reopen 30 = .ok (.aload_n 0, 1) := by decide +kernel
theorem dX1_reopen_31 : decode cX1_reopen 31 = .ok (.getfield 38, 3) := by decide +kernel
theorem dX1_reopen_34 : decode cX1_reopen 34 = .ok (.iload_n 1, 1) := by decide +kernel
theorem dX1_reopen_35 : decode cX1_reopen 35 = .ok (.ldc 9, 2) := by decide +kernel
theorem dX1_reopen_37 : decode cX1_reopen 37 = .ok (.iastore, 1) := by decide +kernel
theorem dX1_reopen_38 : decode cX1_reopen 38 = .ok (.return_, 1) := by decide +kernel
theorem dX2_init_0 : decode cX2_init 0 = .ok (.aload_n 0, 1) := by decide +kernel
theorem dX2_init_1 : decode cX2_init 1 = .ok (.invokespecial 3, 3) := by decide +kernel
theorem dX2_init_4 : decode cX2_init 4 = .ok (.aload_n 0, 1) := by decide +kernel
theorem dX2_init_5 : decode cX2_init 5 = .ok (.bipush 20, 2) := by decide +kernel
theorem dX2_init_7 : decode cX2_init 7 = .ok (.anewarray 9, 3) := by decide +kernel
theorem dX2_init_10 : decode cX2_init 10 = .ok (.putfield 11, 3) := by decide +kernel
theorem dX2_init_13 : decode cX2_init 13 = .ok (.iconst 0, 1) := by decide +kernel
theorem dX2_init_14 : decode cX2_init 14 = .ok (.istore_n 1, 1) := by decide +kernel
theorem dX2_init_15 : decode cX2_init 15 = .ok (.iload_n 1, 1) := by decide +kernel
theorem dX2_init_16 : decode cX2_init 16 = .ok (.bipush 20, 2) := by decide +kernel
theorem dX2_init_18 : decode cX2_init 18 = .ok (.if_icmp .ge 22, 3) := by decide +kernel
theorem dX2_init_21 : decode cX2_init 21 = .ok (.aload_n 0, 1) := by decide +kernel
theorem dX2_init_22 : decode cX2_init 22 = .ok (.getfield 11, 3) := by decide +kernel
theorem dX2_init_25 : decode cX2_init 25 = .ok (.iload_n 1, 1) := by decide +kernel
theorem dX2_init_26 : decode cX2_init 26 = .ok (.new 9, 3) := by decide +kernel
theorem dX2_init_29 : decode cX2_init 29 = .ok (.dup, 1) := by decide +kernel
theorem dX2_init_30 : decode cX2_init 30 = .ok (.invokespecial 17, 3) := by decide +kernel
theorem dX2_init_33 : decode cX2_init 33 = .ok (.aastore, 1) := by decide +kernel
theorem dX2_init_34 : decode cX2_init 34 = .ok (.iinc 1 1, 3) := by decide +kernel
theorem dX2_init_37 : decode cX2_init 37 = .ok (.goto (-22), 3) := by decide +kernel
theorem dX2_init_40 : decode cX2_init 40 = .ok (.return_, 1) := by decide +kernel
theorem dX2_keep_0 : decode cX2_keep 0 = .ok (.aload_n 0, 1) := by decide +kernel
theorem dX2_keep_1 : decode cX2_keep 1 = .ok (.getfield 11, 3) := by decide +kernel
theorem dX2_keep_4 : decode cX2_keep 4 = .ok (.aload_n 0, 1) := by decide +kernel
theorem dX2_keep_5 : decode cX2_keep 5 = .ok (.getfield 18, 3) := by decide +kernel
theorem dX2_keep_8 : decode cX2_keep 8 = .ok (.aaload, 1) := by decide +kernel
theorem dX2_keep_9 : decode cX2_keep 9 = .ok (.aload_n 1, 1) := by decide +kernel
theorem dX2_keep_10 : decode cX2_keep 10 = .ok (.invokevirtual 22, 3) := by decide +kernel
theorem dX2_keep_13 : decode cX2_keep 13 = .ok (.aload_n 0, 1) := by decide +kernel
theorem dX2_keep_14 : decode cX2_keep 14 = .ok (.aload_n 0, 1) := by decide +kernel
theorem dX2_keep_15 : decode cX2_keep 15 = .ok (.getfield 18, 3) := by decide +kernel
theorem dX2_keep_18 : decode cX2_keep 18 = .ok (.iconst 1, 1) := by decide +kernel
theorem dX2_keep_19 : decode cX2_keep 19 = .ok (.iadd, 1) := by decide +kernel
theorem dX2_keep_20 : decode cX2_keep 20 = .ok (.bipush 20, 2) := by decide +kernel
theorem dX2_keep_22 : decode cX2_keep 22 = .ok (.if_icmp .ge 12, 3) := by decide +kernel
theorem dX2_keep_25 : decode cX2_keep 25 = .ok (.aload_n 0, 1) := by decide +kernel
theorem dX2_keep_26 : decode cX2_keep 26 = .ok (.getfield 18, 3) := by decide +kernel
theorem dX2_keep_29 : decode cX2_keep 29 = .ok (.iconst 1, 1) := by decide +kernel
theorem dX2_keep_30 : decode cX2_keep 30 = .ok (.iadd, 1) := by decide +kernel
theorem dX2_keep_31 : decode cX2_keep 31 = .ok (.goto 4, 3) := by decide +kernel
theorem dX2_keep_34 : decode cX2_keep 34 = .ok (.iconst 0, 1) := by decide +kernel
theorem dX2_keep_35 : decode cX2_keep 35 = .ok (.putfield 18, 3) := by decide +kernel
theorem dX2_keep_38 : decode cX2_keep 38 = .ok (.aload_n 0, 1) := by decide +kernel
theorem dX2_keep_39 : decode cX2_keep 39 = .ok (.aload_n 0, 1) := by decide +kernel
theorem dX2_keep_40 : decode cX2_keep 40 = .ok (.getfield 26, 3) := by decide +kernel
theorem dX2_keep_43 : decode cX2_keep 43 = .ok (.iconst 1, 1) := by decide +kernel
theorem dX2_keep_44 : decode cX2_keep 44 = .ok (.iadd, 1) := by decide +kernel
theorem dX2_keep_45 : decode cX2_keep 45 = .ok (.bipush 20, 2) := by decide +kernel
theorem dX2_keep_47 : decode cX2_keep 47 = .ok (.invokestatic 29, 3) := by decide +kernel
theorem dX2_keep_50 : decode cX2_keep 50 = .ok (.putfield 26, 3) := by decide +kernel
theorem dX2_keep_53 : decode cX2_keep 53 = .ok (.return_, 1) := by decide +kernel
theorem dX2_stepBack_0 : decode cX2_stepBack 0 = .ok (.aload_n 0, 1) := by decide +kernel
theorem dX2_stepBack_1 : decode cX2_stepBack 1 = .ok (.getfield 26, 3) := by decide +kernel
theorem dX2_stepBack_4 : decode cX2_stepBack 4 = .ok (.ifCond .ne 5, 3) := by decide +kernel
theorem dX2_stepBack_7 : decode cX2_stepBack 7 = .ok (.iconst 0, 1) := by decide +kernel
theorem dX2_stepBack_8 : decode cX2_stepBack 8 = .ok (.ireturn, 1) := by decide +kernel
theorem dX2_stepBack_9 : decode cX2_stepBack 9 = .ok (.aload_n 0, 1) := by decide +kernel
theorem dX2_stepBack_10 : decode cX2_stepBack 10 = .ok (.aload_n 0, 1) := by decide +kernel
theorem dX2_stepBack_11 : decode cX2_stepBack 11 = .ok (.getfield 18, 3) := by decide +kernel
theorem dX2_stepBack_14 : decode cX2_stepBack 14 = .ok (.ifCond .le 12, 3) := by decide +kernel
theorem dX2_stepBack_17 : decode cX2_stepBack 17 = .ok (.aload_n 0, 1) := by decide +kernel
theorem dX2_stepBack_18 : decode cX2_stepBack 18 = .ok (.getfield 18, 3) := by decide +kernel
theorem dX2_stepBack_21 : decode cX2_stepBack 21 = .ok (.iconst 1, 1) := by decide +kernel
theorem dX2_stepBack_22 : decode cX2_stepBack 22 = .ok (.isub, 1) := by decide +kernel
theorem dX2_stepBack_23 : decode cX2_stepBack 23 = .ok (.goto 5, 3) := by decide +kernel
theorem dX2_stepBack_26 : decode cX2_stepBack 26 = .ok (.bipush 19, 2) := by decide +kernel
theorem dX2_stepBack_28 : decode cX2_stepBack 28 = .ok (.putfield 18, 3) := by decide +kernel
theorem dX2_stepBack_31 : decode cX2_stepBack 31 = .ok (.aload_n 0, 1) := by decide +kernel
theorem dX2_stepBack_32 : decode cX2_stepBack 32 = .ok (.dup, 1) := by decide +kernel
theorem dX2_stepBack_33 : decode cX2_stepBack 33 = .ok (.getfield 26, 3) := by decide +kernel
theorem dX2_stepBack_36 : decode cX2_stepBack 36 = .ok (.iconst 1, 1) := by decide +kernel
theorem dX2_stepBack_37 : decode cX2_stepBack 37 = .ok (.isub, 1) := by decide +kernel
theorem dX2_stepBack_38 : decode cX2_stepBack 38 = .ok (.putfield 26, 3) := by decide +kernel
theorem dX2_stepBack_41 : decode cX2_stepBack 41 = .ok (.aload_n 1, 1) := by decide +kernel
theorem dX2_stepBack_42 : decode cX2_stepBack 42 = .ok (.aload_n 0, 1) := by decide +kernel
theorem dX2_stepBack_43 : decode cX2_stepBack 43 = .ok (.getfield 11, 3) := by decide +kernel
theorem dX2_stepBack_46 : decode cX2_stepBack 46 = .ok (.aload_n 0, 1) := by decide +kernel
theorem dX2_stepBack_47 : decode cX2_stepBack 47 = .ok (.getfield 18, 3) := by decide +kernel
theorem dX2_stepBack_50 : decode cX2_stepBack 50 = .ok (.aaload, 1) := by decide +kernel
theorem dX2_stepBack_51 : decode cX2_stepBack 51 = .ok (.invokevirtual 22, 3) := by decide +kernel
theorem dX2_stepBack_54 : decode cX2_stepBack 54 = .ok (.iconst 1, 1) := by decide +kernel
theorem dX2_stepBack_55 : decode cX2_stepBack 55 = .ok (.ireturn, 1) := by decide +kernel
theorem dX2_forget_0 : decode cX2_forget 0 = .ok (.aload_n 0, 1) := by decide +kernel
theorem dX2_forget_1 : decode cX2_forget 1 = .ok (.iconst 0, 1) := by decide +kernel
theorem dX2_forget_2 : decode cX2_forget 2 = .ok (.putfield 26, 3) := by decide +kernel
theorem dX2_forget_5 : decode cX2_forget 5 = .ok (.return_, 1) := by decide +kernel
theorem dX3_isKind_0 : decode cX3_isKind 0 = .ok (.iload_n 0, 1) := by decide +kernel
theorem dX3_isKind_1 : decode cX3_isKind 1 = .ok (.ifCond .lt 15, 3) := by decide +kernel
theorem dX3_isKind_4 : decode cX3_isKind 4 = .ok (.iload_n 0, 1) := by decide +kernel
theorem dX3_isKind_5 : decode cX3_isKind 5 = .ok (.getstatic 9, 3) := by decide +kernel
theorem dX3_isKind_8 : decode cX3_isKind 8 = .ok (.arraylength, 1) := by decide +kernel
theorem dX3_isKind_9 : decode cX3_isKind 9 = .ok (.if_icmp .ge 7, 3) := by decide +kernel
theorem dX3_isKind_12 : decode cX3_isKind 12 = .ok (.iconst 1, 1) := by decide +kernel
theorem dX3_isKind_13 : decode cX3_isKind 13 = .ok (.goto 4, 3) := by decide +kernel
theorem dX3_isKind_16 : decode cX3_isKind 16 = .ok (.iconst 0, 1) := by decide +kernel
theorem dX3_isKind_17 : decode cX3_isKind 17 = .ok (.ireturn, 1) := by decide +kernel
theorem dX3_isOf_0 : decode cX3_isOf 0 = .ok (.iload_n 0, 1) := by decide +kernel
theorem dX3_isOf_1 : decode cX3_isOf 1 = .ok (.invokestatic 15, 3) := by decide +kernel
theorem dX3_isOf_4 : decode cX3_isOf 4 = .ok (.ifCond .eq 27, 3) := by decide +kernel
theorem dX3_isOf_7 : decode cX3_isOf 7 = .ok (.iload_n 1, 1) := by decide +kernel
theorem dX3_isOf_8 : decode cX3_isOf 8 = .ok (.invokestatic 15, 3) := by decide +kernel
theorem dX3_isOf_11 : decode cX3_isOf 11 = .ok (.ifCond .eq 20, 3) := by decide +kernel
theorem dX3_isOf_14 : decode cX3_isOf 14 = .ok (.getstatic 9, 3) := by decide +kernel
theorem dX3_isOf_17 : decode cX3_isOf 17 = .ok (.iload_n 0, 1) := by decide +kernel
theorem dX3_isOf_18 : decode cX3_isOf 18 = .ok (.iaload, 1) := by decide +kernel
theorem dX3_isOf_19 : decode cX3_isOf 19 = .ok (.iload_n 1, 1) := by decide +kernel
theorem dX3_isOf_20 : decode cX3_isOf 20 = .ok (.ishr, 1) := by decide +kernel
theorem dX3_isOf_21 : decode cX3_isOf 21 = .ok (.iconst 1, 1) := by decide +kernel
theorem dX3_isOf_22 : decode cX3_isOf 22 = .ok (.iand, 1) := by decide +kernel
theorem dX3_isOf_23 : decode cX3_isOf 23 = .ok (.iconst 1, 1) := by decide +kernel
theorem dX3_isOf_24 : decode cX3_isOf 24 = .ok (.if_icmp .ne 7, 3) := by decide +kernel
theorem dX3_isOf_27 : decode cX3_isOf 27 = .ok (.iconst 1, 1) := by decide +kernel
theorem dX3_isOf_28 : decode cX3_isOf 28 = .ok (.goto 4, 3) := by decide +kernel
theorem dX3_isOf_31 : decode cX3_isOf 31 = .ok (.iconst 0, 1) := by decide +kernel
theorem dX3_isOf_32 : decode cX3_isOf 32 = .ok (.ireturn, 1) := by decide +kernel
theorem dX3_familyOf_0 : decode cX3_familyOf 0 = .ok (.iload_n 0, 1) := by decide +kernel
theorem dX3_familyOf_1 : decode cX3_familyOf 1 = .ok (.iconst 4, 1) := by decide +kernel
theorem dX3_familyOf_2 : decode cX3_familyOf 2 = .ok (.invokestatic 19, 3) := by decide +kernel
theorem dX3_familyOf_5 : decode cX3_familyOf 5 = .ok (.ifCond .eq 7, 3) := by decide +kernel
theorem dX3_familyOf_8 : decode cX3_familyOf 8 = .ok (.iconst 1, 1) := by decide +kernel
theorem dX3_familyOf_9 : decode cX3_familyOf 9 = .ok (.goto 4, 3) := by decide +kernel
theorem dX3_familyOf_12 : decode cX3_familyOf 12 = .ok (.iconst 0, 1) := by decide +kernel
theorem dX3_familyOf_13 : decode cX3_familyOf 13 = .ok (.ireturn, 1) := by decide +kernel
theorem dX3_leadOf_0 : decode cX3_leadOf 0 = .ok (.iload_n 0, 1) := by decide +kernel
theorem dX3_leadOf_1 : decode cX3_leadOf 1 = .ok (.iconst 4, 1) := by decide +kernel
theorem dX3_leadOf_2 : decode cX3_leadOf 2 = .ok (.invokestatic 19, 3) := by decide +kernel
theorem dX3_leadOf_5 : decode cX3_leadOf 5 = .ok (.ifCond .eq 9, 3) := by decide +kernel
theorem dX3_leadOf_8 : decode cX3_leadOf 8 = .ok (.iconst 2, 1) := by decide +kernel
theorem dX3_leadOf_9 : decode cX3_leadOf 9 = .ok (.iload_n 1, 1) := by decide +kernel
theorem dX3_leadOf_10 : decode cX3_leadOf 10 = .ok (.imul, 1) := by decide +kernel
theorem dX3_leadOf_11 : decode cX3_leadOf 11 = .ok (.goto 4, 3) := by decide +kernel
theorem dX3_leadOf_14 : decode cX3_leadOf 14 = .ok (.iload_n 1, 1) := by decide +kernel
theorem dX3_leadOf_15 : decode cX3_leadOf 15 = .ok (.ireturn, 1) := by decide +kernel
theorem dX3_slateOf_0 : decode cX3_slateOf 0 = .ok (.iload_n 0, 1) := by decide +kernel
theorem dX3_slateOf_1 : decode cX3_slateOf 1 = .ok (.iconst 3, 1) := by decide +kernel
theorem dX3_slateOf_2 : decode cX3_slateOf 2 = .ok (.invokestatic 19, 3) := by decide +kernel
theorem dX3_slateOf_5 : decode cX3_slateOf 5 = .ok (.ifCond .eq 7, 3) := by decide +kernel
theorem dX3_slateOf_8 : decode cX3_slateOf 8 = .ok (.iconst 1, 1) := by decide +kernel
theorem dX3_slateOf_9 : decode cX3_slateOf 9 = .ok (.goto 4, 3) := by decide +kernel
theorem dX3_slateOf_12 : decode cX3_slateOf 12 = .ok (.iconst 0, 1) := by decide +kernel
theorem dX3_slateOf_13 : decode cX3_slateOf 13 = .ok (.ireturn, 1) := by decide +kernel
theorem dX3_leastKept_0 : decode cX3_leastKept 0 = .ok (.iload_n 0, 1) := by decide +kernel
theorem dX3_leastKept_1 : decode cX3_leastKept 1 = .ok (.iconst 5, 1) := by decide +kernel
theorem dX3_leastKept_2 : decode cX3_leastKept 2 = .ok (.invokestatic 19, 3) := by decide +kernel
theorem dX3_leastKept_5 : decode cX3_leastKept 5 = .ok (.ifCond .eq 6, 3) := by decide +kernel
theorem dX3_leastKept_8 : decode cX3_leastKept 8 = .ok (.ldc 23, 2) := by decide +kernel
theorem dX3_leastKept_10 : decode cX3_leastKept 10 = .ok (.ireturn, 1) := by decide +kernel
theorem dX3_leastKept_11 : decode cX3_leastKept 11 = .ok (.iconst 1, 1) := by decide +kernel
theorem dX3_leastKept_12 : decode cX3_leastKept 12 = .ok (.iload_n 0, 1) := by decide +kernel
theorem dX3_leastKept_13 : decode cX3_leastKept 13 = .ok (.iconst 2, 1) := by decide +kernel
theorem dX3_leastKept_14 : decode cX3_leastKept 14 = .ok (.invokestatic 19, 3) := by decide +kernel
theorem dX3_leastKept_17 : decode cX3_leastKept 17 = .ok (.ifCond .eq 9, 3) := by decide +kernel
theorem dX3_leastKept_20 : decode cX3_leastKept 20 = .ok (.iload_n 1, 1) := by decide +kernel
theorem dX3_leastKept_21 : decode cX3_leastKept 21 = .ok (.iconst 2, 1) := by decide +kernel
theorem dX3_leastKept_22 : decode cX3_leastKept 22 = .ok (.idiv, 1) := by decide +kernel
theorem dX3_leastKept_23 : decode cX3_leastKept 23 = .ok (.goto 4, 3) := by decide +kernel
theorem dX3_leastKept_26 : decode cX3_leastKept 26 = .ok (.iload_n 1, 1) := by decide +kernel
theorem dX3_leastKept_27 : decode cX3_leastKept 27 = .ok (.invokestatic 24, 3) := by decide +kernel
theorem dX3_leastKept_30 : decode cX3_leastKept 30 = .ok (.ireturn, 1) := by decide +kernel
theorem dX3_isKept_0 : decode cX3_isKept 0 = .ok (.iload_n 1, 1) := by decide +kernel
theorem dX3_isKept_1 : decode cX3_isKept 1 = .ok (.ldc 23, 2) := by decide +kernel
theorem dX3_isKept_3 : decode cX3_isKept 3 = .ok (.if_icmp .eq 12, 3) := by decide +kernel
theorem dX3_isKept_6 : decode cX3_isKept 6 = .ok (.iload_n 0, 1) := by decide +kernel
theorem dX3_isKept_7 : decode cX3_isKept 7 = .ok (.iload_n 1, 1) := by decide +kernel
theorem dX3_isKept_8 : decode cX3_isKept 8 = .ok (.if_icmp .lt 7, 3) := by decide +kernel
theorem dX3_isKept_11 : decode cX3_isKept 11 = .ok (.iconst 1, 1) := by decide +kernel
theorem dX3_isKept_12 : decode cX3_isKept 12 = .ok (.goto 4, 3) := by decide +kernel
theorem dX3_isKept_15 : decode cX3_isKept 15 = .ok (.iconst 0, 1) := by decide +kernel
theorem dX3_isKept_16 : decode cX3_isKept 16 = .ok (.ireturn, 1) := by decide +kernel
theorem dX3_ofLetter_0 : decode cX3_ofLetter 0 = .ok (.iload_n 0, 1) := by decide +kernel
theorem dX3_ofLetter_1 : decode cX3_ofLetter 1 = .ok (.tableswitch 81 102 115 #[73, 75, 81, 81, 81, 81, 81, 81, 71, 81, 81, 81, 77, 79], 71) := by decide +kernel
theorem dX3_ofLetter_72 : decode cX3_ofLetter 72 = .ok (.iconst 1, 1) := by decide +kernel
theorem dX3_ofLetter_73 : decode cX3_ofLetter 73 = .ok (.ireturn, 1) := by decide +kernel
theorem dX3_ofLetter_74 : decode cX3_ofLetter 74 = .ok (.iconst 2, 1) := by decide +kernel
theorem dX3_ofLetter_75 : decode cX3_ofLetter 75 = .ok (.ireturn, 1) := by decide +kernel
theorem dX3_ofLetter_76 : decode cX3_ofLetter 76 = .ok (.iconst 3, 1) := by decide +kernel
theorem dX3_ofLetter_77 : decode cX3_ofLetter 77 = .ok (.ireturn, 1) := by decide +kernel
theorem dX3_ofLetter_78 : decode cX3_ofLetter 78 = .ok (.iconst 4, 1) := by decide +kernel
theorem dX3_ofLetter_79 : decode cX3_ofLetter 79 = .ok (.ireturn, 1) := by decide +kernel
theorem dX3_ofLetter_80 : decode cX3_ofLetter 80 = .ok (.iconst 5, 1) := by decide +kernel
theorem dX3_ofLetter_81 : decode cX3_ofLetter 81 = .ok (.ireturn, 1) := by decide +kernel
theorem dX3_ofLetter_82 : decode cX3_ofLetter 82 = .ok (.ldc 23, 2) := by decide +kernel
theorem dX3_ofLetter_84 : decode cX3_ofLetter 84 = .ok (.ireturn, 1) := by decide +kernel
theorem dX4_init_0 : decode cX4_init 0 = .ok (.aload_n 0, 1) := by decide +kernel
theorem dX4_init_1 : decode cX4_init 1 = .ok (.invokespecial 3, 3) := by decide +kernel
theorem dX4_init_4 : decode cX4_init 4 = .ok (.aload_n 0, 1) := by decide +kernel
theorem dX4_init_5 : decode cX4_init 5 = .ok (.bipush 8, 2) := by decide +kernel
theorem dX4_init_7 : decode cX4_init 7 = .ok (.newarray .int, 2) := by decide +kernel
theorem dX4_init_9 : decode cX4_init 9 = .ok (.putfield 9, 3) := by decide +kernel
theorem dX4_init_12 : decode cX4_init 12 = .ok (.aload_n 0, 1) := by decide +kernel
theorem dX4_init_13 : decode cX4_init 13 = .ok (.bipush 8, 2) := by decide +kernel
theorem dX4_init_15 : decode cX4_init 15 = .ok (.newarray .int, 2) := by decide +kernel
theorem dX4_init_17 : decode cX4_init 17 = .ok (.putfield 15, 3) := by decide +kernel
theorem dX4_init_20 : decode cX4_init 20 = .ok (.aload_n 0, 1) := by decide +kernel
theorem dX4_init_21 : decode cX4_init 21 = .ok (.sipush 256, 3) := by decide +kernel
theorem dX4_init_24 : decode cX4_init 24 = .ok (.newarray .int, 2) := by decide +kernel
theorem dX4_init_26 : decode cX4_init 26 = .ok (.putfield 18, 3) := by decide +kernel
theorem dX4_init_29 : decode cX4_init 29 = .ok (.aload_n 0, 1) := by decide +kernel
theorem dX4_init_30 : decode cX4_init 30 = .ok (.sipush 256, 3) := by decide +kernel
theorem dX4_init_33 : decode cX4_init 33 = .ok (.newarray .int, 2) := by decide +kernel
theorem dX4_init_35 : decode cX4_init 35 = .ok (.putfield 21, 3) := by decide +kernel
theorem dX4_init_38 : decode cX4_init 38 = .ok (.return_, 1) := by decide +kernel
theorem dX4_byLab_0 : decode cX4_byLab 0 = .ok (.iconst 0, 1) := by decide +kernel
theorem dX4_byLab_1 : decode cX4_byLab 1 = .ok (.istore_n 2, 1) := by decide +kernel
theorem dX4_byLab_2 : decode cX4_byLab 2 = .ok (.iconst 0, 1) := by decide +kernel
theorem dX4_byLab_3 : decode cX4_byLab 3 = .ok (.istore_n 3, 1) := by decide +kernel
theorem dX4_byLab_4 : decode cX4_byLab 4 = .ok (.iload_n 3, 1) := by decide +kernel
theorem dX4_byLab_5 : decode cX4_byLab 5 = .ok (.aload_n 1, 1) := by decide +kernel
theorem dX4_byLab_6 : decode cX4_byLab 6 = .ok (.getfield 24, 3) := by decide +kernel
theorem dX4_byLab_9 : decode cX4_byLab 9 = .ok (.if_icmp .ge 64, 3) := by decide +kernel
theorem dX4_byLab_12 : decode cX4_byLab 12 = .ok (.aload_n 0, 1) := by decide +kernel
theorem dX4_byLab_13 : decode cX4_byLab 13 = .ok (.aload_n 1, 1) := by decide +kernel
theorem dX4_byLab_14 : decode cX4_byLab 14 = .ok (.iload_n 3, 1) := by decide +kernel
theorem dX4_byLab_15 : decode cX4_byLab 15 = .ok (.iload_n 2, 1) := by decide +kernel
theorem dX4_byLab_16 : decode cX4_byLab 16 = .ok (.invokevirtual 30, 3) := by decide +kernel
theorem dX4_byLab_19 : decode cX4_byLab 19 = .ok (.istore 4, 2) := by decide +kernel
theorem dX4_byLab_21 : decode cX4_byLab 21 = .ok (.iload 4, 2) := by decide +kernel
theorem dX4_byLab_23 : decode cX4_byLab 23 = .ok (.iload_n 2, 1) := by decide +kernel
theorem dX4_byLab_24 : decode cX4_byLab 24 = .ok (.if_icmp .ne 27, 3) := by decide +kernel
theorem dX4_byLab_27 : decode cX4_byLab 27 = .ok (.aload_n 0, 1) := by decide +kernel
theorem dX4_byLab_28 : decode cX4_byLab 28 = .ok (.getfield 9, 3) := by decide +kernel
theorem dX4_byLab_31 : decode cX4_byLab 31 = .ok (.iload 4, 2) := by decide +kernel
theorem dX4_byLab_33 : decode cX4_byLab 33 = .ok (.iconst 0, 1) := by decide +kernel
theorem dX4_byLab_34 : decode cX4_byLab 34 = .ok (.iastore, 1) := by decide +kernel
theorem dX4_byLab_35 : decode cX4_byLab 35 = .ok (.aload_n 0, 1) := by decide +kernel
theorem dX4_byLab_36 : decode cX4_byLab 36 = .ok (.getfield 15, 3) := by decide +kernel
theorem dX4_byLab_39 : decode cX4_byLab 39 = .ok (.iload 4, 2) := by decide +kernel
theorem dX4_byLab_41 : decode cX4_byLab 41 = .ok (.aload_n 1, 1) := by decide +kernel
theorem dX4_byLab_42 : decode cX4_byLab 42 = .ok (.getfield 34, 3) := by decide +kernel
theorem dX4_byLab_45 : decode cX4_byLab 45 = .ok (.iload_n 3, 1) := by decide +kernel
theorem dX4_byLab_46 : decode cX4_byLab 46 = .ok (.iaload, 1) := by decide +kernel
theorem dX4_byLab_47 : decode cX4_byLab 47 = .ok (.iastore, 1) := by decide +kernel
theorem dX4_byLab_48 : decode cX4_byLab 48 = .ok (.iinc 2 1, 3) := by decide +kernel
theorem dX4_byLab_51 : decode cX4_byLab 51 = .ok (.aload_n 0, 1) := by decide +kernel
theorem dX4_byLab_52 : decode cX4_byLab 52 = .ok (.getfield 9, 3) := by decide +kernel
theorem dX4_byLab_55 : decode cX4_byLab 55 = .ok (.iload 4, 2) := by decide +kernel
theorem dX4_byLab_57 : decode cX4_byLab 57 = .ok (.dup2, 1) := by decide +kernel
theorem dX4_byLab_58 : decode cX4_byLab 58 = .ok (.iaload, 1) := by decide +kernel
theorem dX4_byLab_59 : decode cX4_byLab 59 = .ok (.aload_n 1, 1) := by decide +kernel
theorem dX4_byLab_60 : decode cX4_byLab 60 = .ok (.getfield 37, 3) := by decide +kernel
theorem dX4_byLab_63 : decode cX4_byLab 63 = .ok (.iload_n 3, 1) := by decide +kernel
theorem dX4_byLab_64 : decode cX4_byLab 64 = .ok (.iaload, 1) := by decide +kernel
theorem dX4_byLab_65 : decode cX4_byLab 65 = .ok (.iadd, 1) := by decide +kernel
theorem dX4_byLab_66 : decode cX4_byLab 66 = .ok (.iastore, 1) := by decide +kernel
theorem dX4_byLab_67 : decode cX4_byLab 67 = .ok (.iinc 3 1, 3) := by decide +kernel
theorem dX4_byLab_70 : decode cX4_byLab 70 = .ok (.goto (-66), 3) := by decide +kernel
theorem dX4_byLab_73 : decode cX4_byLab 73 = .ok (.iload_n 2, 1) := by decide +kernel
theorem dX4_byLab_74 : decode cX4_byLab 74 = .ok (.ireturn, 1) := by decide +kernel
theorem dX4_firstWithRoom_0 : decode cX4_firstWithRoom 0 = .ok (.iconst 0, 1) := by decide +kernel
theorem dX4_firstWithRoom_1 : decode cX4_firstWithRoom 1 = .ok (.istore 4, 2) := by decide +kernel
theorem dX4_firstWithRoom_3 : decode cX4_firstWithRoom 3 = .ok (.iload 4, 2) := by decide +kernel
theorem dX4_firstWithRoom_5 : decode cX4_firstWithRoom 5 = .ok (.iload_n 3, 1) := by decide +kernel
theorem dX4_firstWithRoom_6 : decode cX4_firstWithRoom 6 = .ok (.if_icmp .ge 51, 3) := by decide +kernel
theorem dX4_firstWithRoom_9 : decode cX4_firstWithRoom 9 = .ok (.aload_n 0, 1) := by decide +kernel
theorem dX4_firstWithRoom_10 : decode cX4_firstWithRoom 10 = .ok (.getfield 15, 3) := by decide +kernel
theorem dX4_firstWithRoom_13 : decode cX4_firstWithRoom 13 = .ok (.iload 4, 2) := by decide +kernel
theorem dX4_firstWithRoom_15 : decode cX4_firstWithRoom 15 = .ok (.iaload, 1) := by decide +kernel
theorem dX4_firstWithRoom_16 : decode cX4_firstWithRoom 16 = .ok (.aload_n 1, 1) := by decide +kernel
theorem dX4_firstWithRoom_17 : decode cX4_firstWithRoom 17 = .ok (.getfield 34, 3) := by decide +kernel
theorem dX4_firstWithRoom_20 : decode cX4_firstWithRoom 20 = .ok (.iload_n 2, 1) := by decide +kernel
theorem dX4_firstWithRoom_21 : decode cX4_firstWithRoom 21 = .ok (.iaload, 1) := by decide +kernel
theorem dX4_firstWithRoom_22 : decode cX4_firstWithRoom 22 = .ok (.if_icmp .ne 29, 3) := by decide +kernel
theorem dX4_firstWithRoom_25 : decode cX4_firstWithRoom 25 = .ok (.aload_n 0, 1) := by decide +kernel
theorem dX4_firstWithRoom_26 : decode cX4_firstWithRoom 26 = .ok (.getfield 9, 3) := by decide +kernel
theorem dX4_firstWithRoom_29 : decode cX4_firstWithRoom 29 = .ok (.iload 4, 2) := by decide +kernel
theorem dX4_firstWithRoom_31 : decode cX4_firstWithRoom 31 = .ok (.iaload, 1) := by decide +kernel
theorem dX4_firstWithRoom_32 : decode cX4_firstWithRoom 32 = .ok (.aload_n 1, 1) := by decide +kernel
theorem dX4_firstWithRoom_33 : decode cX4_firstWithRoom 33 = .ok (.getfield 37, 3) := by decide +kernel
theorem dX4_firstWithRoom_36 : decode cX4_firstWithRoom 36 = .ok (.iload_n 2, 1) := by decide +kernel
theorem dX4_firstWithRoom_37 : decode cX4_firstWithRoom 37 = .ok (.iaload, 1) := by decide +kernel
theorem dX4_firstWithRoom_38 : decode cX4_firstWithRoom 38 = .ok (.iadd, 1) := by decide +kernel
theorem dX4_firstWithRoom_39 : decode cX4_firstWithRoom 39 = .ok (.aload_n 1, 1) := by decide +kernel
theorem dX4_firstWithRoom_40 : decode cX4_firstWithRoom 40 = .ok (.getfield 40, 3) := by decide +kernel
theorem dX4_firstWithRoom_43 : decode cX4_firstWithRoom 43 = .ok (.iconst 2, 1) := by decide +kernel
theorem dX4_firstWithRoom_44 : decode cX4_firstWithRoom 44 = .ok (.iaload, 1) := by decide +kernel
theorem dX4_firstWithRoom_45 : decode cX4_firstWithRoom 45 = .ok (.if_icmp .gt 6, 3) := by decide +kernel
theorem dX4_firstWithRoom_48 : decode cX4_firstWithRoom 48 = .ok (.iload 4, 2) := by decide +kernel
theorem dX4_firstWithRoom_50 : decode cX4_firstWithRoom 50 = .ok (.ireturn, 1) := by decide +kernel
theorem dX4_firstWithRoom_51 : decode cX4_firstWithRoom 51 = .ok (.iinc 4 1, 3) := by decide +kernel
theorem dX4_firstWithRoom_54 : decode cX4_firstWithRoom 54 = .ok (.goto (-51), 3) := by decide +kernel
theorem dX4_firstWithRoom_57 : decode cX4_firstWithRoom 57 = .ok (.iload_n 3, 1) := by decide +kernel
theorem dX4_firstWithRoom_58 : decode cX4_firstWithRoom 58 = .ok (.ireturn, 1) := by decide +kernel
theorem dX4_leastBatches_0 : decode cX4_leastBatches 0 = .ok (.aload_n 0, 1) := by decide +kernel
theorem dX4_leastBatches_1 : decode cX4_leastBatches 1 = .ok (.aload_n 1, 1) := by decide +kernel
theorem dX4_leastBatches_2 : decode cX4_leastBatches 2 = .ok (.invokevirtual 43, 3) := by decide +kernel
theorem dX4_leastBatches_5 : decode cX4_leastBatches 5 = .ok (.aload_n 0, 1) := by decide +kernel
theorem dX4_leastBatches_6 : decode cX4_leastBatches 6 = .ok (.aload_n 1, 1) := by decide +kernel
theorem dX4_leastBatches_7 : decode cX4_leastBatches 7 = .ok (.invokevirtual 47, 3) := by decide +kernel
theorem dX4_leastBatches_10 : decode cX4_leastBatches 10 = .ok (.istore_n 2, 1) := by decide +kernel
theorem dX4_leastBatches_11 : decode cX4_leastBatches 11 = .ok (.iconst 1, 1) := by decide +kernel
theorem dX4_leastBatches_12 : decode cX4_leastBatches 12 = .ok (.aload_n 1, 1) := by decide +kernel
theorem dX4_leastBatches_13 : decode cX4_leastBatches 13 = .ok (.getfield 24, 3) := by decide +kernel
theorem dX4_leastBatches_16 : decode cX4_leastBatches 16 = .ok (.ishl, 1) := by decide +kernel
theorem dX4_leastBatches_17 : decode cX4_leastBatches 17 = .ok (.iconst 1, 1) := by decide +kernel
theorem dX4_leastBatches_18 : decode cX4_leastBatches 18 = .ok (.isub, 1) := by decide +kernel
theorem dX4_leastBatches_19 : decode cX4_leastBatches 19 = .ok (.istore_n 3, 1) := by decide +kernel
theorem dX4_leastBatches_20 : decode cX4_leastBatches 20 = .ok (.aload_n 0, 1) := by decide +kernel
theorem dX4_leastBatches_21 : decode cX4_leastBatches 21 = .ok (.getfield 21, 3) := by decide +kernel
theorem dX4_leastBatches_24 : decode cX4_leastBatches 24 = .ok (.iconst 0, 1) := by decide +kernel
theorem dX4_leastBatches_25 : decode cX4_leastBatches 25 = .ok (.iconst 0, 1) := by decide +kernel
theorem dX4_leastBatches_26 : decode cX4_leastBatches 26 = .ok (.iastore, 1) := by decide +kernel
theorem dX4_leastBatches_27 : decode cX4_leastBatches 27 = .ok (.iconst 1, 1) := by decide +kernel
theorem dX4_leastBatches_28 : decode cX4_leastBatches 28 = .ok (.istore 4, 2) := by decide +kernel
theorem dX4_leastBatches_30 : decode cX4_leastBatches 30 = .ok (.iload 4, 2) := by decide +kernel
theorem dX4_leastBatches_32 : decode cX4_leastBatches 32 = .ok (.iload_n 3, 1) := by decide +kernel
theorem dX4_leastBatches_33 : decode cX4_leastBatches 33 = .ok (.if_icmp .gt 29, 3) := by decide +kernel
theorem dX4_leastBatches_36 : decode cX4_leastBatches 36 = .ok (.aload_n 0, 1) := by decide +kernel
theorem dX4_leastBatches_37 : decode cX4_leastBatches 37 = .ok (.getfield 21, 3) := by decide +kernel
theorem dX4_leastBatches_40 : decode cX4_leastBatches 40 = .ok (.iload 4, 2) := by decide +kernel
theorem dX4_leastBatches_42 : decode cX4_leastBatches 42 = .ok (.aload_n 0, 1) := by decide +kernel
theorem dX4_leastBatches_43 : decode cX4_leastBatches 43 = .ok (.iload 4, 2) := by decide +kernel
theorem dX4_leastBatches_45 : decode cX4_leastBatches 45 = .ok (.iload_n 2, 1) := by decide +kernel
theorem dX4_leastBatches_46 : decode cX4_leastBatches 46 = .ok (.aload_n 1, 1) := by decide +kernel
theorem dX4_leastBatches_47 : decode cX4_leastBatches 47 = .ok (.getfield 40, 3) := by decide +kernel
theorem dX4_leastBatches_50 : decode cX4_leastBatches 50 = .ok (.iconst 2, 1) := by decide +kernel
theorem dX4_leastBatches_51 : decode cX4_leastBatches 51 = .ok (.iaload, 1) := by decide +kernel
theorem dX4_leastBatches_52 : decode cX4_leastBatches 52 = .ok (.invokevirtual 51, 3) := by decide +kernel
theorem dX4_leastBatches_55 : decode cX4_leastBatches 55 = .ok (.iastore, 1) := by decide +kernel
theorem dX4_leastBatches_56 : decode cX4_leastBatches 56 = .ok (.iinc 4 1, 3) := by decide +kernel
theorem dX4_leastBatches_59 : decode cX4_leastBatches 59 = .ok (.goto (-29), 3) := by decide +kernel
theorem dX4_leastBatches_62 : decode cX4_leastBatches 62 = .ok (.aload_n 0, 1) := by decide +kernel
theorem dX4_leastBatches_63 : decode cX4_leastBatches 63 = .ok (.getfield 21, 3) := by decide +kernel
theorem dX4_leastBatches_66 : decode cX4_leastBatches 66 = .ok (.iload_n 3, 1) := by decide +kernel
theorem dX4_leastBatches_67 : decode cX4_leastBatches 67 = .ok (.iaload, 1) := by decide +kernel
theorem dX4_leastBatches_68 : decode cX4_leastBatches 68 = .ok (.ireturn, 1) := by decide +kernel
theorem dX4_leastOf_0 : decode cX4_leastOf 0 = .ok (.iload_n 1, 1) := by decide +kernel
theorem dX4_leastOf_1 : decode cX4_leastOf 1 = .ok (.iload_n 1, 1) := by decide +kernel
theorem dX4_leastOf_2 : decode cX4_leastOf 2 = .ok (.ineg, 1) := by decide +kernel
theorem dX4_leastOf_3 : decode cX4_leastOf 3 = .ok (.iand, 1) := by decide +kernel
theorem dX4_leastOf_4 : decode cX4_leastOf 4 = .ok (.istore 4, 2) := by decide +kernel
theorem dX4_leastOf_6 : decode cX4_leastOf 6 = .ok (.iload_n 1, 1) := by decide +kernel
theorem dX4_leastOf_7 : decode cX4_leastOf 7 = .ok (.iload 4, 2) := by decide +kernel
theorem dX4_leastOf_9 : decode cX4_leastOf 9 = .ok (.ixor, 1) := by decide +kernel
theorem dX4_leastOf_10 : decode cX4_leastOf 10 = .ok (.istore 5, 2) := by decide +kernel
theorem dX4_leastOf_12 : decode cX4_leastOf 12 = .ok (.iconst 1, 1) := by decide +kernel
theorem dX4_leastOf_13 : decode cX4_leastOf 13 = .ok (.aload_n 0, 1) := by decide +kernel
theorem dX4_leastOf_14 : decode cX4_leastOf 14 = .ok (.getfield 21, 3) := by decide +kernel
theorem dX4_leastOf_17 : decode cX4_leastOf 17 = .ok (.iload 5, 2) := by decide +kernel
theorem dX4_leastOf_19 : decode cX4_leastOf 19 = .ok (.iaload, 1) := by decide +kernel
theorem dX4_leastOf_20 : decode cX4_leastOf 20 = .ok (.iadd, 1) := by decide +kernel
theorem dX4_leastOf_21 : decode cX4_leastOf 21 = .ok (.istore 6, 2) := by decide +kernel
theorem dX4_leastOf_23 : decode cX4_leastOf 23 = .ok (.iload 5, 2) := by decide +kernel
theorem dX4_leastOf_25 : decode cX4_leastOf 25 = .ok (.istore 7, 2) := by decide +kernel
theorem dX4_leastOf_27 : decode cX4_leastOf 27 = .ok (.iload 7, 2) := by decide +kernel
theorem dX4_leastOf_29 : decode cX4_leastOf 29 = .ok (.ifCond .le 81, 3) := by decide +kernel
theorem dX4_leastOf_32 : decode cX4_leastOf 32 = .ok (.iload 7, 2) := by decide +kernel
theorem dX4_leastOf_34 : decode cX4_leastOf 34 = .ok (.iload 4, 2) := by decide +kernel
theorem dX4_leastOf_36 : decode cX4_leastOf 36 = .ok (.ior, 1) := by decide +kernel
theorem dX4_leastOf_37 : decode cX4_leastOf 37 = .ok (.istore 8, 2) := by decide +kernel
theorem dX4_leastOf_39 : decode cX4_leastOf 39 = .ok (.iload 8, 2) := by decide +kernel
theorem dX4_leastOf_41 : decode cX4_leastOf 41 = .ok (.iload_n 2, 1) := by decide +kernel
theorem dX4_leastOf_42 : decode cX4_leastOf 42 = .ok (.iand, 1) := by decide +kernel
theorem dX4_leastOf_43 : decode cX4_leastOf 43 = .ok (.istore 9, 2) := by decide +kernel
theorem dX4_leastOf_45 : decode cX4_leastOf 45 = .ok (.iload 9, 2) := by decide +kernel
theorem dX4_leastOf_47 : decode cX4_leastOf 47 = .ok (.ifCond .eq 10, 3) := by decide +kernel
theorem dX4_leastOf_50 : decode cX4_leastOf 50 = .ok (.iload 9, 2) := by decide +kernel
theorem dX4_leastOf_52 : decode cX4_leastOf 52 = .ok (.iload 8, 2) := by decide +kernel
theorem dX4_leastOf_54 : decode cX4_leastOf 54 = .ok (.if_icmp .ne 7, 3) := by decide +kernel
theorem dX4_leastOf_57 : decode cX4_leastOf 57 = .ok (.iconst 1, 1) := by decide +kernel
theorem dX4_leastOf_58 : decode cX4_leastOf 58 = .ok (.goto 4, 3) := by decide +kernel
theorem dX4_leastOf_61 : decode cX4_leastOf 61 = .ok (.iconst 0, 1) := by decide +kernel
theorem dX4_leastOf_62 : decode cX4_leastOf 62 = .ok (.istore 10, 2) := by decide +kernel
theorem dX4_leastOf_64 : decode cX4_leastOf 64 = .ok (.iload 10, 2) := by decide +kernel
theorem dX4_leastOf_66 : decode cX4_leastOf 66 = .ok (.ifCond .eq 32, 3) := by decide +kernel
theorem dX4_leastOf_69 : decode cX4_leastOf 69 = .ok (.aload_n 0, 1) := by decide +kernel
theorem dX4_leastOf_70 : decode cX4_leastOf 70 = .ok (.getfield 18, 3) := by decide +kernel
theorem dX4_leastOf_73 : decode cX4_leastOf 73 = .ok (.iload 8, 2) := by decide +kernel
theorem dX4_leastOf_75 : decode cX4_leastOf 75 = .ok (.iaload, 1) := by decide +kernel
theorem dX4_leastOf_76 : decode cX4_leastOf 76 = .ok (.iload_n 3, 1) := by decide +kernel
theorem dX4_leastOf_77 : decode cX4_leastOf 77 = .ok (.if_icmp .gt 21, 3) := by decide +kernel
theorem dX4_leastOf_80 : decode cX4_leastOf 80 = .ok (.iload 6, 2) := by decide +kernel
theorem dX4_leastOf_82 : decode cX4_leastOf 82 = .ok (.iconst 1, 1) := by decide +kernel
theorem dX4_leastOf_83 : decode cX4_leastOf 83 = .ok (.aload_n 0, 1) := by decide +kernel
theorem dX4_leastOf_84 : decode cX4_leastOf 84 = .ok (.getfield 21, 3) := by decide +kernel
theorem dX4_leastOf_87 : decode cX4_leastOf 87 = .ok (.iload_n 1, 1) := by decide +kernel
theorem dX4_leastOf_88 : decode cX4_leastOf 88 = .ok (.iload 8, 2) := by decide +kernel
theorem dX4_leastOf_90 : decode cX4_leastOf 90 = .ok (.ixor, 1) := by decide +kernel
theorem dX4_leastOf_91 : decode cX4_leastOf 91 = .ok (.iaload, 1) := by decide +kernel
theorem dX4_leastOf_92 : decode cX4_leastOf 92 = .ok (.iadd, 1) := by decide +kernel
theorem dX4_leastOf_93 : decode cX4_leastOf 93 = .ok (.invokestatic 55, 3) := by decide +kernel
theorem dX4_leastOf_96 : decode cX4_leastOf 96 = .ok (.istore 6, 2) := by decide +kernel
theorem dX4_leastOf_98 : decode cX4_leastOf 98 = .ok (.iload 7, 2) := by decide +kernel
theorem dX4_leastOf_100 : decode cX4_leastOf 100 = .ok (.iconst 1, 1) := by decide +kernel
theorem dX4_leastOf_101 : decode cX4_leastOf 101 = .ok (.isub, 1) := by decide +kernel
theorem dX4_leastOf_102 : decode cX4_leastOf 102 = .ok (.iload 5, 2) := by decide +kernel
theorem dX4_leastOf_104 : decode cX4_leastOf 104 = .ok (.iand, 1) := by decide +kernel
theorem dX4_leastOf_105 : decode cX4_leastOf 105 = .ok (.istore 7, 2) := by decide +kernel
theorem dX4_leastOf_107 : decode cX4_leastOf 107 = .ok (.goto (-80), 3) := by decide +kernel
theorem dX4_leastOf_110 : decode cX4_leastOf 110 = .ok (.iload 6, 2) := by decide +kernel
theorem dX4_leastOf_112 : decode cX4_leastOf 112 = .ok (.ireturn, 1) := by decide +kernel
theorem dX4_sumUp_0 : decode cX4_sumUp 0 = .ok (.aload_n 0, 1) := by decide +kernel
theorem dX4_sumUp_1 : decode cX4_sumUp 1 = .ok (.getfield 18, 3) := by decide +kernel
theorem dX4_sumUp_4 : decode cX4_sumUp 4 = .ok (.iconst 0, 1) := by decide +kernel
theorem dX4_sumUp_5 : decode cX4_sumUp 5 = .ok (.iconst 0, 1) := by decide +kernel
theorem dX4_sumUp_6 : decode cX4_sumUp 6 = .ok (.iastore, 1) := by decide +kernel
theorem dX4_sumUp_7 : decode cX4_sumUp 7 = .ok (.iconst 0, 1) := by decide +kernel
theorem dX4_sumUp_8 : decode cX4_sumUp 8 = .ok (.istore_n 2, 1) := by decide +kernel
theorem dX4_sumUp_9 : decode cX4_sumUp 9 = .ok (.iload_n 2, 1) := by decide +kernel
theorem dX4_sumUp_10 : decode cX4_sumUp 10 = .ok (.aload_n 1, 1) := by decide +kernel
theorem dX4_sumUp_11 : decode cX4_sumUp 11 = .ok (.getfield 24, 3) := by decide +kernel
theorem dX4_sumUp_14 : decode cX4_sumUp 14 = .ok (.if_icmp .ge 51, 3) := by decide +kernel
theorem dX4_sumUp_17 : decode cX4_sumUp 17 = .ok (.iconst 1, 1) := by decide +kernel
theorem dX4_sumUp_18 : decode cX4_sumUp 18 = .ok (.iload_n 2, 1) := by decide +kernel
theorem dX4_sumUp_19 : decode cX4_sumUp 19 = .ok (.ishl, 1) := by decide +kernel
theorem dX4_sumUp_20 : decode cX4_sumUp 20 = .ok (.istore_n 3, 1) := by decide +kernel
theorem dX4_sumUp_21 : decode cX4_sumUp 21 = .ok (.iconst 0, 1) := by decide +kernel
theorem dX4_sumUp_22 : decode cX4_sumUp 22 = .ok (.istore 4, 2) := by decide +kernel
theorem dX4_sumUp_24 : decode cX4_sumUp 24 = .ok (.iload 4, 2) := by decide +kernel
theorem dX4_sumUp_26 : decode cX4_sumUp 26 = .ok (.iload_n 3, 1) := by decide +kernel
theorem dX4_sumUp_27 : decode cX4_sumUp 27 = .ok (.if_icmp .ge 32, 3) := by decide +kernel
theorem dX4_sumUp_30 : decode cX4_sumUp 30 = .ok (.aload_n 0, 1) := by decide +kernel
theorem dX4_sumUp_31 : decode cX4_sumUp 31 = .ok (.getfield 18, 3) := by decide +kernel
theorem dX4_sumUp_34 : decode cX4_sumUp 34 = .ok (.iload 4, 2) := by decide +kernel
theorem dX4_sumUp_36 : decode cX4_sumUp 36 = .ok (.iload_n 3, 1) := by decide +kernel
theorem dX4_sumUp_37 : decode cX4_sumUp 37 = .ok (.ior, 1) := by decide +kernel
theorem dX4_sumUp_38 : decode cX4_sumUp 38 = .ok (.aload_n 0, 1) := by decide +kernel
theorem dX4_sumUp_39 : decode cX4_sumUp 39 = .ok (.getfield 18, 3) := by decide +kernel
theorem dX4_sumUp_42 : decode cX4_sumUp 42 = .ok (.iload 4, 2) := by decide +kernel
theorem dX4_sumUp_44 : decode cX4_sumUp 44 = .ok (.iaload, 1) := by decide +kernel
theorem dX4_sumUp_45 : decode cX4_sumUp 45 = .ok (.aload_n 1, 1) := by decide +kernel
theorem dX4_sumUp_46 : decode cX4_sumUp 46 = .ok (.getfield 37, 3) := by decide +kernel
theorem dX4_sumUp_49 : decode cX4_sumUp 49 = .ok (.iload_n 2, 1) := by decide +kernel
theorem dX4_sumUp_50 : decode cX4_sumUp 50 = .ok (.iaload, 1) := by decide +kernel
theorem dX4_sumUp_51 : decode cX4_sumUp 51 = .ok (.iadd, 1) := by decide +kernel
theorem dX4_sumUp_52 : decode cX4_sumUp 52 = .ok (.iastore, 1) := by decide +kernel
theorem dX4_sumUp_53 : decode cX4_sumUp 53 = .ok (.iinc 4 1, 3) := by decide +kernel
theorem dX4_sumUp_56 : decode cX4_sumUp 56 = .ok (.goto (-32), 3) := by decide +kernel
theorem dX4_sumUp_59 : decode cX4_sumUp 59 = .ok (.iinc 2 1, 3) := by decide +kernel
theorem dX4_sumUp_62 : decode cX4_sumUp 62 = .ok (.goto (-53), 3) := by decide +kernel
theorem dX4_sumUp_65 : decode cX4_sumUp 65 = .ok (.return_, 1) := by decide +kernel
theorem dX4_reversalRolls_0 : decode cX4_reversalRolls 0 = .ok (.iconst 0, 1) := by decide +kernel
theorem dX4_reversalRolls_1 : decode cX4_reversalRolls 1 = .ok (.istore_n 2, 1) := by decide +kernel
theorem dX4_reversalRolls_2 : decode cX4_reversalRolls 2 = .ok (.iconst 0, 1) := by decide +kernel
theorem dX4_reversalRolls_3 : decode cX4_reversalRolls 3 = .ok (.istore_n 3, 1) := by decide +kernel
theorem dX4_reversalRolls_4 : decode cX4_reversalRolls 4 = .ok (.iload_n 3, 1) := by decide +kernel
theorem dX4_reversalRolls_5 : decode cX4_reversalRolls 5 = .ok (.aload_n 1, 1) := by decide +kernel
theorem dX4_reversalRolls_6 : decode cX4_reversalRolls 6 = .ok (.getfield 24, 3) := by decide +kernel
theorem dX4_reversalRolls_9 : decode cX4_reversalRolls 9 = .ok (.if_icmp .ge 25, 3) := by decide +kernel
theorem dX4_reversalRolls_12 : decode cX4_reversalRolls 12 = .ok (.aload_n 1, 1) := by decide +kernel
theorem dX4_reversalRolls_13 : decode cX4_reversalRolls 13 = .ok (.getfield 34, 3) := by decide +kernel
theorem dX4_reversalRolls_16 : decode cX4_reversalRolls 16 = .ok (.iload_n 3, 1) := by decide +kernel
theorem dX4_reversalRolls_17 : decode cX4_reversalRolls 17 = .ok (.iaload, 1) := by decide +kernel
theorem dX4_reversalRolls_18 : decode cX4_reversalRolls 18 = .ok (.iconst 1, 1) := by decide +kernel
theorem dX4_reversalRolls_19 : decode cX4_reversalRolls 19 = .ok (.if_icmp .ne 9, 3) := by decide +kernel
theorem dX4_reversalRolls_22 : decode cX4_reversalRolls 22 = .ok (.iload_n 2, 1) := by decide +kernel
theorem dX4_reversalRolls_23 : decode cX4_reversalRolls 23 = .ok (.iconst 1, 1) := by decide +kernel
theorem dX4_reversalRolls_24 : decode cX4_reversalRolls 24 = .ok (.iload_n 3, 1) := by decide +kernel
theorem dX4_reversalRolls_25 : decode cX4_reversalRolls 25 = .ok (.ishl, 1) := by decide +kernel
theorem dX4_reversalRolls_26 : decode cX4_reversalRolls 26 = .ok (.ior, 1) := by decide +kernel
theorem dX4_reversalRolls_27 : decode cX4_reversalRolls 27 = .ok (.istore_n 2, 1) := by decide +kernel
theorem dX4_reversalRolls_28 : decode cX4_reversalRolls 28 = .ok (.iinc 3 1, 3) := by decide +kernel
theorem dX4_reversalRolls_31 : decode cX4_reversalRolls 31 = .ok (.goto (-27), 3) := by decide +kernel
theorem dX4_reversalRolls_34 : decode cX4_reversalRolls 34 = .ok (.iload_n 2, 1) := by decide +kernel
theorem dX4_reversalRolls_35 : decode cX4_reversalRolls 35 = .ok (.ireturn, 1) := by decide +kernel
theorem dX5_init_0 : decode cX5_init 0 = .ok (.aload_n 0, 1) := by decide +kernel
theorem dX5_init_1 : decode cX5_init 1 = .ok (.invokespecial 3, 3) := by decide +kernel
theorem dX5_init_4 : decode cX5_init 4 = .ok (.aload_n 0, 1) := by decide +kernel
theorem dX5_init_5 : decode cX5_init 5 = .ok (.sipush 256, 3) := by decide +kernel
theorem dX5_init_8 : decode cX5_init 8 = .ok (.newarray .long, 2) := by decide +kernel
theorem dX5_init_10 : decode cX5_init 10 = .ok (.putfield 9, 3) := by decide +kernel
theorem dX5_init_13 : decode cX5_init 13 = .ok (.aload_n 0, 1) := by decide +kernel
theorem dX5_init_14 : decode cX5_init 14 = .ok (.sipush 256, 3) := by decide +kernel
theorem dX5_init_17 : decode cX5_init 17 = .ok (.newarray .int, 2) := by decide +kernel
theorem dX5_init_19 : decode cX5_init 19 = .ok (.putfield 15, 3) := by decide +kernel
theorem dX5_init_22 : decode cX5_init 22 = .ok (.return_, 1) := by decide +kernel
theorem dX5_work_0 : decode cX5_work 0 = .ok (.aload_n 0, 1) := by decide +kernel
theorem dX5_work_1 : decode cX5_work 1 = .ok (.getfield 9, 3) := by decide +kernel
theorem dX5_work_4 : decode cX5_work 4 = .ok (.iconst 0, 1) := by decide +kernel
theorem dX5_work_5 : decode cX5_work 5 = .ok (.ldc2_w 19, 3) := by decide +kernel
theorem dX5_work_8 : decode cX5_work 8 = .ok (.lastore, 1) := by decide +kernel
theorem dX5_work_9 : decode cX5_work 9 = .ok (.iconst 1, 1) := by decide +kernel
theorem dX5_work_10 : decode cX5_work 10 = .ok (.istore_n 2, 1) := by decide +kernel
theorem dX5_work_11 : decode cX5_work 11 = .ok (.iload_n 2, 1) := by decide +kernel
theorem dX5_work_12 : decode cX5_work 12 = .ok (.aload_n 1, 1) := by decide +kernel
theorem dX5_work_13 : decode cX5_work 13 = .ok (.getfield 21, 3) := by decide +kernel
theorem dX5_work_16 : decode cX5_work 16 = .ok (.if_icmp .gt 43, 3) := by decide +kernel
theorem dX5_work_19 : decode cX5_work 19 = .ok (.iload_n 2, 1) := by decide +kernel
theorem dX5_work_20 : decode cX5_work 20 = .ok (.aload_n 1, 1) := by decide +kernel
theorem dX5_work_21 : decode cX5_work 21 = .ok (.getfield 21, 3) := by decide +kernel
theorem dX5_work_24 : decode cX5_work 24 = .ok (.iconst (-1), 1) := by decide +kernel
theorem dX5_work_25 : decode cX5_work 25 = .ok (.ixor, 1) := by decide +kernel
theorem dX5_work_26 : decode cX5_work 26 = .ok (.iand, 1) := by decide +kernel
theorem dX5_work_27 : decode cX5_work 27 = .ok (.ifCond .ne 26, 3) := by decide +kernel
theorem dX5_work_30 : decode cX5_work 30 = .ok (.aload_n 0, 1) := by decide +kernel
theorem dX5_work_31 : decode cX5_work 31 = .ok (.getfield 15, 3) := by decide +kernel
theorem dX5_work_34 : decode cX5_work 34 = .ok (.iload_n 2, 1) := by decide +kernel
theorem dX5_work_35 : decode cX5_work 35 = .ok (.aload_n 0, 1) := by decide +kernel
theorem dX5_work_36 : decode cX5_work 36 = .ok (.aload_n 1, 1) := by decide +kernel
theorem dX5_work_37 : decode cX5_work 37 = .ok (.iload_n 2, 1) := by decide +kernel
theorem dX5_work_38 : decode cX5_work 38 = .ok (.invokevirtual 27, 3) := by decide +kernel
theorem dX5_work_41 : decode cX5_work 41 = .ok (.iastore, 1) := by decide +kernel
theorem dX5_work_42 : decode cX5_work 42 = .ok (.aload_n 0, 1) := by decide +kernel
theorem dX5_work_43 : decode cX5_work 43 = .ok (.getfield 9, 3) := by decide +kernel
theorem dX5_work_46 : decode cX5_work 46 = .ok (.iload_n 2, 1) := by decide +kernel
theorem dX5_work_47 : decode cX5_work 47 = .ok (.aload_n 0, 1) := by decide +kernel
theorem dX5_work_48 : decode cX5_work 48 = .ok (.iload_n 2, 1) := by decide +kernel
theorem dX5_work_49 : decode cX5_work 49 = .ok (.invokevirtual 31, 3) := by decide +kernel
theorem dX5_work_52 : decode cX5_work 52 = .ok (.lastore, 1) := by decide +kernel
theorem dX5_work_53 : decode cX5_work 53 = .ok (.iinc 2 1, 3) := by decide +kernel
theorem dX5_work_56 : decode cX5_work 56 = .ok (.goto (-45), 3) := by decide +kernel
theorem dX5_work_59 : decode cX5_work 59 = .ok (.return_, 1) := by decide +kernel
theorem dX5_holdersOf_0 : decode cX5_holdersOf 0 = .ok (.iconst 0, 1) := by decide +kernel
theorem dX5_holdersOf_1 : decode cX5_holdersOf 1 = .ok (.istore_n 3, 1) := by decide +kernel
theorem dX5_holdersOf_2 : decode cX5_holdersOf 2 = .ok (.iconst 0, 1) := by decide +kernel
theorem dX5_holdersOf_3 : decode cX5_holdersOf 3 = .ok (.istore 4, 2) := by decide +kernel
theorem dX5_holdersOf_5 : decode cX5_holdersOf 5 = .ok (.iload 4, 2) := by decide +kernel
theorem dX5_holdersOf_7 : decode cX5_holdersOf 7 = .ok (.bipush 6, 2) := by decide +kernel
theorem dX5_holdersOf_9 : decode cX5_holdersOf 9 = .ok (.if_icmp .ge 26, 3) := by decide +kernel
theorem dX5_holdersOf_12 : decode cX5_holdersOf 12 = .ok (.aload_n 1, 1) := by decide +kernel
theorem dX5_holdersOf_13 : decode cX5_holdersOf 13 = .ok (.iload 4, 2) := by decide +kernel
theorem dX5_holdersOf_15 : decode cX5_holdersOf 15 = .ok (.iload_n 2, 1) := by decide +kernel
theorem dX5_holdersOf_16 : decode cX5_holdersOf 16 = .ok (.invokevirtual 35, 3) := by decide +kernel
theorem dX5_holdersOf_19 : decode cX5_holdersOf 19 = .ok (.ifCond .eq 10, 3) := by decide +kernel
theorem dX5_holdersOf_22 : decode cX5_holdersOf 22 = .ok (.iload_n 3, 1) := by decide +kernel
theorem dX5_holdersOf_23 : decode cX5_holdersOf 23 = .ok (.iconst 1, 1) := by decide +kernel
theorem dX5_holdersOf_24 : decode cX5_holdersOf 24 = .ok (.iload 4, 2) := by decide +kernel
theorem dX5_holdersOf_26 : decode cX5_holdersOf 26 = .ok (.ishl, 1) := by decide +kernel
theorem dX5_holdersOf_27 : decode cX5_holdersOf 27 = .ok (.ior, 1) := by decide +kernel
theorem dX5_holdersOf_28 : decode cX5_holdersOf 28 = .ok (.istore_n 3, 1) := by decide +kernel
theorem dX5_holdersOf_29 : decode cX5_holdersOf 29 = .ok (.iinc 4 1, 3) := by decide +kernel
theorem dX5_holdersOf_32 : decode cX5_holdersOf 32 = .ok (.goto (-27), 3) := by decide +kernel
theorem dX5_holdersOf_35 : decode cX5_holdersOf 35 = .ok (.iload_n 3, 1) := by decide +kernel
theorem dX5_holdersOf_36 : decode cX5_holdersOf 36 = .ok (.ireturn, 1) := by decide +kernel
theorem dX5_roomSetsFor_0 : decode cX5_roomSetsFor 0 = .ok (.iload_n 1, 1) := by decide +kernel
theorem dX5_roomSetsFor_1 : decode cX5_roomSetsFor 1 = .ok (.iload_n 1, 1) := by decide +kernel
theorem dX5_roomSetsFor_2 : decode cX5_roomSetsFor 2 = .ok (.ineg, 1) := by decide +kernel
theorem dX5_roomSetsFor_3 : decode cX5_roomSetsFor 3 = .ok (.iand, 1) := by decide +kernel
theorem dX5_roomSetsFor_4 : decode cX5_roomSetsFor 4 = .ok (.istore_n 2, 1) := by decide +kernel
theorem dX5_roomSetsFor_5 : decode cX5_roomSetsFor 5 = .ok (.iload_n 1, 1) := by decide +kernel
theorem dX5_roomSetsFor_6 : decode cX5_roomSetsFor 6 = .ok (.iload_n 2, 1) := by decide +kernel
theorem dX5_roomSetsFor_7 : decode cX5_roomSetsFor 7 = .ok (.ixor, 1) := by decide +kernel
theorem dX5_roomSetsFor_8 : decode cX5_roomSetsFor 8 = .ok (.istore_n 3, 1) := by decide +kernel
theorem dX5_roomSetsFor_9 : decode cX5_roomSetsFor 9 = .ok (.aload_n 0, 1) := by decide +kernel
theorem dX5_roomSetsFor_10 : decode cX5_roomSetsFor 10 = .ok (.aload_n 0, 1) := by decide +kernel
theorem dX5_roomSetsFor_11 : decode cX5_roomSetsFor 11 = .ok (.getfield 9, 3) := by decide +kernel
theorem dX5_roomSetsFor_14 : decode cX5_roomSetsFor 14 = .ok (.iload_n 3, 1) := by decide +kernel
theorem dX5_roomSetsFor_15 : decode cX5_roomSetsFor 15 = .ok (.laload, 1) := by decide +kernel
theorem dX5_roomSetsFor_16 : decode cX5_roomSetsFor 16 = .ok (.aload_n 0, 1) := by decide +kernel
theorem dX5_roomSetsFor_17 : decode cX5_roomSetsFor 17 = .ok (.getfield 15, 3) := by decide +kernel
theorem dX5_roomSetsFor_20 : decode cX5_roomSetsFor 20 = .ok (.iload_n 2, 1) := by decide +kernel
theorem dX5_roomSetsFor_21 : decode cX5_roomSetsFor 21 = .ok (.iaload, 1) := by decide +kernel
theorem dX5_roomSetsFor_22 : decode cX5_roomSetsFor 22 = .ok (.invokevirtual 39, 3) := by decide +kernel
theorem dX5_roomSetsFor_25 : decode cX5_roomSetsFor 25 = .ok (.lstore 4, 2) := by decide +kernel
theorem dX5_roomSetsFor_27 : decode cX5_roomSetsFor 27 = .ok (.iload_n 3, 1) := by decide +kernel
theorem dX5_roomSetsFor_28 : decode cX5_roomSetsFor 28 = .ok (.istore 6, 2) := by decide +kernel
theorem dX5_roomSetsFor_30 : decode cX5_roomSetsFor 30 = .ok (.iload 6, 2) := by decide +kernel
theorem dX5_roomSetsFor_32 : decode cX5_roomSetsFor 32 = .ok (.ifCond .le 41, 3) := by decide +kernel
theorem dX5_roomSetsFor_35 : decode cX5_roomSetsFor 35 = .ok (.lload 4, 2) := by decide +kernel
theorem dX5_roomSetsFor_37 : decode cX5_roomSetsFor 37 = .ok (.aload_n 0, 1) := by decide +kernel
theorem dX5_roomSetsFor_38 : decode cX5_roomSetsFor 38 = .ok (.aload_n 0, 1) := by decide +kernel
theorem dX5_roomSetsFor_39 : decode cX5_roomSetsFor 39 = .ok (.getfield 9, 3) := by decide +kernel
theorem dX5_roomSetsFor_42 : decode cX5_roomSetsFor 42 = .ok (.iload_n 3, 1) := by decide +kernel
theorem dX5_roomSetsFor_43 : decode cX5_roomSetsFor 43 = .ok (.iload 6, 2) := by decide +kernel
theorem dX5_roomSetsFor_45 : decode cX5_roomSetsFor 45 = .ok (.ixor, 1) := by decide +kernel
theorem dX5_roomSetsFor_46 : decode cX5_roomSetsFor 46 = .ok (.laload, 1) := by decide +kernel
theorem dX5_roomSetsFor_47 : decode cX5_roomSetsFor 47 = .ok (.aload_n 0, 1) := by decide +kernel
theorem dX5_roomSetsFor_48 : decode cX5_roomSetsFor 48 = .ok (.getfield 15, 3) := by decide +kernel
theorem dX5_roomSetsFor_51 : decode cX5_roomSetsFor 51 = .ok (.iload 6, 2) := by decide +kernel
theorem dX5_roomSetsFor_53 : decode cX5_roomSetsFor 53 = .ok (.iload_n 2, 1) := by decide +kernel
theorem dX5_roomSetsFor_54 : decode cX5_roomSetsFor 54 = .ok (.ior, 1) := by decide +kernel
theorem dX5_roomSetsFor_55 : decode cX5_roomSetsFor 55 = .ok (.iaload, 1) := by decide +kernel
theorem dX5_roomSetsFor_56 : decode cX5_roomSetsFor 56 = .ok (.invokevirtual 39, 3) := by decide +kernel
theorem dX5_roomSetsFor_59 : decode cX5_roomSetsFor 59 = .ok (.lor, 1) := by decide +kernel
theorem dX5_roomSetsFor_60 : decode cX5_roomSetsFor 60 = .ok (.lstore 4, 2) := by decide +kernel
theorem dX5_roomSetsFor_62 : decode cX5_roomSetsFor 62 = .ok (.iload 6, 2) := by decide +kernel
theorem dX5_roomSetsFor_64 : decode cX5_roomSetsFor 64 = .ok (.iconst 1, 1) := by decide +kernel
theorem dX5_roomSetsFor_65 : decode cX5_roomSetsFor 65 = .ok (.isub, 1) := by decide +kernel
theorem dX5_roomSetsFor_66 : decode cX5_roomSetsFor 66 = .ok (.iload_n 3, 1) := by decide +kernel
theorem dX5_roomSetsFor_67 : decode cX5_roomSetsFor 67 = .ok (.iand, 1) := by decide +kernel
theorem dX5_roomSetsFor_68 : decode cX5_roomSetsFor 68 = .ok (.istore 6, 2) := by decide +kernel
theorem dX5_roomSetsFor_70 : decode cX5_roomSetsFor 70 = .ok (.goto (-40), 3) := by decide +kernel
theorem dX5_roomSetsFor_73 : decode cX5_roomSetsFor 73 = .ok (.lload 4, 2) := by decide +kernel
theorem dX5_roomSetsFor_75 : decode cX5_roomSetsFor 75 = .ok (.lreturn, 1) := by decide +kernel
theorem dX5_withOneMore_0 : decode cX5_withOneMore 0 = .ok (.lconst 0, 1) := by decide +kernel
theorem dX5_withOneMore_1 : decode cX5_withOneMore 1 = .ok (.lstore 4, 2) := by decide +kernel
theorem dX5_withOneMore_3 : decode cX5_withOneMore 3 = .ok (.lload_n 1, 1) := by decide +kernel
theorem dX5_withOneMore_4 : decode cX5_withOneMore 4 = .ok (.lconst 0, 1) := by decide +kernel
theorem dX5_withOneMore_5 : decode cX5_withOneMore 5 = .ok (.lcmp, 1) := by decide +kernel
theorem dX5_withOneMore_6 : decode cX5_withOneMore 6 = .ok (.ifCond .eq 51, 3) := by decide +kernel
theorem dX5_withOneMore_9 : decode cX5_withOneMore 9 = .ok (.iload_n 3, 1) := by decide +kernel
theorem dX5_withOneMore_10 : decode cX5_withOneMore 10 = .ok (.ifCond .eq 47, 3) := by decide +kernel
theorem dX5_withOneMore_13 : decode cX5_withOneMore 13 = .ok (.iconst 0, 1) := by decide +kernel
theorem dX5_withOneMore_14 : decode cX5_withOneMore 14 = .ok (.istore 6, 2) := by decide +kernel
theorem dX5_withOneMore_16 : decode cX5_withOneMore 16 = .ok (.iload 6, 2) := by decide +kernel
theorem dX5_withOneMore_18 : decode cX5_withOneMore 18 = .ok (.bipush 6, 2) := by decide +kernel
theorem dX5_withOneMore_20 : decode cX5_withOneMore 20 = .ok (.if_icmp .ge 37, 3) := by decide +kernel
theorem dX5_withOneMore_23 : decode cX5_withOneMore 23 = .ok (.iload_n 3, 1) := by decide +kernel
theorem dX5_withOneMore_24 : decode cX5_withOneMore 24 = .ok (.iload 6, 2) := by decide +kernel
theorem dX5_withOneMore_26 : decode cX5_withOneMore 26 = .ok (.ishr, 1) := by decide +kernel
theorem dX5_withOneMore_27 : decode cX5_withOneMore 27 = .ok (.iconst 1, 1) := by decide +kernel
theorem dX5_withOneMore_28 : decode cX5_withOneMore 28 = .ok (.iand, 1) := by decide +kernel
theorem dX5_withOneMore_29 : decode cX5_withOneMore 29 = .ok (.iconst 1, 1) := by decide +kernel
theorem dX5_withOneMore_30 : decode cX5_withOneMore 30 = .ok (.if_icmp .ne 21, 3) := by decide +kernel
theorem dX5_withOneMore_33 : decode cX5_withOneMore 33 = .ok (.lload 4, 2) := by decide +kernel
theorem dX5_withOneMore_35 : decode cX5_withOneMore 35 = .ok (.lload_n 1, 1) := by decide +kernel
theorem dX5_withOneMore_36 : decode cX5_withOneMore 36 = .ok (.getstatic 43, 3) := by decide +kernel
theorem dX5_withOneMore_39 : decode cX5_withOneMore 39 = .ok (.iload 6, 2) := by decide +kernel
theorem dX5_withOneMore_41 : decode cX5_withOneMore 41 = .ok (.laload, 1) := by decide +kernel
theorem dX5_withOneMore_42 : decode cX5_withOneMore 42 = .ok (.land, 1) := by decide +kernel
theorem dX5_withOneMore_43 : decode cX5_withOneMore 43 = .ok (.iconst 1, 1) := by decide +kernel
theorem dX5_withOneMore_44 : decode cX5_withOneMore 44 = .ok (.iload 6, 2) := by decide +kernel
theorem dX5_withOneMore_46 : decode cX5_withOneMore 46 = .ok (.ishl, 1) := by decide +kernel
theorem dX5_withOneMore_47 : decode cX5_withOneMore 47 = .ok (.lshl, 1) := by decide +kernel
theorem dX5_withOneMore_48 : decode cX5_withOneMore 48 = .ok (.lor, 1) := by decide +kernel
theorem dX5_withOneMore_49 : decode cX5_withOneMore 49 = .ok (.lstore 4, 2) := by decide +kernel
theorem dX5_withOneMore_51 : decode cX5_withOneMore 51 = .ok (.iinc 6 1, 3) := by decide +kernel
theorem dX5_withOneMore_54 : decode cX5_withOneMore 54 = .ok (.goto (-38), 3) := by decide +kernel
theorem dX5_withOneMore_57 : decode cX5_withOneMore 57 = .ok (.lload 4, 2) := by decide +kernel
theorem dX5_withOneMore_59 : decode cX5_withOneMore 59 = .ok (.lreturn, 1) := by decide +kernel
theorem dX5_isPlaced_0 : decode cX5_isPlaced 0 = .ok (.aload_n 0, 1) := by decide +kernel
theorem dX5_isPlaced_1 : decode cX5_isPlaced 1 = .ok (.getfield 9, 3) := by decide +kernel
theorem dX5_isPlaced_4 : decode cX5_isPlaced 4 = .ok (.iload_n 1, 1) := by decide +kernel
theorem dX5_isPlaced_5 : decode cX5_isPlaced 5 = .ok (.laload, 1) := by decide +kernel
theorem dX5_isPlaced_6 : decode cX5_isPlaced 6 = .ok (.iload_n 2, 1) := by decide +kernel
theorem dX5_isPlaced_7 : decode cX5_isPlaced 7 = .ok (.lushr, 1) := by decide +kernel
theorem dX5_isPlaced_8 : decode cX5_isPlaced 8 = .ok (.lconst 1, 1) := by decide +kernel
theorem dX5_isPlaced_9 : decode cX5_isPlaced 9 = .ok (.land, 1) := by decide +kernel
theorem dX5_isPlaced_10 : decode cX5_isPlaced 10 = .ok (.lconst 1, 1) := by decide +kernel
theorem dX5_isPlaced_11 : decode cX5_isPlaced 11 = .ok (.lcmp, 1) := by decide +kernel
theorem dX5_isPlaced_12 : decode cX5_isPlaced 12 = .ok (.ifCond .ne 7, 3) := by decide +kernel
theorem dX5_isPlaced_15 : decode cX5_isPlaced 15 = .ok (.iconst 1, 1) := by decide +kernel
theorem dX5_isPlaced_16 : decode cX5_isPlaced 16 = .ok (.goto 4, 3) := by decide +kernel
theorem dX5_isPlaced_19 : decode cX5_isPlaced 19 = .ok (.iconst 0, 1) := by decide +kernel
theorem dX5_isPlaced_20 : decode cX5_isPlaced 20 = .ok (.ireturn, 1) := by decide +kernel
theorem dX5_canPlaceAll_0 : decode cX5_canPlaceAll 0 = .ok (.aload_n 0, 1) := by decide +kernel
theorem dX5_canPlaceAll_1 : decode cX5_canPlaceAll 1 = .ok (.aload_n 1, 1) := by decide +kernel
theorem dX5_canPlaceAll_2 : decode cX5_canPlaceAll 2 = .ok (.getfield 21, 3) := by decide +kernel
theorem dX5_canPlaceAll_5 : decode cX5_canPlaceAll 5 = .ok (.bipush 63, 2) := by decide +kernel
theorem dX5_canPlaceAll_7 : decode cX5_canPlaceAll 7 = .ok (.invokevirtual 46, 3) := by decide +kernel
theorem dX5_canPlaceAll_10 : decode cX5_canPlaceAll 10 = .ok (.ireturn, 1) := by decide +kernel
theorem dX5_roomsNeeded_0 : decode cX5_roomsNeeded 0 = .ok (.iconst 0, 1) := by decide +kernel
theorem dX5_roomsNeeded_1 : decode cX5_roomsNeeded 1 = .ok (.istore_n 2, 1) := by decide +kernel
theorem dX5_roomsNeeded_2 : decode cX5_roomsNeeded 2 = .ok (.iconst 0, 1) := by decide +kernel
theorem dX5_roomsNeeded_3 : decode cX5_roomsNeeded 3 = .ok (.istore_n 3, 1) := by decide +kernel
theorem dX5_roomsNeeded_4 : decode cX5_roomsNeeded 4 = .ok (.iload_n 3, 1) := by decide +kernel
theorem dX5_roomsNeeded_5 : decode cX5_roomsNeeded 5 = .ok (.bipush 6, 2) := by decide +kernel
theorem dX5_roomsNeeded_7 : decode cX5_roomsNeeded 7 = .ok (.if_icmp .ge 40, 3) := by decide +kernel
theorem dX5_roomsNeeded_10 : decode cX5_roomsNeeded 10 = .ok (.aload_n 1, 1) := by decide +kernel
theorem dX5_roomsNeeded_11 : decode cX5_roomsNeeded 11 = .ok (.iload_n 3, 1) := by decide +kernel
theorem dX5_roomsNeeded_12 : decode cX5_roomsNeeded 12 = .ok (.invokevirtual 49, 3) := by decide +kernel
theorem dX5_roomsNeeded_15 : decode cX5_roomsNeeded 15 = .ok (.ifCond .eq 26, 3) := by decide +kernel
theorem dX5_roomsNeeded_18 : decode cX5_roomsNeeded 18 = .ok (.aload_n 0, 1) := by decide +kernel
theorem dX5_roomsNeeded_19 : decode cX5_roomsNeeded 19 = .ok (.aload_n 1, 1) := by decide +kernel
theorem dX5_roomsNeeded_20 : decode cX5_roomsNeeded 20 = .ok (.getfield 21, 3) := by decide +kernel
theorem dX5_roomsNeeded_23 : decode cX5_roomsNeeded 23 = .ok (.bipush 63, 2) := by decide +kernel
theorem dX5_roomsNeeded_25 : decode cX5_roomsNeeded 25 = .ok (.iconst 1, 1) := by decide +kernel
theorem dX5_roomsNeeded_26 : decode cX5_roomsNeeded 26 = .ok (.iload_n 3, 1) := by decide +kernel
theorem dX5_roomsNeeded_27 : decode cX5_roomsNeeded 27 = .ok (.ishl, 1) := by decide +kernel
theorem dX5_roomsNeeded_28 : decode cX5_roomsNeeded 28 = .ok (.ixor, 1) := by decide +kernel
theorem dX5_roomsNeeded_29 : decode cX5_roomsNeeded 29 = .ok (.invokevirtual 46, 3) := by decide +kernel
theorem dX5_roomsNeeded_32 : decode cX5_roomsNeeded 32 = .ok (.ifCond .ne 9, 3) := by decide +kernel
theorem dX5_roomsNeeded_35 : decode cX5_roomsNeeded 35 = .ok (.iload_n 2, 1) := by decide +kernel
theorem dX5_roomsNeeded_36 : decode cX5_roomsNeeded 36 = .ok (.iconst 1, 1) := by decide +kernel
theorem dX5_roomsNeeded_37 : decode cX5_roomsNeeded 37 = .ok (.iload_n 3, 1) := by decide +kernel
theorem dX5_roomsNeeded_38 : decode cX5_roomsNeeded 38 = .ok (.ishl, 1) := by decide +kernel
theorem dX5_roomsNeeded_39 : decode cX5_roomsNeeded 39 = .ok (.ior, 1) := by decide +kernel
theorem dX5_roomsNeeded_40 : decode cX5_roomsNeeded 40 = .ok (.istore_n 2, 1) := by decide +kernel
theorem dX5_roomsNeeded_41 : decode cX5_roomsNeeded 41 = .ok (.iinc 3 1, 3) := by decide +kernel
theorem dX5_roomsNeeded_44 : decode cX5_roomsNeeded 44 = .ok (.goto (-40), 3) := by decide +kernel
theorem dX5_roomsNeeded_47 : decode cX5_roomsNeeded 47 = .ok (.iload_n 2, 1) := by decide +kernel
theorem dX5_roomsNeeded_48 : decode cX5_roomsNeeded 48 = .ok (.ireturn, 1) := by decide +kernel
theorem dX5_casesAmongTens_0 : decode cX5_casesAmongTens 0 = .ok (.lconst 0, 1) := by decide +kernel
theorem dX5_casesAmongTens_1 : decode cX5_casesAmongTens 1 = .ok (.lstore_n 3, 1) := by decide +kernel
theorem dX5_casesAmongTens_2 : decode cX5_casesAmongTens 2 = .ok (.iconst 0, 1) := by decide +kernel
theorem dX5_casesAmongTens_3 : decode cX5_casesAmongTens 3 = .ok (.istore 5, 2) := by decide +kernel
theorem dX5_casesAmongTens_5 : decode cX5_casesAmongTens 5 = .ok (.iload 5, 2) := by decide +kernel
theorem dX5_casesAmongTens_7 : decode cX5_casesAmongTens 7 = .ok (.bipush 64, 2) := by decide +kernel
theorem dX5_casesAmongTens_9 : decode cX5_casesAmongTens 9 = .ok (.if_icmp .ge 68, 3) := by decide +kernel
theorem dX5_casesAmongTens_12 : decode cX5_casesAmongTens 12 = .ok (.iload 5, 2) := by decide +kernel
theorem dX5_casesAmongTens_14 : decode cX5_casesAmongTens 14 = .ok (.aload_n 1, 1) := by decide +kernel
theorem dX5_casesAmongTens_15 : decode cX5_casesAmongTens 15 = .ok (.getfield 53, 3) := by decide +kernel
theorem dX5_casesAmongTens_18 : decode cX5_casesAmongTens 18 = .ok (.iconst (-1), 1) := by decide +kernel
theorem dX5_casesAmongTens_19 : decode cX5_casesAmongTens 19 = .ok (.ixor, 1) := by decide +kernel
theorem dX5_casesAmongTens_20 : decode cX5_casesAmongTens 20 = .ok (.iand, 1) := by decide +kernel
theorem dX5_casesAmongTens_21 : decode cX5_casesAmongTens 21 = .ok (.ifCond .ne 50, 3) := by decide +kernel
theorem dX5_casesAmongTens_24 : decode cX5_casesAmongTens 24 = .ok (.aload_n 0, 1) := by decide +kernel
theorem dX5_casesAmongTens_25 : decode cX5_casesAmongTens 25 = .ok (.aload_n 1, 1) := by decide +kernel
theorem dX5_casesAmongTens_26 : decode cX5_casesAmongTens 26 = .ok (.getfield 21, 3) := by decide +kernel
theorem dX5_casesAmongTens_29 : decode cX5_casesAmongTens 29 = .ok (.iload 5, 2) := by decide +kernel
theorem dX5_casesAmongTens_31 : decode cX5_casesAmongTens 31 = .ok (.invokevirtual 46, 3) := by decide +kernel
theorem dX5_casesAmongTens_34 : decode cX5_casesAmongTens 34 = .ok (.ifCond .eq 37, 3) := by decide +kernel
theorem dX5_casesAmongTens_37 : decode cX5_casesAmongTens 37 = .ok (.iload 5, 2) := by decide +kernel
theorem dX5_casesAmongTens_39 : decode cX5_casesAmongTens 39 = .ok (.invokestatic 56, 3) := by decide +kernel
theorem dX5_casesAmongTens_42 : decode cX5_casesAmongTens 42 = .ok (.istore 6, 2) := by decide +kernel
theorem dX5_casesAmongTens_44 : decode cX5_casesAmongTens 44 = .ok (.lload_n 3, 1) := by decide +kernel
theorem dX5_casesAmongTens_45 : decode cX5_casesAmongTens 45 = .ok (.bipush 10, 2) := by decide +kernel
theorem dX5_casesAmongTens_47 : decode cX5_casesAmongTens 47 = .ok (.iload_n 2, 1) := by decide +kernel
theorem dX5_casesAmongTens_48 : decode cX5_casesAmongTens 48 = .ok (.isub, 1) := by decide +kernel
theorem dX5_casesAmongTens_49 : decode cX5_casesAmongTens 49 = .ok (.iload 6, 2) := by decide +kernel
theorem dX5_casesAmongTens_51 : decode cX5_casesAmongTens 51 = .ok (.invokestatic 62, 3) := by decide +kernel
theorem dX5_casesAmongTens_54 : decode cX5_casesAmongTens 54 = .ok (.iload_n 2, 1) := by decide +kernel
theorem dX5_casesAmongTens_55 : decode cX5_casesAmongTens 55 = .ok (.aload_n 1, 1) := by decide +kernel
theorem dX5_casesAmongTens_56 : decode cX5_casesAmongTens 56 = .ok (.getfield 53, 3) := by decide +kernel
theorem dX5_casesAmongTens_59 : decode cX5_casesAmongTens 59 = .ok (.invokestatic 56, 3) := by decide +kernel
theorem dX5_casesAmongTens_62 : decode cX5_casesAmongTens 62 = .ok (.iload 6, 2) := by decide +kernel
theorem dX5_casesAmongTens_64 : decode cX5_casesAmongTens 64 = .ok (.isub, 1) := by decide +kernel
theorem dX5_casesAmongTens_65 : decode cX5_casesAmongTens 65 = .ok (.invokestatic 62, 3) := by decide +kernel
theorem dX5_casesAmongTens_68 : decode cX5_casesAmongTens 68 = .ok (.lmul, 1) := by decide +kernel
theorem dX5_casesAmongTens_69 : decode cX5_casesAmongTens 69 = .ok (.ladd, 1) := by decide +kernel
theorem dX5_casesAmongTens_70 : decode cX5_casesAmongTens 70 = .ok (.lstore_n 3, 1) := by decide +kernel
theorem dX5_casesAmongTens_71 : decode cX5_casesAmongTens 71 = .ok (.iinc 5 1, 3) := by decide +kernel
theorem dX5_casesAmongTens_74 : decode cX5_casesAmongTens 74 = .ok (.goto (-69), 3) := by decide +kernel
theorem dX5_casesAmongTens_77 : decode cX5_casesAmongTens 77 = .ok (.lload_n 3, 1) := by decide +kernel
theorem dX5_casesAmongTens_78 : decode cX5_casesAmongTens 78 = .ok (.lreturn, 1) := by decide +kernel
theorem dX5_longestOf_0 : decode cX5_longestOf 0 = .ok (.iconst 1, 1) := by decide +kernel
theorem dX5_longestOf_1 : decode cX5_longestOf 1 = .ok (.iload_n 1, 1) := by decide +kernel
theorem dX5_longestOf_2 : decode cX5_longestOf 2 = .ok (.ishl, 1) := by decide +kernel
theorem dX5_longestOf_3 : decode cX5_longestOf 3 = .ok (.istore_n 3, 1) := by decide +kernel
theorem dX5_longestOf_4 : decode cX5_longestOf 4 = .ok (.aload_n 2, 1) := by decide +kernel
theorem dX5_longestOf_5 : decode cX5_longestOf 5 = .ok (.getfield 21, 3) := by decide +kernel
theorem dX5_longestOf_8 : decode cX5_longestOf 8 = .ok (.iload_n 3, 1) := by decide +kernel
theorem dX5_longestOf_9 : decode cX5_longestOf 9 = .ok (.iconst (-1), 1) := by decide +kernel
theorem dX5_longestOf_10 : decode cX5_longestOf 10 = .ok (.ixor, 1) := by decide +kernel
theorem dX5_longestOf_11 : decode cX5_longestOf 11 = .ok (.iand, 1) := by decide +kernel
theorem dX5_longestOf_12 : decode cX5_longestOf 12 = .ok (.istore 4, 2) := by decide +kernel
theorem dX5_longestOf_14 : decode cX5_longestOf 14 = .ok (.iconst 0, 1) := by decide +kernel
theorem dX5_longestOf_15 : decode cX5_longestOf 15 = .ok (.istore 5, 2) := by decide +kernel
theorem dX5_longestOf_17 : decode cX5_longestOf 17 = .ok (.iconst 0, 1) := by decide +kernel
theorem dX5_longestOf_18 : decode cX5_longestOf 18 = .ok (.istore 6, 2) := by decide +kernel
theorem dX5_longestOf_20 : decode cX5_longestOf 20 = .ok (.iload 6, 2) := by decide +kernel
theorem dX5_longestOf_22 : decode cX5_longestOf 22 = .ok (.bipush 6, 2) := by decide +kernel
theorem dX5_longestOf_24 : decode cX5_longestOf 24 = .ok (.if_icmp .ge 26, 3) := by decide +kernel
theorem dX5_longestOf_27 : decode cX5_longestOf 27 = .ok (.iload 5, 2) := by decide +kernel
theorem dX5_longestOf_29 : decode cX5_longestOf 29 = .ok (.aload_n 0, 1) := by decide +kernel
theorem dX5_longestOf_30 : decode cX5_longestOf 30 = .ok (.iload 6, 2) := by decide +kernel
theorem dX5_longestOf_32 : decode cX5_longestOf 32 = .ok (.iload_n 3, 1) := by decide +kernel
theorem dX5_longestOf_33 : decode cX5_longestOf 33 = .ok (.iload 4, 2) := by decide +kernel
theorem dX5_longestOf_35 : decode cX5_longestOf 35 = .ok (.aload_n 2, 1) := by decide +kernel
theorem dX5_longestOf_36 : decode cX5_longestOf 36 = .ok (.invokevirtual 66, 3) := by decide +kernel
theorem dX5_longestOf_39 : decode cX5_longestOf 39 = .ok (.invokestatic 70, 3) := by decide +kernel
theorem dX5_longestOf_42 : decode cX5_longestOf 42 = .ok (.istore 5, 2) := by decide +kernel
theorem dX5_longestOf_44 : decode cX5_longestOf 44 = .ok (.iinc 6 1, 3) := by decide +kernel
theorem dX5_longestOf_47 : decode cX5_longestOf 47 = .ok (.goto (-27), 3) := by decide +kernel
theorem dX5_longestOf_50 : decode cX5_longestOf 50 = .ok (.iload 5, 2) := by decide +kernel
theorem dX5_longestOf_52 : decode cX5_longestOf 52 = .ok (.ireturn, 1) := by decide +kernel
theorem dX5_longestOn_0 : decode cX5_longestOn 0 = .ok (.iconst 0, 1) := by decide +kernel
theorem dX5_longestOn_1 : decode cX5_longestOn 1 = .ok (.istore 5, 2) := by decide +kernel
theorem dX5_longestOn_3 : decode cX5_longestOn 3 = .ok (.iconst 0, 1) := by decide +kernel
theorem dX5_longestOn_4 : decode cX5_longestOn 4 = .ok (.istore 6, 2) := by decide +kernel
theorem dX5_longestOn_6 : decode cX5_longestOn 6 = .ok (.iload 6, 2) := by decide +kernel
theorem dX5_longestOn_8 : decode cX5_longestOn 8 = .ok (.iload_n 3, 1) := by decide +kernel
theorem dX5_longestOn_9 : decode cX5_longestOn 9 = .ok (.if_icmp .gt 62, 3) := by decide +kernel
theorem dX5_longestOn_12 : decode cX5_longestOn 12 = .ok (.iload 6, 2) := by decide +kernel
theorem dX5_longestOn_14 : decode cX5_longestOn 14 = .ok (.iload_n 3, 1) := by decide +kernel
theorem dX5_longestOn_15 : decode cX5_longestOn 15 = .ok (.iconst (-1), 1) := by decide +kernel
theorem dX5_longestOn_16 : decode cX5_longestOn 16 = .ok (.ixor, 1) := by decide +kernel
theorem dX5_longestOn_17 : decode cX5_longestOn 17 = .ok (.iand, 1) := by decide +kernel
theorem dX5_longestOn_18 : decode cX5_longestOn 18 = .ok (.ifCond .ne 47, 3) := by decide +kernel
theorem dX5_longestOn_21 : decode cX5_longestOn 21 = .ok (.aload_n 0, 1) := by decide +kernel
theorem dX5_longestOn_22 : decode cX5_longestOn 22 = .ok (.iload_n 3, 1) := by decide +kernel
theorem dX5_longestOn_23 : decode cX5_longestOn 23 = .ok (.iload 6, 2) := by decide +kernel
theorem dX5_longestOn_25 : decode cX5_longestOn 25 = .ok (.ixor, 1) := by decide +kernel
theorem dX5_longestOn_26 : decode cX5_longestOn 26 = .ok (.bipush 63, 2) := by decide +kernel
theorem dX5_longestOn_28 : decode cX5_longestOn 28 = .ok (.iconst 1, 1) := by decide +kernel
theorem dX5_longestOn_29 : decode cX5_longestOn 29 = .ok (.iload_n 1, 1) := by decide +kernel
theorem dX5_longestOn_30 : decode cX5_longestOn 30 = .ok (.ishl, 1) := by decide +kernel
theorem dX5_longestOn_31 : decode cX5_longestOn 31 = .ok (.ixor, 1) := by decide +kernel
theorem dX5_longestOn_32 : decode cX5_longestOn 32 = .ok (.invokevirtual 46, 3) := by decide +kernel
theorem dX5_longestOn_35 : decode cX5_longestOn 35 = .ok (.ifCond .eq 30, 3) := by decide +kernel
theorem dX5_longestOn_38 : decode cX5_longestOn 38 = .ok (.iload 5, 2) := by decide +kernel
theorem dX5_longestOn_40 : decode cX5_longestOn 40 = .ok (.aload 4, 2) := by decide +kernel
theorem dX5_longestOn_42 : decode cX5_longestOn 42 = .ok (.getfield 76, 3) := by decide +kernel
theorem dX5_longestOn_45 : decode cX5_longestOn 45 = .ok (.iload_n 1, 1) := by decide +kernel
theorem dX5_longestOn_46 : decode cX5_longestOn 46 = .ok (.aaload, 1) := by decide +kernel
theorem dX5_longestOn_47 : decode cX5_longestOn 47 = .ok (.iload 6, 2) := by decide +kernel
theorem dX5_longestOn_49 : decode cX5_longestOn 49 = .ok (.iload_n 2, 1) := by decide +kernel
theorem dX5_longestOn_50 : decode cX5_longestOn 50 = .ok (.ior, 1) := by decide +kernel
theorem dX5_longestOn_51 : decode cX5_longestOn 51 = .ok (.iaload, 1) := by decide +kernel
theorem dX5_longestOn_52 : decode cX5_longestOn 52 = .ok (.aload 4, 2) := by decide +kernel
theorem dX5_longestOn_54 : decode cX5_longestOn 54 = .ok (.getfield 80, 3) := by decide +kernel
theorem dX5_longestOn_57 : decode cX5_longestOn 57 = .ok (.iload_n 2, 1) := by decide +kernel
theorem dX5_longestOn_58 : decode cX5_longestOn 58 = .ok (.iaload, 1) := by decide +kernel
theorem dX5_longestOn_59 : decode cX5_longestOn 59 = .ok (.iadd, 1) := by decide +kernel
theorem dX5_longestOn_60 : decode cX5_longestOn 60 = .ok (.invokestatic 70, 3) := by decide +kernel
theorem dX5_longestOn_63 : decode cX5_longestOn 63 = .ok (.istore 5, 2) := by decide +kernel
theorem dX5_longestOn_65 : decode cX5_longestOn 65 = .ok (.iinc 6 1, 3) := by decide +kernel
theorem dX5_longestOn_68 : decode cX5_longestOn 68 = .ok (.goto (-62), 3) := by decide +kernel
theorem dX5_longestOn_71 : decode cX5_longestOn 71 = .ok (.iload 5, 2) := by decide +kernel
theorem dX5_longestOn_73 : decode cX5_longestOn 73 = .ok (.ireturn, 1) := by decide +kernel
theorem dX5_leastRest_0 : decode cX5_leastRest 0 = .ok (.bipush 100, 2) := by decide +kernel
theorem dX5_leastRest_2 : decode cX5_leastRest 2 = .ok (.istore 5, 2) := by decide +kernel
theorem dX5_leastRest_4 : decode cX5_leastRest 4 = .ok (.iconst 1, 1) := by decide +kernel
theorem dX5_leastRest_5 : decode cX5_leastRest 5 = .ok (.istore 6, 2) := by decide +kernel
theorem dX5_leastRest_7 : decode cX5_leastRest 7 = .ok (.iload 6, 2) := by decide +kernel
theorem dX5_leastRest_9 : decode cX5_leastRest 9 = .ok (.aload_n 1, 1) := by decide +kernel
theorem dX5_leastRest_10 : decode cX5_leastRest 10 = .ok (.getfield 21, 3) := by decide +kernel
theorem dX5_leastRest_13 : decode cX5_leastRest 13 = .ok (.if_icmp .gt 68, 3) := by decide +kernel
theorem dX5_leastRest_16 : decode cX5_leastRest 16 = .ok (.iload 6, 2) := by decide +kernel
theorem dX5_leastRest_18 : decode cX5_leastRest 18 = .ok (.aload_n 1, 1) := by decide +kernel
theorem dX5_leastRest_19 : decode cX5_leastRest 19 = .ok (.getfield 21, 3) := by decide +kernel
theorem dX5_leastRest_22 : decode cX5_leastRest 22 = .ok (.iload_n 2, 1) := by decide +kernel
theorem dX5_leastRest_23 : decode cX5_leastRest 23 = .ok (.iand, 1) := by decide +kernel
theorem dX5_leastRest_24 : decode cX5_leastRest 24 = .ok (.iconst (-1), 1) := by decide +kernel
theorem dX5_leastRest_25 : decode cX5_leastRest 25 = .ok (.ixor, 1) := by decide +kernel
theorem dX5_leastRest_26 : decode cX5_leastRest 26 = .ok (.iand, 1) := by decide +kernel
theorem dX5_leastRest_27 : decode cX5_leastRest 27 = .ok (.ifCond .ne 48, 3) := by decide +kernel
theorem dX5_leastRest_30 : decode cX5_leastRest 30 = .ok (.aload_n 0, 1) := by decide +kernel
theorem dX5_leastRest_31 : decode cX5_leastRest 31 = .ok (.aload_n 1, 1) := by decide +kernel
theorem dX5_leastRest_32 : decode cX5_leastRest 32 = .ok (.getfield 21, 3) := by decide +kernel
theorem dX5_leastRest_35 : decode cX5_leastRest 35 = .ok (.iload 6, 2) := by decide +kernel
theorem dX5_leastRest_37 : decode cX5_leastRest 37 = .ok (.ixor, 1) := by decide +kernel
theorem dX5_leastRest_38 : decode cX5_leastRest 38 = .ok (.bipush 63, 2) := by decide +kernel
theorem dX5_leastRest_40 : decode cX5_leastRest 40 = .ok (.invokevirtual 46, 3) := by decide +kernel
theorem dX5_leastRest_43 : decode cX5_leastRest 43 = .ok (.ifCond .eq 32, 3) := by decide +kernel
theorem dX5_leastRest_46 : decode cX5_leastRest 46 = .ok (.iload_n 3, 1) := by decide +kernel
theorem dX5_leastRest_47 : decode cX5_leastRest 47 = .ok (.iload 4, 2) := by decide +kernel
theorem dX5_leastRest_49 : decode cX5_leastRest 49 = .ok (.iload 6, 2) := by decide +kernel
theorem dX5_leastRest_51 : decode cX5_leastRest 51 = .ok (.invokestatic 56, 3) := by decide +kernel
theorem dX5_leastRest_54 : decode cX5_leastRest 54 = .ok (.imul, 1) := by decide +kernel
theorem dX5_leastRest_55 : decode cX5_leastRest 55 = .ok (.iadd, 1) := by decide +kernel
theorem dX5_leastRest_56 : decode cX5_leastRest 56 = .ok (.aload_n 1, 1) := by decide +kernel
theorem dX5_leastRest_57 : decode cX5_leastRest 57 = .ok (.getfield 80, 3) := by decide +kernel
theorem dX5_leastRest_60 : decode cX5_leastRest 60 = .ok (.iload 6, 2) := by decide +kernel
theorem dX5_leastRest_62 : decode cX5_leastRest 62 = .ok (.iaload, 1) := by decide +kernel
theorem dX5_leastRest_63 : decode cX5_leastRest 63 = .ok (.iadd, 1) := by decide +kernel
theorem dX5_leastRest_64 : decode cX5_leastRest 64 = .ok (.istore 7, 2) := by decide +kernel
theorem dX5_leastRest_66 : decode cX5_leastRest 66 = .ok (.iload 5, 2) := by decide +kernel
theorem dX5_leastRest_68 : decode cX5_leastRest 68 = .ok (.iload 7, 2) := by decide +kernel
theorem dX5_leastRest_70 : decode cX5_leastRest 70 = .ok (.invokestatic 83, 3) := by decide +kernel
theorem dX5_leastRest_73 : decode cX5_leastRest 73 = .ok (.istore 5, 2) := by decide +kernel
theorem dX5_leastRest_75 : decode cX5_leastRest 75 = .ok (.iinc 6 1, 3) := by decide +kernel
theorem dX5_leastRest_78 : decode cX5_leastRest 78 = .ok (.goto (-71), 3) := by decide +kernel
theorem dX5_leastRest_81 : decode cX5_leastRest 81 = .ok (.iload 5, 2) := by decide +kernel
theorem dX5_leastRest_83 : decode cX5_leastRest 83 = .ok (.ireturn, 1) := by decide +kernel
theorem dX6_init_0 : decode cX6_init 0 = .ok (.aload_n 0, 1) := by decide +kernel
theorem dX6_init_1 : decode cX6_init 1 = .ok (.invokespecial 3, 3) := by decide +kernel
theorem dX6_init_4 : decode cX6_init 4 = .ok (.aload_n 0, 1) := by decide +kernel
theorem dX6_init_5 : decode cX6_init 5 = .ok (.bipush 6, 2) := by decide +kernel
theorem dX6_init_7 : decode cX6_init 7 = .ok (.newarray .int, 2) := by decide +kernel
theorem dX6_init_9 : decode cX6_init 9 = .ok (.putfield 9, 3) := by decide +kernel
theorem dX6_init_12 : decode cX6_init 12 = .ok (.aload_n 0, 1) := by decide +kernel
theorem dX6_init_13 : decode cX6_init 13 = .ok (.bipush 6, 2) := by decide +kernel
theorem dX6_init_15 : decode cX6_init 15 = .ok (.newarray .int, 2) := by decide +kernel
theorem dX6_init_17 : decode cX6_init 17 = .ok (.putfield 15, 3) := by decide +kernel
theorem dX6_init_20 : decode cX6_init 20 = .ok (.aload_n 0, 1) := by decide +kernel
theorem dX6_init_21 : decode cX6_init 21 = .ok (.bipush 6, 2) := by decide +kernel
theorem dX6_init_23 : decode cX6_init 23 = .ok (.newarray .int, 2) := by decide +kernel
theorem dX6_init_25 : decode cX6_init 25 = .ok (.putfield 18, 3) := by decide +kernel
theorem dX6_init_28 : decode cX6_init 28 = .ok (.aload_n 0, 1) := by decide +kernel
theorem dX6_init_29 : decode cX6_init 29 = .ok (.bipush 6, 2) := by decide +kernel
theorem dX6_init_31 : decode cX6_init 31 = .ok (.newarray .int, 2) := by decide +kernel
theorem dX6_init_33 : decode cX6_init 33 = .ok (.putfield 21, 3) := by decide +kernel
theorem dX6_init_36 : decode cX6_init 36 = .ok (.aload_n 0, 1) := by decide +kernel
theorem dX6_init_37 : decode cX6_init 37 = .ok (.bipush 6, 2) := by decide +kernel
theorem dX6_init_39 : decode cX6_init 39 = .ok (.newarray .int, 2) := by decide +kernel
theorem dX6_init_41 : decode cX6_init 41 = .ok (.putfield 24, 3) := by decide +kernel
theorem dX6_init_44 : decode cX6_init 44 = .ok (.aload_n 0, 1) := by decide +kernel
theorem dX6_init_45 : decode cX6_init 45 = .ok (.bipush 8, 2) := by decide +kernel
theorem dX6_init_47 : decode cX6_init 47 = .ok (.newarray .int, 2) := by decide +kernel
theorem dX6_init_49 : decode cX6_init 49 = .ok (.putfield 27, 3) := by decide +kernel
theorem dX6_init_52 : decode cX6_init 52 = .ok (.aload_n 0, 1) := by decide +kernel
theorem dX6_init_53 : decode cX6_init 53 = .ok (.sipush 256, 3) := by decide +kernel
theorem dX6_init_56 : decode cX6_init 56 = .ok (.newarray .int, 2) := by decide +kernel
theorem dX6_init_58 : decode cX6_init 58 = .ok (.putfield 30, 3) := by decide +kernel
theorem dX6_init_61 : decode cX6_init 61 = .ok (.aload_n 0, 1) := by decide +kernel
theorem dX6_init_62 : decode cX6_init 62 = .ok (.bipush 6, 2) := by decide +kernel
theorem dX6_init_64 : decode cX6_init 64 = .ok (.sipush 256, 3) := by decide +kernel
theorem dX6_init_67 : decode cX6_init 67 = .ok (.multianewarray 33 2, 4) := by decide +kernel
theorem dX6_init_71 : decode cX6_init 71 = .ok (.putfield 35, 3) := by decide +kernel
theorem dX6_init_74 : decode cX6_init 74 = .ok (.aload_n 0, 1) := by decide +kernel
theorem dX6_init_75 : decode cX6_init 75 = .ok (.bipush 6, 2) := by decide +kernel
theorem dX6_init_77 : decode cX6_init 77 = .ok (.newarray .int, 2) := by decide +kernel
theorem dX6_init_79 : decode cX6_init 79 = .ok (.putfield 38, 3) := by decide +kernel
theorem dX6_init_82 : decode cX6_init 82 = .ok (.return_, 1) := by decide +kernel
theorem dX6_lookAt_0 : decode cX6_lookAt 0 = .ok (.aload_n 0, 1) := by decide +kernel
theorem dX6_lookAt_1 : decode cX6_lookAt 1 = .ok (.aload_n 1, 1) := by decide +kernel
theorem dX6_lookAt_2 : decode cX6_lookAt 2 = .ok (.invokevirtual 41, 3) := by decide +kernel
theorem dX6_lookAt_5 : decode cX6_lookAt 5 = .ok (.putfield 47, 3) := by decide +kernel
theorem dX6_lookAt_8 : decode cX6_lookAt 8 = .ok (.aload_n 0, 1) := by decide +kernel
theorem dX6_lookAt_9 : decode cX6_lookAt 9 = .ok (.aload_n 1, 1) := by decide +kernel
theorem dX6_lookAt_10 : decode cX6_lookAt 10 = .ok (.invokevirtual 51, 3) := by decide +kernel
theorem dX6_lookAt_13 : decode cX6_lookAt 13 = .ok (.putfield 54, 3) := by decide +kernel
theorem dX6_lookAt_16 : decode cX6_lookAt 16 = .ok (.iconst 0, 1) := by decide +kernel
theorem dX6_lookAt_17 : decode cX6_lookAt 17 = .ok (.istore_n 2, 1) := by decide +kernel
theorem dX6_lookAt_18 : decode cX6_lookAt 18 = .ok (.iload_n 2, 1) := by decide +kernel
theorem dX6_lookAt_19 : decode cX6_lookAt 19 = .ok (.bipush 6, 2) := by decide +kernel
theorem dX6_lookAt_21 : decode cX6_lookAt 21 = .ok (.if_icmp .ge 15, 3) := by decide +kernel
theorem dX6_lookAt_24 : decode cX6_lookAt 24 = .ok (.aload_n 0, 1) := by decide +kernel
theorem dX6_lookAt_25 : decode cX6_lookAt 25 = .ok (.aload_n 1, 1) := by decide +kernel
theorem dX6_lookAt_26 : decode cX6_lookAt 26 = .ok (.iload_n 2, 1) := by decide +kernel
theorem dX6_lookAt_27 : decode cX6_lookAt 27 = .ok (.invokevirtual 57, 3) := by decide +kernel
theorem dX6_lookAt_30 : decode cX6_lookAt 30 = .ok (.iinc 2 1, 3) := by decide +kernel
theorem dX6_lookAt_33 : decode cX6_lookAt 33 = .ok (.goto (-15), 3) := by decide +kernel
theorem dX6_lookAt_36 : decode cX6_lookAt 36 = .ok (.iconst 0, 1) := by decide +kernel
theorem dX6_lookAt_37 : decode cX6_lookAt 37 = .ok (.istore_n 2, 1) := by decide +kernel
theorem dX6_lookAt_38 : decode cX6_lookAt 38 = .ok (.iload_n 2, 1) := by decide +kernel
theorem dX6_lookAt_39 : decode cX6_lookAt 39 = .ok (.bipush 8, 2) := by decide +kernel
theorem dX6_lookAt_41 : decode cX6_lookAt 41 = .ok (.if_icmp .ge 33, 3) := by decide +kernel
theorem dX6_lookAt_44 : decode cX6_lookAt 44 = .ok (.aload_n 0, 1) := by decide +kernel
theorem dX6_lookAt_45 : decode cX6_lookAt 45 = .ok (.getfield 27, 3) := by decide +kernel
theorem dX6_lookAt_48 : decode cX6_lookAt 48 = .ok (.iload_n 2, 1) := by decide +kernel
theorem dX6_lookAt_49 : decode cX6_lookAt 49 = .ok (.aload_n 0, 1) := by decide +kernel
theorem dX6_lookAt_50 : decode cX6_lookAt 50 = .ok (.iload_n 2, 1) := by decide +kernel
theorem dX6_lookAt_51 : decode cX6_lookAt 51 = .ok (.invokevirtual 61, 3) := by decide +kernel
theorem dX6_lookAt_54 : decode cX6_lookAt 54 = .ok (.ifCond .eq 12, 3) := by decide +kernel
theorem dX6_lookAt_57 : decode cX6_lookAt 57 = .ok (.aload_n 1, 1) := by decide +kernel
theorem dX6_lookAt_58 : decode cX6_lookAt 58 = .ok (.getfield 65, 3) := by decide +kernel
theorem dX6_lookAt_61 : decode cX6_lookAt 61 = .ok (.iload_n 2, 1) := by decide +kernel
theorem dX6_lookAt_62 : decode cX6_lookAt 62 = .ok (.iaload, 1) := by decide +kernel
theorem dX6_lookAt_63 : decode cX6_lookAt 63 = .ok (.goto 4, 3) := by decide +kernel
theorem dX6_lookAt_66 : decode cX6_lookAt 66 = .ok (.iconst 0, 1) := by decide +kernel
theorem dX6_lookAt_67 : decode cX6_lookAt 67 = .ok (.iastore, 1) := by decide +kernel
theorem dX6_lookAt_68 : decode cX6_lookAt 68 = .ok (.iinc 2 1, 3) := by decide +kernel
theorem dX6_lookAt_71 : decode cX6_lookAt 71 = .ok (.goto (-33), 3) := by decide +kernel
theorem dX6_lookAt_74 : decode cX6_lookAt 74 = .ok (.aload_n 0, 1) := by decide +kernel
theorem dX6_lookAt_75 : decode cX6_lookAt 75 = .ok (.invokevirtual 66, 3) := by decide +kernel
theorem dX6_lookAt_78 : decode cX6_lookAt 78 = .ok (.return_, 1) := by decide +kernel
theorem dX6_lookAtCan_0 : decode cX6_lookAtCan 0 = .ok (.aload_n 0, 1) := by decide +kernel
theorem dX6_lookAtCan_1 : decode cX6_lookAtCan 1 = .ok (.getfield 24, 3) := by decide +kernel
theorem dX6_lookAtCan_4 : decode cX6_lookAtCan 4 = .ok (.iload_n 2, 1) := by decide +kernel
theorem dX6_lookAtCan_5 : decode cX6_lookAtCan 5 = .ok (.iconst 0, 1) := by decide +kernel
theorem dX6_lookAtCan_6 : decode cX6_lookAtCan 6 = .ok (.iastore, 1) := by decide +kernel
theorem dX6_lookAtCan_7 : decode cX6_lookAtCan 7 = .ok (.aload_n 0, 1) := by decide +kernel
theorem dX6_lookAtCan_8 : decode cX6_lookAtCan 8 = .ok (.iload_n 2, 1) := by decide +kernel
theorem dX6_lookAtCan_9 : decode cX6_lookAtCan 9 = .ok (.invokevirtual 69, 3) := by decide +kernel
theorem dX6_lookAtCan_12 : decode cX6_lookAtCan 12 = .ok (.ifCond .eq 108, 3) := by decide +kernel
theorem dX6_lookAtCan_15 : decode cX6_lookAtCan 15 = .ok (.aload_n 1, 1) := by decide +kernel
theorem dX6_lookAtCan_16 : decode cX6_lookAtCan 16 = .ok (.getfield 72, 3) := by decide +kernel
theorem dX6_lookAtCan_19 : decode cX6_lookAtCan 19 = .ok (.iload_n 2, 1) := by decide +kernel
theorem dX6_lookAtCan_20 : decode cX6_lookAtCan 20 = .ok (.iaload, 1) := by decide +kernel
theorem dX6_lookAtCan_21 : decode cX6_lookAtCan 21 = .ok (.istore_n 3, 1) := by decide +kernel
theorem dX6_lookAtCan_22 : decode cX6_lookAtCan 22 = .ok (.iload_n 3, 1) := by decide +kernel
theorem dX6_lookAtCan_23 : decode cX6_lookAtCan 23 = .ok (.aload_n 1, 1) := by decide +kernel
theorem dX6_lookAtCan_24 : decode cX6_lookAtCan 24 = .ok (.getfield 75, 3) := by decide +kernel
theorem dX6_lookAtCan_27 : decode cX6_lookAtCan 27 = .ok (.iconst 1, 1) := by decide +kernel
theorem dX6_lookAtCan_28 : decode cX6_lookAtCan 28 = .ok (.iaload, 1) := by decide +kernel
theorem dX6_lookAtCan_29 : decode cX6_lookAtCan 29 = .ok (.invokestatic 78, 3) := by decide +kernel
theorem dX6_lookAtCan_32 : decode cX6_lookAtCan 32 = .ok (.istore 4, 2) := by decide +kernel
theorem dX6_lookAtCan_34 : decode cX6_lookAtCan 34 = .ok (.aload_n 0, 1) := by decide +kernel
theorem dX6_lookAtCan_35 : decode cX6_lookAtCan 35 = .ok (.getfield 9, 3) := by decide +kernel
theorem dX6_lookAtCan_38 : decode cX6_lookAtCan 38 = .ok (.iload_n 2, 1) := by decide +kernel
theorem dX6_lookAtCan_39 : decode cX6_lookAtCan 39 = .ok (.aload_n 1, 1) := by decide +kernel
theorem dX6_lookAtCan_40 : decode cX6_lookAtCan 40 = .ok (.getfield 84, 3) := by decide +kernel
theorem dX6_lookAtCan_43 : decode cX6_lookAtCan 43 = .ok (.iload_n 2, 1) := by decide +kernel
theorem dX6_lookAtCan_44 : decode cX6_lookAtCan 44 = .ok (.iaload, 1) := by decide +kernel
theorem dX6_lookAtCan_45 : decode cX6_lookAtCan 45 = .ok (.iastore, 1) := by decide +kernel
theorem dX6_lookAtCan_46 : decode cX6_lookAtCan 46 = .ok (.aload_n 0, 1) := by decide +kernel
theorem dX6_lookAtCan_47 : decode cX6_lookAtCan 47 = .ok (.getfield 15, 3) := by decide +kernel
theorem dX6_lookAtCan_50 : decode cX6_lookAtCan 50 = .ok (.iload_n 2, 1) := by decide +kernel
theorem dX6_lookAtCan_51 : decode cX6_lookAtCan 51 = .ok (.iload_n 2, 1) := by decide +kernel
theorem dX6_lookAtCan_52 : decode cX6_lookAtCan 52 = .ok (.aload_n 1, 1) := by decide +kernel
theorem dX6_lookAtCan_53 : decode cX6_lookAtCan 53 = .ok (.getfield 87, 3) := by decide +kernel
theorem dX6_lookAtCan_56 : decode cX6_lookAtCan 56 = .ok (.if_icmp .ne 7, 3) := by decide +kernel
theorem dX6_lookAtCan_59 : decode cX6_lookAtCan 59 = .ok (.iconst 0, 1) := by decide +kernel
theorem dX6_lookAtCan_60 : decode cX6_lookAtCan 60 = .ok (.goto 13, 3) := by decide +kernel
theorem dX6_lookAtCan_63 : decode cX6_lookAtCan 63 = .ok (.iload_n 3, 1) := by decide +kernel
theorem dX6_lookAtCan_64 : decode cX6_lookAtCan 64 = .ok (.aload_n 1, 1) := by decide +kernel
theorem dX6_lookAtCan_65 : decode cX6_lookAtCan 65 = .ok (.getfield 75, 3) := by decide +kernel
theorem dX6_lookAtCan_68 : decode cX6_lookAtCan 68 = .ok (.iconst 0, 1) := by decide +kernel
theorem dX6_lookAtCan_69 : decode cX6_lookAtCan 69 = .ok (.iaload, 1) := by decide +kernel
theorem dX6_lookAtCan_70 : decode cX6_lookAtCan 70 = .ok (.invokestatic 90, 3) := by decide +kernel
theorem dX6_lookAtCan_73 : decode cX6_lookAtCan 73 = .ok (.iastore, 1) := by decide +kernel
theorem dX6_lookAtCan_74 : decode cX6_lookAtCan 74 = .ok (.aload_n 0, 1) := by decide +kernel
theorem dX6_lookAtCan_75 : decode cX6_lookAtCan 75 = .ok (.getfield 18, 3) := by decide +kernel
theorem dX6_lookAtCan_78 : decode cX6_lookAtCan 78 = .ok (.iload_n 2, 1) := by decide +kernel
theorem dX6_lookAtCan_79 : decode cX6_lookAtCan 79 = .ok (.iload_n 3, 1) := by decide +kernel
theorem dX6_lookAtCan_80 : decode cX6_lookAtCan 80 = .ok (.invokestatic 93, 3) := by decide +kernel
theorem dX6_lookAtCan_83 : decode cX6_lookAtCan 83 = .ok (.iastore, 1) := by decide +kernel
theorem dX6_lookAtCan_84 : decode cX6_lookAtCan 84 = .ok (.aload_n 0, 1) := by decide +kernel
theorem dX6_lookAtCan_85 : decode cX6_lookAtCan 85 = .ok (.getfield 21, 3) := by decide +kernel
theorem dX6_lookAtCan_88 : decode cX6_lookAtCan 88 = .ok (.iload_n 2, 1) := by decide +kernel
theorem dX6_lookAtCan_89 : decode cX6_lookAtCan 89 = .ok (.iload 4, 2) := by decide +kernel
theorem dX6_lookAtCan_91 : decode cX6_lookAtCan 91 = .ok (.ldc 97, 2) := by decide +kernel
theorem dX6_lookAtCan_93 : decode cX6_lookAtCan 93 = .ok (.if_icmp .ne 8, 3) := by decide +kernel
theorem dX6_lookAtCan_96 : decode cX6_lookAtCan 96 = .ok (.bipush 100, 2) := by decide +kernel
theorem dX6_lookAtCan_98 : decode cX6_lookAtCan 98 = .ok (.goto 5, 3) := by decide +kernel
theorem dX6_lookAtCan_101 : decode cX6_lookAtCan 101 = .ok (.iload 4, 2) := by decide +kernel
theorem dX6_lookAtCan_103 : decode cX6_lookAtCan 103 = .ok (.iastore, 1) := by decide +kernel
theorem dX6_lookAtCan_104 : decode cX6_lookAtCan 104 = .ok (.aload_n 0, 1) := by decide +kernel
theorem dX6_lookAtCan_105 : decode cX6_lookAtCan 105 = .ok (.getfield 24, 3) := by decide +kernel
theorem dX6_lookAtCan_108 : decode cX6_lookAtCan 108 = .ok (.iload_n 2, 1) := by decide +kernel
theorem dX6_lookAtCan_109 : decode cX6_lookAtCan 109 = .ok (.aload_n 0, 1) := by decide +kernel
theorem dX6_lookAtCan_110 : decode cX6_lookAtCan 110 = .ok (.getfield 54, 3) := by decide +kernel
theorem dX6_lookAtCan_113 : decode cX6_lookAtCan 113 = .ok (.aload_n 1, 1) := by decide +kernel
theorem dX6_lookAtCan_114 : decode cX6_lookAtCan 114 = .ok (.iload_n 3, 1) := by decide +kernel
theorem dX6_lookAtCan_115 : decode cX6_lookAtCan 115 = .ok (.invokevirtual 98, 3) := by decide +kernel
theorem dX6_lookAtCan_118 : decode cX6_lookAtCan 118 = .ok (.iand, 1) := by decide +kernel
theorem dX6_lookAtCan_119 : decode cX6_lookAtCan 119 = .ok (.iastore, 1) := by decide +kernel
theorem dX6_lookAtCan_120 : decode cX6_lookAtCan 120 = .ok (.return_, 1) := by decide +kernel
theorem dX6_drawLength_0 : decode cX6_drawLength 0 = .ok (.aload_n 0, 1) := by decide +kernel
theorem dX6_drawLength_1 : decode cX6_drawLength 1 = .ok (.getfield 54, 3) := by decide +kernel
theorem dX6_drawLength_4 : decode cX6_drawLength 4 = .ok (.invokestatic 101, 3) := by decide +kernel
theorem dX6_drawLength_7 : decode cX6_drawLength 7 = .ok (.istore_n 3, 1) := by decide +kernel
theorem dX6_drawLength_8 : decode cX6_drawLength 8 = .ok (.iload_n 3, 1) := by decide +kernel
theorem dX6_drawLength_9 : decode cX6_drawLength 9 = .ok (.ifCond .eq 9, 3) := by decide +kernel
theorem dX6_drawLength_12 : decode cX6_drawLength 12 = .ok (.lload_n 1, 1) := by decide +kernel
theorem dX6_drawLength_13 : decode cX6_drawLength 13 = .ok (.lconst 0, 1) := by decide +kernel
theorem dX6_drawLength_14 : decode cX6_drawLength 14 = .ok (.lcmp, 1) := by decide +kernel
theorem dX6_drawLength_15 : decode cX6_drawLength 15 = .ok (.ifCond .ge 4, 3) := by decide +kernel
theorem dX6_drawLength_18 : decode cX6_drawLength 18 = .ok (.return_, 1) := by decide +kernel
theorem dX6_drawLength_19 : decode cX6_drawLength 19 = .ok (.lload_n 1, 1) := by decide +kernel
theorem dX6_drawLength_20 : decode cX6_drawLength 20 = .ok (.iload_n 3, 1) := by decide +kernel
theorem dX6_drawLength_21 : decode cX6_drawLength 21 = .ok (.i2l, 1) := by decide +kernel
theorem dX6_drawLength_22 : decode cX6_drawLength 22 = .ok (.lrem, 1) := by decide +kernel
theorem dX6_drawLength_23 : decode cX6_drawLength 23 = .ok (.l2i, 1) := by decide +kernel
theorem dX6_drawLength_24 : decode cX6_drawLength 24 = .ok (.istore 4, 2) := by decide +kernel
theorem dX6_drawLength_26 : decode cX6_drawLength 26 = .ok (.iconst 0, 1) := by decide +kernel
theorem dX6_drawLength_27 : decode cX6_drawLength 27 = .ok (.istore 5, 2) := by decide +kernel
theorem dX6_drawLength_29 : decode cX6_drawLength 29 = .ok (.iload 5, 2) := by decide +kernel
theorem dX6_drawLength_31 : decode cX6_drawLength 31 = .ok (.bipush 8, 2) := by decide +kernel
theorem dX6_drawLength_33 : decode cX6_drawLength 33 = .ok (.if_icmp .ge 45, 3) := by decide +kernel
theorem dX6_drawLength_36 : decode cX6_drawLength 36 = .ok (.aload_n 0, 1) := by decide +kernel
theorem dX6_drawLength_37 : decode cX6_drawLength 37 = .ok (.iload 5, 2) := by decide +kernel
theorem dX6_drawLength_39 : decode cX6_drawLength 39 = .ok (.invokevirtual 61, 3) := by decide +kernel
theorem dX6_drawLength_42 : decode cX6_drawLength 42 = .ok (.ifCond .eq 30, 3) := by decide +kernel
theorem dX6_drawLength_45 : decode cX6_drawLength 45 = .ok (.iload 4, 2) := by decide +kernel
theorem dX6_drawLength_47 : decode cX6_drawLength 47 = .ok (.ifCond .ne 22, 3) := by decide +kernel
theorem dX6_drawLength_50 : decode cX6_drawLength 50 = .ok (.aload_n 0, 1) := by decide +kernel
theorem dX6_drawLength_51 : decode cX6_drawLength 51 = .ok (.getfield 27, 3) := by decide +kernel
theorem dX6_drawLength_54 : decode cX6_drawLength 54 = .ok (.iload 5, 2) := by decide +kernel
theorem dX6_drawLength_56 : decode cX6_drawLength 56 = .ok (.iconst 1, 1) := by decide +kernel
theorem dX6_drawLength_57 : decode cX6_drawLength 57 = .ok (.lload_n 1, 1) := by decide +kernel
theorem dX6_drawLength_58 : decode cX6_drawLength 58 = .ok (.ldc2_w 106, 3) := by decide +kernel
theorem dX6_drawLength_61 : decode cX6_drawLength 61 = .ok (.ldiv, 1) := by decide +kernel
theorem dX6_drawLength_62 : decode cX6_drawLength 62 = .ok (.ldc2_w 108, 3) := by decide +kernel
theorem dX6_drawLength_65 : decode cX6_drawLength 65 = .ok (.lrem, 1) := by decide +kernel
theorem dX6_drawLength_66 : decode cX6_drawLength 66 = .ok (.l2i, 1) := by decide +kernel
theorem dX6_drawLength_67 : decode cX6_drawLength 67 = .ok (.iadd, 1) := by decide +kernel
theorem dX6_drawLength_68 : decode cX6_drawLength 68 = .ok (.iastore, 1) := by decide +kernel
theorem dX6_drawLength_69 : decode cX6_drawLength 69 = .ok (.iinc 4 (-1), 3) := by decide +kernel
theorem dX6_drawLength_72 : decode cX6_drawLength 72 = .ok (.iinc 5 1, 3) := by decide +kernel
theorem dX6_drawLength_75 : decode cX6_drawLength 75 = .ok (.goto (-46), 3) := by decide +kernel
theorem dX6_drawLength_78 : decode cX6_drawLength 78 = .ok (.aload_n 0, 1) := by decide +kernel
theorem dX6_drawLength_79 : decode cX6_drawLength 79 = .ok (.invokevirtual 66, 3) := by decide +kernel
theorem dX6_drawLength_82 : decode cX6_drawLength 82 = .ok (.return_, 1) := by decide +kernel
theorem dX6_measure_0 : decode cX6_measure 0 = .ok (.aload_n 0, 1) := by decide +kernel
theorem dX6_measure_1 : decode cX6_measure 1 = .ok (.getfield 30, 3) := by decide +kernel
theorem dX6_measure_4 : decode cX6_measure 4 = .ok (.iconst 0, 1) := by decide +kernel
theorem dX6_measure_5 : decode cX6_measure 5 = .ok (.iconst 0, 1) := by decide +kernel
theorem dX6_measure_6 : decode cX6_measure 6 = .ok (.iastore, 1) := by decide +kernel
theorem dX6_measure_7 : decode cX6_measure 7 = .ok (.iconst 0, 1) := by decide +kernel
theorem dX6_measure_8 : decode cX6_measure 8 = .ok (.istore_n 1, 1) := by decide +kernel
theorem dX6_measure_9 : decode cX6_measure 9 = .ok (.iload_n 1, 1) := by decide +kernel
theorem dX6_measure_10 : decode cX6_measure 10 = .ok (.bipush 8, 2) := by decide +kernel
theorem dX6_measure_12 : decode cX6_measure 12 = .ok (.if_icmp .ge 47, 3) := by decide +kernel
theorem dX6_measure_15 : decode cX6_measure 15 = .ok (.iconst 1, 1) := by decide +kernel
theorem dX6_measure_16 : decode cX6_measure 16 = .ok (.iload_n 1, 1) := by decide +kernel
theorem dX6_measure_17 : decode cX6_measure 17 = .ok (.ishl, 1) := by decide +kernel
theorem dX6_measure_18 : decode cX6_measure 18 = .ok (.istore_n 2, 1) := by decide +kernel
theorem dX6_measure_19 : decode cX6_measure 19 = .ok (.iconst 0, 1) := by decide +kernel
theorem dX6_measure_20 : decode cX6_measure 20 = .ok (.istore_n 3, 1) := by decide +kernel
theorem dX6_measure_21 : decode cX6_measure 21 = .ok (.iload_n 3, 1) := by decide +kernel
theorem dX6_measure_22 : decode cX6_measure 22 = .ok (.iload_n 2, 1) := by decide +kernel
theorem dX6_measure_23 : decode cX6_measure 23 = .ok (.if_icmp .ge 30, 3) := by decide +kernel
theorem dX6_measure_26 : decode cX6_measure 26 = .ok (.aload_n 0, 1) := by decide +kernel
theorem dX6_measure_27 : decode cX6_measure 27 = .ok (.getfield 30, 3) := by decide +kernel
theorem dX6_measure_30 : decode cX6_measure 30 = .ok (.iload_n 3, 1) := by decide +kernel
theorem dX6_measure_31 : decode cX6_measure 31 = .ok (.iload_n 2, 1) := by decide +kernel
theorem dX6_measure_32 : decode cX6_measure 32 = .ok (.ior, 1) := by decide +kernel
theorem dX6_measure_33 : decode cX6_measure 33 = .ok (.aload_n 0, 1) := by decide +kernel
theorem dX6_measure_34 : decode cX6_measure 34 = .ok (.getfield 30, 3) := by decide +kernel
theorem dX6_measure_37 : decode cX6_measure 37 = .ok (.iload_n 3, 1) := by decide +kernel
theorem dX6_measure_38 : decode cX6_measure 38 = .ok (.iaload, 1) := by decide +kernel
theorem dX6_measure_39 : decode cX6_measure 39 = .ok (.aload_n 0, 1) := by decide +kernel
theorem dX6_measure_40 : decode cX6_measure 40 = .ok (.getfield 27, 3) := by decide +kernel
theorem dX6_measure_43 : decode cX6_measure 43 = .ok (.iload_n 1, 1) := by decide +kernel
theorem dX6_measure_44 : decode cX6_measure 44 = .ok (.iaload, 1) := by decide +kernel
theorem dX6_measure_45 : decode cX6_measure 45 = .ok (.iadd, 1) := by decide +kernel
theorem dX6_measure_46 : decode cX6_measure 46 = .ok (.iastore, 1) := by decide +kernel
theorem dX6_measure_47 : decode cX6_measure 47 = .ok (.iinc 3 1, 3) := by decide +kernel
theorem dX6_measure_50 : decode cX6_measure 50 = .ok (.goto (-29), 3) := by decide +kernel
theorem dX6_measure_53 : decode cX6_measure 53 = .ok (.iinc 1 1, 3) := by decide +kernel
theorem dX6_measure_56 : decode cX6_measure 56 = .ok (.goto (-47), 3) := by decide +kernel
theorem dX6_measure_59 : decode cX6_measure 59 = .ok (.iconst 0, 1) := by decide +kernel
theorem dX6_measure_60 : decode cX6_measure 60 = .ok (.istore_n 1, 1) := by decide +kernel
theorem dX6_measure_61 : decode cX6_measure 61 = .ok (.iload_n 1, 1) := by decide +kernel
theorem dX6_measure_62 : decode cX6_measure 62 = .ok (.bipush 6, 2) := by decide +kernel
theorem dX6_measure_64 : decode cX6_measure 64 = .ok (.if_icmp .ge 25, 3) := by decide +kernel
theorem dX6_measure_67 : decode cX6_measure 67 = .ok (.aload_n 0, 1) := by decide +kernel
theorem dX6_measure_68 : decode cX6_measure 68 = .ok (.getfield 35, 3) := by decide +kernel
theorem dX6_measure_71 : decode cX6_measure 71 = .ok (.iload_n 1, 1) := by decide +kernel
theorem dX6_measure_72 : decode cX6_measure 72 = .ok (.aaload, 1) := by decide +kernel
theorem dX6_measure_73 : decode cX6_measure 73 = .ok (.ldc 97, 2) := by decide +kernel
theorem dX6_measure_75 : decode cX6_measure 75 = .ok (.invokestatic 110, 3) := by decide +kernel
theorem dX6_measure_78 : decode cX6_measure 78 = .ok (.aload_n 0, 1) := by decide +kernel
theorem dX6_measure_79 : decode cX6_measure 79 = .ok (.iload_n 1, 1) := by decide +kernel
theorem dX6_measure_80 : decode cX6_measure 80 = .ok (.invokevirtual 116, 3) := by decide +kernel
theorem dX6_measure_83 : decode cX6_measure 83 = .ok (.iinc 1 1, 3) := by decide +kernel
theorem dX6_measure_86 : decode cX6_measure 86 = .ok (.goto (-25), 3) := by decide +kernel
theorem dX6_measure_89 : decode cX6_measure 89 = .ok (.return_, 1) := by decide +kernel
theorem dX6_measureEnds_0 : decode cX6_measureEnds 0 = .ok (.aload_n 0, 1) := by decide +kernel
theorem dX6_measureEnds_1 : decode cX6_measureEnds 1 = .ok (.getfield 24, 3) := by decide +kernel
theorem dX6_measureEnds_4 : decode cX6_measureEnds 4 = .ok (.iload_n 1, 1) := by decide +kernel
theorem dX6_measureEnds_5 : decode cX6_measureEnds 5 = .ok (.iaload, 1) := by decide +kernel
theorem dX6_measureEnds_6 : decode cX6_measureEnds 6 = .ok (.istore_n 2, 1) := by decide +kernel
theorem dX6_measureEnds_7 : decode cX6_measureEnds 7 = .ok (.iload_n 2, 1) := by decide +kernel
theorem dX6_measureEnds_8 : decode cX6_measureEnds 8 = .ok (.istore_n 3, 1) := by decide +kernel
theorem dX6_measureEnds_9 : decode cX6_measureEnds 9 = .ok (.iload_n 3, 1) := by decide +kernel
theorem dX6_measureEnds_10 : decode cX6_measureEnds 10 = .ok (.ifCond .le 52, 3) := by decide +kernel
theorem dX6_measureEnds_13 : decode cX6_measureEnds 13 = .ok (.aload_n 0, 1) := by decide +kernel
theorem dX6_measureEnds_14 : decode cX6_measureEnds 14 = .ok (.getfield 35, 3) := by decide +kernel
theorem dX6_measureEnds_17 : decode cX6_measureEnds 17 = .ok (.iload_n 1, 1) := by decide +kernel
theorem dX6_measureEnds_18 : decode cX6_measureEnds 18 = .ok (.aaload, 1) := by decide +kernel
theorem dX6_measureEnds_19 : decode cX6_measureEnds 19 = .ok (.iload_n 3, 1) := by decide +kernel
theorem dX6_measureEnds_20 : decode cX6_measureEnds 20 = .ok (.aload_n 0, 1) := by decide +kernel
theorem dX6_measureEnds_21 : decode cX6_measureEnds 21 = .ok (.getfield 9, 3) := by decide +kernel
theorem dX6_measureEnds_24 : decode cX6_measureEnds 24 = .ok (.iload_n 1, 1) := by decide +kernel
theorem dX6_measureEnds_25 : decode cX6_measureEnds 25 = .ok (.iaload, 1) := by decide +kernel
theorem dX6_measureEnds_26 : decode cX6_measureEnds 26 = .ok (.aload_n 0, 1) := by decide +kernel
theorem dX6_measureEnds_27 : decode cX6_measureEnds 27 = .ok (.getfield 15, 3) := by decide +kernel
theorem dX6_measureEnds_30 : decode cX6_measureEnds 30 = .ok (.iload_n 1, 1) := by decide +kernel
theorem dX6_measureEnds_31 : decode cX6_measureEnds 31 = .ok (.iaload, 1) := by decide +kernel
theorem dX6_measureEnds_32 : decode cX6_measureEnds 32 = .ok (.isub, 1) := by decide +kernel
theorem dX6_measureEnds_33 : decode cX6_measureEnds 33 = .ok (.aload_n 0, 1) := by decide +kernel
theorem dX6_measureEnds_34 : decode cX6_measureEnds 34 = .ok (.getfield 18, 3) := by decide +kernel
theorem dX6_measureEnds_37 : decode cX6_measureEnds 37 = .ok (.iload_n 1, 1) := by decide +kernel
theorem dX6_measureEnds_38 : decode cX6_measureEnds 38 = .ok (.iaload, 1) := by decide +kernel
theorem dX6_measureEnds_39 : decode cX6_measureEnds 39 = .ok (.iload_n 3, 1) := by decide +kernel
theorem dX6_measureEnds_40 : decode cX6_measureEnds 40 = .ok (.invokestatic 101, 3) := by decide +kernel
theorem dX6_measureEnds_43 : decode cX6_measureEnds 43 = .ok (.imul, 1) := by decide +kernel
theorem dX6_measureEnds_44 : decode cX6_measureEnds 44 = .ok (.isub, 1) := by decide +kernel
theorem dX6_measureEnds_45 : decode cX6_measureEnds 45 = .ok (.aload_n 0, 1) := by decide +kernel
theorem dX6_measureEnds_46 : decode cX6_measureEnds 46 = .ok (.getfield 30, 3) := by decide +kernel
theorem dX6_measureEnds_49 : decode cX6_measureEnds 49 = .ok (.iload_n 3, 1) := by decide +kernel
theorem dX6_measureEnds_50 : decode cX6_measureEnds 50 = .ok (.iaload, 1) := by decide +kernel
theorem dX6_measureEnds_51 : decode cX6_measureEnds 51 = .ok (.isub, 1) := by decide +kernel
theorem dX6_measureEnds_52 : decode cX6_measureEnds 52 = .ok (.iastore, 1) := by decide +kernel
theorem dX6_measureEnds_53 : decode cX6_measureEnds 53 = .ok (.iload_n 3, 1) := by decide +kernel
theorem dX6_measureEnds_54 : decode cX6_measureEnds 54 = .ok (.iconst 1, 1) := by decide +kernel
theorem dX6_measureEnds_55 : decode cX6_measureEnds 55 = .ok (.isub, 1) := by decide +kernel
theorem dX6_measureEnds_56 : decode cX6_measureEnds 56 = .ok (.iload_n 2, 1) := by decide +kernel
theorem dX6_measureEnds_57 : decode cX6_measureEnds 57 = .ok (.iand, 1) := by decide +kernel
theorem dX6_measureEnds_58 : decode cX6_measureEnds 58 = .ok (.istore_n 3, 1) := by decide +kernel
theorem dX6_measureEnds_59 : decode cX6_measureEnds 59 = .ok (.goto (-50), 3) := by decide +kernel
theorem dX6_measureEnds_62 : decode cX6_measureEnds 62 = .ok (.return_, 1) := by decide +kernel
theorem dX6_has_0 : decode cX6_has 0 = .ok (.aload_n 0, 1) := by decide +kernel
theorem dX6_has_1 : decode cX6_has 1 = .ok (.getfield 47, 3) := by decide +kernel
theorem dX6_has_4 : decode cX6_has 4 = .ok (.iload_n 1, 1) := by decide +kernel
theorem dX6_has_5 : decode cX6_has 5 = .ok (.ishr, 1) := by decide +kernel
theorem dX6_has_6 : decode cX6_has 6 = .ok (.iconst 1, 1) := by decide +kernel
theorem dX6_has_7 : decode cX6_has 7 = .ok (.iand, 1) := by decide +kernel
theorem dX6_has_8 : decode cX6_has 8 = .ok (.iconst 1, 1) := by decide +kernel
theorem dX6_has_9 : decode cX6_has 9 = .ok (.if_icmp .ne 7, 3) := by decide +kernel
theorem dX6_has_12 : decode cX6_has 12 = .ok (.iconst 1, 1) := by decide +kernel
theorem dX6_has_13 : decode cX6_has 13 = .ok (.goto 4, 3) := by decide +kernel
theorem dX6_has_16 : decode cX6_has 16 = .ok (.iconst 0, 1) := by decide +kernel
theorem dX6_has_17 : decode cX6_has 17 = .ok (.ireturn, 1) := by decide +kernel
theorem dX6_isOpen_0 : decode cX6_isOpen 0 = .ok (.aload_n 0, 1) := by decide +kernel
theorem dX6_isOpen_1 : decode cX6_isOpen 1 = .ok (.getfield 54, 3) := by decide +kernel
theorem dX6_isOpen_4 : decode cX6_isOpen 4 = .ok (.iload_n 1, 1) := by decide +kernel
theorem dX6_isOpen_5 : decode cX6_isOpen 5 = .ok (.ishr, 1) := by decide +kernel
theorem dX6_isOpen_6 : decode cX6_isOpen 6 = .ok (.iconst 1, 1) := by decide +kernel
theorem dX6_isOpen_7 : decode cX6_isOpen 7 = .ok (.iand, 1) := by decide +kernel
theorem dX6_isOpen_8 : decode cX6_isOpen 8 = .ok (.iconst 1, 1) := by decide +kernel
theorem dX6_isOpen_9 : decode cX6_isOpen 9 = .ok (.if_icmp .ne 7, 3) := by decide +kernel
theorem dX6_isOpen_12 : decode cX6_isOpen 12 = .ok (.iconst 1, 1) := by decide +kernel
theorem dX6_isOpen_13 : decode cX6_isOpen 13 = .ok (.goto 4, 3) := by decide +kernel
theorem dX6_isOpen_16 : decode cX6_isOpen 16 = .ok (.iconst 0, 1) := by decide +kernel
theorem dX6_isOpen_17 : decode cX6_isOpen 17 = .ok (.ireturn, 1) := by decide +kernel
theorem dX6_holds_0 : decode cX6_holds 0 = .ok (.aload_n 0, 1) := by decide +kernel
theorem dX6_holds_1 : decode cX6_holds 1 = .ok (.getfield 35, 3) := by decide +kernel
theorem dX6_holds_4 : decode cX6_holds 4 = .ok (.iload_n 1, 1) := by decide +kernel
theorem dX6_holds_5 : decode cX6_holds 5 = .ok (.aaload, 1) := by decide +kernel
theorem dX6_holds_6 : decode cX6_holds 6 = .ok (.iload_n 2, 1) := by decide +kernel
theorem dX6_holds_7 : decode cX6_holds 7 = .ok (.iaload, 1) := by decide +kernel
theorem dX6_holds_8 : decode cX6_holds 8 = .ok (.ifCond .lt 7, 3) := by decide +kernel
theorem dX6_holds_11 : decode cX6_holds 11 = .ok (.iconst 1, 1) := by decide +kernel
theorem dX6_holds_12 : decode cX6_holds 12 = .ok (.goto 4, 3) := by decide +kernel
theorem dX6_holds_15 : decode cX6_holds 15 = .ok (.iconst 0, 1) := by decide +kernel
theorem dX6_holds_16 : decode cX6_holds 16 = .ok (.ireturn, 1) := by decide +kernel
theorem dX6_lossOf_0 : decode cX6_lossOf 0 = .ok (.aload_n 0, 1) := by decide +kernel
theorem dX6_lossOf_1 : decode cX6_lossOf 1 = .ok (.getfield 35, 3) := by decide +kernel
theorem dX6_lossOf_4 : decode cX6_lossOf 4 = .ok (.iload_n 1, 1) := by decide +kernel
theorem dX6_lossOf_5 : decode cX6_lossOf 5 = .ok (.aaload, 1) := by decide +kernel
theorem dX6_lossOf_6 : decode cX6_lossOf 6 = .ok (.iload_n 2, 1) := by decide +kernel
theorem dX6_lossOf_7 : decode cX6_lossOf 7 = .ok (.iaload, 1) := by decide +kernel
theorem dX6_lossOf_8 : decode cX6_lossOf 8 = .ok (.istore_n 3, 1) := by decide +kernel
theorem dX6_lossOf_9 : decode cX6_lossOf 9 = .ok (.aload_n 0, 1) := by decide +kernel
theorem dX6_lossOf_10 : decode cX6_lossOf 10 = .ok (.getfield 9, 3) := by decide +kernel
theorem dX6_lossOf_13 : decode cX6_lossOf 13 = .ok (.iload_n 1, 1) := by decide +kernel
theorem dX6_lossOf_14 : decode cX6_lossOf 14 = .ok (.iaload, 1) := by decide +kernel
theorem dX6_lossOf_15 : decode cX6_lossOf 15 = .ok (.aload_n 0, 1) := by decide +kernel
theorem dX6_lossOf_16 : decode cX6_lossOf 16 = .ok (.getfield 30, 3) := by decide +kernel
theorem dX6_lossOf_19 : decode cX6_lossOf 19 = .ok (.iload_n 2, 1) := by decide +kernel
theorem dX6_lossOf_20 : decode cX6_lossOf 20 = .ok (.iaload, 1) := by decide +kernel
theorem dX6_lossOf_21 : decode cX6_lossOf 21 = .ok (.isub, 1) := by decide +kernel
theorem dX6_lossOf_22 : decode cX6_lossOf 22 = .ok (.iload_n 3, 1) := by decide +kernel
theorem dX6_lossOf_23 : decode cX6_lossOf 23 = .ok (.aload_n 0, 1) := by decide +kernel
theorem dX6_lossOf_24 : decode cX6_lossOf 24 = .ok (.getfield 21, 3) := by decide +kernel
theorem dX6_lossOf_27 : decode cX6_lossOf 27 = .ok (.iload_n 1, 1) := by decide +kernel
theorem dX6_lossOf_28 : decode cX6_lossOf 28 = .ok (.iaload, 1) := by decide +kernel
theorem dX6_lossOf_29 : decode cX6_lossOf 29 = .ok (.if_icmp .lt 7, 3) := by decide +kernel
theorem dX6_lossOf_32 : decode cX6_lossOf 32 = .ok (.iload_n 3, 1) := by decide +kernel
theorem dX6_lossOf_33 : decode cX6_lossOf 33 = .ok (.goto 4, 3) := by decide +kernel
theorem dX6_lossOf_36 : decode cX6_lossOf 36 = .ok (.iconst 0, 1) := by decide +kernel
theorem dX6_lossOf_37 : decode cX6_lossOf 37 = .ok (.isub, 1) := by decide +kernel
theorem dX6_lossOf_38 : decode cX6_lossOf 38 = .ok (.ireturn, 1) := by decide +kernel
theorem dX6_losses_0 : decode cX6_losses 0 = .ok (.iconst 0, 1) := by decide +kernel
theorem dX6_losses_1 : decode cX6_losses 1 = .ok (.istore_n 1, 1) := by decide +kernel
theorem dX6_losses_2 : decode cX6_losses 2 = .ok (.iconst 0, 1) := by decide +kernel
theorem dX6_losses_3 : decode cX6_losses 3 = .ok (.istore_n 2, 1) := by decide +kernel
theorem dX6_losses_4 : decode cX6_losses 4 = .ok (.iload_n 2, 1) := by decide +kernel
theorem dX6_losses_5 : decode cX6_losses 5 = .ok (.bipush 6, 2) := by decide +kernel
theorem dX6_losses_7 : decode cX6_losses 7 = .ok (.if_icmp .ge 32, 3) := by decide +kernel
theorem dX6_losses_10 : decode cX6_losses 10 = .ok (.aload_n 0, 1) := by decide +kernel
theorem dX6_losses_11 : decode cX6_losses 11 = .ok (.getfield 38, 3) := by decide +kernel
theorem dX6_losses_14 : decode cX6_losses 14 = .ok (.iload_n 2, 1) := by decide +kernel
theorem dX6_losses_15 : decode cX6_losses 15 = .ok (.iaload, 1) := by decide +kernel
theorem dX6_losses_16 : decode cX6_losses 16 = .ok (.ifCond .eq 17, 3) := by decide +kernel
theorem dX6_losses_19 : decode cX6_losses 19 = .ok (.iload_n 1, 1) := by decide +kernel
theorem dX6_losses_20 : decode cX6_losses 20 = .ok (.aload_n 0, 1) := by decide +kernel
theorem dX6_losses_21 : decode cX6_losses 21 = .ok (.iload_n 2, 1) := by decide +kernel
theorem dX6_losses_22 : decode cX6_losses 22 = .ok (.aload_n 0, 1) := by decide +kernel
theorem dX6_losses_23 : decode cX6_losses 23 = .ok (.getfield 38, 3) := by decide +kernel
theorem dX6_losses_26 : decode cX6_losses 26 = .ok (.iload_n 2, 1) := by decide +kernel
theorem dX6_losses_27 : decode cX6_losses 27 = .ok (.iaload, 1) := by decide +kernel
theorem dX6_losses_28 : decode cX6_losses 28 = .ok (.invokevirtual 120, 3) := by decide +kernel
theorem dX6_losses_31 : decode cX6_losses 31 = .ok (.iadd, 1) := by decide +kernel
theorem dX6_losses_32 : decode cX6_losses 32 = .ok (.istore_n 1, 1) := by decide +kernel
theorem dX6_losses_33 : decode cX6_losses 33 = .ok (.iinc 2 1, 3) := by decide +kernel
theorem dX6_losses_36 : decode cX6_losses 36 = .ok (.goto (-32), 3) := by decide +kernel
theorem dX6_losses_39 : decode cX6_losses 39 = .ok (.iload_n 1, 1) := by decide +kernel
theorem dX6_losses_40 : decode cX6_losses 40 = .ok (.ireturn, 1) := by decide +kernel
theorem dX6_used_0 : decode cX6_used 0 = .ok (.iconst 0, 1) := by decide +kernel
theorem dX6_used_1 : decode cX6_used 1 = .ok (.istore_n 1, 1) := by decide +kernel
theorem dX6_used_2 : decode cX6_used 2 = .ok (.iconst 0, 1) := by decide +kernel
theorem dX6_used_3 : decode cX6_used 3 = .ok (.istore_n 2, 1) := by decide +kernel
theorem dX6_used_4 : decode cX6_used 4 = .ok (.iload_n 2, 1) := by decide +kernel
theorem dX6_used_5 : decode cX6_used 5 = .ok (.bipush 6, 2) := by decide +kernel
theorem dX6_used_7 : decode cX6_used 7 = .ok (.if_icmp .ge 21, 3) := by decide +kernel
theorem dX6_used_10 : decode cX6_used 10 = .ok (.aload_n 0, 1) := by decide +kernel
theorem dX6_used_11 : decode cX6_used 11 = .ok (.getfield 38, 3) := by decide +kernel
theorem dX6_used_14 : decode cX6_used 14 = .ok (.iload_n 2, 1) := by decide +kernel
theorem dX6_used_15 : decode cX6_used 15 = .ok (.iaload, 1) := by decide +kernel
theorem dX6_used_16 : decode cX6_used 16 = .ok (.ifCond .eq 6, 3) := by decide +kernel
theorem dX6_used_19 : decode cX6_used 19 = .ok (.iinc 1 1, 3) := by decide +kernel
theorem dX6_used_22 : decode cX6_used 22 = .ok (.iinc 2 1, 3) := by decide +kernel
theorem dX6_used_25 : decode cX6_used 25 = .ok (.goto (-21), 3) := by decide +kernel
theorem dX6_used_28 : decode cX6_used 28 = .ok (.iload_n 1, 1) := by decide +kernel
theorem dX6_used_29 : decode cX6_used 29 = .ok (.ireturn, 1) := by decide +kernel
theorem dX6_placeRising_0 : decode cX6_placeRising 0 = .ok (.aload_n 0, 1) := by decide +kernel
theorem dX6_placeRising_1 : decode cX6_placeRising 1 = .ok (.getfield 38, 3) := by decide +kernel
theorem dX6_placeRising_4 : decode cX6_placeRising 4 = .ok (.iconst 0, 1) := by decide +kernel
theorem dX6_placeRising_5 : decode cX6_placeRising 5 = .ok (.invokestatic 110, 3) := by decide +kernel
theorem dX6_placeRising_8 : decode cX6_placeRising 8 = .ok (.iconst 0, 1) := by decide +kernel
theorem dX6_placeRising_9 : decode cX6_placeRising 9 = .ok (.istore_n 2, 1) := by decide +kernel
theorem dX6_placeRising_10 : decode cX6_placeRising 10 = .ok (.iload_n 2, 1) := by decide +kernel
theorem dX6_placeRising_11 : decode cX6_placeRising 11 = .ok (.bipush 8, 2) := by decide +kernel
theorem dX6_placeRising_13 : decode cX6_placeRising 13 = .ok (.if_icmp .ge 59, 3) := by decide +kernel
theorem dX6_placeRising_16 : decode cX6_placeRising 16 = .ok (.aload_n 0, 1) := by decide +kernel
theorem dX6_placeRising_17 : decode cX6_placeRising 17 = .ok (.iload_n 2, 1) := by decide +kernel
theorem dX6_placeRising_18 : decode cX6_placeRising 18 = .ok (.invokevirtual 61, 3) := by decide +kernel
theorem dX6_placeRising_21 : decode cX6_placeRising 21 = .ok (.ifCond .eq 45, 3) := by decide +kernel
theorem dX6_placeRising_24 : decode cX6_placeRising 24 = .ok (.iload_n 1, 1) := by decide +kernel
theorem dX6_placeRising_25 : decode cX6_placeRising 25 = .ok (.ifCond .eq 13, 3) := by decide +kernel
theorem dX6_placeRising_28 : decode cX6_placeRising 28 = .ok (.aload_n 0, 1) := by decide +kernel
theorem dX6_placeRising_29 : decode cX6_placeRising 29 = .ok (.iconst 1, 1) := by decide +kernel
theorem dX6_placeRising_30 : decode cX6_placeRising 30 = .ok (.iload_n 2, 1) := by decide +kernel
theorem dX6_placeRising_31 : decode cX6_placeRising 31 = .ok (.ishl, 1) := by decide +kernel
theorem dX6_placeRising_32 : decode cX6_placeRising 32 = .ok (.invokevirtual 123, 3) := by decide +kernel
theorem dX6_placeRising_35 : decode cX6_placeRising 35 = .ok (.goto 10, 3) := by decide +kernel
theorem dX6_placeRising_38 : decode cX6_placeRising 38 = .ok (.aload_n 0, 1) := by decide +kernel
theorem dX6_placeRising_39 : decode cX6_placeRising 39 = .ok (.iconst 1, 1) := by decide +kernel
theorem dX6_placeRising_40 : decode cX6_placeRising 40 = .ok (.iload_n 2, 1) := by decide +kernel
theorem dX6_placeRising_41 : decode cX6_placeRising 41 = .ok (.ishl, 1) := by decide +kernel
theorem dX6_placeRising_42 : decode cX6_placeRising 42 = .ok (.invokevirtual 126, 3) := by decide +kernel
theorem dX6_placeRising_45 : decode cX6_placeRising 45 = .ok (.istore_n 3, 1) := by decide +kernel
theorem dX6_placeRising_46 : decode cX6_placeRising 46 = .ok (.iload_n 3, 1) := by decide +kernel
theorem dX6_placeRising_47 : decode cX6_placeRising 47 = .ok (.ldc 97, 2) := by decide +kernel
theorem dX6_placeRising_49 : decode cX6_placeRising 49 = .ok (.if_icmp .ne 5, 3) := by decide +kernel
theorem dX6_placeRising_52 : decode cX6_placeRising 52 = .ok (.iconst 0, 1) := by decide +kernel
theorem dX6_placeRising_53 : decode cX6_placeRising 53 = .ok (.ireturn, 1) := by decide +kernel
theorem dX6_placeRising_54 : decode cX6_placeRising 54 = .ok (.aload_n 0, 1) := by decide +kernel
theorem dX6_placeRising_55 : decode cX6_placeRising 55 = .ok (.getfield 38, 3) := by decide +kernel
theorem dX6_placeRising_58 : decode cX6_placeRising 58 = .ok (.iload_n 3, 1) := by decide +kernel
theorem dX6_placeRising_59 : decode cX6_placeRising 59 = .ok (.dup2, 1) := by decide +kernel
theorem dX6_placeRising_60 : decode cX6_placeRising 60 = .ok (.iaload, 1) := by decide +kernel
theorem dX6_placeRising_61 : decode cX6_placeRising 61 = .ok (.iconst 1, 1) := by decide +kernel
theorem dX6_placeRising_62 : decode cX6_placeRising 62 = .ok (.iload_n 2, 1) := by decide +kernel
theorem dX6_placeRising_63 : decode cX6_placeRising 63 = .ok (.ishl, 1) := by decide +kernel
theorem dX6_placeRising_64 : decode cX6_placeRising 64 = .ok (.ior, 1) := by decide +kernel
theorem dX6_placeRising_65 : decode cX6_placeRising 65 = .ok (.iastore, 1) := by decide +kernel
theorem dX6_placeRising_66 : decode cX6_placeRising 66 = .ok (.iinc 2 1, 3) := by decide +kernel
theorem dX6_placeRising_69 : decode cX6_placeRising 69 = .ok (.goto (-59), 3) := by decide +kernel
theorem dX6_placeRising_72 : decode cX6_placeRising 72 = .ok (.iconst 1, 1) := by decide +kernel
theorem dX6_placeRising_73 : decode cX6_placeRising 73 = .ok (.ireturn, 1) := by decide +kernel
theorem dX6_firstFor_0 : decode cX6_firstFor 0 = .ok (.iconst 0, 1) := by decide +kernel
theorem dX6_firstFor_1 : decode cX6_firstFor 1 = .ok (.istore_n 2, 1) := by decide +kernel
theorem dX6_firstFor_2 : decode cX6_firstFor 2 = .ok (.iload_n 2, 1) := by decide +kernel
theorem dX6_firstFor_3 : decode cX6_firstFor 3 = .ok (.bipush 6, 2) := by decide +kernel
theorem dX6_firstFor_5 : decode cX6_firstFor 5 = .ok (.if_icmp .ge 27, 3) := by decide +kernel
theorem dX6_firstFor_8 : decode cX6_firstFor 8 = .ok (.aload_n 0, 1) := by decide +kernel
theorem dX6_firstFor_9 : decode cX6_firstFor 9 = .ok (.iload_n 2, 1) := by decide +kernel
theorem dX6_firstFor_10 : decode cX6_firstFor 10 = .ok (.aload_n 0, 1) := by decide +kernel
theorem dX6_firstFor_11 : decode cX6_firstFor 11 = .ok (.getfield 38, 3) := by decide +kernel
theorem dX6_firstFor_14 : decode cX6_firstFor 14 = .ok (.iload_n 2, 1) := by decide +kernel
theorem dX6_firstFor_15 : decode cX6_firstFor 15 = .ok (.iaload, 1) := by decide +kernel
theorem dX6_firstFor_16 : decode cX6_firstFor 16 = .ok (.iload_n 1, 1) := by decide +kernel
theorem dX6_firstFor_17 : decode cX6_firstFor 17 = .ok (.ior, 1) := by decide +kernel
theorem dX6_firstFor_18 : decode cX6_firstFor 18 = .ok (.invokevirtual 129, 3) := by decide +kernel
theorem dX6_firstFor_21 : decode cX6_firstFor 21 = .ok (.ifCond .eq 5, 3) := by decide +kernel
theorem dX6_firstFor_24 : decode cX6_firstFor 24 = .ok (.iload_n 2, 1) := by decide +kernel
theorem dX6_firstFor_25 : decode cX6_firstFor 25 = .ok (.ireturn, 1) := by decide +kernel
theorem dX6_firstFor_26 : decode cX6_firstFor 26 = .ok (.iinc 2 1, 3) := by decide +kernel
theorem dX6_firstFor_29 : decode cX6_firstFor 29 = .ok (.goto (-27), 3) := by decide +kernel
theorem dX6_firstFor_32 : decode cX6_firstFor 32 = .ok (.ldc 97, 2) := by decide +kernel
theorem dX6_firstFor_34 : decode cX6_firstFor 34 = .ok (.ireturn, 1) := by decide +kernel
theorem dX6_tightestFor_0 : decode cX6_tightestFor 0 = .ok (.ldc 97, 2) := by decide +kernel
theorem dX6_tightestFor_2 : decode cX6_tightestFor 2 = .ok (.istore_n 2, 1) := by decide +kernel
theorem dX6_tightestFor_3 : decode cX6_tightestFor 3 = .ok (.bipush 100, 2) := by decide +kernel
theorem dX6_tightestFor_5 : decode cX6_tightestFor 5 = .ok (.istore_n 3, 1) := by decide +kernel
theorem dX6_tightestFor_6 : decode cX6_tightestFor 6 = .ok (.iconst 0, 1) := by decide +kernel
theorem dX6_tightestFor_7 : decode cX6_tightestFor 7 = .ok (.istore 4, 2) := by decide +kernel
theorem dX6_tightestFor_9 : decode cX6_tightestFor 9 = .ok (.iload 4, 2) := by decide +kernel
theorem dX6_tightestFor_11 : decode cX6_tightestFor 11 = .ok (.bipush 6, 2) := by decide +kernel
theorem dX6_tightestFor_13 : decode cX6_tightestFor 13 = .ok (.if_icmp .ge 45, 3) := by decide +kernel
theorem dX6_tightestFor_16 : decode cX6_tightestFor 16 = .ok (.aload_n 0, 1) := by decide +kernel
theorem dX6_tightestFor_17 : decode cX6_tightestFor 17 = .ok (.getfield 35, 3) := by decide +kernel
theorem dX6_tightestFor_20 : decode cX6_tightestFor 20 = .ok (.iload 4, 2) := by decide +kernel
theorem dX6_tightestFor_22 : decode cX6_tightestFor 22 = .ok (.aaload, 1) := by decide +kernel
theorem dX6_tightestFor_23 : decode cX6_tightestFor 23 = .ok (.aload_n 0, 1) := by decide +kernel
theorem dX6_tightestFor_24 : decode cX6_tightestFor 24 = .ok (.getfield 38, 3) := by decide +kernel
theorem dX6_tightestFor_27 : decode cX6_tightestFor 27 = .ok (.iload 4, 2) := by decide +kernel
theorem dX6_tightestFor_29 : decode cX6_tightestFor 29 = .ok (.iaload, 1) := by decide +kernel
theorem dX6_tightestFor_30 : decode cX6_tightestFor 30 = .ok (.iload_n 1, 1) := by decide +kernel
theorem dX6_tightestFor_31 : decode cX6_tightestFor 31 = .ok (.ior, 1) := by decide +kernel
theorem dX6_tightestFor_32 : decode cX6_tightestFor 32 = .ok (.iaload, 1) := by decide +kernel
theorem dX6_tightestFor_33 : decode cX6_tightestFor 33 = .ok (.istore 5, 2) := by decide +kernel
theorem dX6_tightestFor_35 : decode cX6_tightestFor 35 = .ok (.iload 5, 2) := by decide +kernel
theorem dX6_tightestFor_37 : decode cX6_tightestFor 37 = .ok (.ifCond .lt 15, 3) := by decide +kernel
theorem dX6_tightestFor_40 : decode cX6_tightestFor 40 = .ok (.iload 5, 2) := by decide +kernel
theorem dX6_tightestFor_42 : decode cX6_tightestFor 42 = .ok (.iload_n 3, 1) := by decide +kernel
theorem dX6_tightestFor_43 : decode cX6_tightestFor 43 = .ok (.if_icmp .ge 9, 3) := by decide +kernel
theorem dX6_tightestFor_46 : decode cX6_tightestFor 46 = .ok (.iload 5, 2) := by decide +kernel
theorem dX6_tightestFor_48 : decode cX6_tightestFor 48 = .ok (.istore_n 3, 1) := by decide +kernel
theorem dX6_tightestFor_49 : decode cX6_tightestFor 49 = .ok (.iload 4, 2) := by decide +kernel
theorem dX6_tightestFor_51 : decode cX6_tightestFor 51 = .ok (.istore_n 2, 1) := by decide +kernel
theorem dX6_tightestFor_52 : decode cX6_tightestFor 52 = .ok (.iinc 4 1, 3) := by decide +kernel
theorem dX6_tightestFor_55 : decode cX6_tightestFor 55 = .ok (.goto (-46), 3) := by decide +kernel
theorem dX6_tightestFor_58 : decode cX6_tightestFor 58 = .ok (.iload_n 2, 1) := by decide +kernel
theorem dX6_tightestFor_59 : decode cX6_tightestFor 59 = .ok (.ireturn, 1) := by decide +kernel
theorem dX7_init_0 : decode cX7_init 0 = .ok (.aload_n 0, 1) := by decide +kernel
theorem dX7_init_1 : decode cX7_init 1 = .ok (.invokespecial 3, 3) := by decide +kernel
theorem dX7_init_4 : decode cX7_init 4 = .ok (.aload_n 0, 1) := by decide +kernel
theorem dX7_init_5 : decode cX7_init 5 = .ok (.bipush 110, 2) := by decide +kernel
theorem dX7_init_7 : decode cX7_init 7 = .ok (.newarray .int, 2) := by decide +kernel
theorem dX7_init_9 : decode cX7_init 9 = .ok (.putfield 9, 3) := by decide +kernel
theorem dX7_init_12 : decode cX7_init 12 = .ok (.return_, 1) := by decide +kernel
theorem dX7_append_0 : decode cX7_append 0 = .ok (.aload_n 0, 1) := by decide +kernel
theorem dX7_append_1 : decode cX7_append 1 = .ok (.getfield 15, 3) := by decide +kernel
theorem dX7_append_4 : decode cX7_append 4 = .ok (.bipush 110, 2) := by decide +kernel
theorem dX7_append_6 : decode cX7_append 6 = .ok (.if_icmp .lt 5, 3) := by decide +kernel
theorem dX7_append_9 : decode cX7_append 9 = .ok (.iconst 0, 1) := by decide +kernel
theorem dX7_append_10 : decode cX7_append 10 = .ok (.ireturn, 1) := by decide +kernel
theorem dX7_append_11 : decode cX7_append 11 = .ok (.aload_n 0, 1) := by decide +kernel
theorem dX7_append_12 : decode cX7_append 12 = .ok (.getfield 9, 3) := by decide +kernel
theorem dX7_append_15 : decode cX7_append 15 = .ok (.aload_n 0, 1) := by decide +kernel
theorem dX7_append_16 : decode cX7_append 16 = .ok (.getfield 15, 3) := by decide +kernel
theorem dX7_append_19 : decode cX7_append 19 = .ok (.iload_n 1, 1) := by decide +kernel
theorem dX7_append_20 : decode cX7_append 20 = .ok (.iastore, 1) := by decide +kernel
theorem dX7_append_21 : decode cX7_append 21 = .ok (.aload_n 0, 1) := by decide +kernel
theorem dX7_append_22 : decode cX7_append 22 = .ok (.dup, 1) := by decide +kernel
theorem dX7_append_23 : decode cX7_append 23 = .ok (.getfield 15, 3) := by decide +kernel
theorem dX7_append_26 : decode cX7_append 26 = .ok (.iconst 1, 1) := by decide +kernel
theorem dX7_append_27 : decode cX7_append 27 = .ok (.iadd, 1) := by decide +kernel
theorem dX7_append_28 : decode cX7_append 28 = .ok (.putfield 15, 3) := by decide +kernel
theorem dX7_append_31 : decode cX7_append 31 = .ok (.iconst 1, 1) := by decide +kernel
theorem dX7_append_32 : decode cX7_append 32 = .ok (.ireturn, 1) := by decide +kernel
theorem dX7_readInto_0 : decode cX7_readInto 0 = .ok (.aload_n 0, 1) := by decide +kernel
theorem dX7_readInto_1 : decode cX7_readInto 1 = .ok (.iconst 0, 1) := by decide +kernel
theorem dX7_readInto_2 : decode cX7_readInto 2 = .ok (.putfield 19, 3) := by decide +kernel
theorem dX7_readInto_5 : decode cX7_readInto 5 = .ok (.aload_n 1, 1) := by decide +kernel
theorem dX7_readInto_6 : decode cX7_readInto 6 = .ok (.invokevirtual 22, 3) := by decide +kernel
theorem dX7_readInto_9 : decode cX7_readInto 9 = .ok (.aload_n 0, 1) := by decide +kernel
theorem dX7_readInto_10 : decode cX7_readInto 10 = .ok (.aload_n 1, 1) := by decide +kernel
theorem dX7_readInto_11 : decode cX7_readInto 11 = .ok (.invokevirtual 27, 3) := by decide +kernel
theorem dX7_readInto_14 : decode cX7_readInto 14 = .ok (.ifCond .eq 23, 3) := by decide +kernel
theorem dX7_readInto_17 : decode cX7_readInto 17 = .ok (.aload_n 0, 1) := by decide +kernel
theorem dX7_readInto_18 : decode cX7_readInto 18 = .ok (.aload_n 1, 1) := by decide +kernel
theorem dX7_readInto_19 : decode cX7_readInto 19 = .ok (.invokevirtual 31, 3) := by decide +kernel
theorem dX7_readInto_22 : decode cX7_readInto 22 = .ok (.ifCond .eq 15, 3) := by decide +kernel
theorem dX7_readInto_25 : decode cX7_readInto 25 = .ok (.aload_n 0, 1) := by decide +kernel
theorem dX7_readInto_26 : decode cX7_readInto 26 = .ok (.aload_n 1, 1) := by decide +kernel
theorem dX7_readInto_27 : decode cX7_readInto 27 = .ok (.invokevirtual 34, 3) := by decide +kernel
theorem dX7_readInto_30 : decode cX7_readInto 30 = .ok (.ifCond .eq 7, 3) := by decide +kernel
theorem dX7_readInto_33 : decode cX7_readInto 33 = .ok (.iconst 1, 1) := by decide +kernel
theorem dX7_readInto_34 : decode cX7_readInto 34 = .ok (.goto 4, 3) := by decide +kernel
theorem dX7_readInto_37 : decode cX7_readInto 37 = .ok (.iconst 0, 1) := by decide +kernel
theorem dX7_readInto_38 : decode cX7_readInto 38 = .ok (.istore_n 2, 1) := by decide +kernel
theorem dX7_readInto_39 : decode cX7_readInto 39 = .ok (.aload_n 0, 1) := by decide +kernel
theorem dX7_readInto_40 : decode cX7_readInto 40 = .ok (.iconst 0, 1) := by decide +kernel
theorem dX7_readInto_41 : decode cX7_readInto 41 = .ok (.putfield 15, 3) := by decide +kernel
theorem dX7_readInto_44 : decode cX7_readInto 44 = .ok (.iload_n 2, 1) := by decide +kernel
theorem dX7_readInto_45 : decode cX7_readInto 45 = .ok (.ireturn, 1) := by decide +kernel
theorem dX7_readLaws_0 : decode cX7_readLaws 0 = .ok (.aload_n 0, 1) := by decide +kernel
theorem dX7_readLaws_1 : decode cX7_readLaws 1 = .ok (.bipush 104, 2) := by decide +kernel
theorem dX7_readLaws_3 : decode cX7_readLaws 3 = .ok (.invokevirtual 37, 3) := by decide +kernel
theorem dX7_readLaws_6 : decode cX7_readLaws 6 = .ok (.ifCond .ne 5, 3) := by decide +kernel
theorem dX7_readLaws_9 : decode cX7_readLaws 9 = .ok (.iconst 0, 1) := by decide +kernel
theorem dX7_readLaws_10 : decode cX7_readLaws 10 = .ok (.ireturn, 1) := by decide +kernel
theorem dX7_readLaws_11 : decode cX7_readLaws 11 = .ok (.iconst 0, 1) := by decide +kernel
theorem dX7_readLaws_12 : decode cX7_readLaws 12 = .ok (.istore_n 2, 1) := by decide +kernel
theorem dX7_readLaws_13 : decode cX7_readLaws 13 = .ok (.iload_n 2, 1) := by decide +kernel
theorem dX7_readLaws_14 : decode cX7_readLaws 14 = .ok (.iconst 4, 1) := by decide +kernel
theorem dX7_readLaws_15 : decode cX7_readLaws 15 = .ok (.if_icmp .ge 58, 3) := by decide +kernel
theorem dX7_readLaws_18 : decode cX7_readLaws 18 = .ok (.aload_n 0, 1) := by decide +kernel
theorem dX7_readLaws_19 : decode cX7_readLaws 19 = .ok (.getstatic 41, 3) := by decide +kernel
theorem dX7_readLaws_22 : decode cX7_readLaws 22 = .ok (.iload_n 2, 1) := by decide +kernel
theorem dX7_readLaws_23 : decode cX7_readLaws 23 = .ok (.iaload, 1) := by decide +kernel
theorem dX7_readLaws_24 : decode cX7_readLaws 24 = .ok (.getstatic 44, 3) := by decide +kernel
theorem dX7_readLaws_27 : decode cX7_readLaws 27 = .ok (.iload_n 2, 1) := by decide +kernel
theorem dX7_readLaws_28 : decode cX7_readLaws 28 = .ok (.iaload, 1) := by decide +kernel
theorem dX7_readLaws_29 : decode cX7_readLaws 29 = .ok (.invokevirtual 47, 3) := by decide +kernel
theorem dX7_readLaws_32 : decode cX7_readLaws 32 = .ok (.istore_n 3, 1) := by decide +kernel
theorem dX7_readLaws_33 : decode cX7_readLaws 33 = .ok (.iload_n 3, 1) := by decide +kernel
theorem dX7_readLaws_34 : decode cX7_readLaws 34 = .ok (.ldc 51, 2) := by decide +kernel
theorem dX7_readLaws_36 : decode cX7_readLaws 36 = .ok (.if_icmp .eq 22, 3) := by decide +kernel
theorem dX7_readLaws_39 : decode cX7_readLaws 39 = .ok (.aload_n 0, 1) := by decide +kernel
theorem dX7_readLaws_40 : decode cX7_readLaws 40 = .ok (.iload_n 2, 1) := by decide +kernel
theorem dX7_readLaws_41 : decode cX7_readLaws 41 = .ok (.iconst 3, 1) := by decide +kernel
theorem dX7_readLaws_42 : decode cX7_readLaws 42 = .ok (.if_icmp .ge 8, 3) := by decide +kernel
theorem dX7_readLaws_45 : decode cX7_readLaws 45 = .ok (.bipush 44, 2) := by decide +kernel
theorem dX7_readLaws_47 : decode cX7_readLaws 47 = .ok (.goto 5, 3) := by decide +kernel
theorem dX7_readLaws_50 : decode cX7_readLaws 50 = .ok (.bipush 59, 2) := by decide +kernel
theorem dX7_readLaws_52 : decode cX7_readLaws 52 = .ok (.invokevirtual 37, 3) := by decide +kernel
theorem dX7_readLaws_55 : decode cX7_readLaws 55 = .ok (.ifCond .ne 5, 3) := by decide +kernel
theorem dX7_readLaws_58 : decode cX7_readLaws 58 = .ok (.iconst 0, 1) := by decide +kernel
theorem dX7_readLaws_59 : decode cX7_readLaws 59 = .ok (.ireturn, 1) := by decide +kernel
theorem dX7_readLaws_60 : decode cX7_readLaws 60 = .ok (.aload_n 1, 1) := by decide +kernel
theorem dX7_readLaws_61 : decode cX7_readLaws 61 = .ok (.getfield 52, 3) := by decide +kernel
theorem dX7_readLaws_64 : decode cX7_readLaws 64 = .ok (.iload_n 2, 1) := by decide +kernel
theorem dX7_readLaws_65 : decode cX7_readLaws 65 = .ok (.iload_n 3, 1) := by decide +kernel
theorem dX7_readLaws_66 : decode cX7_readLaws 66 = .ok (.iastore, 1) := by decide +kernel
theorem dX7_readLaws_67 : decode cX7_readLaws 67 = .ok (.iinc 2 1, 3) := by decide +kernel
theorem dX7_readLaws_70 : decode cX7_readLaws 70 = .ok (.goto (-57), 3) := by decide +kernel
theorem dX7_readLaws_73 : decode cX7_readLaws 73 = .ok (.iconst 1, 1) := by decide +kernel
theorem dX7_readLaws_74 : decode cX7_readLaws 74 = .ok (.ireturn, 1) := by decide +kernel
theorem dX7_readCans_0 : decode cX7_readCans 0 = .ok (.iconst 0, 1) := by decide +kernel
theorem dX7_readCans_1 : decode cX7_readCans 1 = .ok (.istore_n 2, 1) := by decide +kernel
theorem dX7_readCans_2 : decode cX7_readCans 2 = .ok (.iload_n 2, 1) := by decide +kernel
theorem dX7_readCans_3 : decode cX7_readCans 3 = .ok (.bipush 6, 2) := by decide +kernel
theorem dX7_readCans_5 : decode cX7_readCans 5 = .ok (.if_icmp .gt 31, 3) := by decide +kernel
theorem dX7_readCans_8 : decode cX7_readCans 8 = .ok (.aload_n 0, 1) := by decide +kernel
theorem dX7_readCans_9 : decode cX7_readCans 9 = .ok (.invokevirtual 55, 3) := by decide +kernel
theorem dX7_readCans_12 : decode cX7_readCans 12 = .ok (.invokestatic 59, 3) := by decide +kernel
theorem dX7_readCans_15 : decode cX7_readCans 15 = .ok (.ldc 51, 2) := by decide +kernel
theorem dX7_readCans_17 : decode cX7_readCans 17 = .ok (.if_icmp .eq 19, 3) := by decide +kernel
theorem dX7_readCans_20 : decode cX7_readCans 20 = .ok (.aload_n 0, 1) := by decide +kernel
theorem dX7_readCans_21 : decode cX7_readCans 21 = .ok (.aload_n 1, 1) := by decide +kernel
theorem dX7_readCans_22 : decode cX7_readCans 22 = .ok (.invokevirtual 65, 3) := by decide +kernel
theorem dX7_readCans_25 : decode cX7_readCans 25 = .ok (.ifCond .ne 5, 3) := by decide +kernel
theorem dX7_readCans_28 : decode cX7_readCans 28 = .ok (.iconst 0, 1) := by decide +kernel
theorem dX7_readCans_29 : decode cX7_readCans 29 = .ok (.ireturn, 1) := by decide +kernel
theorem dX7_readCans_30 : decode cX7_readCans 30 = .ok (.iinc 2 1, 3) := by decide +kernel
theorem dX7_readCans_33 : decode cX7_readCans 33 = .ok (.goto (-31), 3) := by decide +kernel
theorem dX7_readCans_36 : decode cX7_readCans 36 = .ok (.aload_n 1, 1) := by decide +kernel
theorem dX7_readCans_37 : decode cX7_readCans 37 = .ok (.getfield 68, 3) := by decide +kernel
theorem dX7_readCans_40 : decode cX7_readCans 40 = .ok (.ifCond .gt 11, 3) := by decide +kernel
theorem dX7_readCans_43 : decode cX7_readCans 43 = .ok (.aload_n 0, 1) := by decide +kernel
theorem dX7_readCans_44 : decode cX7_readCans 44 = .ok (.iconst 1, 1) := by decide +kernel
theorem dX7_readCans_45 : decode cX7_readCans 45 = .ok (.invokevirtual 71, 3) := by decide +kernel
theorem dX7_readCans_48 : decode cX7_readCans 48 = .ok (.ifCond .eq 7, 3) := by decide +kernel
theorem dX7_readCans_51 : decode cX7_readCans 51 = .ok (.iconst 1, 1) := by decide +kernel
theorem dX7_readCans_52 : decode cX7_readCans 52 = .ok (.goto 4, 3) := by decide +kernel
theorem dX7_readCans_55 : decode cX7_readCans 55 = .ok (.iconst 0, 1) := by decide +kernel
theorem dX7_readCans_56 : decode cX7_readCans 56 = .ok (.ireturn, 1) := by decide +kernel
theorem dX7_readCan_0 : decode cX7_readCan 0 = .ok (.aload_n 1, 1) := by decide +kernel
theorem dX7_readCan_1 : decode cX7_readCan 1 = .ok (.getfield 68, 3) := by decide +kernel
theorem dX7_readCan_4 : decode cX7_readCan 4 = .ok (.bipush 6, 2) := by decide +kernel
theorem dX7_readCan_6 : decode cX7_readCan 6 = .ok (.if_icmp .lt 9, 3) := by decide +kernel
theorem dX7_readCan_9 : decode cX7_readCan 9 = .ok (.aload_n 0, 1) := by decide +kernel
theorem dX7_readCan_10 : decode cX7_readCan 10 = .ok (.iconst 3, 1) := by decide +kernel
theorem dX7_readCan_11 : decode cX7_readCan 11 = .ok (.invokevirtual 71, 3) := by decide +kernel
theorem dX7_readCan_14 : decode cX7_readCan 14 = .ok (.ireturn, 1) := by decide +kernel
theorem dX7_readCan_15 : decode cX7_readCan 15 = .ok (.aload_n 0, 1) := by decide +kernel
theorem dX7_readCan_16 : decode cX7_readCan 16 = .ok (.invokevirtual 55, 3) := by decide +kernel
theorem dX7_readCan_19 : decode cX7_readCan 19 = .ok (.invokestatic 59, 3) := by decide +kernel
theorem dX7_readCan_22 : decode cX7_readCan 22 = .ok (.istore_n 2, 1) := by decide +kernel
theorem dX7_readCan_23 : decode cX7_readCan 23 = .ok (.aload_n 0, 1) := by decide +kernel
theorem dX7_readCan_24 : decode cX7_readCan 24 = .ok (.dup, 1) := by decide +kernel
theorem dX7_readCan_25 : decode cX7_readCan 25 = .ok (.getfield 19, 3) := by decide +kernel
theorem dX7_readCan_28 : decode cX7_readCan 28 = .ok (.iconst 1, 1) := by decide +kernel
theorem dX7_readCan_29 : decode cX7_readCan 29 = .ok (.iadd, 1) := by decide +kernel
theorem dX7_readCan_30 : decode cX7_readCan 30 = .ok (.putfield 19, 3) := by decide +kernel
theorem dX7_readCan_33 : decode cX7_readCan 33 = .ok (.aload_n 0, 1) := by decide +kernel
theorem dX7_readCan_34 : decode cX7_readCan 34 = .ok (.iconst 1, 1) := by decide +kernel
theorem dX7_readCan_35 : decode cX7_readCan 35 = .ok (.bipush 99, 2) := by decide +kernel
theorem dX7_readCan_37 : decode cX7_readCan 37 = .ok (.invokevirtual 47, 3) := by decide +kernel
theorem dX7_readCan_40 : decode cX7_readCan 40 = .ok (.istore_n 3, 1) := by decide +kernel
theorem dX7_readCan_41 : decode cX7_readCan 41 = .ok (.iload_n 3, 1) := by decide +kernel
theorem dX7_readCan_42 : decode cX7_readCan 42 = .ok (.ldc 51, 2) := by decide +kernel
theorem dX7_readCan_44 : decode cX7_readCan 44 = .ok (.if_icmp .eq 12, 3) := by decide +kernel
theorem dX7_readCan_47 : decode cX7_readCan 47 = .ok (.aload_n 0, 1) := by decide +kernel
theorem dX7_readCan_48 : decode cX7_readCan 48 = .ok (.bipush 59, 2) := by decide +kernel
theorem dX7_readCan_50 : decode cX7_readCan 50 = .ok (.invokevirtual 37, 3) := by decide +kernel
theorem dX7_readCan_53 : decode cX7_readCan 53 = .ok (.ifCond .ne 5, 3) := by decide +kernel
theorem dX7_readCan_56 : decode cX7_readCan 56 = .ok (.iconst 0, 1) := by decide +kernel
theorem dX7_readCan_57 : decode cX7_readCan 57 = .ok (.ireturn, 1) := by decide +kernel
theorem dX7_readCan_58 : decode cX7_readCan 58 = .ok (.aload_n 1, 1) := by decide +kernel
theorem dX7_readCan_59 : decode cX7_readCan 59 = .ok (.iload_n 2, 1) := by decide +kernel
theorem dX7_readCan_60 : decode cX7_readCan 60 = .ok (.iload_n 3, 1) := by decide +kernel
theorem dX7_readCan_61 : decode cX7_readCan 61 = .ok (.invokevirtual 74, 3) := by decide +kernel
theorem dX7_readCan_64 : decode cX7_readCan 64 = .ok (.pop, 1) := by decide +kernel
theorem dX7_readCan_65 : decode cX7_readCan 65 = .ok (.iconst 1, 1) := by decide +kernel
theorem dX7_readCan_66 : decode cX7_readCan 66 = .ok (.ireturn, 1) := by decide +kernel
theorem dX7_readTakes_0 : decode cX7_readTakes 0 = .ok (.iconst 0, 1) := by decide +kernel
theorem dX7_readTakes_1 : decode cX7_readTakes 1 = .ok (.istore_n 2, 1) := by decide +kernel
theorem dX7_readTakes_2 : decode cX7_readTakes 2 = .ok (.iload_n 2, 1) := by decide +kernel
theorem dX7_readTakes_3 : decode cX7_readTakes 3 = .ok (.bipush 8, 2) := by decide +kernel
theorem dX7_readTakes_5 : decode cX7_readTakes 5 = .ok (.if_icmp .gt 28, 3) := by decide +kernel
theorem dX7_readTakes_8 : decode cX7_readTakes 8 = .ok (.aload_n 0, 1) := by decide +kernel
theorem dX7_readTakes_9 : decode cX7_readTakes 9 = .ok (.invokevirtual 55, 3) := by decide +kernel
theorem dX7_readTakes_12 : decode cX7_readTakes 12 = .ok (.bipush 116, 2) := by decide +kernel
theorem dX7_readTakes_14 : decode cX7_readTakes 14 = .ok (.if_icmp .ne 19, 3) := by decide +kernel
theorem dX7_readTakes_17 : decode cX7_readTakes 17 = .ok (.aload_n 0, 1) := by decide +kernel
theorem dX7_readTakes_18 : decode cX7_readTakes 18 = .ok (.aload_n 1, 1) := by decide +kernel
theorem dX7_readTakes_19 : decode cX7_readTakes 19 = .ok (.invokevirtual 77, 3) := by decide +kernel
theorem dX7_readTakes_22 : decode cX7_readTakes 22 = .ok (.ifCond .ne 5, 3) := by decide +kernel
theorem dX7_readTakes_25 : decode cX7_readTakes 25 = .ok (.iconst 0, 1) := by decide +kernel
theorem dX7_readTakes_26 : decode cX7_readTakes 26 = .ok (.ireturn, 1) := by decide +kernel
theorem dX7_readTakes_27 : decode cX7_readTakes 27 = .ok (.iinc 2 1, 3) := by decide +kernel
theorem dX7_readTakes_30 : decode cX7_readTakes 30 = .ok (.goto (-28), 3) := by decide +kernel
theorem dX7_readTakes_33 : decode cX7_readTakes 33 = .ok (.aload_n 0, 1) := by decide +kernel
theorem dX7_readTakes_34 : decode cX7_readTakes 34 = .ok (.getfield 19, 3) := by decide +kernel
theorem dX7_readTakes_37 : decode cX7_readTakes 37 = .ok (.aload_n 0, 1) := by decide +kernel
theorem dX7_readTakes_38 : decode cX7_readTakes 38 = .ok (.getfield 15, 3) := by decide +kernel
theorem dX7_readTakes_41 : decode cX7_readTakes 41 = .ok (.if_icmp .eq 11, 3) := by decide +kernel
theorem dX7_readTakes_44 : decode cX7_readTakes 44 = .ok (.aload_n 0, 1) := by decide +kernel
theorem dX7_readTakes_45 : decode cX7_readTakes 45 = .ok (.iconst 1, 1) := by decide +kernel
theorem dX7_readTakes_46 : decode cX7_readTakes 46 = .ok (.invokevirtual 71, 3) := by decide +kernel
theorem dX7_readTakes_49 : decode cX7_readTakes 49 = .ok (.ifCond .eq 7, 3) := by decide +kernel
theorem dX7_readTakes_52 : decode cX7_readTakes 52 = .ok (.iconst 1, 1) := by decide +kernel
theorem dX7_readTakes_53 : decode cX7_readTakes 53 = .ok (.goto 4, 3) := by decide +kernel
theorem dX7_readTakes_56 : decode cX7_readTakes 56 = .ok (.iconst 0, 1) := by decide +kernel
theorem dX7_readTakes_57 : decode cX7_readTakes 57 = .ok (.ireturn, 1) := by decide +kernel
theorem dX7_readTake_0 : decode cX7_readTake 0 = .ok (.aload_n 1, 1) := by decide +kernel
theorem dX7_readTake_1 : decode cX7_readTake 1 = .ok (.getfield 80, 3) := by decide +kernel
theorem dX7_readTake_4 : decode cX7_readTake 4 = .ok (.bipush 8, 2) := by decide +kernel
theorem dX7_readTake_6 : decode cX7_readTake 6 = .ok (.if_icmp .lt 9, 3) := by decide +kernel
theorem dX7_readTake_9 : decode cX7_readTake 9 = .ok (.aload_n 0, 1) := by decide +kernel
theorem dX7_readTake_10 : decode cX7_readTake 10 = .ok (.iconst 3, 1) := by decide +kernel
theorem dX7_readTake_11 : decode cX7_readTake 11 = .ok (.invokevirtual 71, 3) := by decide +kernel
theorem dX7_readTake_14 : decode cX7_readTake 14 = .ok (.ireturn, 1) := by decide +kernel
theorem dX7_readTake_15 : decode cX7_readTake 15 = .ok (.aload_n 0, 1) := by decide +kernel
theorem dX7_readTake_16 : decode cX7_readTake 16 = .ok (.dup, 1) := by decide +kernel
theorem dX7_readTake_17 : decode cX7_readTake 17 = .ok (.getfield 19, 3) := by decide +kernel
theorem dX7_readTake_20 : decode cX7_readTake 20 = .ok (.iconst 1, 1) := by decide +kernel
theorem dX7_readTake_21 : decode cX7_readTake 21 = .ok (.iadd, 1) := by decide +kernel
theorem dX7_readTake_22 : decode cX7_readTake 22 = .ok (.putfield 19, 3) := by decide +kernel
theorem dX7_readTake_25 : decode cX7_readTake 25 = .ok (.aload_n 0, 1) := by decide +kernel
theorem dX7_readTake_26 : decode cX7_readTake 26 = .ok (.iconst 0, 1) := by decide +kernel
theorem dX7_readTake_27 : decode cX7_readTake 27 = .ok (.iconst 5, 1) := by decide +kernel
theorem dX7_readTake_28 : decode cX7_readTake 28 = .ok (.invokevirtual 47, 3) := by decide +kernel
theorem dX7_readTake_31 : decode cX7_readTake 31 = .ok (.istore_n 2, 1) := by decide +kernel
theorem dX7_readTake_32 : decode cX7_readTake 32 = .ok (.iload_n 2, 1) := by decide +kernel
theorem dX7_readTake_33 : decode cX7_readTake 33 = .ok (.ldc 51, 2) := by decide +kernel
theorem dX7_readTake_35 : decode cX7_readTake 35 = .ok (.if_icmp .eq 12, 3) := by decide +kernel
theorem dX7_readTake_38 : decode cX7_readTake 38 = .ok (.aload_n 0, 1) := by decide +kernel
theorem dX7_readTake_39 : decode cX7_readTake 39 = .ok (.bipush 44, 2) := by decide +kernel
theorem dX7_readTake_41 : decode cX7_readTake 41 = .ok (.invokevirtual 37, 3) := by decide +kernel
theorem dX7_readTake_44 : decode cX7_readTake 44 = .ok (.ifCond .ne 5, 3) := by decide +kernel
theorem dX7_readTake_47 : decode cX7_readTake 47 = .ok (.iconst 0, 1) := by decide +kernel
theorem dX7_readTake_48 : decode cX7_readTake 48 = .ok (.ireturn, 1) := by decide +kernel
theorem dX7_readTake_49 : decode cX7_readTake 49 = .ok (.aload_n 0, 1) := by decide +kernel
theorem dX7_readTake_50 : decode cX7_readTake 50 = .ok (.iconst 1, 1) := by decide +kernel
theorem dX7_readTake_51 : decode cX7_readTake 51 = .ok (.bipush 60, 2) := by decide +kernel
theorem dX7_readTake_53 : decode cX7_readTake 53 = .ok (.invokevirtual 47, 3) := by decide +kernel
theorem dX7_readTake_56 : decode cX7_readTake 56 = .ok (.istore_n 3, 1) := by decide +kernel
theorem dX7_readTake_57 : decode cX7_readTake 57 = .ok (.iload_n 3, 1) := by decide +kernel
theorem dX7_readTake_58 : decode cX7_readTake 58 = .ok (.ldc 51, 2) := by decide +kernel
theorem dX7_readTake_60 : decode cX7_readTake 60 = .ok (.if_icmp .eq 12, 3) := by decide +kernel
theorem dX7_readTake_63 : decode cX7_readTake 63 = .ok (.aload_n 0, 1) := by decide +kernel
theorem dX7_readTake_64 : decode cX7_readTake 64 = .ok (.bipush 59, 2) := by decide +kernel
theorem dX7_readTake_66 : decode cX7_readTake 66 = .ok (.invokevirtual 37, 3) := by decide +kernel
theorem dX7_readTake_69 : decode cX7_readTake 69 = .ok (.ifCond .ne 5, 3) := by decide +kernel
theorem dX7_readTake_72 : decode cX7_readTake 72 = .ok (.iconst 0, 1) := by decide +kernel
theorem dX7_readTake_73 : decode cX7_readTake 73 = .ok (.ireturn, 1) := by decide +kernel
theorem dX7_readTake_74 : decode cX7_readTake 74 = .ok (.aload_n 1, 1) := by decide +kernel
theorem dX7_readTake_75 : decode cX7_readTake 75 = .ok (.iload_n 2, 1) := by decide +kernel
theorem dX7_readTake_76 : decode cX7_readTake 76 = .ok (.iload_n 3, 1) := by decide +kernel
theorem dX7_readTake_77 : decode cX7_readTake 77 = .ok (.invokevirtual 83, 3) := by decide +kernel
theorem dX7_readTake_80 : decode cX7_readTake 80 = .ok (.pop, 1) := by decide +kernel
theorem dX7_readTake_81 : decode cX7_readTake 81 = .ok (.iconst 1, 1) := by decide +kernel
theorem dX7_readTake_82 : decode cX7_readTake 82 = .ok (.ireturn, 1) := by decide +kernel
theorem dX7_readNumber_0 : decode cX7_readNumber 0 = .ok (.aload_n 0, 1) := by decide +kernel
theorem dX7_readNumber_1 : decode cX7_readNumber 1 = .ok (.aload_n 0, 1) := by decide +kernel
theorem dX7_readNumber_2 : decode cX7_readNumber 2 = .ok (.getfield 19, 3) := by decide +kernel
theorem dX7_readNumber_5 : decode cX7_readNumber 5 = .ok (.invokevirtual 86, 3) := by decide +kernel
theorem dX7_readNumber_8 : decode cX7_readNumber 8 = .ok (.istore_n 3, 1) := by decide +kernel
theorem dX7_readNumber_9 : decode cX7_readNumber 9 = .ok (.iload_n 3, 1) := by decide +kernel
theorem dX7_readNumber_10 : decode cX7_readNumber 10 = .ok (.iconst 1, 1) := by decide +kernel
theorem dX7_readNumber_11 : decode cX7_readNumber 11 = .ok (.if_icmp .lt 8, 3) := by decide +kernel
theorem dX7_readNumber_14 : decode cX7_readNumber 14 = .ok (.iload_n 3, 1) := by decide +kernel
theorem dX7_readNumber_15 : decode cX7_readNumber 15 = .ok (.iconst 2, 1) := by decide +kernel
theorem dX7_readNumber_16 : decode cX7_readNumber 16 = .ok (.if_icmp .le 12, 3) := by decide +kernel
theorem dX7_readNumber_19 : decode cX7_readNumber 19 = .ok (.aload_n 0, 1) := by decide +kernel
theorem dX7_readNumber_20 : decode cX7_readNumber 20 = .ok (.iconst 1, 1) := by decide +kernel
theorem dX7_readNumber_21 : decode cX7_readNumber 21 = .ok (.invokevirtual 71, 3) := by decide +kernel
theorem dX7_readNumber_24 : decode cX7_readNumber 24 = .ok (.pop, 1) := by decide +kernel
theorem dX7_readNumber_25 : decode cX7_readNumber 25 = .ok (.ldc 51, 2) := by decide +kernel
theorem dX7_readNumber_27 : decode cX7_readNumber 27 = .ok (.ireturn, 1) := by decide +kernel
theorem dX7_readNumber_28 : decode cX7_readNumber 28 = .ok (.iconst 0, 1) := by decide +kernel
theorem dX7_readNumber_29 : decode cX7_readNumber 29 = .ok (.istore 4, 2) := by decide +kernel
theorem dX7_readNumber_31 : decode cX7_readNumber 31 = .ok (.iconst 0, 1) := by decide +kernel
theorem dX7_readNumber_32 : decode cX7_readNumber 32 = .ok (.istore 5, 2) := by decide +kernel
theorem dX7_readNumber_34 : decode cX7_readNumber 34 = .ok (.iload 5, 2) := by decide +kernel
theorem dX7_readNumber_36 : decode cX7_readNumber 36 = .ok (.iload_n 3, 1) := by decide +kernel
theorem dX7_readNumber_37 : decode cX7_readNumber 37 = .ok (.if_icmp .ge 31, 3) := by decide +kernel
theorem dX7_readNumber_40 : decode cX7_readNumber 40 = .ok (.iload 4, 2) := by decide +kernel
theorem dX7_readNumber_42 : decode cX7_readNumber 42 = .ok (.bipush 10, 2) := by decide +kernel
theorem dX7_readNumber_44 : decode cX7_readNumber 44 = .ok (.imul, 1) := by decide +kernel
theorem dX7_readNumber_45 : decode cX7_readNumber 45 = .ok (.aload_n 0, 1) := by decide +kernel
theorem dX7_readNumber_46 : decode cX7_readNumber 46 = .ok (.aload_n 0, 1) := by decide +kernel
theorem dX7_readNumber_47 : decode cX7_readNumber 47 = .ok (.getfield 19, 3) := by decide +kernel
theorem dX7_readNumber_50 : decode cX7_readNumber 50 = .ok (.iload 5, 2) := by decide +kernel
theorem dX7_readNumber_52 : decode cX7_readNumber 52 = .ok (.iadd, 1) := by decide +kernel
theorem dX7_readNumber_53 : decode cX7_readNumber 53 = .ok (.invokevirtual 89, 3) := by decide +kernel
theorem dX7_readNumber_56 : decode cX7_readNumber 56 = .ok (.iadd, 1) := by decide +kernel
theorem dX7_readNumber_57 : decode cX7_readNumber 57 = .ok (.bipush 48, 2) := by decide +kernel
theorem dX7_readNumber_59 : decode cX7_readNumber 59 = .ok (.isub, 1) := by decide +kernel
theorem dX7_readNumber_60 : decode cX7_readNumber 60 = .ok (.istore 4, 2) := by decide +kernel
theorem dX7_readNumber_62 : decode cX7_readNumber 62 = .ok (.iinc 5 1, 3) := by decide +kernel
theorem dX7_readNumber_65 : decode cX7_readNumber 65 = .ok (.goto (-31), 3) := by decide +kernel
theorem dX7_readNumber_68 : decode cX7_readNumber 68 = .ok (.iload 4, 2) := by decide +kernel
theorem dX7_readNumber_70 : decode cX7_readNumber 70 = .ok (.iload_n 1, 1) := by decide +kernel
theorem dX7_readNumber_71 : decode cX7_readNumber 71 = .ok (.if_icmp .lt 9, 3) := by decide +kernel
theorem dX7_readNumber_74 : decode cX7_readNumber 74 = .ok (.iload 4, 2) := by decide +kernel
theorem dX7_readNumber_76 : decode cX7_readNumber 76 = .ok (.iload_n 2, 1) := by decide +kernel
theorem dX7_readNumber_77 : decode cX7_readNumber 77 = .ok (.if_icmp .le 12, 3) := by decide +kernel
theorem dX7_readNumber_80 : decode cX7_readNumber 80 = .ok (.aload_n 0, 1) := by decide +kernel
theorem dX7_readNumber_81 : decode cX7_readNumber 81 = .ok (.iconst 2, 1) := by decide +kernel
theorem dX7_readNumber_82 : decode cX7_readNumber 82 = .ok (.invokevirtual 71, 3) := by decide +kernel
theorem dX7_readNumber_85 : decode cX7_readNumber 85 = .ok (.pop, 1) := by decide +kernel
theorem dX7_readNumber_86 : decode cX7_readNumber 86 = .ok (.ldc 51, 2) := by decide +kernel
theorem dX7_readNumber_88 : decode cX7_readNumber 88 = .ok (.ireturn, 1) := by decide +kernel
theorem dX7_readNumber_89 : decode cX7_readNumber 89 = .ok (.aload_n 0, 1) := by decide +kernel
theorem dX7_readNumber_90 : decode cX7_readNumber 90 = .ok (.dup, 1) := by decide +kernel
theorem dX7_readNumber_91 : decode cX7_readNumber 91 = .ok (.getfield 19, 3) := by decide +kernel
theorem dX7_readNumber_94 : decode cX7_readNumber 94 = .ok (.iload_n 3, 1) := by decide +kernel
theorem dX7_readNumber_95 : decode cX7_readNumber 95 = .ok (.iadd, 1) := by decide +kernel
theorem dX7_readNumber_96 : decode cX7_readNumber 96 = .ok (.putfield 19, 3) := by decide +kernel
theorem dX7_readNumber_99 : decode cX7_readNumber 99 = .ok (.iload 4, 2) := by decide +kernel
theorem dX7_readNumber_101 : decode cX7_readNumber 101 = .ok (.ireturn, 1) := by decide +kernel
theorem dX7_figuresFrom_0 : decode cX7_figuresFrom 0 = .ok (.iload_n 1, 1) := by decide +kernel
theorem dX7_figuresFrom_1 : decode cX7_figuresFrom 1 = .ok (.istore_n 2, 1) := by decide +kernel
theorem dX7_figuresFrom_2 : decode cX7_figuresFrom 2 = .ok (.iload_n 2, 1) := by decide +kernel
theorem dX7_figuresFrom_3 : decode cX7_figuresFrom 3 = .ok (.aload_n 0, 1) := by decide +kernel
theorem dX7_figuresFrom_4 : decode cX7_figuresFrom 4 = .ok (.getfield 15, 3) := by decide +kernel
theorem dX7_figuresFrom_7 : decode cX7_figuresFrom 7 = .ok (.if_icmp .ge 29, 3) := by decide +kernel
theorem dX7_figuresFrom_10 : decode cX7_figuresFrom 10 = .ok (.aload_n 0, 1) := by decide +kernel
theorem dX7_figuresFrom_11 : decode cX7_figuresFrom 11 = .ok (.iload_n 2, 1) := by decide +kernel
theorem dX7_figuresFrom_12 : decode cX7_figuresFrom 12 = .ok (.invokevirtual 89, 3) := by decide +kernel
theorem dX7_figuresFrom_15 : decode cX7_figuresFrom 15 = .ok (.bipush 48, 2) := by decide +kernel
theorem dX7_figuresFrom_17 : decode cX7_figuresFrom 17 = .ok (.if_icmp .lt 19, 3) := by decide +kernel
theorem dX7_figuresFrom_20 : decode cX7_figuresFrom 20 = .ok (.aload_n 0, 1) := by decide +kernel
theorem dX7_figuresFrom_21 : decode cX7_figuresFrom 21 = .ok (.iload_n 2, 1) := by decide +kernel
theorem dX7_figuresFrom_22 : decode cX7_figuresFrom 22 = .ok (.invokevirtual 89, 3) := by decide +kernel
theorem dX7_figuresFrom_25 : decode cX7_figuresFrom 25 = .ok (.bipush 57, 2) := by decide +kernel
theorem dX7_figuresFrom_27 : decode cX7_figuresFrom 27 = .ok (.if_icmp .gt 9, 3) := by decide +kernel
theorem dX7_figuresFrom_30 : decode cX7_figuresFrom 30 = .ok (.iinc 2 1, 3) := by decide +kernel
theorem dX7_figuresFrom_33 : decode cX7_figuresFrom 33 = .ok (.goto (-31), 3) := by decide +kernel
theorem dX7_figuresFrom_36 : decode cX7_figuresFrom 36 = .ok (.iload_n 2, 1) := by decide +kernel
theorem dX7_figuresFrom_37 : decode cX7_figuresFrom 37 = .ok (.iload_n 1, 1) := by decide +kernel
theorem dX7_figuresFrom_38 : decode cX7_figuresFrom 38 = .ok (.isub, 1) := by decide +kernel
theorem dX7_figuresFrom_39 : decode cX7_figuresFrom 39 = .ok (.ireturn, 1) := by decide +kernel
theorem dX7_pass_0 : decode cX7_pass 0 = .ok (.aload_n 0, 1) := by decide +kernel
theorem dX7_pass_1 : decode cX7_pass 1 = .ok (.invokevirtual 55, 3) := by decide +kernel
theorem dX7_pass_4 : decode cX7_pass 4 = .ok (.iload_n 1, 1) := by decide +kernel
theorem dX7_pass_5 : decode cX7_pass 5 = .ok (.if_icmp .eq 9, 3) := by decide +kernel
theorem dX7_pass_8 : decode cX7_pass 8 = .ok (.aload_n 0, 1) := by decide +kernel
theorem dX7_pass_9 : decode cX7_pass 9 = .ok (.iconst 1, 1) := by decide +kernel
theorem dX7_pass_10 : decode cX7_pass 10 = .ok (.invokevirtual 71, 3) := by decide +kernel
theorem dX7_pass_13 : decode cX7_pass 13 = .ok (.ireturn, 1) := by decide +kernel
theorem dX7_pass_14 : decode cX7_pass 14 = .ok (.aload_n 0, 1) := by decide +kernel
theorem dX7_pass_15 : decode cX7_pass 15 = .ok (.dup, 1) := by decide +kernel
theorem dX7_pass_16 : decode cX7_pass 16 = .ok (.getfield 19, 3) := by decide +kernel
theorem dX7_pass_19 : decode cX7_pass 19 = .ok (.iconst 1, 1) := by decide +kernel
theorem dX7_pass_20 : decode cX7_pass 20 = .ok (.iadd, 1) := by decide +kernel
theorem dX7_pass_21 : decode cX7_pass 21 = .ok (.putfield 19, 3) := by decide +kernel
theorem dX7_pass_24 : decode cX7_pass 24 = .ok (.iconst 1, 1) := by decide +kernel
theorem dX7_pass_25 : decode cX7_pass 25 = .ok (.ireturn, 1) := by decide +kernel
theorem dX7_refuse_0 : decode cX7_refuse 0 = .ok (.aload_n 0, 1) := by decide +kernel
theorem dX7_refuse_1 : decode cX7_refuse 1 = .ok (.iload_n 1, 1) := by decide +kernel
theorem dX7_refuse_2 : decode cX7_refuse 2 = .ok (.putfield 92, 3) := by decide +kernel
theorem dX7_refuse_5 : decode cX7_refuse 5 = .ok (.iconst 0, 1) := by decide +kernel
theorem dX7_refuse_6 : decode cX7_refuse 6 = .ok (.ireturn, 1) := by decide +kernel
theorem dX7_next_0 : decode cX7_next 0 = .ok (.aload_n 0, 1) := by decide +kernel
theorem dX7_next_1 : decode cX7_next 1 = .ok (.aload_n 0, 1) := by decide +kernel
theorem dX7_next_2 : decode cX7_next 2 = .ok (.getfield 19, 3) := by decide +kernel
theorem dX7_next_5 : decode cX7_next 5 = .ok (.invokevirtual 89, 3) := by decide +kernel
theorem dX7_next_8 : decode cX7_next 8 = .ok (.ireturn, 1) := by decide +kernel
theorem dX7_byteAt_0 : decode cX7_byteAt 0 = .ok (.iload_n 1, 1) := by decide +kernel
theorem dX7_byteAt_1 : decode cX7_byteAt 1 = .ok (.ifCond .lt 20, 3) := by decide +kernel
theorem dX7_byteAt_4 : decode cX7_byteAt 4 = .ok (.iload_n 1, 1) := by decide +kernel
theorem dX7_byteAt_5 : decode cX7_byteAt 5 = .ok (.aload_n 0, 1) := by decide +kernel
theorem dX7_byteAt_6 : decode cX7_byteAt 6 = .ok (.getfield 15, 3) := by decide +kernel
theorem dX7_byteAt_9 : decode cX7_byteAt 9 = .ok (.if_icmp .ge 12, 3) := by decide +kernel
theorem dX7_byteAt_12 : decode cX7_byteAt 12 = .ok (.aload_n 0, 1) := by decide +kernel
theorem dX7_byteAt_13 : decode cX7_byteAt 13 = .ok (.getfield 9, 3) := by decide +kernel
theorem dX7_byteAt_16 : decode cX7_byteAt 16 = .ok (.iload_n 1, 1) := by decide +kernel
theorem dX7_byteAt_17 : decode cX7_byteAt 17 = .ok (.iaload, 1) := by decide +kernel
theorem dX7_byteAt_18 : decode cX7_byteAt 18 = .ok (.goto 5, 3) := by decide +kernel
theorem dX7_byteAt_21 : decode cX7_byteAt 21 = .ok (.ldc 51, 2) := by decide +kernel
theorem dX7_byteAt_23 : decode cX7_byteAt 23 = .ok (.ireturn, 1) := by decide +kernel
theorem dX8_init_0 : decode cX8_init 0 = .ok (.aload_n 0, 1) := by decide +kernel
theorem dX8_init_1 : decode cX8_init 1 = .ok (.invokespecial 1, 3) := by decide +kernel
theorem dX8_init_4 : decode cX8_init 4 = .ok (.aload_n 0, 1) := by decide +kernel
theorem dX8_init_5 : decode cX8_init 5 = .ok (.new 7, 3) := by decide +kernel
theorem dX8_init_8 : decode cX8_init 8 = .ok (.dup, 1) := by decide +kernel
theorem dX8_init_9 : decode cX8_init 9 = .ok (.invokespecial 9, 3) := by decide +kernel
theorem dX8_init_12 : decode cX8_init 12 = .ok (.putfield 10, 3) := by decide +kernel
theorem dX8_init_15 : decode cX8_init 15 = .ok (.aload_n 0, 1) := by decide +kernel
theorem dX8_init_16 : decode cX8_init 16 = .ok (.new 16, 3) := by decide +kernel
theorem dX8_init_19 : decode cX8_init 19 = .ok (.dup, 1) := by decide +kernel
theorem dX8_init_20 : decode cX8_init 20 = .ok (.invokespecial 18, 3) := by decide +kernel
theorem dX8_init_23 : decode cX8_init 23 = .ok (.putfield 19, 3) := by decide +kernel
theorem dX8_init_26 : decode cX8_init 26 = .ok (.aload_n 0, 1) := by decide +kernel
theorem dX8_init_27 : decode cX8_init 27 = .ok (.new 16, 3) := by decide +kernel
theorem dX8_init_30 : decode cX8_init 30 = .ok (.dup, 1) := by decide +kernel
theorem dX8_init_31 : decode cX8_init 31 = .ok (.invokespecial 18, 3) := by decide +kernel
theorem dX8_init_34 : decode cX8_init 34 = .ok (.putfield 23, 3) := by decide +kernel
theorem dX8_init_37 : decode cX8_init 37 = .ok (.aload_n 0, 1) := by decide +kernel
theorem dX8_init_38 : decode cX8_init 38 = .ok (.new 26, 3) := by decide +kernel
theorem dX8_init_41 : decode cX8_init 41 = .ok (.dup, 1) := by decide +kernel
theorem dX8_init_42 : decode cX8_init 42 = .ok (.invokespecial 28, 3) := by decide +kernel
theorem dX8_init_45 : decode cX8_init 45 = .ok (.putfield 29, 3) := by decide +kernel
theorem dX8_init_48 : decode cX8_init 48 = .ok (.aload_n 0, 1) := by decide +kernel
theorem dX8_init_49 : decode cX8_init 49 = .ok (.iconst 2, 1) := by decide +kernel
theorem dX8_init_50 : decode cX8_init 50 = .ok (.anewarray 16, 3) := by decide +kernel
theorem dX8_init_53 : decode cX8_init 53 = .ok (.dup, 1) := by decide +kernel
theorem dX8_init_54 : decode cX8_init 54 = .ok (.iconst 0, 1) := by decide +kernel
theorem dX8_init_55 : decode cX8_init 55 = .ok (.new 16, 3) := by decide +kernel
theorem dX8_init_58 : decode cX8_init 58 = .ok (.dup, 1) := by decide +kernel
theorem dX8_init_59 : decode cX8_init 59 = .ok (.invokespecial 18, 3) := by decide +kernel
theorem dX8_init_62 : decode cX8_init 62 = .ok (.aastore, 1) := by decide +kernel
theorem dX8_init_63 : decode cX8_init 63 = .ok (.dup, 1) := by decide +kernel
theorem dX8_init_64 : decode cX8_init 64 = .ok (.iconst 1, 1) := by decide +kernel
theorem dX8_init_65 : decode cX8_init 65 = .ok (.new 16, 3) := by decide +kernel
theorem dX8_init_68 : decode cX8_init 68 = .ok (.dup, 1) := by decide +kernel
theorem dX8_init_69 : decode cX8_init 69 = .ok (.invokespecial 18, 3) := by decide +kernel
theorem dX8_init_72 : decode cX8_init 72 = .ok (.aastore, 1) := by decide +kernel
theorem dX8_init_73 : decode cX8_init 73 = .ok (.putfield 33, 3) := by decide +kernel
theorem dX8_init_76 : decode cX8_init 76 = .ok (.aload_n 0, 1) := by decide +kernel
theorem dX8_init_77 : decode cX8_init 77 = .ok (.new 37, 3) := by decide +kernel
theorem dX8_init_80 : decode cX8_init 80 = .ok (.dup, 1) := by decide +kernel
theorem dX8_init_81 : decode cX8_init 81 = .ok (.invokespecial 39, 3) := by decide +kernel
theorem dX8_init_84 : decode cX8_init 84 = .ok (.putfield 40, 3) := by decide +kernel
theorem dX8_init_87 : decode cX8_init 87 = .ok (.aload_n 0, 1) := by decide +kernel
theorem dX8_init_88 : decode cX8_init 88 = .ok (.new 44, 3) := by decide +kernel
theorem dX8_init_91 : decode cX8_init 91 = .ok (.dup, 1) := by decide +kernel
theorem dX8_init_92 : decode cX8_init 92 = .ok (.invokespecial 46, 3) := by decide +kernel
theorem dX8_init_95 : decode cX8_init 95 = .ok (.putfield 47, 3) := by decide +kernel
theorem dX8_init_98 : decode cX8_init 98 = .ok (.aload_n 0, 1) := by decide +kernel
theorem dX8_init_99 : decode cX8_init 99 = .ok (.new 51, 3) := by decide +kernel
theorem dX8_init_102 : decode cX8_init 102 = .ok (.dup, 1) := by decide +kernel
theorem dX8_init_103 : decode cX8_init 103 = .ok (.invokespecial 53, 3) := by decide +kernel
theorem dX8_init_106 : decode cX8_init 106 = .ok (.putfield 54, 3) := by decide +kernel
theorem dX8_init_109 : decode cX8_init 109 = .ok (.aload_n 0, 1) := by decide +kernel
theorem dX8_init_110 : decode cX8_init 110 = .ok (.new 58, 3) := by decide +kernel
theorem dX8_init_113 : decode cX8_init 113 = .ok (.dup, 1) := by decide +kernel
theorem dX8_init_114 : decode cX8_init 114 = .ok (.invokespecial 60, 3) := by decide +kernel
theorem dX8_init_117 : decode cX8_init 117 = .ok (.putfield 61, 3) := by decide +kernel
theorem dX8_init_120 : decode cX8_init 120 = .ok (.return_, 1) := by decide +kernel
theorem dX8_feed_0 : decode cX8_feed 0 = .ok (.iload_n 1, 1) := by decide +kernel
theorem dX8_feed_1 : decode cX8_feed 1 = .ok (.ifCond .lt 10, 3) := by decide +kernel
theorem dX8_feed_4 : decode cX8_feed 4 = .ok (.iload_n 1, 1) := by decide +kernel
theorem dX8_feed_5 : decode cX8_feed 5 = .ok (.sipush 255, 3) := by decide +kernel
theorem dX8_feed_8 : decode cX8_feed 8 = .ok (.if_icmp .le 6, 3) := by decide +kernel
theorem dX8_feed_11 : decode cX8_feed 11 = .ok (.ldc 65, 2) := by decide +kernel
theorem dX8_feed_13 : decode cX8_feed 13 = .ok (.ireturn, 1) := by decide +kernel
theorem dX8_feed_14 : decode cX8_feed 14 = .ok (.aload_n 0, 1) := by decide +kernel
theorem dX8_feed_15 : decode cX8_feed 15 = .ok (.getfield 10, 3) := by decide +kernel
theorem dX8_feed_18 : decode cX8_feed 18 = .ok (.iload_n 1, 1) := by decide +kernel
theorem dX8_feed_19 : decode cX8_feed 19 = .ok (.invokevirtual 66, 3) := by decide +kernel
theorem dX8_feed_22 : decode cX8_feed 22 = .ok (.ifCond .eq 13, 3) := by decide +kernel
theorem dX8_feed_25 : decode cX8_feed 25 = .ok (.aload_n 0, 1) := by decide +kernel
theorem dX8_feed_26 : decode cX8_feed 26 = .ok (.getfield 10, 3) := by decide +kernel
theorem dX8_feed_29 : decode cX8_feed 29 = .ok (.getfield 70, 3) := by decide +kernel
theorem dX8_feed_32 : decode cX8_feed 32 = .ok (.goto 5, 3) := by decide +kernel
theorem dX8_feed_35 : decode cX8_feed 35 = .ok (.ldc 74, 2) := by decide +kernel
theorem dX8_feed_37 : decode cX8_feed 37 = .ok (.ireturn, 1) := by decide +kernel
theorem dX8_book_0 : decode cX8_book 0 = .ok (.aload_n 0, 1) := by decide +kernel
theorem dX8_book_1 : decode cX8_book 1 = .ok (.getfield 10, 3) := by decide +kernel
theorem dX8_book_4 : decode cX8_book 4 = .ok (.aload_n 0, 1) := by decide +kernel
theorem dX8_book_5 : decode cX8_book 5 = .ok (.getfield 23, 3) := by decide +kernel
theorem dX8_book_8 : decode cX8_book 8 = .ok (.invokevirtual 75, 3) := by decide +kernel
theorem dX8_book_11 : decode cX8_book 11 = .ok (.ifCond .ne 14, 3) := by decide +kernel
theorem dX8_book_14 : decode cX8_book 14 = .ok (.ldc 79, 2) := by decide +kernel
theorem dX8_book_16 : decode cX8_book 16 = .ok (.aload_n 0, 1) := by decide +kernel
theorem dX8_book_17 : decode cX8_book 17 = .ok (.getfield 10, 3) := by decide +kernel
theorem dX8_book_20 : decode cX8_book 20 = .ok (.getfield 80, 3) := by decide +kernel
theorem dX8_book_23 : decode cX8_book 23 = .ok (.isub, 1) := by decide +kernel
theorem dX8_book_24 : decode cX8_book 24 = .ok (.ireturn, 1) := by decide +kernel
theorem dX8_book_25 : decode cX8_book 25 = .ok (.aload_n 0, 1) := by decide +kernel
theorem dX8_book_26 : decode cX8_book 26 = .ok (.getfield 19, 3) := by decide +kernel
theorem dX8_book_29 : decode cX8_book 29 = .ok (.aload_n 0, 1) := by decide +kernel
end
section
theorem dX8_book_30 : decode cX8_book 30 = .ok (.getfield 23, 3) := by decide +kernel
theorem dX8_book_33 : decode cX8_book 33 = .ok (.invokevirtual 83, 3) := by decide +kernel
theorem dX8_book_36 : decode cX8_book 36 = .ok (.aload_n 0, 1) := by decide +kernel
theorem dX8_book_37 : decode cX8_book 37 = .ok (.getfield 29, 3) := by decide +kernel
theorem dX8_book_40 : decode cX8_book 40 = .ok (.invokevirtual 87, 3) := by decide +kernel
theorem dX8_book_43 : decode cX8_book 43 = .ok (.aload_n 0, 1) := by decide +kernel
theorem dX8_book_44 : decode cX8_book 44 = .ok (.getfield 19, 3) := by decide +kernel
theorem dX8_book_47 : decode cX8_book 47 = .ok (.getfield 90, 3) := by decide +kernel
theorem dX8_book_50 : decode cX8_book 50 = .ok (.ireturn, 1) := by decide +kernel
theorem dX8_fault_0 : decode cX8_fault 0 = .ok (.aload_n 0, 1) := by decide +kernel
theorem dX8_fault_1 : decode cX8_fault 1 = .ok (.getfield 10, 3) := by decide +kernel
theorem dX8_fault_4 : decode cX8_fault 4 = .ok (.getfield 93, 3) := by decide +kernel
theorem dX8_fault_7 : decode cX8_fault 7 = .ok (.ireturn, 1) := by decide +kernel
theorem dX8_undo_0 : decode cX8_undo 0 = .ok (.aload_n 0, 1) := by decide +kernel
theorem dX8_undo_1 : decode cX8_undo 1 = .ok (.getfield 29, 3) := by decide +kernel
theorem dX8_undo_4 : decode cX8_undo 4 = .ok (.aload_n 0, 1) := by decide +kernel
theorem dX8_undo_5 : decode cX8_undo 5 = .ok (.getfield 19, 3) := by decide +kernel
theorem dX8_undo_8 : decode cX8_undo 8 = .ok (.invokevirtual 96, 3) := by decide +kernel
theorem dX8_undo_11 : decode cX8_undo 11 = .ok (.ifCond .eq 13, 3) := by decide +kernel
theorem dX8_undo_14 : decode cX8_undo 14 = .ok (.aload_n 0, 1) := by decide +kernel
theorem dX8_undo_15 : decode cX8_undo 15 = .ok (.getfield 29, 3) := by decide +kernel
theorem dX8_undo_18 : decode cX8_undo 18 = .ok (.getfield 99, 3) := by decide +kernel
theorem dX8_undo_21 : decode cX8_undo 21 = .ok (.goto 5, 3) := by decide +kernel
theorem dX8_undo_24 : decode cX8_undo 24 = .ok (.ldc 102, 2) := by decide +kernel
theorem dX8_undo_26 : decode cX8_undo 26 = .ok (.ireturn, 1) := by decide +kernel
theorem dX8_load_0 : decode cX8_load 0 = .ok (.aload_n 0, 1) := by decide +kernel
theorem dX8_load_1 : decode cX8_load 1 = .ok (.getfield 19, 3) := by decide +kernel
theorem dX8_load_4 : decode cX8_load 4 = .ok (.iload_n 1, 1) := by decide +kernel
theorem dX8_load_5 : decode cX8_load 5 = .ok (.invokevirtual 103, 3) := by decide +kernel
theorem dX8_load_8 : decode cX8_load 8 = .ok (.ifCond .ne 6, 3) := by decide +kernel
theorem dX8_load_11 : decode cX8_load 11 = .ok (.ldc 65, 2) := by decide +kernel
theorem dX8_load_13 : decode cX8_load 13 = .ok (.ireturn, 1) := by decide +kernel
theorem dX8_load_14 : decode cX8_load 14 = .ok (.aload_n 0, 1) := by decide +kernel
theorem dX8_load_15 : decode cX8_load 15 = .ok (.getfield 19, 3) := by decide +kernel
theorem dX8_load_18 : decode cX8_load 18 = .ok (.getfield 106, 3) := by decide +kernel
theorem dX8_load_21 : decode cX8_load 21 = .ok (.ldc 109, 2) := by decide +kernel
theorem dX8_load_23 : decode cX8_load 23 = .ok (.if_icmp .ne 35, 3) := by decide +kernel
theorem dX8_load_26 : decode cX8_load 26 = .ok (.aload_n 0, 1) := by decide +kernel
theorem dX8_load_27 : decode cX8_load 27 = .ok (.getfield 19, 3) := by decide +kernel
theorem dX8_load_30 : decode cX8_load 30 = .ok (.getfield 110, 3) := by decide +kernel
theorem dX8_load_33 : decode cX8_load 33 = .ok (.iload_n 1, 1) := by decide +kernel
theorem dX8_load_34 : decode cX8_load 34 = .ok (.iaload, 1) := by decide +kernel
theorem dX8_load_35 : decode cX8_load 35 = .ok (.ifCond .ne 23, 3) := by decide +kernel
theorem dX8_load_38 : decode cX8_load 38 = .ok (.aload_n 0, 1) := by decide +kernel
theorem dX8_load_39 : decode cX8_load 39 = .ok (.getfield 19, 3) := by decide +kernel
theorem dX8_load_42 : decode cX8_load 42 = .ok (.getfield 114, 3) := by decide +kernel
theorem dX8_load_45 : decode cX8_load 45 = .ok (.iload_n 1, 1) := by decide +kernel
theorem dX8_load_46 : decode cX8_load 46 = .ok (.iaload, 1) := by decide +kernel
theorem dX8_load_47 : decode cX8_load 47 = .ok (.aload_n 0, 1) := by decide +kernel
theorem dX8_load_48 : decode cX8_load 48 = .ok (.getfield 19, 3) := by decide +kernel
theorem dX8_load_51 : decode cX8_load 51 = .ok (.iload_n 1, 1) := by decide +kernel
theorem dX8_load_52 : decode cX8_load 52 = .ok (.invokevirtual 117, 3) := by decide +kernel
theorem dX8_load_55 : decode cX8_load 55 = .ok (.if_icmp .ge 6, 3) := by decide +kernel
theorem dX8_load_58 : decode cX8_load 58 = .ok (.ldc 102, 2) := by decide +kernel
theorem dX8_load_60 : decode cX8_load 60 = .ok (.ireturn, 1) := by decide +kernel
theorem dX8_load_61 : decode cX8_load 61 = .ok (.aload_n 0, 1) := by decide +kernel
theorem dX8_load_62 : decode cX8_load 62 = .ok (.getfield 29, 3) := by decide +kernel
theorem dX8_load_65 : decode cX8_load 65 = .ok (.aload_n 0, 1) := by decide +kernel
theorem dX8_load_66 : decode cX8_load 66 = .ok (.getfield 19, 3) := by decide +kernel
theorem dX8_load_69 : decode cX8_load 69 = .ok (.invokevirtual 121, 3) := by decide +kernel
theorem dX8_load_72 : decode cX8_load 72 = .ok (.aload_n 0, 1) := by decide +kernel
theorem dX8_load_73 : decode cX8_load 73 = .ok (.getfield 19, 3) := by decide +kernel
theorem dX8_load_76 : decode cX8_load 76 = .ok (.iload_n 1, 1) := by decide +kernel
theorem dX8_load_77 : decode cX8_load 77 = .ok (.invokevirtual 124, 3) := by decide +kernel
theorem dX8_load_80 : decode cX8_load 80 = .ok (.aload_n 0, 1) := by decide +kernel
theorem dX8_load_81 : decode cX8_load 81 = .ok (.getfield 19, 3) := by decide +kernel
theorem dX8_load_84 : decode cX8_load 84 = .ok (.getfield 114, 3) := by decide +kernel
theorem dX8_load_87 : decode cX8_load 87 = .ok (.iload_n 1, 1) := by decide +kernel
theorem dX8_load_88 : decode cX8_load 88 = .ok (.iaload, 1) := by decide +kernel
theorem dX8_load_89 : decode cX8_load 89 = .ok (.ireturn, 1) := by decide +kernel
theorem dX8_shoot_0 : decode cX8_shoot 0 = .ok (.aload_n 0, 1) := by decide +kernel
theorem dX8_shoot_1 : decode cX8_shoot 1 = .ok (.getfield 19, 3) := by decide +kernel
theorem dX8_shoot_4 : decode cX8_shoot 4 = .ok (.iload_n 1, 1) := by decide +kernel
theorem dX8_shoot_5 : decode cX8_shoot 5 = .ok (.invokevirtual 128, 3) := by decide +kernel
theorem dX8_shoot_8 : decode cX8_shoot 8 = .ok (.ifCond .ne 6, 3) := by decide +kernel
theorem dX8_shoot_11 : decode cX8_shoot 11 = .ok (.ldc 65, 2) := by decide +kernel
theorem dX8_shoot_13 : decode cX8_shoot 13 = .ok (.ireturn, 1) := by decide +kernel
theorem dX8_shoot_14 : decode cX8_shoot 14 = .ok (.aload_n 0, 1) := by decide +kernel
theorem dX8_shoot_15 : decode cX8_shoot 15 = .ok (.getfield 19, 3) := by decide +kernel
theorem dX8_shoot_18 : decode cX8_shoot 18 = .ok (.getfield 106, 3) := by decide +kernel
theorem dX8_shoot_21 : decode cX8_shoot 21 = .ok (.istore_n 2, 1) := by decide +kernel
theorem dX8_shoot_22 : decode cX8_shoot 22 = .ok (.aload_n 0, 1) := by decide +kernel
theorem dX8_shoot_23 : decode cX8_shoot 23 = .ok (.getfield 19, 3) := by decide +kernel
theorem dX8_shoot_26 : decode cX8_shoot 26 = .ok (.iload_n 2, 1) := by decide +kernel
theorem dX8_shoot_27 : decode cX8_shoot 27 = .ok (.invokevirtual 103, 3) := by decide +kernel
theorem dX8_shoot_30 : decode cX8_shoot 30 = .ok (.ifCond .eq 26, 3) := by decide +kernel
theorem dX8_shoot_33 : decode cX8_shoot 33 = .ok (.aload_n 0, 1) := by decide +kernel
theorem dX8_shoot_34 : decode cX8_shoot 34 = .ok (.getfield 19, 3) := by decide +kernel
theorem dX8_shoot_37 : decode cX8_shoot 37 = .ok (.iload_n 1, 1) := by decide +kernel
theorem dX8_shoot_38 : decode cX8_shoot 38 = .ok (.invokevirtual 131, 3) := by decide +kernel
theorem dX8_shoot_41 : decode cX8_shoot 41 = .ok (.ifCond .eq 15, 3) := by decide +kernel
theorem dX8_shoot_44 : decode cX8_shoot 44 = .ok (.aload_n 0, 1) := by decide +kernel
theorem dX8_shoot_45 : decode cX8_shoot 45 = .ok (.getfield 19, 3) := by decide +kernel
theorem dX8_shoot_48 : decode cX8_shoot 48 = .ok (.iload_n 2, 1) := by decide +kernel
theorem dX8_shoot_49 : decode cX8_shoot 49 = .ok (.iload_n 1, 1) := by decide +kernel
theorem dX8_shoot_50 : decode cX8_shoot 50 = .ok (.invokevirtual 134, 3) := by decide +kernel
theorem dX8_shoot_53 : decode cX8_shoot 53 = .ok (.ifCond .ne 6, 3) := by decide +kernel
theorem dX8_shoot_56 : decode cX8_shoot 56 = .ok (.ldc 102, 2) := by decide +kernel
theorem dX8_shoot_58 : decode cX8_shoot 58 = .ok (.ireturn, 1) := by decide +kernel
theorem dX8_shoot_59 : decode cX8_shoot 59 = .ok (.aload_n 0, 1) := by decide +kernel
theorem dX8_shoot_60 : decode cX8_shoot 60 = .ok (.getfield 19, 3) := by decide +kernel
theorem dX8_shoot_63 : decode cX8_shoot 63 = .ok (.getfield 114, 3) := by decide +kernel
theorem dX8_shoot_66 : decode cX8_shoot 66 = .ok (.iload_n 2, 1) := by decide +kernel
theorem dX8_shoot_67 : decode cX8_shoot 67 = .ok (.iaload, 1) := by decide +kernel
theorem dX8_shoot_68 : decode cX8_shoot 68 = .ok (.aload_n 0, 1) := by decide +kernel
theorem dX8_shoot_69 : decode cX8_shoot 69 = .ok (.getfield 19, 3) := by decide +kernel
theorem dX8_shoot_72 : decode cX8_shoot 72 = .ok (.getfield 138, 3) := by decide +kernel
theorem dX8_shoot_75 : decode cX8_shoot 75 = .ok (.iload_n 1, 1) := by decide +kernel
theorem dX8_shoot_76 : decode cX8_shoot 76 = .ok (.iaload, 1) := by decide +kernel
theorem dX8_shoot_77 : decode cX8_shoot 77 = .ok (.aload_n 0, 1) := by decide +kernel
theorem dX8_shoot_78 : decode cX8_shoot 78 = .ok (.getfield 19, 3) := by decide +kernel
theorem dX8_shoot_81 : decode cX8_shoot 81 = .ok (.getfield 141, 3) := by decide +kernel
theorem dX8_shoot_84 : decode cX8_shoot 84 = .ok (.iload_n 2, 1) := by decide +kernel
theorem dX8_shoot_85 : decode cX8_shoot 85 = .ok (.iaload, 1) := by decide +kernel
theorem dX8_shoot_86 : decode cX8_shoot 86 = .ok (.invokestatic 144, 3) := by decide +kernel
theorem dX8_shoot_89 : decode cX8_shoot 89 = .ok (.iadd, 1) := by decide +kernel
theorem dX8_shoot_90 : decode cX8_shoot 90 = .ok (.if_icmp .ge 6, 3) := by decide +kernel
theorem dX8_shoot_93 : decode cX8_shoot 93 = .ok (.ldc 74, 2) := by decide +kernel
theorem dX8_shoot_95 : decode cX8_shoot 95 = .ok (.ireturn, 1) := by decide +kernel
theorem dX8_shoot_96 : decode cX8_shoot 96 = .ok (.aload_n 0, 1) := by decide +kernel
theorem dX8_shoot_97 : decode cX8_shoot 97 = .ok (.getfield 29, 3) := by decide +kernel
theorem dX8_shoot_100 : decode cX8_shoot 100 = .ok (.aload_n 0, 1) := by decide +kernel
theorem dX8_shoot_101 : decode cX8_shoot 101 = .ok (.getfield 19, 3) := by decide +kernel
theorem dX8_shoot_104 : decode cX8_shoot 104 = .ok (.invokevirtual 121, 3) := by decide +kernel
theorem dX8_shoot_107 : decode cX8_shoot 107 = .ok (.aload_n 0, 1) := by decide +kernel
theorem dX8_shoot_108 : decode cX8_shoot 108 = .ok (.getfield 19, 3) := by decide +kernel
theorem dX8_shoot_111 : decode cX8_shoot 111 = .ok (.iload_n 2, 1) := by decide +kernel
theorem dX8_shoot_112 : decode cX8_shoot 112 = .ok (.iload_n 1, 1) := by decide +kernel
theorem dX8_shoot_113 : decode cX8_shoot 113 = .ok (.invokevirtual 149, 3) := by decide +kernel
theorem dX8_shoot_116 : decode cX8_shoot 116 = .ok (.aload_n 0, 1) := by decide +kernel
theorem dX8_shoot_117 : decode cX8_shoot 117 = .ok (.getfield 19, 3) := by decide +kernel
theorem dX8_shoot_120 : decode cX8_shoot 120 = .ok (.getfield 114, 3) := by decide +kernel
theorem dX8_shoot_123 : decode cX8_shoot 123 = .ok (.iload_n 2, 1) := by decide +kernel
theorem dX8_shoot_124 : decode cX8_shoot 124 = .ok (.iaload, 1) := by decide +kernel
theorem dX8_shoot_125 : decode cX8_shoot 125 = .ok (.ireturn, 1) := by decide +kernel
theorem dX8_unload_0 : decode cX8_unload 0 = .ok (.aload_n 0, 1) := by decide +kernel
theorem dX8_unload_1 : decode cX8_unload 1 = .ok (.getfield 19, 3) := by decide +kernel
theorem dX8_unload_4 : decode cX8_unload 4 = .ok (.getfield 106, 3) := by decide +kernel
theorem dX8_unload_7 : decode cX8_unload 7 = .ok (.istore_n 1, 1) := by decide +kernel
theorem dX8_unload_8 : decode cX8_unload 8 = .ok (.aload_n 0, 1) := by decide +kernel
theorem dX8_unload_9 : decode cX8_unload 9 = .ok (.getfield 19, 3) := by decide +kernel
theorem dX8_unload_12 : decode cX8_unload 12 = .ok (.iload_n 1, 1) := by decide +kernel
theorem dX8_unload_13 : decode cX8_unload 13 = .ok (.invokevirtual 103, 3) := by decide +kernel
theorem dX8_unload_16 : decode cX8_unload 16 = .ok (.ifCond .ne 6, 3) := by decide +kernel
theorem dX8_unload_19 : decode cX8_unload 19 = .ok (.ldc 102, 2) := by decide +kernel
theorem dX8_unload_21 : decode cX8_unload 21 = .ok (.ireturn, 1) := by decide +kernel
theorem dX8_unload_22 : decode cX8_unload 22 = .ok (.aload_n 0, 1) := by decide +kernel
theorem dX8_unload_23 : decode cX8_unload 23 = .ok (.getfield 19, 3) := by decide +kernel
theorem dX8_unload_26 : decode cX8_unload 26 = .ok (.getfield 153, 3) := by decide +kernel
theorem dX8_unload_29 : decode cX8_unload 29 = .ok (.ifCond .le 18, 3) := by decide +kernel
theorem dX8_unload_32 : decode cX8_unload 32 = .ok (.aload_n 0, 1) := by decide +kernel
theorem dX8_unload_33 : decode cX8_unload 33 = .ok (.getfield 19, 3) := by decide +kernel
theorem dX8_unload_36 : decode cX8_unload 36 = .ok (.getfield 156, 3) := by decide +kernel
theorem dX8_unload_39 : decode cX8_unload 39 = .ok (.bipush 8, 2) := by decide +kernel
theorem dX8_unload_41 : decode cX8_unload 41 = .ok (.if_icmp .lt 6, 3) := by decide +kernel
theorem dX8_unload_44 : decode cX8_unload 44 = .ok (.ldc 74, 2) := by decide +kernel
theorem dX8_unload_46 : decode cX8_unload 46 = .ok (.ireturn, 1) := by decide +kernel
theorem dX8_unload_47 : decode cX8_unload 47 = .ok (.aload_n 0, 1) := by decide +kernel
theorem dX8_unload_48 : decode cX8_unload 48 = .ok (.getfield 29, 3) := by decide +kernel
theorem dX8_unload_51 : decode cX8_unload 51 = .ok (.aload_n 0, 1) := by decide +kernel
theorem dX8_unload_52 : decode cX8_unload 52 = .ok (.getfield 19, 3) := by decide +kernel
theorem dX8_unload_55 : decode cX8_unload 55 = .ok (.invokevirtual 121, 3) := by decide +kernel
theorem dX8_unload_58 : decode cX8_unload 58 = .ok (.aload_n 0, 1) := by decide +kernel
theorem dX8_unload_59 : decode cX8_unload 59 = .ok (.getfield 19, 3) := by decide +kernel
theorem dX8_unload_62 : decode cX8_unload 62 = .ok (.iload_n 1, 1) := by decide +kernel
theorem dX8_unload_63 : decode cX8_unload 63 = .ok (.invokevirtual 159, 3) := by decide +kernel
theorem dX8_unload_66 : decode cX8_unload 66 = .ok (.aload_n 0, 1) := by decide +kernel
theorem dX8_unload_67 : decode cX8_unload 67 = .ok (.getfield 19, 3) := by decide +kernel
theorem dX8_unload_70 : decode cX8_unload 70 = .ok (.getfield 114, 3) := by decide +kernel
theorem dX8_unload_73 : decode cX8_unload 73 = .ok (.iload_n 1, 1) := by decide +kernel
theorem dX8_unload_74 : decode cX8_unload 74 = .ok (.iaload, 1) := by decide +kernel
theorem dX8_unload_75 : decode cX8_unload 75 = .ok (.ireturn, 1) := by decide +kernel
theorem dX8_lab_0 : decode cX8_lab 0 = .ok (.aload_n 0, 1) := by decide +kernel
theorem dX8_lab_1 : decode cX8_lab 1 = .ok (.getfield 19, 3) := by decide +kernel
theorem dX8_lab_4 : decode cX8_lab 4 = .ok (.getfield 156, 3) := by decide +kernel
theorem dX8_lab_7 : decode cX8_lab 7 = .ok (.ifCond .ne 6, 3) := by decide +kernel
theorem dX8_lab_10 : decode cX8_lab 10 = .ok (.ldc 102, 2) := by decide +kernel
theorem dX8_lab_12 : decode cX8_lab 12 = .ok (.ireturn, 1) := by decide +kernel
theorem dX8_lab_13 : decode cX8_lab 13 = .ok (.aload_n 0, 1) := by decide +kernel
theorem dX8_lab_14 : decode cX8_lab 14 = .ok (.getfield 29, 3) := by decide +kernel
theorem dX8_lab_17 : decode cX8_lab 17 = .ok (.aload_n 0, 1) := by decide +kernel
theorem dX8_lab_18 : decode cX8_lab 18 = .ok (.getfield 19, 3) := by decide +kernel
theorem dX8_lab_21 : decode cX8_lab 21 = .ok (.invokevirtual 121, 3) := by decide +kernel
theorem dX8_lab_24 : decode cX8_lab 24 = .ok (.aload_n 0, 1) := by decide +kernel
theorem dX8_lab_25 : decode cX8_lab 25 = .ok (.getfield 40, 3) := by decide +kernel
theorem dX8_lab_28 : decode cX8_lab 28 = .ok (.aload_n 0, 1) := by decide +kernel
theorem dX8_lab_29 : decode cX8_lab 29 = .ok (.getfield 19, 3) := by decide +kernel
theorem dX8_lab_32 : decode cX8_lab 32 = .ok (.invokevirtual 162, 3) := by decide +kernel
theorem dX8_lab_35 : decode cX8_lab 35 = .ok (.istore_n 1, 1) := by decide +kernel
theorem dX8_lab_36 : decode cX8_lab 36 = .ok (.aload_n 0, 1) := by decide +kernel
theorem dX8_lab_37 : decode cX8_lab 37 = .ok (.getfield 19, 3) := by decide +kernel
theorem dX8_lab_40 : decode cX8_lab 40 = .ok (.iload_n 1, 1) := by decide +kernel
theorem dX8_lab_41 : decode cX8_lab 41 = .ok (.invokevirtual 166, 3) := by decide +kernel
theorem dX8_lab_44 : decode cX8_lab 44 = .ok (.iload_n 1, 1) := by decide +kernel
theorem dX8_lab_45 : decode cX8_lab 45 = .ok (.ireturn, 1) := by decide +kernel
theorem dX8_again_0 : decode cX8_again 0 = .ok (.aload_n 0, 1) := by decide +kernel
theorem dX8_again_1 : decode cX8_again 1 = .ok (.getfield 19, 3) := by decide +kernel
theorem dX8_again_4 : decode cX8_again 4 = .ok (.iload_n 1, 1) := by decide +kernel
theorem dX8_again_5 : decode cX8_again 5 = .ok (.invokevirtual 128, 3) := by decide +kernel
theorem dX8_again_8 : decode cX8_again 8 = .ok (.ifCond .ne 6, 3) := by decide +kernel
theorem dX8_again_11 : decode cX8_again 11 = .ok (.ldc 65, 2) := by decide +kernel
theorem dX8_again_13 : decode cX8_again 13 = .ok (.ireturn, 1) := by decide +kernel
theorem dX8_again_14 : decode cX8_again 14 = .ok (.aload_n 0, 1) := by decide +kernel
theorem dX8_again_15 : decode cX8_again 15 = .ok (.getfield 19, 3) := by decide +kernel
theorem dX8_again_18 : decode cX8_again 18 = .ok (.iload_n 1, 1) := by decide +kernel
theorem dX8_again_19 : decode cX8_again 19 = .ok (.invokevirtual 131, 3) := by decide +kernel
theorem dX8_again_22 : decode cX8_again 22 = .ok (.ifCond .eq 6, 3) := by decide +kernel
theorem dX8_again_25 : decode cX8_again 25 = .ok (.ldc 102, 2) := by decide +kernel
theorem dX8_again_27 : decode cX8_again 27 = .ok (.ireturn, 1) := by decide +kernel
theorem dX8_again_28 : decode cX8_again 28 = .ok (.aload_n 0, 1) := by decide +kernel
theorem dX8_again_29 : decode cX8_again 29 = .ok (.getfield 29, 3) := by decide +kernel
theorem dX8_again_32 : decode cX8_again 32 = .ok (.aload_n 0, 1) := by decide +kernel
theorem dX8_again_33 : decode cX8_again 33 = .ok (.getfield 19, 3) := by decide +kernel
theorem dX8_again_36 : decode cX8_again 36 = .ok (.invokevirtual 121, 3) := by decide +kernel
theorem dX8_again_39 : decode cX8_again 39 = .ok (.aload_n 0, 1) := by decide +kernel
theorem dX8_again_40 : decode cX8_again 40 = .ok (.getfield 19, 3) := by decide +kernel
theorem dX8_again_43 : decode cX8_again 43 = .ok (.getfield 169, 3) := by decide +kernel
theorem dX8_again_46 : decode cX8_again 46 = .ok (.iload_n 1, 1) := by decide +kernel
theorem dX8_again_47 : decode cX8_again 47 = .ok (.iaload, 1) := by decide +kernel
theorem dX8_again_48 : decode cX8_again 48 = .ok (.istore_n 2, 1) := by decide +kernel
theorem dX8_again_49 : decode cX8_again 49 = .ok (.aload_n 0, 1) := by decide +kernel
theorem dX8_again_50 : decode cX8_again 50 = .ok (.getfield 19, 3) := by decide +kernel
theorem dX8_again_53 : decode cX8_again 53 = .ok (.iload_n 1, 1) := by decide +kernel
theorem dX8_again_54 : decode cX8_again 54 = .ok (.invokevirtual 172, 3) := by decide +kernel
theorem dX8_again_57 : decode cX8_again 57 = .ok (.iload_n 2, 1) := by decide +kernel
theorem dX8_again_58 : decode cX8_again 58 = .ok (.ireturn, 1) := by decide +kernel
theorem dX8_buy_0 : decode cX8_buy 0 = .ok (.aload_n 0, 1) := by decide +kernel
theorem dX8_buy_1 : decode cX8_buy 1 = .ok (.invokevirtual 175, 3) := by decide +kernel
theorem dX8_buy_4 : decode cX8_buy 4 = .ok (.ifCond .eq 6, 3) := by decide +kernel
theorem dX8_buy_7 : decode cX8_buy 7 = .ok (.ldc 102, 2) := by decide +kernel
theorem dX8_buy_9 : decode cX8_buy 9 = .ok (.ireturn, 1) := by decide +kernel
theorem dX8_buy_10 : decode cX8_buy 10 = .ok (.iload_n 1, 1) := by decide +kernel
theorem dX8_buy_11 : decode cX8_buy 11 = .ok (.invokestatic 179, 3) := by decide +kernel
theorem dX8_buy_14 : decode cX8_buy 14 = .ok (.ifCond .eq 10, 3) := by decide +kernel
theorem dX8_buy_17 : decode cX8_buy 17 = .ok (.iload_n 2, 1) := by decide +kernel
theorem dX8_buy_18 : decode cX8_buy 18 = .ok (.invokestatic 182, 3) := by decide +kernel
theorem dX8_buy_21 : decode cX8_buy 21 = .ok (.ifCond .ne 6, 3) := by decide +kernel
theorem dX8_buy_24 : decode cX8_buy 24 = .ok (.ldc 65, 2) := by decide +kernel
theorem dX8_buy_26 : decode cX8_buy 26 = .ok (.ireturn, 1) := by decide +kernel
theorem dX8_buy_27 : decode cX8_buy 27 = .ok (.aload_n 0, 1) := by decide +kernel
theorem dX8_buy_28 : decode cX8_buy 28 = .ok (.getfield 19, 3) := by decide +kernel
theorem dX8_buy_31 : decode cX8_buy 31 = .ok (.getfield 90, 3) := by decide +kernel
theorem dX8_buy_34 : decode cX8_buy 34 = .ok (.bipush 6, 2) := by decide +kernel
theorem dX8_buy_36 : decode cX8_buy 36 = .ok (.if_icmp .lt 6, 3) := by decide +kernel
theorem dX8_buy_39 : decode cX8_buy 39 = .ok (.ldc 74, 2) := by decide +kernel
theorem dX8_buy_41 : decode cX8_buy 41 = .ok (.ireturn, 1) := by decide +kernel
theorem dX8_buy_42 : decode cX8_buy 42 = .ok (.aload_n 0, 1) := by decide +kernel
theorem dX8_buy_43 : decode cX8_buy 43 = .ok (.getfield 29, 3) := by decide +kernel
theorem dX8_buy_46 : decode cX8_buy 46 = .ok (.aload_n 0, 1) := by decide +kernel
theorem dX8_buy_47 : decode cX8_buy 47 = .ok (.getfield 19, 3) := by decide +kernel
theorem dX8_buy_50 : decode cX8_buy 50 = .ok (.invokevirtual 121, 3) := by decide +kernel
theorem dX8_buy_53 : decode cX8_buy 53 = .ok (.aload_n 0, 1) := by decide +kernel
theorem dX8_buy_54 : decode cX8_buy 54 = .ok (.getfield 19, 3) := by decide +kernel
theorem dX8_buy_57 : decode cX8_buy 57 = .ok (.iload_n 1, 1) := by decide +kernel
theorem dX8_buy_58 : decode cX8_buy 58 = .ok (.iload_n 2, 1) := by decide +kernel
theorem dX8_buy_59 : decode cX8_buy 59 = .ok (.invokevirtual 185, 3) := by decide +kernel
theorem dX8_buy_62 : decode cX8_buy 62 = .ok (.ireturn, 1) := by decide +kernel
theorem dX8_ask_0 : decode cX8_ask 0 = .ok (.aload_n 0, 1) := by decide +kernel
theorem dX8_ask_1 : decode cX8_ask 1 = .ok (.invokevirtual 175, 3) := by decide +kernel
theorem dX8_ask_4 : decode cX8_ask 4 = .ok (.ifCond .eq 6, 3) := by decide +kernel
theorem dX8_ask_7 : decode cX8_ask 7 = .ok (.ldc 102, 2) := by decide +kernel
theorem dX8_ask_9 : decode cX8_ask 9 = .ok (.ireturn, 1) := by decide +kernel
theorem dX8_ask_10 : decode cX8_ask 10 = .ok (.iload_n 1, 1) := by decide +kernel
theorem dX8_ask_11 : decode cX8_ask 11 = .ok (.invokestatic 189, 3) := by decide +kernel
theorem dX8_ask_14 : decode cX8_ask 14 = .ok (.ifCond .eq 10, 3) := by decide +kernel
theorem dX8_ask_17 : decode cX8_ask 17 = .ok (.iload_n 2, 1) := by decide +kernel
theorem dX8_ask_18 : decode cX8_ask 18 = .ok (.invokestatic 192, 3) := by decide +kernel
theorem dX8_ask_21 : decode cX8_ask 21 = .ok (.ifCond .ne 6, 3) := by decide +kernel
theorem dX8_ask_24 : decode cX8_ask 24 = .ok (.ldc 65, 2) := by decide +kernel
theorem dX8_ask_26 : decode cX8_ask 26 = .ok (.ireturn, 1) := by decide +kernel
theorem dX8_ask_27 : decode cX8_ask 27 = .ok (.aload_n 0, 1) := by decide +kernel
theorem dX8_ask_28 : decode cX8_ask 28 = .ok (.getfield 19, 3) := by decide +kernel
theorem dX8_ask_31 : decode cX8_ask 31 = .ok (.getfield 195, 3) := by decide +kernel
theorem dX8_ask_34 : decode cX8_ask 34 = .ok (.bipush 8, 2) := by decide +kernel
theorem dX8_ask_36 : decode cX8_ask 36 = .ok (.if_icmp .lt 6, 3) := by decide +kernel
theorem dX8_ask_39 : decode cX8_ask 39 = .ok (.ldc 74, 2) := by decide +kernel
theorem dX8_ask_41 : decode cX8_ask 41 = .ok (.ireturn, 1) := by decide +kernel
theorem dX8_ask_42 : decode cX8_ask 42 = .ok (.aload_n 0, 1) := by decide +kernel
theorem dX8_ask_43 : decode cX8_ask 43 = .ok (.getfield 29, 3) := by decide +kernel
theorem dX8_ask_46 : decode cX8_ask 46 = .ok (.aload_n 0, 1) := by decide +kernel
theorem dX8_ask_47 : decode cX8_ask 47 = .ok (.getfield 19, 3) := by decide +kernel
theorem dX8_ask_50 : decode cX8_ask 50 = .ok (.invokevirtual 121, 3) := by decide +kernel
theorem dX8_ask_53 : decode cX8_ask 53 = .ok (.aload_n 0, 1) := by decide +kernel
theorem dX8_ask_54 : decode cX8_ask 54 = .ok (.getfield 19, 3) := by decide +kernel
theorem dX8_ask_57 : decode cX8_ask 57 = .ok (.iload_n 1, 1) := by decide +kernel
theorem dX8_ask_58 : decode cX8_ask 58 = .ok (.iload_n 2, 1) := by decide +kernel
theorem dX8_ask_59 : decode cX8_ask 59 = .ok (.invokevirtual 198, 3) := by decide +kernel
theorem dX8_ask_62 : decode cX8_ask 62 = .ok (.ireturn, 1) := by decide +kernel
theorem dX8_become_0 : decode cX8_become 0 = .ok (.aload_n 0, 1) := by decide +kernel
theorem dX8_become_1 : decode cX8_become 1 = .ok (.getfield 19, 3) := by decide +kernel
theorem dX8_become_4 : decode cX8_become 4 = .ok (.iload_n 1, 1) := by decide +kernel
theorem dX8_become_5 : decode cX8_become 5 = .ok (.invokevirtual 103, 3) := by decide +kernel
theorem dX8_become_8 : decode cX8_become 8 = .ok (.ifCond .eq 10, 3) := by decide +kernel
theorem dX8_become_11 : decode cX8_become 11 = .ok (.iload_n 2, 1) := by decide +kernel
theorem dX8_become_12 : decode cX8_become 12 = .ok (.invokestatic 179, 3) := by decide +kernel
theorem dX8_become_15 : decode cX8_become 15 = .ok (.ifCond .ne 6, 3) := by decide +kernel
theorem dX8_become_18 : decode cX8_become 18 = .ok (.ldc 65, 2) := by decide +kernel
theorem dX8_become_20 : decode cX8_become 20 = .ok (.ireturn, 1) := by decide +kernel
theorem dX8_become_21 : decode cX8_become 21 = .ok (.aload_n 0, 1) := by decide +kernel
theorem dX8_become_22 : decode cX8_become 22 = .ok (.getfield 19, 3) := by decide +kernel
theorem dX8_become_25 : decode cX8_become 25 = .ok (.getfield 141, 3) := by decide +kernel
theorem dX8_become_28 : decode cX8_become 28 = .ok (.iload_n 1, 1) := by decide +kernel
theorem dX8_become_29 : decode cX8_become 29 = .ok (.iaload, 1) := by decide +kernel
theorem dX8_become_30 : decode cX8_become 30 = .ok (.istore_n 3, 1) := by decide +kernel
theorem dX8_become_31 : decode cX8_become 31 = .ok (.iload_n 3, 1) := by decide +kernel
theorem dX8_become_32 : decode cX8_become 32 = .ok (.iload_n 2, 1) := by decide +kernel
theorem dX8_become_33 : decode cX8_become 33 = .ok (.if_icmp .eq 15, 3) := by decide +kernel
theorem dX8_become_36 : decode cX8_become 36 = .ok (.aload_n 0, 1) := by decide +kernel
theorem dX8_become_37 : decode cX8_become 37 = .ok (.getfield 19, 3) := by decide +kernel
theorem dX8_become_40 : decode cX8_become 40 = .ok (.getfield 110, 3) := by decide +kernel
theorem dX8_become_43 : decode cX8_become 43 = .ok (.iload_n 1, 1) := by decide +kernel
theorem dX8_become_44 : decode cX8_become 44 = .ok (.iaload, 1) := by decide +kernel
theorem dX8_become_45 : decode cX8_become 45 = .ok (.ifCond .eq 6, 3) := by decide +kernel
theorem dX8_become_48 : decode cX8_become 48 = .ok (.ldc 102, 2) := by decide +kernel
theorem dX8_become_50 : decode cX8_become 50 = .ok (.ireturn, 1) := by decide +kernel
theorem dX8_become_51 : decode cX8_become 51 = .ok (.aload_n 0, 1) := by decide +kernel
theorem dX8_become_52 : decode cX8_become 52 = .ok (.getfield 29, 3) := by decide +kernel
theorem dX8_become_55 : decode cX8_become 55 = .ok (.aload_n 0, 1) := by decide +kernel
theorem dX8_become_56 : decode cX8_become 56 = .ok (.getfield 19, 3) := by decide +kernel
theorem dX8_become_59 : decode cX8_become 59 = .ok (.invokevirtual 121, 3) := by decide +kernel
theorem dX8_become_62 : decode cX8_become 62 = .ok (.aload_n 0, 1) := by decide +kernel
theorem dX8_become_63 : decode cX8_become 63 = .ok (.getfield 19, 3) := by decide +kernel
theorem dX8_become_66 : decode cX8_become 66 = .ok (.getfield 141, 3) := by decide +kernel
theorem dX8_become_69 : decode cX8_become 69 = .ok (.iload_n 1, 1) := by decide +kernel
theorem dX8_become_70 : decode cX8_become 70 = .ok (.iload_n 2, 1) := by decide +kernel
theorem dX8_become_71 : decode cX8_become 71 = .ok (.iastore, 1) := by decide +kernel
theorem dX8_become_72 : decode cX8_become 72 = .ok (.iload_n 3, 1) := by decide +kernel
theorem dX8_become_73 : decode cX8_become 73 = .ok (.ireturn, 1) := by decide +kernel
theorem dX8_demand_0 : decode cX8_demand 0 = .ok (.aload_n 0, 1) := by decide +kernel
theorem dX8_demand_1 : decode cX8_demand 1 = .ok (.getfield 19, 3) := by decide +kernel
theorem dX8_demand_4 : decode cX8_demand 4 = .ok (.iload_n 1, 1) := by decide +kernel
theorem dX8_demand_5 : decode cX8_demand 5 = .ok (.invokevirtual 128, 3) := by decide +kernel
theorem dX8_demand_8 : decode cX8_demand 8 = .ok (.ifCond .eq 17, 3) := by decide +kernel
theorem dX8_demand_11 : decode cX8_demand 11 = .ok (.iload_n 2, 1) := by decide +kernel
theorem dX8_demand_12 : decode cX8_demand 12 = .ok (.invokestatic 189, 3) := by decide +kernel
theorem dX8_demand_15 : decode cX8_demand 15 = .ok (.ifCond .eq 10, 3) := by decide +kernel
theorem dX8_demand_18 : decode cX8_demand 18 = .ok (.iload_n 3, 1) := by decide +kernel
theorem dX8_demand_19 : decode cX8_demand 19 = .ok (.invokestatic 192, 3) := by decide +kernel
theorem dX8_demand_22 : decode cX8_demand 22 = .ok (.ifCond .ne 6, 3) := by decide +kernel
theorem dX8_demand_25 : decode cX8_demand 25 = .ok (.ldc 65, 2) := by decide +kernel
theorem dX8_demand_27 : decode cX8_demand 27 = .ok (.ireturn, 1) := by decide +kernel
theorem dX8_demand_28 : decode cX8_demand 28 = .ok (.aload_n 0, 1) := by decide +kernel
theorem dX8_demand_29 : decode cX8_demand 29 = .ok (.getfield 19, 3) := by decide +kernel
theorem dX8_demand_32 : decode cX8_demand 32 = .ok (.iload_n 1, 1) := by decide +kernel
theorem dX8_demand_33 : decode cX8_demand 33 = .ok (.invokevirtual 131, 3) := by decide +kernel
theorem dX8_demand_36 : decode cX8_demand 36 = .ok (.ifCond .ne 6, 3) := by decide +kernel
theorem dX8_demand_39 : decode cX8_demand 39 = .ok (.ldc 102, 2) := by decide +kernel
theorem dX8_demand_41 : decode cX8_demand 41 = .ok (.ireturn, 1) := by decide +kernel
theorem dX8_demand_42 : decode cX8_demand 42 = .ok (.aload_n 0, 1) := by decide +kernel
theorem dX8_demand_43 : decode cX8_demand 43 = .ok (.getfield 29, 3) := by decide +kernel
theorem dX8_demand_46 : decode cX8_demand 46 = .ok (.aload_n 0, 1) := by decide +kernel
theorem dX8_demand_47 : decode cX8_demand 47 = .ok (.getfield 19, 3) := by decide +kernel
theorem dX8_demand_50 : decode cX8_demand 50 = .ok (.invokevirtual 121, 3) := by decide +kernel
theorem dX8_demand_53 : decode cX8_demand 53 = .ok (.aload_n 0, 1) := by decide +kernel
theorem dX8_demand_54 : decode cX8_demand 54 = .ok (.getfield 19, 3) := by decide +kernel
theorem dX8_demand_57 : decode cX8_demand 57 = .ok (.getfield 138, 3) := by decide +kernel
theorem dX8_demand_60 : decode cX8_demand 60 = .ok (.iload_n 1, 1) := by decide +kernel
theorem dX8_demand_61 : decode cX8_demand 61 = .ok (.iaload, 1) := by decide +kernel
theorem dX8_demand_62 : decode cX8_demand 62 = .ok (.istore 4, 2) := by decide +kernel
theorem dX8_demand_64 : decode cX8_demand 64 = .ok (.aload_n 0, 1) := by decide +kernel
theorem dX8_demand_65 : decode cX8_demand 65 = .ok (.getfield 19, 3) := by decide +kernel
theorem dX8_demand_68 : decode cX8_demand 68 = .ok (.getfield 201, 3) := by decide +kernel
theorem dX8_demand_71 : decode cX8_demand 71 = .ok (.iload_n 1, 1) := by decide +kernel
theorem dX8_demand_72 : decode cX8_demand 72 = .ok (.iload_n 2, 1) := by decide +kernel
theorem dX8_demand_73 : decode cX8_demand 73 = .ok (.iastore, 1) := by decide +kernel
theorem dX8_demand_74 : decode cX8_demand 74 = .ok (.aload_n 0, 1) := by decide +kernel
theorem dX8_demand_75 : decode cX8_demand 75 = .ok (.getfield 19, 3) := by decide +kernel
theorem dX8_demand_78 : decode cX8_demand 78 = .ok (.getfield 138, 3) := by decide +kernel
theorem dX8_demand_81 : decode cX8_demand 81 = .ok (.iload_n 1, 1) := by decide +kernel
theorem dX8_demand_82 : decode cX8_demand 82 = .ok (.iload_n 3, 1) := by decide +kernel
theorem dX8_demand_83 : decode cX8_demand 83 = .ok (.iastore, 1) := by decide +kernel
theorem dX8_demand_84 : decode cX8_demand 84 = .ok (.iload 4, 2) := by decide +kernel
theorem dX8_demand_86 : decode cX8_demand 86 = .ok (.ireturn, 1) := by decide +kernel
theorem dX8_law_0 : decode cX8_law 0 = .ok (.aload_n 0, 1) := by decide +kernel
theorem dX8_law_1 : decode cX8_law 1 = .ok (.invokevirtual 175, 3) := by decide +kernel
theorem dX8_law_4 : decode cX8_law 4 = .ok (.ifCond .eq 6, 3) := by decide +kernel
theorem dX8_law_7 : decode cX8_law 7 = .ok (.ldc 102, 2) := by decide +kernel
theorem dX8_law_9 : decode cX8_law 9 = .ok (.ireturn, 1) := by decide +kernel
theorem dX8_law_10 : decode cX8_law 10 = .ok (.iload_n 1, 1) := by decide +kernel
theorem dX8_law_11 : decode cX8_law 11 = .ok (.ifCond .lt 26, 3) := by decide +kernel
theorem dX8_law_14 : decode cX8_law 14 = .ok (.iload_n 1, 1) := by decide +kernel
theorem dX8_law_15 : decode cX8_law 15 = .ok (.iconst 4, 1) := by decide +kernel
theorem dX8_law_16 : decode cX8_law 16 = .ok (.if_icmp .ge 21, 3) := by decide +kernel
theorem dX8_law_19 : decode cX8_law 19 = .ok (.iload_n 2, 1) := by decide +kernel
theorem dX8_law_20 : decode cX8_law 20 = .ok (.getstatic 204, 3) := by decide +kernel
theorem dX8_law_23 : decode cX8_law 23 = .ok (.iload_n 1, 1) := by decide +kernel
theorem dX8_law_24 : decode cX8_law 24 = .ok (.iaload, 1) := by decide +kernel
theorem dX8_law_25 : decode cX8_law 25 = .ok (.if_icmp .lt 12, 3) := by decide +kernel
theorem dX8_law_28 : decode cX8_law 28 = .ok (.iload_n 2, 1) := by decide +kernel
theorem dX8_law_29 : decode cX8_law 29 = .ok (.getstatic 207, 3) := by decide +kernel
theorem dX8_law_32 : decode cX8_law 32 = .ok (.iload_n 1, 1) := by decide +kernel
theorem dX8_law_33 : decode cX8_law 33 = .ok (.iaload, 1) := by decide +kernel
theorem dX8_law_34 : decode cX8_law 34 = .ok (.if_icmp .le 6, 3) := by decide +kernel
theorem dX8_law_37 : decode cX8_law 37 = .ok (.ldc 65, 2) := by decide +kernel
theorem dX8_law_39 : decode cX8_law 39 = .ok (.ireturn, 1) := by decide +kernel
theorem dX8_law_40 : decode cX8_law 40 = .ok (.aload_n 0, 1) := by decide +kernel
theorem dX8_law_41 : decode cX8_law 41 = .ok (.getfield 29, 3) := by decide +kernel
theorem dX8_law_44 : decode cX8_law 44 = .ok (.aload_n 0, 1) := by decide +kernel
theorem dX8_law_45 : decode cX8_law 45 = .ok (.getfield 19, 3) := by decide +kernel
theorem dX8_law_48 : decode cX8_law 48 = .ok (.invokevirtual 121, 3) := by decide +kernel
theorem dX8_law_51 : decode cX8_law 51 = .ok (.aload_n 0, 1) := by decide +kernel
theorem dX8_law_52 : decode cX8_law 52 = .ok (.getfield 19, 3) := by decide +kernel
theorem dX8_law_55 : decode cX8_law 55 = .ok (.getfield 210, 3) := by decide +kernel
theorem dX8_law_58 : decode cX8_law 58 = .ok (.iload_n 1, 1) := by decide +kernel
theorem dX8_law_59 : decode cX8_law 59 = .ok (.iaload, 1) := by decide +kernel
theorem dX8_law_60 : decode cX8_law 60 = .ok (.istore_n 3, 1) := by decide +kernel
theorem dX8_law_61 : decode cX8_law 61 = .ok (.aload_n 0, 1) := by decide +kernel
theorem dX8_law_62 : decode cX8_law 62 = .ok (.getfield 19, 3) := by decide +kernel
theorem dX8_law_65 : decode cX8_law 65 = .ok (.getfield 210, 3) := by decide +kernel
theorem dX8_law_68 : decode cX8_law 68 = .ok (.iload_n 1, 1) := by decide +kernel
theorem dX8_law_69 : decode cX8_law 69 = .ok (.iload_n 2, 1) := by decide +kernel
theorem dX8_law_70 : decode cX8_law 70 = .ok (.iastore, 1) := by decide +kernel
theorem dX8_law_71 : decode cX8_law 71 = .ok (.iload_n 3, 1) := by decide +kernel
theorem dX8_law_72 : decode cX8_law 72 = .ok (.ireturn, 1) := by decide +kernel
theorem dX8_can_0 : decode cX8_can 0 = .ok (.aload_n 0, 1) := by decide +kernel
theorem dX8_can_1 : decode cX8_can 1 = .ok (.getfield 19, 3) := by decide +kernel
theorem dX8_can_4 : decode cX8_can 4 = .ok (.iload_n 1, 1) := by decide +kernel
theorem dX8_can_5 : decode cX8_can 5 = .ok (.invokevirtual 103, 3) := by decide +kernel
theorem dX8_can_8 : decode cX8_can 8 = .ok (.ifCond .ne 6, 3) := by decide +kernel
theorem dX8_can_11 : decode cX8_can 11 = .ok (.ldc 65, 2) := by decide +kernel
theorem dX8_can_13 : decode cX8_can 13 = .ok (.ireturn, 1) := by decide +kernel
theorem dX8_can_14 : decode cX8_can 14 = .ok (.iload_n 2, 1) := by decide +kernel
theorem dX8_can_15 : decode cX8_can 15 = .ok (.tableswitch 125 0 7 #[45, 55, 65, 75, 85, 94, 103, 116], 45) := by decide +kernel
theorem dX8_can_60 : decode cX8_can 60 = .ok (.aload_n 0, 1) := by decide +kernel
theorem dX8_can_61 : decode cX8_can 61 = .ok (.getfield 19, 3) := by decide +kernel
theorem dX8_can_64 : decode cX8_can 64 = .ok (.getfield 141, 3) := by decide +kernel
theorem dX8_can_67 : decode cX8_can 67 = .ok (.iload_n 1, 1) := by decide +kernel
theorem dX8_can_68 : decode cX8_can 68 = .ok (.iaload, 1) := by decide +kernel
theorem dX8_can_69 : decode cX8_can 69 = .ok (.ireturn, 1) := by decide +kernel
theorem dX8_can_70 : decode cX8_can 70 = .ok (.aload_n 0, 1) := by decide +kernel
theorem dX8_can_71 : decode cX8_can 71 = .ok (.getfield 19, 3) := by decide +kernel
theorem dX8_can_74 : decode cX8_can 74 = .ok (.getfield 114, 3) := by decide +kernel
theorem dX8_can_77 : decode cX8_can 77 = .ok (.iload_n 1, 1) := by decide +kernel
theorem dX8_can_78 : decode cX8_can 78 = .ok (.iaload, 1) := by decide +kernel
theorem dX8_can_79 : decode cX8_can 79 = .ok (.ireturn, 1) := by decide +kernel
theorem dX8_can_80 : decode cX8_can 80 = .ok (.aload_n 0, 1) := by decide +kernel
theorem dX8_can_81 : decode cX8_can 81 = .ok (.getfield 19, 3) := by decide +kernel
theorem dX8_can_84 : decode cX8_can 84 = .ok (.getfield 110, 3) := by decide +kernel
theorem dX8_can_87 : decode cX8_can 87 = .ok (.iload_n 1, 1) := by decide +kernel
theorem dX8_can_88 : decode cX8_can 88 = .ok (.iaload, 1) := by decide +kernel
theorem dX8_can_89 : decode cX8_can 89 = .ok (.ireturn, 1) := by decide +kernel
theorem dX8_can_90 : decode cX8_can 90 = .ok (.aload_n 0, 1) := by decide +kernel
theorem dX8_can_91 : decode cX8_can 91 = .ok (.getfield 19, 3) := by decide +kernel
theorem dX8_can_94 : decode cX8_can 94 = .ok (.getfield 213, 3) := by decide +kernel
theorem dX8_can_97 : decode cX8_can 97 = .ok (.iload_n 1, 1) := by decide +kernel
theorem dX8_can_98 : decode cX8_can 98 = .ok (.iaload, 1) := by decide +kernel
theorem dX8_can_99 : decode cX8_can 99 = .ok (.ireturn, 1) := by decide +kernel
theorem dX8_can_100 : decode cX8_can 100 = .ok (.aload_n 0, 1) := by decide +kernel
theorem dX8_can_101 : decode cX8_can 101 = .ok (.getfield 19, 3) := by decide +kernel
theorem dX8_can_104 : decode cX8_can 104 = .ok (.iload_n 1, 1) := by decide +kernel
theorem dX8_can_105 : decode cX8_can 105 = .ok (.invokevirtual 216, 3) := by decide +kernel
theorem dX8_can_108 : decode cX8_can 108 = .ok (.ireturn, 1) := by decide +kernel
theorem dX8_can_109 : decode cX8_can 109 = .ok (.aload_n 0, 1) := by decide +kernel
theorem dX8_can_110 : decode cX8_can 110 = .ok (.getfield 19, 3) := by decide +kernel
theorem dX8_can_113 : decode cX8_can 113 = .ok (.iload_n 1, 1) := by decide +kernel
theorem dX8_can_114 : decode cX8_can 114 = .ok (.invokevirtual 117, 3) := by decide +kernel
theorem dX8_can_117 : decode cX8_can 117 = .ok (.ireturn, 1) := by decide +kernel
theorem dX8_can_118 : decode cX8_can 118 = .ok (.aload_n 0, 1) := by decide +kernel
theorem dX8_can_119 : decode cX8_can 119 = .ok (.getfield 19, 3) := by decide +kernel
theorem dX8_can_122 : decode cX8_can 122 = .ok (.getfield 141, 3) := by decide +kernel
theorem dX8_can_125 : decode cX8_can 125 = .ok (.iload_n 1, 1) := by decide +kernel
theorem dX8_can_126 : decode cX8_can 126 = .ok (.iaload, 1) := by decide +kernel
theorem dX8_can_127 : decode cX8_can 127 = .ok (.invokestatic 144, 3) := by decide +kernel
theorem dX8_can_130 : decode cX8_can 130 = .ok (.ireturn, 1) := by decide +kernel
theorem dX8_can_131 : decode cX8_can 131 = .ok (.aload_n 0, 1) := by decide +kernel
theorem dX8_can_132 : decode cX8_can 132 = .ok (.getfield 19, 3) := by decide +kernel
theorem dX8_can_135 : decode cX8_can 135 = .ok (.iload_n 1, 1) := by decide +kernel
theorem dX8_can_136 : decode cX8_can 136 = .ok (.invokevirtual 219, 3) := by decide +kernel
theorem dX8_can_139 : decode cX8_can 139 = .ok (.ireturn, 1) := by decide +kernel
theorem dX8_can_140 : decode cX8_can 140 = .ok (.ldc 65, 2) := by decide +kernel
theorem dX8_can_142 : decode cX8_can 142 = .ok (.ireturn, 1) := by decide +kernel
theorem dX8_take_0 : decode cX8_take 0 = .ok (.aload_n 0, 1) := by decide +kernel
theorem dX8_take_1 : decode cX8_take 1 = .ok (.getfield 19, 3) := by decide +kernel
theorem dX8_take_4 : decode cX8_take 4 = .ok (.iload_n 1, 1) := by decide +kernel
theorem dX8_take_5 : decode cX8_take 5 = .ok (.invokevirtual 128, 3) := by decide +kernel
theorem dX8_take_8 : decode cX8_take 8 = .ok (.ifCond .ne 6, 3) := by decide +kernel
theorem dX8_take_11 : decode cX8_take 11 = .ok (.ldc 65, 2) := by decide +kernel
theorem dX8_take_13 : decode cX8_take 13 = .ok (.ireturn, 1) := by decide +kernel
theorem dX8_take_14 : decode cX8_take 14 = .ok (.iload_n 2, 1) := by decide +kernel
theorem dX8_take_15 : decode cX8_take 15 = .ok (.tableswitch 68 0 3 #[29, 39, 49, 59], 29) := by decide +kernel
theorem dX8_take_44 : decode cX8_take 44 = .ok (.aload_n 0, 1) := by decide +kernel
theorem dX8_take_45 : decode cX8_take 45 = .ok (.getfield 19, 3) := by decide +kernel
theorem dX8_take_48 : decode cX8_take 48 = .ok (.getfield 201, 3) := by decide +kernel
theorem dX8_take_51 : decode cX8_take 51 = .ok (.iload_n 1, 1) := by decide +kernel
theorem dX8_take_52 : decode cX8_take 52 = .ok (.iaload, 1) := by decide +kernel
theorem dX8_take_53 : decode cX8_take 53 = .ok (.ireturn, 1) := by decide +kernel
theorem dX8_take_54 : decode cX8_take 54 = .ok (.aload_n 0, 1) := by decide +kernel
theorem dX8_take_55 : decode cX8_take 55 = .ok (.getfield 19, 3) := by decide +kernel
theorem dX8_take_58 : decode cX8_take 58 = .ok (.getfield 138, 3) := by decide +kernel
theorem dX8_take_61 : decode cX8_take 61 = .ok (.iload_n 1, 1) := by decide +kernel
theorem dX8_take_62 : decode cX8_take 62 = .ok (.iaload, 1) := by decide +kernel
theorem dX8_take_63 : decode cX8_take 63 = .ok (.ireturn, 1) := by decide +kernel
theorem dX8_take_64 : decode cX8_take 64 = .ok (.aload_n 0, 1) := by decide +kernel
theorem dX8_take_65 : decode cX8_take 65 = .ok (.getfield 19, 3) := by decide +kernel
theorem dX8_take_68 : decode cX8_take 68 = .ok (.getfield 169, 3) := by decide +kernel
theorem dX8_take_71 : decode cX8_take 71 = .ok (.iload_n 1, 1) := by decide +kernel
theorem dX8_take_72 : decode cX8_take 72 = .ok (.iaload, 1) := by decide +kernel
theorem dX8_take_73 : decode cX8_take 73 = .ok (.ireturn, 1) := by decide +kernel
theorem dX8_take_74 : decode cX8_take 74 = .ok (.aload_n 0, 1) := by decide +kernel
theorem dX8_take_75 : decode cX8_take 75 = .ok (.getfield 19, 3) := by decide +kernel
theorem dX8_take_78 : decode cX8_take 78 = .ok (.iload_n 1, 1) := by decide +kernel
theorem dX8_take_79 : decode cX8_take 79 = .ok (.invokevirtual 222, 3) := by decide +kernel
theorem dX8_take_82 : decode cX8_take 82 = .ok (.ireturn, 1) := by decide +kernel
theorem dX8_take_83 : decode cX8_take 83 = .ok (.ldc 65, 2) := by decide +kernel
theorem dX8_take_85 : decode cX8_take 85 = .ok (.ireturn, 1) := by decide +kernel
theorem dX8_roll_0 : decode cX8_roll 0 = .ok (.iload_n 1, 1) := by decide +kernel
theorem dX8_roll_1 : decode cX8_roll 1 = .ok (.ifCond .lt 14, 3) := by decide +kernel
theorem dX8_roll_4 : decode cX8_roll 4 = .ok (.iload_n 1, 1) := by decide +kernel
theorem dX8_roll_5 : decode cX8_roll 5 = .ok (.aload_n 0, 1) := by decide +kernel
theorem dX8_roll_6 : decode cX8_roll 6 = .ok (.getfield 19, 3) := by decide +kernel
theorem dX8_roll_9 : decode cX8_roll 9 = .ok (.getfield 156, 3) := by decide +kernel
theorem dX8_roll_12 : decode cX8_roll 12 = .ok (.if_icmp .lt 6, 3) := by decide +kernel
theorem dX8_roll_15 : decode cX8_roll 15 = .ok (.ldc 65, 2) := by decide +kernel
theorem dX8_roll_17 : decode cX8_roll 17 = .ok (.ireturn, 1) := by decide +kernel
theorem dX8_roll_18 : decode cX8_roll 18 = .ok (.iload_n 2, 1) := by decide +kernel
theorem dX8_roll_19 : decode cX8_roll 19 = .ok (.tableswitch 55 0 2 #[25, 35, 45], 25) := by decide +kernel
theorem dX8_roll_44 : decode cX8_roll 44 = .ok (.aload_n 0, 1) := by decide +kernel
theorem dX8_roll_45 : decode cX8_roll 45 = .ok (.getfield 19, 3) := by decide +kernel
theorem dX8_roll_48 : decode cX8_roll 48 = .ok (.getfield 225, 3) := by decide +kernel
theorem dX8_roll_51 : decode cX8_roll 51 = .ok (.iload_n 1, 1) := by decide +kernel
theorem dX8_roll_52 : decode cX8_roll 52 = .ok (.iaload, 1) := by decide +kernel
theorem dX8_roll_53 : decode cX8_roll 53 = .ok (.ireturn, 1) := by decide +kernel
theorem dX8_roll_54 : decode cX8_roll 54 = .ok (.aload_n 0, 1) := by decide +kernel
theorem dX8_roll_55 : decode cX8_roll 55 = .ok (.getfield 19, 3) := by decide +kernel
theorem dX8_roll_58 : decode cX8_roll 58 = .ok (.getfield 228, 3) := by decide +kernel
theorem dX8_roll_61 : decode cX8_roll 61 = .ok (.iload_n 1, 1) := by decide +kernel
theorem dX8_roll_62 : decode cX8_roll 62 = .ok (.iaload, 1) := by decide +kernel
theorem dX8_roll_63 : decode cX8_roll 63 = .ok (.ireturn, 1) := by decide +kernel
theorem dX8_roll_64 : decode cX8_roll 64 = .ok (.aload_n 0, 1) := by decide +kernel
theorem dX8_roll_65 : decode cX8_roll 65 = .ok (.getfield 19, 3) := by decide +kernel
theorem dX8_roll_68 : decode cX8_roll 68 = .ok (.getfield 231, 3) := by decide +kernel
theorem dX8_roll_71 : decode cX8_roll 71 = .ok (.iload_n 1, 1) := by decide +kernel
theorem dX8_roll_72 : decode cX8_roll 72 = .ok (.iaload, 1) := by decide +kernel
theorem dX8_roll_73 : decode cX8_roll 73 = .ok (.ireturn, 1) := by decide +kernel
theorem dX8_roll_74 : decode cX8_roll 74 = .ok (.ldc 65, 2) := by decide +kernel
theorem dX8_roll_76 : decode cX8_roll 76 = .ok (.ireturn, 1) := by decide +kernel
theorem dX8_sums_0 : decode cX8_sums 0 = .ok (.iload_n 1, 1) := by decide +kernel
theorem dX8_sums_1 : decode cX8_sums 1 = .ok (.tableswitch 140 0 7 #[47, 55, 63, 100, 108, 116, 124, 132], 47) := by decide +kernel
theorem dX8_sums_48 : decode cX8_sums 48 = .ok (.aload_n 0, 1) := by decide +kernel
theorem dX8_sums_49 : decode cX8_sums 49 = .ok (.getfield 19, 3) := by decide +kernel
theorem dX8_sums_52 : decode cX8_sums 52 = .ok (.getfield 234, 3) := by decide +kernel
theorem dX8_sums_55 : decode cX8_sums 55 = .ok (.ireturn, 1) := by decide +kernel
theorem dX8_sums_56 : decode cX8_sums 56 = .ok (.aload_n 0, 1) := by decide +kernel
theorem dX8_sums_57 : decode cX8_sums 57 = .ok (.getfield 19, 3) := by decide +kernel
theorem dX8_sums_60 : decode cX8_sums 60 = .ok (.invokevirtual 237, 3) := by decide +kernel
theorem dX8_sums_63 : decode cX8_sums 63 = .ok (.ireturn, 1) := by decide +kernel
theorem dX8_sums_64 : decode cX8_sums 64 = .ok (.aload_n 0, 1) := by decide +kernel
theorem dX8_sums_65 : decode cX8_sums 65 = .ok (.getfield 19, 3) := by decide +kernel
theorem dX8_sums_68 : decode cX8_sums 68 = .ok (.aload_n 0, 1) := by decide +kernel
theorem dX8_sums_69 : decode cX8_sums 69 = .ok (.getfield 19, 3) := by decide +kernel
theorem dX8_sums_72 : decode cX8_sums 72 = .ok (.getfield 106, 3) := by decide +kernel
theorem dX8_sums_75 : decode cX8_sums 75 = .ok (.invokevirtual 103, 3) := by decide +kernel
theorem dX8_sums_78 : decode cX8_sums 78 = .ok (.ifCond .eq 21, 3) := by decide +kernel
theorem dX8_sums_81 : decode cX8_sums 81 = .ok (.aload_n 0, 1) := by decide +kernel
theorem dX8_sums_82 : decode cX8_sums 82 = .ok (.getfield 19, 3) := by decide +kernel
theorem dX8_sums_85 : decode cX8_sums 85 = .ok (.getfield 114, 3) := by decide +kernel
theorem dX8_sums_88 : decode cX8_sums 88 = .ok (.aload_n 0, 1) := by decide +kernel
theorem dX8_sums_89 : decode cX8_sums 89 = .ok (.getfield 19, 3) := by decide +kernel
theorem dX8_sums_92 : decode cX8_sums 92 = .ok (.getfield 106, 3) := by decide +kernel
theorem dX8_sums_95 : decode cX8_sums 95 = .ok (.iaload, 1) := by decide +kernel
theorem dX8_sums_96 : decode cX8_sums 96 = .ok (.goto 4, 3) := by decide +kernel
theorem dX8_sums_99 : decode cX8_sums 99 = .ok (.iconst 0, 1) := by decide +kernel
theorem dX8_sums_100 : decode cX8_sums 100 = .ok (.ireturn, 1) := by decide +kernel
theorem dX8_sums_101 : decode cX8_sums 101 = .ok (.aload_n 0, 1) := by decide +kernel
theorem dX8_sums_102 : decode cX8_sums 102 = .ok (.getfield 19, 3) := by decide +kernel
theorem dX8_sums_105 : decode cX8_sums 105 = .ok (.getfield 241, 3) := by decide +kernel
theorem dX8_sums_108 : decode cX8_sums 108 = .ok (.ireturn, 1) := by decide +kernel
theorem dX8_sums_109 : decode cX8_sums 109 = .ok (.aload_n 0, 1) := by decide +kernel
theorem dX8_sums_110 : decode cX8_sums 110 = .ok (.getfield 19, 3) := by decide +kernel
theorem dX8_sums_113 : decode cX8_sums 113 = .ok (.getfield 244, 3) := by decide +kernel
theorem dX8_sums_116 : decode cX8_sums 116 = .ok (.ireturn, 1) := by decide +kernel
theorem dX8_sums_117 : decode cX8_sums 117 = .ok (.aload_n 0, 1) := by decide +kernel
theorem dX8_sums_118 : decode cX8_sums 118 = .ok (.getfield 19, 3) := by decide +kernel
theorem dX8_sums_121 : decode cX8_sums 121 = .ok (.invokevirtual 247, 3) := by decide +kernel
theorem dX8_sums_124 : decode cX8_sums 124 = .ok (.ireturn, 1) := by decide +kernel
theorem dX8_sums_125 : decode cX8_sums 125 = .ok (.aload_n 0, 1) := by decide +kernel
theorem dX8_sums_126 : decode cX8_sums 126 = .ok (.getfield 19, 3) := by decide +kernel
theorem dX8_sums_129 : decode cX8_sums 129 = .ok (.getfield 250, 3) := by decide +kernel
theorem dX8_sums_132 : decode cX8_sums 132 = .ok (.ireturn, 1) := by decide +kernel
theorem dX8_sums_133 : decode cX8_sums 133 = .ok (.aload_n 0, 1) := by decide +kernel
theorem dX8_sums_134 : decode cX8_sums 134 = .ok (.getfield 19, 3) := by decide +kernel
theorem dX8_sums_137 : decode cX8_sums 137 = .ok (.getfield 153, 3) := by decide +kernel
theorem dX8_sums_140 : decode cX8_sums 140 = .ok (.ireturn, 1) := by decide +kernel
theorem dX8_sums_141 : decode cX8_sums 141 = .ok (.ldc 65, 2) := by decide +kernel
theorem dX8_sums_143 : decode cX8_sums 143 = .ok (.ireturn, 1) := by decide +kernel
theorem dX8_batches_0 : decode cX8_batches 0 = .ok (.iload_n 1, 1) := by decide +kernel
theorem dX8_batches_1 : decode cX8_batches 1 = .ok (.lookupswitch 51 #[(0, 27), (1, 39)], 27) := by decide +kernel
theorem dX8_batches_28 : decode cX8_batches 28 = .ok (.aload_n 0, 1) := by decide +kernel
theorem dX8_batches_29 : decode cX8_batches 29 = .ok (.getfield 40, 3) := by decide +kernel
theorem dX8_batches_32 : decode cX8_batches 32 = .ok (.aload_n 0, 1) := by decide +kernel
theorem dX8_batches_33 : decode cX8_batches 33 = .ok (.getfield 19, 3) := by decide +kernel
theorem dX8_batches_36 : decode cX8_batches 36 = .ok (.invokevirtual 162, 3) := by decide +kernel
theorem dX8_batches_39 : decode cX8_batches 39 = .ok (.ireturn, 1) := by decide +kernel
theorem dX8_batches_40 : decode cX8_batches 40 = .ok (.aload_n 0, 1) := by decide +kernel
theorem dX8_batches_41 : decode cX8_batches 41 = .ok (.getfield 40, 3) := by decide +kernel
theorem dX8_batches_44 : decode cX8_batches 44 = .ok (.aload_n 0, 1) := by decide +kernel
theorem dX8_batches_45 : decode cX8_batches 45 = .ok (.getfield 19, 3) := by decide +kernel
theorem dX8_batches_48 : decode cX8_batches 48 = .ok (.invokevirtual 253, 3) := by decide +kernel
theorem dX8_batches_51 : decode cX8_batches 51 = .ok (.ireturn, 1) := by decide +kernel
theorem dX8_batches_52 : decode cX8_batches 52 = .ok (.ldc 65, 2) := by decide +kernel
theorem dX8_batches_54 : decode cX8_batches 54 = .ok (.ireturn, 1) := by decide +kernel
theorem dX8_as_0 : decode cX8_as 0 = .ok (.aload_n 0, 1) := by decide +kernel
theorem dX8_as_1 : decode cX8_as 1 = .ok (.getfield 19, 3) := by decide +kernel
theorem dX8_as_4 : decode cX8_as 4 = .ok (.iload_n 1, 1) := by decide +kernel
theorem dX8_as_5 : decode cX8_as 5 = .ok (.invokevirtual 103, 3) := by decide +kernel
theorem dX8_as_8 : decode cX8_as 8 = .ok (.ifCond .eq 10, 3) := by decide +kernel
theorem dX8_as_11 : decode cX8_as 11 = .ok (.iload_n 2, 1) := by decide +kernel
theorem dX8_as_12 : decode cX8_as 12 = .ok (.invokestatic 189, 3) := by decide +kernel
theorem dX8_as_15 : decode cX8_as 15 = .ok (.ifCond .ne 6, 3) := by decide +kernel
theorem dX8_as_18 : decode cX8_as 18 = .ok (.ldc 65, 2) := by decide +kernel
theorem dX8_as_20 : decode cX8_as 20 = .ok (.ireturn, 1) := by decide +kernel
theorem dX8_as_21 : decode cX8_as 21 = .ok (.aload_n 0, 1) := by decide +kernel
theorem dX8_as_22 : decode cX8_as 22 = .ok (.getfield 19, 3) := by decide +kernel
theorem dX8_as_25 : decode cX8_as 25 = .ok (.getfield 141, 3) := by decide +kernel
theorem dX8_as_28 : decode cX8_as 28 = .ok (.iload_n 1, 1) := by decide +kernel
theorem dX8_as_29 : decode cX8_as 29 = .ok (.iaload, 1) := by decide +kernel
theorem dX8_as_30 : decode cX8_as 30 = .ok (.iload_n 2, 1) := by decide +kernel
theorem dX8_as_31 : decode cX8_as 31 = .ok (.invokestatic 256, 3) := by decide +kernel
theorem dX8_as_34 : decode cX8_as 34 = .ok (.ifCond .eq 7, 3) := by decide +kernel
theorem dX8_as_37 : decode cX8_as 37 = .ok (.iload_n 1, 1) := by decide +kernel
theorem dX8_as_38 : decode cX8_as 38 = .ok (.goto 5, 3) := by decide +kernel
theorem dX8_as_41 : decode cX8_as 41 = .ok (.ldc 109, 2) := by decide +kernel
theorem dX8_as_43 : decode cX8_as 43 = .ok (.ireturn, 1) := by decide +kernel
theorem dX8_fits_0 : decode cX8_fits 0 = .ok (.aload_n 0, 1) := by decide +kernel
theorem dX8_fits_1 : decode cX8_fits 1 = .ok (.getfield 19, 3) := by decide +kernel
theorem dX8_fits_4 : decode cX8_fits 4 = .ok (.iload_n 1, 1) := by decide +kernel
theorem dX8_fits_5 : decode cX8_fits 5 = .ok (.invokevirtual 103, 3) := by decide +kernel
theorem dX8_fits_8 : decode cX8_fits 8 = .ok (.ifCond .eq 17, 3) := by decide +kernel
theorem dX8_fits_11 : decode cX8_fits 11 = .ok (.iload_n 2, 1) := by decide +kernel
theorem dX8_fits_12 : decode cX8_fits 12 = .ok (.aload_n 0, 1) := by decide +kernel
theorem dX8_fits_13 : decode cX8_fits 13 = .ok (.getfield 19, 3) := by decide +kernel
theorem dX8_fits_16 : decode cX8_fits 16 = .ok (.invokevirtual 259, 3) := by decide +kernel
theorem dX8_fits_19 : decode cX8_fits 19 = .ok (.iconst (-1), 1) := by decide +kernel
theorem dX8_fits_20 : decode cX8_fits 20 = .ok (.ixor, 1) := by decide +kernel
theorem dX8_fits_21 : decode cX8_fits 21 = .ok (.iand, 1) := by decide +kernel
theorem dX8_fits_22 : decode cX8_fits 22 = .ok (.ifCond .eq 6, 3) := by decide +kernel
theorem dX8_fits_25 : decode cX8_fits 25 = .ok (.ldc 65, 2) := by decide +kernel
theorem dX8_fits_27 : decode cX8_fits 27 = .ok (.ireturn, 1) := by decide +kernel
theorem dX8_fits_28 : decode cX8_fits 28 = .ok (.aload_n 0, 1) := by decide +kernel
theorem dX8_fits_29 : decode cX8_fits 29 = .ok (.getfield 19, 3) := by decide +kernel
theorem dX8_fits_32 : decode cX8_fits 32 = .ok (.iload_n 1, 1) := by decide +kernel
theorem dX8_fits_33 : decode cX8_fits 33 = .ok (.invokevirtual 262, 3) := by decide +kernel
theorem dX8_fits_36 : decode cX8_fits 36 = .ok (.ifCond .ne 6, 3) := by decide +kernel
theorem dX8_fits_39 : decode cX8_fits 39 = .ok (.ldc 109, 2) := by decide +kernel
theorem dX8_fits_41 : decode cX8_fits 41 = .ok (.ireturn, 1) := by decide +kernel
theorem dX8_fits_42 : decode cX8_fits 42 = .ok (.iload_n 2, 1) := by decide +kernel
theorem dX8_fits_43 : decode cX8_fits 43 = .ok (.ifCond .ne 13, 3) := by decide +kernel
theorem dX8_fits_46 : decode cX8_fits 46 = .ok (.aload_n 0, 1) := by decide +kernel
theorem dX8_fits_47 : decode cX8_fits 47 = .ok (.getfield 19, 3) := by decide +kernel
theorem dX8_fits_50 : decode cX8_fits 50 = .ok (.getfield 114, 3) := by decide +kernel
theorem dX8_fits_53 : decode cX8_fits 53 = .ok (.iload_n 1, 1) := by decide +kernel
theorem dX8_fits_54 : decode cX8_fits 54 = .ok (.iaload, 1) := by decide +kernel
theorem dX8_fits_55 : decode cX8_fits 55 = .ok (.ireturn, 1) := by decide +kernel
theorem dX8_fits_56 : decode cX8_fits 56 = .ok (.aload_n 0, 1) := by decide +kernel
theorem dX8_fits_57 : decode cX8_fits 57 = .ok (.getfield 47, 3) := by decide +kernel
theorem dX8_fits_60 : decode cX8_fits 60 = .ok (.aload_n 0, 1) := by decide +kernel
theorem dX8_fits_61 : decode cX8_fits 61 = .ok (.getfield 19, 3) := by decide +kernel
theorem dX8_fits_64 : decode cX8_fits 64 = .ok (.invokevirtual 265, 3) := by decide +kernel
theorem dX8_fits_67 : decode cX8_fits 67 = .ok (.aload_n 0, 1) := by decide +kernel
theorem dX8_fits_68 : decode cX8_fits 68 = .ok (.getfield 47, 3) := by decide +kernel
theorem dX8_fits_71 : decode cX8_fits 71 = .ok (.iload_n 1, 1) := by decide +kernel
theorem dX8_fits_72 : decode cX8_fits 72 = .ok (.iload_n 2, 1) := by decide +kernel
theorem dX8_fits_73 : decode cX8_fits 73 = .ok (.invokevirtual 268, 3) := by decide +kernel
theorem dX8_fits_76 : decode cX8_fits 76 = .ok (.ifCond .eq 17, 3) := by decide +kernel
theorem dX8_fits_79 : decode cX8_fits 79 = .ok (.aload_n 0, 1) := by decide +kernel
theorem dX8_fits_80 : decode cX8_fits 80 = .ok (.getfield 47, 3) := by decide +kernel
theorem dX8_fits_83 : decode cX8_fits 83 = .ok (.getfield 271, 3) := by decide +kernel
theorem dX8_fits_86 : decode cX8_fits 86 = .ok (.iload_n 1, 1) := by decide +kernel
theorem dX8_fits_87 : decode cX8_fits 87 = .ok (.aaload, 1) := by decide +kernel
theorem dX8_fits_88 : decode cX8_fits 88 = .ok (.iload_n 2, 1) := by decide +kernel
theorem dX8_fits_89 : decode cX8_fits 89 = .ok (.iaload, 1) := by decide +kernel
theorem dX8_fits_90 : decode cX8_fits 90 = .ok (.goto 5, 3) := by decide +kernel
theorem dX8_fits_93 : decode cX8_fits 93 = .ok (.ldc 109, 2) := by decide +kernel
theorem dX8_fits_95 : decode cX8_fits 95 = .ok (.ireturn, 1) := by decide +kernel
theorem dX8_plan_0 : decode cX8_plan 0 = .ok (.aload_n 0, 1) := by decide +kernel
theorem dX8_plan_1 : decode cX8_plan 1 = .ok (.invokevirtual 175, 3) := by decide +kernel
theorem dX8_plan_4 : decode cX8_plan 4 = .ok (.ifCond .eq 6, 3) := by decide +kernel
theorem dX8_plan_7 : decode cX8_plan 7 = .ok (.ldc 102, 2) := by decide +kernel
theorem dX8_plan_9 : decode cX8_plan 9 = .ok (.ireturn, 1) := by decide +kernel
theorem dX8_plan_10 : decode cX8_plan 10 = .ok (.iload_n 1, 1) := by decide +kernel
theorem dX8_plan_11 : decode cX8_plan 11 = .ok (.invokestatic 275, 3) := by decide +kernel
theorem dX8_plan_14 : decode cX8_plan 14 = .ok (.ifCond .ne 6, 3) := by decide +kernel
theorem dX8_plan_17 : decode cX8_plan 17 = .ok (.ldc 65, 2) := by decide +kernel
theorem dX8_plan_19 : decode cX8_plan 19 = .ok (.ireturn, 1) := by decide +kernel
theorem dX8_plan_20 : decode cX8_plan 20 = .ok (.aload_n 0, 1) := by decide +kernel
theorem dX8_plan_21 : decode cX8_plan 21 = .ok (.aload_n 0, 1) := by decide +kernel
theorem dX8_plan_22 : decode cX8_plan 22 = .ok (.invokevirtual 278, 3) := by decide +kernel
theorem dX8_plan_25 : decode cX8_plan 25 = .ok (.iload_n 1, 1) := by decide +kernel
theorem dX8_plan_26 : decode cX8_plan 26 = .ok (.invokevirtual 281, 3) := by decide +kernel
theorem dX8_plan_29 : decode cX8_plan 29 = .ok (.ireturn, 1) := by decide +kernel
theorem dX8_planOf_0 : decode cX8_planOf 0 = .ok (.aload_n 0, 1) := by decide +kernel
theorem dX8_planOf_1 : decode cX8_planOf 1 = .ok (.getfield 19, 3) := by decide +kernel
theorem dX8_planOf_4 : decode cX8_planOf 4 = .ok (.iload_n 1, 1) := by decide +kernel
theorem dX8_planOf_5 : decode cX8_planOf 5 = .ok (.invokevirtual 103, 3) := by decide +kernel
theorem dX8_planOf_8 : decode cX8_planOf 8 = .ok (.ifCond .ne 6, 3) := by decide +kernel
theorem dX8_planOf_11 : decode cX8_planOf 11 = .ok (.ldc 65, 2) := by decide +kernel
theorem dX8_planOf_13 : decode cX8_planOf 13 = .ok (.ireturn, 1) := by decide +kernel
theorem dX8_planOf_14 : decode cX8_planOf 14 = .ok (.aload_n 0, 1) := by decide +kernel
theorem dX8_planOf_15 : decode cX8_planOf 15 = .ok (.invokevirtual 278, 3) := by decide +kernel
theorem dX8_planOf_18 : decode cX8_planOf 18 = .ok (.ifCond .eq 15, 3) := by decide +kernel
theorem dX8_planOf_21 : decode cX8_planOf 21 = .ok (.aload_n 0, 1) := by decide +kernel
theorem dX8_planOf_22 : decode cX8_planOf 22 = .ok (.getfield 47, 3) := by decide +kernel
theorem dX8_planOf_25 : decode cX8_planOf 25 = .ok (.getfield 285, 3) := by decide +kernel
theorem dX8_planOf_28 : decode cX8_planOf 28 = .ok (.iload_n 1, 1) := by decide +kernel
theorem dX8_planOf_29 : decode cX8_planOf 29 = .ok (.iaload, 1) := by decide +kernel
theorem dX8_planOf_30 : decode cX8_planOf 30 = .ok (.goto 5, 3) := by decide +kernel
theorem dX8_planOf_33 : decode cX8_planOf 33 = .ok (.ldc 109, 2) := by decide +kernel
theorem dX8_planOf_35 : decode cX8_planOf 35 = .ok (.ireturn, 1) := by decide +kernel
theorem dX8_rule_0 : decode cX8_rule 0 = .ok (.aload_n 0, 1) := by decide +kernel
theorem dX8_rule_1 : decode cX8_rule 1 = .ok (.invokevirtual 175, 3) := by decide +kernel
theorem dX8_rule_4 : decode cX8_rule 4 = .ok (.ifCond .eq 6, 3) := by decide +kernel
theorem dX8_rule_7 : decode cX8_rule 7 = .ok (.ldc 102, 2) := by decide +kernel
theorem dX8_rule_9 : decode cX8_rule 9 = .ok (.ireturn, 1) := by decide +kernel
theorem dX8_rule_10 : decode cX8_rule 10 = .ok (.iload_n 1, 1) := by decide +kernel
theorem dX8_rule_11 : decode cX8_rule 11 = .ok (.invokestatic 275, 3) := by decide +kernel
theorem dX8_rule_14 : decode cX8_rule 14 = .ok (.ifCond .eq 10, 3) := by decide +kernel
theorem dX8_rule_17 : decode cX8_rule 17 = .ok (.iload_n 2, 1) := by decide +kernel
theorem dX8_rule_18 : decode cX8_rule 18 = .ok (.invokestatic 275, 3) := by decide +kernel
theorem dX8_rule_21 : decode cX8_rule 21 = .ok (.ifCond .ne 6, 3) := by decide +kernel
theorem dX8_rule_24 : decode cX8_rule 24 = .ok (.ldc 65, 2) := by decide +kernel
theorem dX8_rule_26 : decode cX8_rule 26 = .ok (.ireturn, 1) := by decide +kernel
theorem dX8_rule_27 : decode cX8_rule 27 = .ok (.aload_n 0, 1) := by decide +kernel
theorem dX8_rule_28 : decode cX8_rule 28 = .ok (.aload_n 0, 1) := by decide +kernel
theorem dX8_rule_29 : decode cX8_rule 29 = .ok (.iload_n 1, 1) := by decide +kernel
theorem dX8_rule_30 : decode cX8_rule 30 = .ok (.invokevirtual 288, 3) := by decide +kernel
theorem dX8_rule_33 : decode cX8_rule 33 = .ok (.iload_n 2, 1) := by decide +kernel
theorem dX8_rule_34 : decode cX8_rule 34 = .ok (.invokevirtual 281, 3) := by decide +kernel
theorem dX8_rule_37 : decode cX8_rule 37 = .ok (.ireturn, 1) := by decide +kernel
theorem dX8_ruleOf_0 : decode cX8_ruleOf 0 = .ok (.iload_n 1, 1) := by decide +kernel
theorem dX8_ruleOf_1 : decode cX8_ruleOf 1 = .ok (.invokestatic 275, 3) := by decide +kernel
theorem dX8_ruleOf_4 : decode cX8_ruleOf 4 = .ok (.ifCond .eq 14, 3) := by decide +kernel
theorem dX8_ruleOf_7 : decode cX8_ruleOf 7 = .ok (.aload_n 0, 1) := by decide +kernel
theorem dX8_ruleOf_8 : decode cX8_ruleOf 8 = .ok (.getfield 19, 3) := by decide +kernel
theorem dX8_ruleOf_11 : decode cX8_ruleOf 11 = .ok (.iload_n 2, 1) := by decide +kernel
theorem dX8_ruleOf_12 : decode cX8_ruleOf 12 = .ok (.invokevirtual 103, 3) := by decide +kernel
theorem dX8_ruleOf_15 : decode cX8_ruleOf 15 = .ok (.ifCond .ne 6, 3) := by decide +kernel
theorem dX8_ruleOf_18 : decode cX8_ruleOf 18 = .ok (.ldc 65, 2) := by decide +kernel
theorem dX8_ruleOf_20 : decode cX8_ruleOf 20 = .ok (.ireturn, 1) := by decide +kernel
theorem dX8_ruleOf_21 : decode cX8_ruleOf 21 = .ok (.aload_n 0, 1) := by decide +kernel
theorem dX8_ruleOf_22 : decode cX8_ruleOf 22 = .ok (.iload_n 1, 1) := by decide +kernel
theorem dX8_ruleOf_23 : decode cX8_ruleOf 23 = .ok (.invokevirtual 288, 3) := by decide +kernel
theorem dX8_ruleOf_26 : decode cX8_ruleOf 26 = .ok (.ifCond .eq 15, 3) := by decide +kernel
theorem dX8_ruleOf_29 : decode cX8_ruleOf 29 = .ok (.aload_n 0, 1) := by decide +kernel
theorem dX8_ruleOf_30 : decode cX8_ruleOf 30 = .ok (.getfield 47, 3) := by decide +kernel
theorem dX8_ruleOf_33 : decode cX8_ruleOf 33 = .ok (.getfield 285, 3) := by decide +kernel
theorem dX8_ruleOf_36 : decode cX8_ruleOf 36 = .ok (.iload_n 2, 1) := by decide +kernel
theorem dX8_ruleOf_37 : decode cX8_ruleOf 37 = .ok (.iaload, 1) := by decide +kernel
theorem dX8_ruleOf_38 : decode cX8_ruleOf 38 = .ok (.goto 5, 3) := by decide +kernel
theorem dX8_ruleOf_41 : decode cX8_ruleOf 41 = .ok (.ldc 109, 2) := by decide +kernel
theorem dX8_ruleOf_43 : decode cX8_ruleOf 43 = .ok (.ireturn, 1) := by decide +kernel
theorem dX8_longer_0 : decode cX8_longer 0 = .ok (.aload_n 0, 1) := by decide +kernel
theorem dX8_longer_1 : decode cX8_longer 1 = .ok (.getfield 19, 3) := by decide +kernel
theorem dX8_longer_4 : decode cX8_longer 4 = .ok (.iload_n 1, 1) := by decide +kernel
theorem dX8_longer_5 : decode cX8_longer 5 = .ok (.invokevirtual 128, 3) := by decide +kernel
theorem dX8_longer_8 : decode cX8_longer 8 = .ok (.ifCond .ne 6, 3) := by decide +kernel
theorem dX8_longer_11 : decode cX8_longer 11 = .ok (.ldc 65, 2) := by decide +kernel
theorem dX8_longer_13 : decode cX8_longer 13 = .ok (.ireturn, 1) := by decide +kernel
theorem dX8_longer_14 : decode cX8_longer 14 = .ok (.aload_n 0, 1) := by decide +kernel
theorem dX8_longer_15 : decode cX8_longer 15 = .ok (.getfield 19, 3) := by decide +kernel
theorem dX8_longer_18 : decode cX8_longer 18 = .ok (.iload_n 1, 1) := by decide +kernel
theorem dX8_longer_19 : decode cX8_longer 19 = .ok (.invokevirtual 131, 3) := by decide +kernel
theorem dX8_longer_22 : decode cX8_longer 22 = .ok (.ifCond .ne 6, 3) := by decide +kernel
theorem dX8_longer_25 : decode cX8_longer 25 = .ok (.ldc 102, 2) := by decide +kernel
theorem dX8_longer_27 : decode cX8_longer 27 = .ok (.ireturn, 1) := by decide +kernel
theorem dX8_longer_28 : decode cX8_longer 28 = .ok (.aload_n 0, 1) := by decide +kernel
theorem dX8_longer_29 : decode cX8_longer 29 = .ok (.invokevirtual 291, 3) := by decide +kernel
theorem dX8_longer_32 : decode cX8_longer 32 = .ok (.aload_n 0, 1) := by decide +kernel
theorem dX8_longer_33 : decode cX8_longer 33 = .ok (.getfield 61, 3) := by decide +kernel
theorem dX8_longer_36 : decode cX8_longer 36 = .ok (.iload_n 1, 1) := by decide +kernel
theorem dX8_longer_37 : decode cX8_longer 37 = .ok (.aload_n 0, 1) := by decide +kernel
theorem dX8_longer_38 : decode cX8_longer 38 = .ok (.getfield 47, 3) := by decide +kernel
theorem dX8_longer_41 : decode cX8_longer 41 = .ok (.invokevirtual 294, 3) := by decide +kernel
theorem dX8_longer_44 : decode cX8_longer 44 = .ok (.istore_n 2, 1) := by decide +kernel
theorem dX8_longer_45 : decode cX8_longer 45 = .ok (.iload_n 2, 1) := by decide +kernel
theorem dX8_longer_46 : decode cX8_longer 46 = .ok (.iconst 1, 1) := by decide +kernel
theorem dX8_longer_47 : decode cX8_longer 47 = .ok (.if_icmp .ge 8, 3) := by decide +kernel
theorem dX8_longer_50 : decode cX8_longer 50 = .ok (.ldc 109, 2) := by decide +kernel
theorem dX8_longer_52 : decode cX8_longer 52 = .ok (.goto 9, 3) := by decide +kernel
theorem dX8_longer_55 : decode cX8_longer 55 = .ok (.iload_n 2, 1) := by decide +kernel
theorem dX8_longer_56 : decode cX8_longer 56 = .ok (.bipush 60, 2) := by decide +kernel
theorem dX8_longer_58 : decode cX8_longer 58 = .ok (.invokestatic 298, 3) := by decide +kernel
theorem dX8_longer_61 : decode cX8_longer 61 = .ok (.ireturn, 1) := by decide +kernel
theorem dX8_more_0 : decode cX8_more 0 = .ok (.aload_n 0, 1) := by decide +kernel
theorem dX8_more_1 : decode cX8_more 1 = .ok (.invokevirtual 175, 3) := by decide +kernel
theorem dX8_more_4 : decode cX8_more 4 = .ok (.ifCond .eq 6, 3) := by decide +kernel
theorem dX8_more_7 : decode cX8_more 7 = .ok (.ldc 102, 2) := by decide +kernel
theorem dX8_more_9 : decode cX8_more 9 = .ok (.ireturn, 1) := by decide +kernel
theorem dX8_more_10 : decode cX8_more 10 = .ok (.iload_n 1, 1) := by decide +kernel
theorem dX8_more_11 : decode cX8_more 11 = .ok (.invokestatic 179, 3) := by decide +kernel
theorem dX8_more_14 : decode cX8_more 14 = .ok (.ifCond .ne 6, 3) := by decide +kernel
theorem dX8_more_17 : decode cX8_more 17 = .ok (.ldc 65, 2) := by decide +kernel
theorem dX8_more_19 : decode cX8_more 19 = .ok (.ireturn, 1) := by decide +kernel
theorem dX8_more_20 : decode cX8_more 20 = .ok (.aload_n 0, 1) := by decide +kernel
theorem dX8_more_21 : decode cX8_more 21 = .ok (.invokevirtual 291, 3) := by decide +kernel
theorem dX8_more_24 : decode cX8_more 24 = .ok (.aload_n 0, 1) := by decide +kernel
theorem dX8_more_25 : decode cX8_more 25 = .ok (.getfield 61, 3) := by decide +kernel
theorem dX8_more_28 : decode cX8_more 28 = .ok (.aload_n 0, 1) := by decide +kernel
theorem dX8_more_29 : decode cX8_more 29 = .ok (.getfield 47, 3) := by decide +kernel
theorem dX8_more_32 : decode cX8_more 32 = .ok (.invokevirtual 303, 3) := by decide +kernel
theorem dX8_more_35 : decode cX8_more 35 = .ok (.ifCond .eq 5, 3) := by decide +kernel
theorem dX8_more_38 : decode cX8_more 38 = .ok (.iconst 0, 1) := by decide +kernel
theorem dX8_more_39 : decode cX8_more 39 = .ok (.ireturn, 1) := by decide +kernel
theorem dX8_more_40 : decode cX8_more 40 = .ok (.iload_n 1, 1) := by decide +kernel
theorem dX8_more_41 : decode cX8_more 41 = .ok (.aload_n 0, 1) := by decide +kernel
theorem dX8_more_42 : decode cX8_more 42 = .ok (.getfield 19, 3) := by decide +kernel
theorem dX8_more_45 : decode cX8_more 45 = .ok (.getfield 210, 3) := by decide +kernel
theorem dX8_more_48 : decode cX8_more 48 = .ok (.iconst 0, 1) := by decide +kernel
theorem dX8_more_49 : decode cX8_more 49 = .ok (.iaload, 1) := by decide +kernel
theorem dX8_more_50 : decode cX8_more 50 = .ok (.invokestatic 307, 3) := by decide +kernel
theorem dX8_more_53 : decode cX8_more 53 = .ok (.istore_n 2, 1) := by decide +kernel
theorem dX8_more_54 : decode cX8_more 54 = .ok (.aload_n 0, 1) := by decide +kernel
theorem dX8_more_55 : decode cX8_more 55 = .ok (.getfield 61, 3) := by decide +kernel
theorem dX8_more_58 : decode cX8_more 58 = .ok (.aload_n 0, 1) := by decide +kernel
theorem dX8_more_59 : decode cX8_more 59 = .ok (.getfield 47, 3) := by decide +kernel
theorem dX8_more_62 : decode cX8_more 62 = .ok (.aload_n 0, 1) := by decide +kernel
theorem dX8_more_63 : decode cX8_more 63 = .ok (.getfield 19, 3) := by decide +kernel
theorem dX8_more_66 : decode cX8_more 66 = .ok (.iload_n 1, 1) := by decide +kernel
theorem dX8_more_67 : decode cX8_more 67 = .ok (.invokevirtual 309, 3) := by decide +kernel
theorem dX8_more_70 : decode cX8_more 70 = .ok (.iload_n 2, 1) := by decide +kernel
theorem dX8_more_71 : decode cX8_more 71 = .ok (.iload_n 1, 1) := by decide +kernel
theorem dX8_more_72 : decode cX8_more 72 = .ok (.invokestatic 144, 3) := by decide +kernel
theorem dX8_more_75 : decode cX8_more 75 = .ok (.invokevirtual 312, 3) := by decide +kernel
theorem dX8_more_78 : decode cX8_more 78 = .ok (.istore_n 3, 1) := by decide +kernel
theorem dX8_more_79 : decode cX8_more 79 = .ok (.iload_n 3, 1) := by decide +kernel
theorem dX8_more_80 : decode cX8_more 80 = .ok (.bipush 99, 2) := by decide +kernel
theorem dX8_more_82 : decode cX8_more 82 = .ok (.if_icmp .le 8, 3) := by decide +kernel
theorem dX8_more_85 : decode cX8_more 85 = .ok (.ldc 109, 2) := by decide +kernel
theorem dX8_more_87 : decode cX8_more 87 = .ok (.goto 4, 3) := by decide +kernel
theorem dX8_more_90 : decode cX8_more 90 = .ok (.iload_n 3, 1) := by decide +kernel
theorem dX8_more_91 : decode cX8_more 91 = .ok (.ireturn, 1) := by decide +kernel
theorem dX8_needed_0 : decode cX8_needed 0 = .ok (.aload_n 0, 1) := by decide +kernel
theorem dX8_needed_1 : decode cX8_needed 1 = .ok (.invokevirtual 175, 3) := by decide +kernel
theorem dX8_needed_4 : decode cX8_needed 4 = .ok (.ifCond .eq 6, 3) := by decide +kernel
theorem dX8_needed_7 : decode cX8_needed 7 = .ok (.ldc 102, 2) := by decide +kernel
theorem dX8_needed_9 : decode cX8_needed 9 = .ok (.ireturn, 1) := by decide +kernel
theorem dX8_needed_10 : decode cX8_needed 10 = .ok (.aload_n 0, 1) := by decide +kernel
theorem dX8_needed_11 : decode cX8_needed 11 = .ok (.invokevirtual 291, 3) := by decide +kernel
theorem dX8_needed_14 : decode cX8_needed 14 = .ok (.aload_n 0, 1) := by decide +kernel
theorem dX8_needed_15 : decode cX8_needed 15 = .ok (.getfield 61, 3) := by decide +kernel
theorem dX8_needed_18 : decode cX8_needed 18 = .ok (.aload_n 0, 1) := by decide +kernel
theorem dX8_needed_19 : decode cX8_needed 19 = .ok (.getfield 47, 3) := by decide +kernel
theorem dX8_needed_22 : decode cX8_needed 22 = .ok (.invokevirtual 303, 3) := by decide +kernel
theorem dX8_needed_25 : decode cX8_needed 25 = .ok (.ifCond .eq 17, 3) := by decide +kernel
theorem dX8_needed_28 : decode cX8_needed 28 = .ok (.aload_n 0, 1) := by decide +kernel
theorem dX8_needed_29 : decode cX8_needed 29 = .ok (.getfield 61, 3) := by decide +kernel
theorem dX8_needed_32 : decode cX8_needed 32 = .ok (.aload_n 0, 1) := by decide +kernel
theorem dX8_needed_33 : decode cX8_needed 33 = .ok (.getfield 47, 3) := by decide +kernel
theorem dX8_needed_36 : decode cX8_needed 36 = .ok (.invokevirtual 316, 3) := by decide +kernel
theorem dX8_needed_39 : decode cX8_needed 39 = .ok (.goto 5, 3) := by decide +kernel
theorem dX8_needed_42 : decode cX8_needed 42 = .ok (.ldc 109, 2) := by decide +kernel
theorem dX8_needed_44 : decode cX8_needed 44 = .ok (.ireturn, 1) := by decide +kernel
theorem dX8_fogged_0 : decode cX8_fogged 0 = .ok (.aload_n 0, 1) := by decide +kernel
theorem dX8_fogged_1 : decode cX8_fogged 1 = .ok (.invokevirtual 175, 3) := by decide +kernel
theorem dX8_fogged_4 : decode cX8_fogged 4 = .ok (.ifCond .eq 7, 3) := by decide +kernel
theorem dX8_fogged_7 : decode cX8_fogged 7 = .ok (.ldc2_w 320, 3) := by decide +kernel
theorem dX8_fogged_10 : decode cX8_fogged 10 = .ok (.lreturn, 1) := by decide +kernel
theorem dX8_fogged_11 : decode cX8_fogged 11 = .ok (.iload_n 1, 1) := by decide +kernel
theorem dX8_fogged_12 : decode cX8_fogged 12 = .ok (.ifCond .lt 16, 3) := by decide +kernel
theorem dX8_fogged_15 : decode cX8_fogged 15 = .ok (.iload_n 1, 1) := by decide +kernel
theorem dX8_fogged_16 : decode cX8_fogged 16 = .ok (.bipush 10, 2) := by decide +kernel
theorem dX8_fogged_18 : decode cX8_fogged 18 = .ok (.if_icmp .gt 10, 3) := by decide +kernel
theorem dX8_fogged_21 : decode cX8_fogged 21 = .ok (.iload_n 2, 1) := by decide +kernel
theorem dX8_fogged_22 : decode cX8_fogged 22 = .ok (.invokestatic 275, 3) := by decide +kernel
theorem dX8_fogged_25 : decode cX8_fogged 25 = .ok (.ifCond .ne 7, 3) := by decide +kernel
theorem dX8_fogged_28 : decode cX8_fogged 28 = .ok (.ldc2_w 322, 3) := by decide +kernel
theorem dX8_fogged_31 : decode cX8_fogged 31 = .ok (.lreturn, 1) := by decide +kernel
theorem dX8_fogged_32 : decode cX8_fogged 32 = .ok (.aload_n 0, 1) := by decide +kernel
theorem dX8_fogged_33 : decode cX8_fogged 33 = .ok (.invokevirtual 291, 3) := by decide +kernel
theorem dX8_fogged_36 : decode cX8_fogged 36 = .ok (.aload_n 0, 1) := by decide +kernel
theorem dX8_fogged_37 : decode cX8_fogged 37 = .ok (.getfield 61, 3) := by decide +kernel
theorem dX8_fogged_40 : decode cX8_fogged 40 = .ok (.aload_n 0, 1) := by decide +kernel
theorem dX8_fogged_41 : decode cX8_fogged 41 = .ok (.getfield 47, 3) := by decide +kernel
theorem dX8_fogged_44 : decode cX8_fogged 44 = .ok (.iload_n 1, 1) := by decide +kernel
theorem dX8_fogged_45 : decode cX8_fogged 45 = .ok (.invokevirtual 324, 3) := by decide +kernel
theorem dX8_fogged_48 : decode cX8_fogged 48 = .ok (.lstore_n 3, 1) := by decide +kernel
theorem dX8_fogged_49 : decode cX8_fogged 49 = .ok (.bipush 10, 2) := by decide +kernel
theorem dX8_fogged_51 : decode cX8_fogged 51 = .ok (.aload_n 0, 1) := by decide +kernel
theorem dX8_fogged_52 : decode cX8_fogged 52 = .ok (.getfield 47, 3) := by decide +kernel
theorem dX8_fogged_55 : decode cX8_fogged 55 = .ok (.getfield 328, 3) := by decide +kernel
theorem dX8_fogged_58 : decode cX8_fogged 58 = .ok (.invokestatic 331, 3) := by decide +kernel
theorem dX8_fogged_61 : decode cX8_fogged 61 = .ok (.invokestatic 336, 3) := by decide +kernel
theorem dX8_fogged_64 : decode cX8_fogged 64 = .ok (.lstore 5, 2) := by decide +kernel
theorem dX8_fogged_66 : decode cX8_fogged 66 = .ok (.lload_n 3, 1) := by decide +kernel
theorem dX8_fogged_67 : decode cX8_fogged 67 = .ok (.lload 5, 2) := by decide +kernel
theorem dX8_fogged_69 : decode cX8_fogged 69 = .ok (.invokestatic 340, 3) := by decide +kernel
theorem dX8_fogged_72 : decode cX8_fogged 72 = .ok (.lstore 7, 2) := by decide +kernel
theorem dX8_fogged_74 : decode cX8_fogged 74 = .ok (.lload 7, 2) := by decide +kernel
theorem dX8_fogged_76 : decode cX8_fogged 76 = .ok (.lconst 1, 1) := by decide +kernel
theorem dX8_fogged_77 : decode cX8_fogged 77 = .ok (.lcmp, 1) := by decide +kernel
theorem dX8_fogged_78 : decode cX8_fogged 78 = .ok (.ifCond .ge 7, 3) := by decide +kernel
theorem dX8_fogged_81 : decode cX8_fogged 81 = .ok (.ldc2_w 322, 3) := by decide +kernel
theorem dX8_fogged_84 : decode cX8_fogged 84 = .ok (.lreturn, 1) := by decide +kernel
theorem dX8_fogged_85 : decode cX8_fogged 85 = .ok (.iload_n 2, 1) := by decide +kernel
theorem dX8_fogged_86 : decode cX8_fogged 86 = .ok (.ifCond .ne 10, 3) := by decide +kernel
theorem dX8_fogged_89 : decode cX8_fogged 89 = .ok (.lload_n 3, 1) := by decide +kernel
theorem dX8_fogged_90 : decode cX8_fogged 90 = .ok (.lload 7, 2) := by decide +kernel
theorem dX8_fogged_92 : decode cX8_fogged 92 = .ok (.ldiv, 1) := by decide +kernel
theorem dX8_fogged_93 : decode cX8_fogged 93 = .ok (.goto 8, 3) := by decide +kernel
theorem dX8_fogged_96 : decode cX8_fogged 96 = .ok (.lload 5, 2) := by decide +kernel
theorem dX8_fogged_98 : decode cX8_fogged 98 = .ok (.lload 7, 2) := by decide +kernel
theorem dX8_fogged_100 : decode cX8_fogged 100 = .ok (.ldiv, 1) := by decide +kernel
theorem dX8_fogged_101 : decode cX8_fogged 101 = .ok (.lreturn, 1) := by decide +kernel
theorem dX8_drawn_0 : decode cX8_drawn 0 = .ok (.aload_n 0, 1) := by decide +kernel
theorem dX8_drawn_1 : decode cX8_drawn 1 = .ok (.invokevirtual 175, 3) := by decide +kernel
theorem dX8_drawn_4 : decode cX8_drawn 4 = .ok (.ifCond .eq 6, 3) := by decide +kernel
theorem dX8_drawn_7 : decode cX8_drawn 7 = .ok (.ldc 102, 2) := by decide +kernel
theorem dX8_drawn_9 : decode cX8_drawn 9 = .ok (.ireturn, 1) := by decide +kernel
theorem dX8_drawn_10 : decode cX8_drawn 10 = .ok (.iload_n 1, 1) := by decide +kernel
theorem dX8_drawn_11 : decode cX8_drawn 11 = .ok (.ifCond .lt 28, 3) := by decide +kernel
theorem dX8_drawn_14 : decode cX8_drawn 14 = .ok (.iload_n 1, 1) := by decide +kernel
theorem dX8_drawn_15 : decode cX8_drawn 15 = .ok (.bipush 20, 2) := by decide +kernel
theorem dX8_drawn_17 : decode cX8_drawn 17 = .ok (.if_icmp .gt 22, 3) := by decide +kernel
theorem dX8_drawn_20 : decode cX8_drawn 20 = .ok (.iload_n 2, 1) := by decide +kernel
theorem dX8_drawn_21 : decode cX8_drawn 21 = .ok (.iconst 1, 1) := by decide +kernel
theorem dX8_drawn_22 : decode cX8_drawn 22 = .ok (.if_icmp .lt 17, 3) := by decide +kernel
theorem dX8_drawn_25 : decode cX8_drawn 25 = .ok (.iload_n 2, 1) := by decide +kernel
theorem dX8_drawn_26 : decode cX8_drawn 26 = .ok (.ldc_w 344, 3) := by decide +kernel
theorem dX8_drawn_29 : decode cX8_drawn 29 = .ok (.if_icmp .gt 10, 3) := by decide +kernel
theorem dX8_drawn_32 : decode cX8_drawn 32 = .ok (.iload_n 3, 1) := by decide +kernel
theorem dX8_drawn_33 : decode cX8_drawn 33 = .ok (.invokestatic 275, 3) := by decide +kernel
theorem dX8_drawn_36 : decode cX8_drawn 36 = .ok (.ifCond .ne 6, 3) := by decide +kernel
theorem dX8_drawn_39 : decode cX8_drawn 39 = .ok (.ldc 65, 2) := by decide +kernel
theorem dX8_drawn_41 : decode cX8_drawn 41 = .ok (.ireturn, 1) := by decide +kernel
theorem dX8_drawn_42 : decode cX8_drawn 42 = .ok (.aload_n 0, 1) := by decide +kernel
theorem dX8_drawn_43 : decode cX8_drawn 43 = .ok (.getfield 47, 3) := by decide +kernel
theorem dX8_drawn_46 : decode cX8_drawn 46 = .ok (.aload_n 0, 1) := by decide +kernel
theorem dX8_drawn_47 : decode cX8_drawn 47 = .ok (.getfield 19, 3) := by decide +kernel
theorem dX8_drawn_50 : decode cX8_drawn 50 = .ok (.invokevirtual 265, 3) := by decide +kernel
theorem dX8_drawn_53 : decode cX8_drawn 53 = .ok (.iload_n 2, 1) := by decide +kernel
theorem dX8_drawn_54 : decode cX8_drawn 54 = .ok (.i2l, 1) := by decide +kernel
theorem dX8_drawn_55 : decode cX8_drawn 55 = .ok (.lstore 4, 2) := by decide +kernel
theorem dX8_drawn_57 : decode cX8_drawn 57 = .ok (.iconst 0, 1) := by decide +kernel
theorem dX8_drawn_58 : decode cX8_drawn 58 = .ok (.istore 6, 2) := by decide +kernel
theorem dX8_drawn_60 : decode cX8_drawn 60 = .ok (.iconst 0, 1) := by decide +kernel
theorem dX8_drawn_61 : decode cX8_drawn 61 = .ok (.istore 7, 2) := by decide +kernel
theorem dX8_drawn_63 : decode cX8_drawn 63 = .ok (.iconst 0, 1) := by decide +kernel
theorem dX8_drawn_64 : decode cX8_drawn 64 = .ok (.istore 8, 2) := by decide +kernel
theorem dX8_drawn_66 : decode cX8_drawn 66 = .ok (.iload 8, 2) := by decide +kernel
theorem dX8_drawn_68 : decode cX8_drawn 68 = .ok (.iload_n 1, 1) := by decide +kernel
theorem dX8_drawn_69 : decode cX8_drawn 69 = .ok (.if_icmp .ge 62, 3) := by decide +kernel
theorem dX8_drawn_72 : decode cX8_drawn 72 = .ok (.lload 4, 2) := by decide +kernel
theorem dX8_drawn_74 : decode cX8_drawn 74 = .ok (.ldc2_w 345, 3) := by decide +kernel
theorem dX8_drawn_77 : decode cX8_drawn 77 = .ok (.lmul, 1) := by decide +kernel
theorem dX8_drawn_78 : decode cX8_drawn 78 = .ok (.ldc2_w 347, 3) := by decide +kernel
theorem dX8_drawn_81 : decode cX8_drawn 81 = .ok (.lrem, 1) := by decide +kernel
theorem dX8_drawn_82 : decode cX8_drawn 82 = .ok (.lstore 4, 2) := by decide +kernel
theorem dX8_drawn_84 : decode cX8_drawn 84 = .ok (.aload_n 0, 1) := by decide +kernel
theorem dX8_drawn_85 : decode cX8_drawn 85 = .ok (.getfield 47, 3) := by decide +kernel
theorem dX8_drawn_88 : decode cX8_drawn 88 = .ok (.lload 4, 2) := by decide +kernel
theorem dX8_drawn_90 : decode cX8_drawn 90 = .ok (.invokevirtual 349, 3) := by decide +kernel
theorem dX8_drawn_93 : decode cX8_drawn 93 = .ok (.aload_n 0, 1) := by decide +kernel
theorem dX8_drawn_94 : decode cX8_drawn 94 = .ok (.getfield 54, 3) := by decide +kernel
theorem dX8_drawn_97 : decode cX8_drawn 97 = .ok (.aload_n 0, 1) := by decide +kernel
theorem dX8_drawn_98 : decode cX8_drawn 98 = .ok (.getfield 47, 3) := by decide +kernel
theorem dX8_drawn_101 : decode cX8_drawn 101 = .ok (.invokevirtual 353, 3) := by decide +kernel
theorem dX8_drawn_104 : decode cX8_drawn 104 = .ok (.ifCond .eq 18, 3) := by decide +kernel
theorem dX8_drawn_107 : decode cX8_drawn 107 = .ok (.iload 6, 2) := by decide +kernel
theorem dX8_drawn_109 : decode cX8_drawn 109 = .ok (.aload_n 0, 1) := by decide +kernel
theorem dX8_drawn_110 : decode cX8_drawn 110 = .ok (.getfield 47, 3) := by decide +kernel
theorem dX8_drawn_113 : decode cX8_drawn 113 = .ok (.invokevirtual 355, 3) := by decide +kernel
theorem dX8_drawn_116 : decode cX8_drawn 116 = .ok (.iadd, 1) := by decide +kernel
theorem dX8_drawn_117 : decode cX8_drawn 117 = .ok (.istore 6, 2) := by decide +kernel
theorem dX8_drawn_119 : decode cX8_drawn 119 = .ok (.goto 6, 3) := by decide +kernel
theorem dX8_drawn_122 : decode cX8_drawn 122 = .ok (.iinc 7 1, 3) := by decide +kernel
theorem dX8_drawn_125 : decode cX8_drawn 125 = .ok (.iinc 8 1, 3) := by decide +kernel
theorem dX8_drawn_128 : decode cX8_drawn 128 = .ok (.goto (-62), 3) := by decide +kernel
theorem dX8_drawn_131 : decode cX8_drawn 131 = .ok (.iload_n 3, 1) := by decide +kernel
theorem dX8_drawn_132 : decode cX8_drawn 132 = .ok (.ifCond .ne 8, 3) := by decide +kernel
theorem dX8_drawn_135 : decode cX8_drawn 135 = .ok (.iload 6, 2) := by decide +kernel
theorem dX8_drawn_137 : decode cX8_drawn 137 = .ok (.goto 5, 3) := by decide +kernel
theorem dX8_drawn_140 : decode cX8_drawn 140 = .ok (.iload 7, 2) := by decide +kernel
theorem dX8_drawn_142 : decode cX8_drawn 142 = .ok (.ireturn, 1) := by decide +kernel
theorem dX8_image_0 : decode cX8_image 0 = .ok (.iload_n 1, 1) := by decide +kernel
theorem dX8_image_1 : decode cX8_image 1 = .ok (.ifCond .lt 8, 3) := by decide +kernel
theorem dX8_image_4 : decode cX8_image 4 = .ok (.iload_n 1, 1) := by decide +kernel
theorem dX8_image_5 : decode cX8_image 5 = .ok (.iconst 2, 1) := by decide +kernel
theorem dX8_image_6 : decode cX8_image 6 = .ok (.if_icmp .lt 6, 3) := by decide +kernel
theorem dX8_image_9 : decode cX8_image 9 = .ok (.ldc 65, 2) := by decide +kernel
theorem dX8_image_11 : decode cX8_image 11 = .ok (.ireturn, 1) := by decide +kernel
theorem dX8_image_12 : decode cX8_image 12 = .ok (.aload_n 0, 1) := by decide +kernel
theorem dX8_image_13 : decode cX8_image 13 = .ok (.invokevirtual 175, 3) := by decide +kernel
theorem dX8_image_16 : decode cX8_image 16 = .ok (.ifCond .eq 6, 3) := by decide +kernel
theorem dX8_image_19 : decode cX8_image 19 = .ok (.ldc 102, 2) := by decide +kernel
theorem dX8_image_21 : decode cX8_image 21 = .ok (.ireturn, 1) := by decide +kernel
theorem dX8_image_22 : decode cX8_image 22 = .ok (.aload_n 0, 1) := by decide +kernel
theorem dX8_image_23 : decode cX8_image 23 = .ok (.getfield 33, 3) := by decide +kernel
theorem dX8_image_26 : decode cX8_image 26 = .ok (.iload_n 1, 1) := by decide +kernel
theorem dX8_image_27 : decode cX8_image 27 = .ok (.aaload, 1) := by decide +kernel
theorem dX8_image_28 : decode cX8_image 28 = .ok (.aload_n 0, 1) := by decide +kernel
theorem dX8_image_29 : decode cX8_image 29 = .ok (.getfield 19, 3) := by decide +kernel
theorem dX8_image_32 : decode cX8_image 32 = .ok (.invokevirtual 83, 3) := by decide +kernel
theorem dX8_image_35 : decode cX8_image 35 = .ok (.iconst 1, 1) := by decide +kernel
theorem dX8_image_36 : decode cX8_image 36 = .ok (.ireturn, 1) := by decide +kernel
theorem dX8_restore_0 : decode cX8_restore 0 = .ok (.iload_n 1, 1) := by decide +kernel
theorem dX8_restore_1 : decode cX8_restore 1 = .ok (.ifCond .lt 8, 3) := by decide +kernel
theorem dX8_restore_4 : decode cX8_restore 4 = .ok (.iload_n 1, 1) := by decide +kernel
theorem dX8_restore_5 : decode cX8_restore 5 = .ok (.iconst 2, 1) := by decide +kernel
theorem dX8_restore_6 : decode cX8_restore 6 = .ok (.if_icmp .lt 6, 3) := by decide +kernel
theorem dX8_restore_9 : decode cX8_restore 9 = .ok (.ldc 65, 2) := by decide +kernel
theorem dX8_restore_11 : decode cX8_restore 11 = .ok (.ireturn, 1) := by decide +kernel
theorem dX8_restore_12 : decode cX8_restore 12 = .ok (.aload_n 0, 1) := by decide +kernel
theorem dX8_restore_13 : decode cX8_restore 13 = .ok (.getfield 33, 3) := by decide +kernel
theorem dX8_restore_16 : decode cX8_restore 16 = .ok (.iload_n 1, 1) := by decide +kernel
theorem dX8_restore_17 : decode cX8_restore 17 = .ok (.aaload, 1) := by decide +kernel
theorem dX8_restore_18 : decode cX8_restore 18 = .ok (.invokevirtual 358, 3) := by decide +kernel
theorem dX8_restore_21 : decode cX8_restore 21 = .ok (.ifCond .eq 6, 3) := by decide +kernel
theorem dX8_restore_24 : decode cX8_restore 24 = .ok (.ldc 102, 2) := by decide +kernel
theorem dX8_restore_26 : decode cX8_restore 26 = .ok (.ireturn, 1) := by decide +kernel
theorem dX8_restore_27 : decode cX8_restore 27 = .ok (.aload_n 0, 1) := by decide +kernel
theorem dX8_restore_28 : decode cX8_restore 28 = .ok (.getfield 19, 3) := by decide +kernel
theorem dX8_restore_31 : decode cX8_restore 31 = .ok (.aload_n 0, 1) := by decide +kernel
theorem dX8_restore_32 : decode cX8_restore 32 = .ok (.getfield 33, 3) := by decide +kernel
theorem dX8_restore_35 : decode cX8_restore 35 = .ok (.iload_n 1, 1) := by decide +kernel
theorem dX8_restore_36 : decode cX8_restore 36 = .ok (.aaload, 1) := by decide +kernel
theorem dX8_restore_37 : decode cX8_restore 37 = .ok (.invokevirtual 83, 3) := by decide +kernel
theorem dX8_restore_40 : decode cX8_restore 40 = .ok (.aload_n 0, 1) := by decide +kernel
theorem dX8_restore_41 : decode cX8_restore 41 = .ok (.getfield 29, 3) := by decide +kernel
theorem dX8_restore_44 : decode cX8_restore 44 = .ok (.invokevirtual 87, 3) := by decide +kernel
theorem dX8_restore_47 : decode cX8_restore 47 = .ok (.iconst 1, 1) := by decide +kernel
theorem dX8_restore_48 : decode cX8_restore 48 = .ok (.ireturn, 1) := by decide +kernel
theorem dX8_count_0 : decode cX8_count 0 = .ok (.iload_n 1, 1) := by decide +kernel
theorem dX8_count_1 : decode cX8_count 1 = .ok (.tableswitch 105 0 6 #[43, 51, 59, 70, 81, 89, 97], 43) := by decide +kernel
theorem dX8_count_44 : decode cX8_count 44 = .ok (.aload_n 0, 1) := by decide +kernel
theorem dX8_count_45 : decode cX8_count 45 = .ok (.getfield 19, 3) := by decide +kernel
theorem dX8_count_48 : decode cX8_count 48 = .ok (.getfield 90, 3) := by decide +kernel
theorem dX8_count_51 : decode cX8_count 51 = .ok (.ireturn, 1) := by decide +kernel
theorem dX8_count_52 : decode cX8_count 52 = .ok (.aload_n 0, 1) := by decide +kernel
theorem dX8_count_53 : decode cX8_count 53 = .ok (.getfield 19, 3) := by decide +kernel
theorem dX8_count_56 : decode cX8_count 56 = .ok (.getfield 195, 3) := by decide +kernel
theorem dX8_count_59 : decode cX8_count 59 = .ok (.ireturn, 1) := by decide +kernel
theorem dX8_count_60 : decode cX8_count 60 = .ok (.aload_n 0, 1) := by decide +kernel
theorem dX8_count_61 : decode cX8_count 61 = .ok (.getfield 19, 3) := by decide +kernel
theorem dX8_count_64 : decode cX8_count 64 = .ok (.invokevirtual 259, 3) := by decide +kernel
theorem dX8_count_67 : decode cX8_count 67 = .ok (.invokestatic 331, 3) := by decide +kernel
theorem dX8_count_70 : decode cX8_count 70 = .ok (.ireturn, 1) := by decide +kernel
theorem dX8_count_71 : decode cX8_count 71 = .ok (.aload_n 0, 1) := by decide +kernel
theorem dX8_count_72 : decode cX8_count 72 = .ok (.getfield 19, 3) := by decide +kernel
theorem dX8_count_75 : decode cX8_count 75 = .ok (.invokevirtual 361, 3) := by decide +kernel
theorem dX8_count_78 : decode cX8_count 78 = .ok (.invokestatic 331, 3) := by decide +kernel
theorem dX8_count_81 : decode cX8_count 81 = .ok (.ireturn, 1) := by decide +kernel
theorem dX8_count_82 : decode cX8_count 82 = .ok (.aload_n 0, 1) := by decide +kernel
theorem dX8_count_83 : decode cX8_count 83 = .ok (.getfield 19, 3) := by decide +kernel
theorem dX8_count_86 : decode cX8_count 86 = .ok (.getfield 156, 3) := by decide +kernel
theorem dX8_count_89 : decode cX8_count 89 = .ok (.ireturn, 1) := by decide +kernel
theorem dX8_count_90 : decode cX8_count 90 = .ok (.aload_n 0, 1) := by decide +kernel
theorem dX8_count_91 : decode cX8_count 91 = .ok (.getfield 29, 3) := by decide +kernel
theorem dX8_count_94 : decode cX8_count 94 = .ok (.getfield 99, 3) := by decide +kernel
theorem dX8_count_97 : decode cX8_count 97 = .ok (.ireturn, 1) := by decide +kernel
theorem dX8_count_98 : decode cX8_count 98 = .ok (.aload_n 0, 1) := by decide +kernel
theorem dX8_count_99 : decode cX8_count 99 = .ok (.getfield 10, 3) := by decide +kernel
theorem dX8_count_102 : decode cX8_count 102 = .ok (.getfield 70, 3) := by decide +kernel
theorem dX8_count_105 : decode cX8_count 105 = .ok (.ireturn, 1) := by decide +kernel
theorem dX8_count_106 : decode cX8_count 106 = .ok (.ldc 65, 2) := by decide +kernel
theorem dX8_count_108 : decode cX8_count 108 = .ok (.ireturn, 1) := by decide +kernel
theorem dX8_hasNoBook_0 : decode cX8_hasNoBook 0 = .ok (.aload_n 0, 1) := by decide +kernel
theorem dX8_hasNoBook_1 : decode cX8_hasNoBook 1 = .ok (.getfield 19, 3) := by decide +kernel
theorem dX8_hasNoBook_4 : decode cX8_hasNoBook 4 = .ok (.invokevirtual 358, 3) := by decide +kernel
theorem dX8_hasNoBook_7 : decode cX8_hasNoBook 7 = .ok (.ireturn, 1) := by decide +kernel
theorem dX8_isCanKind_0 : decode cX8_isCanKind 0 = .ok (.iload_n 0, 1) := by decide +kernel
theorem dX8_isCanKind_1 : decode cX8_isCanKind 1 = .ok (.ifCond .eq 14, 3) := by decide +kernel
theorem dX8_isCanKind_4 : decode cX8_isCanKind 4 = .ok (.iload_n 0, 1) := by decide +kernel
theorem dX8_isCanKind_5 : decode cX8_isCanKind 5 = .ok (.invokestatic 189, 3) := by decide +kernel
theorem dX8_isCanKind_8 : decode cX8_isCanKind 8 = .ok (.ifCond .eq 7, 3) := by decide +kernel
theorem dX8_isCanKind_11 : decode cX8_isCanKind 11 = .ok (.iconst 1, 1) := by decide +kernel
theorem dX8_isCanKind_12 : decode cX8_isCanKind 12 = .ok (.goto 4, 3) := by decide +kernel
theorem dX8_isCanKind_15 : decode cX8_isCanKind 15 = .ok (.iconst 0, 1) := by decide +kernel
theorem dX8_isCanKind_16 : decode cX8_isCanKind 16 = .ok (.ireturn, 1) := by decide +kernel
theorem dX8_isCanFeet_0 : decode cX8_isCanFeet 0 = .ok (.iload_n 0, 1) := by decide +kernel
theorem dX8_isCanFeet_1 : decode cX8_isCanFeet 1 = .ok (.iconst 1, 1) := by decide +kernel
theorem dX8_isCanFeet_2 : decode cX8_isCanFeet 2 = .ok (.if_icmp .lt 13, 3) := by decide +kernel
theorem dX8_isCanFeet_5 : decode cX8_isCanFeet 5 = .ok (.iload_n 0, 1) := by decide +kernel
theorem dX8_isCanFeet_6 : decode cX8_isCanFeet 6 = .ok (.bipush 99, 2) := by decide +kernel
theorem dX8_isCanFeet_8 : decode cX8_isCanFeet 8 = .ok (.if_icmp .gt 7, 3) := by decide +kernel
theorem dX8_isCanFeet_11 : decode cX8_isCanFeet 11 = .ok (.iconst 1, 1) := by decide +kernel
theorem dX8_isCanFeet_12 : decode cX8_isCanFeet 12 = .ok (.goto 4, 3) := by decide +kernel
theorem dX8_isCanFeet_15 : decode cX8_isCanFeet 15 = .ok (.iconst 0, 1) := by decide +kernel
theorem dX8_isCanFeet_16 : decode cX8_isCanFeet 16 = .ok (.ireturn, 1) := by decide +kernel
theorem dX8_isTakeFeet_0 : decode cX8_isTakeFeet 0 = .ok (.iload_n 0, 1) := by decide +kernel
theorem dX8_isTakeFeet_1 : decode cX8_isTakeFeet 1 = .ok (.iconst 1, 1) := by decide +kernel
theorem dX8_isTakeFeet_2 : decode cX8_isTakeFeet 2 = .ok (.if_icmp .lt 13, 3) := by decide +kernel
theorem dX8_isTakeFeet_5 : decode cX8_isTakeFeet 5 = .ok (.iload_n 0, 1) := by decide +kernel
theorem dX8_isTakeFeet_6 : decode cX8_isTakeFeet 6 = .ok (.bipush 60, 2) := by decide +kernel
theorem dX8_isTakeFeet_8 : decode cX8_isTakeFeet 8 = .ok (.if_icmp .gt 7, 3) := by decide +kernel
theorem dX8_isTakeFeet_11 : decode cX8_isTakeFeet 11 = .ok (.iconst 1, 1) := by decide +kernel
theorem dX8_isTakeFeet_12 : decode cX8_isTakeFeet 12 = .ok (.goto 4, 3) := by decide +kernel
theorem dX8_isTakeFeet_15 : decode cX8_isTakeFeet 15 = .ok (.iconst 0, 1) := by decide +kernel
theorem dX8_isTakeFeet_16 : decode cX8_isTakeFeet 16 = .ok (.ireturn, 1) := by decide +kernel
theorem dX8_isZeroOrOne_0 : decode cX8_isZeroOrOne 0 = .ok (.iload_n 0, 1) := by decide +kernel
theorem dX8_isZeroOrOne_1 : decode cX8_isZeroOrOne 1 = .ok (.ifCond .eq 8, 3) := by decide +kernel
theorem dX8_isZeroOrOne_4 : decode cX8_isZeroOrOne 4 = .ok (.iload_n 0, 1) := by decide +kernel
theorem dX8_isZeroOrOne_5 : decode cX8_isZeroOrOne 5 = .ok (.iconst 1, 1) := by decide +kernel
theorem dX8_isZeroOrOne_6 : decode cX8_isZeroOrOne 6 = .ok (.if_icmp .ne 7, 3) := by decide +kernel
theorem dX8_isZeroOrOne_9 : decode cX8_isZeroOrOne 9 = .ok (.iconst 1, 1) := by decide +kernel
theorem dX8_isZeroOrOne_10 : decode cX8_isZeroOrOne 10 = .ok (.goto 4, 3) := by decide +kernel
theorem dX8_isZeroOrOne_13 : decode cX8_isZeroOrOne 13 = .ok (.iconst 0, 1) := by decide +kernel
theorem dX8_isZeroOrOne_14 : decode cX8_isZeroOrOne 14 = .ok (.ireturn, 1) := by decide +kernel
theorem dX8_placeBest_0 : decode cX8_placeBest 0 = .ok (.aload_n 0, 1) := by decide +kernel
theorem dX8_placeBest_1 : decode cX8_placeBest 1 = .ok (.getfield 47, 3) := by decide +kernel
theorem dX8_placeBest_4 : decode cX8_placeBest 4 = .ok (.aload_n 0, 1) := by decide +kernel
theorem dX8_placeBest_5 : decode cX8_placeBest 5 = .ok (.getfield 19, 3) := by decide +kernel
theorem dX8_placeBest_8 : decode cX8_placeBest 8 = .ok (.invokevirtual 265, 3) := by decide +kernel
theorem dX8_placeBest_11 : decode cX8_placeBest 11 = .ok (.aload_n 0, 1) := by decide +kernel
theorem dX8_placeBest_12 : decode cX8_placeBest 12 = .ok (.getfield 54, 3) := by decide +kernel
theorem dX8_placeBest_15 : decode cX8_placeBest 15 = .ok (.aload_n 0, 1) := by decide +kernel
theorem dX8_placeBest_16 : decode cX8_placeBest 16 = .ok (.getfield 47, 3) := by decide +kernel
theorem dX8_placeBest_19 : decode cX8_placeBest 19 = .ok (.invokevirtual 353, 3) := by decide +kernel
theorem dX8_placeBest_22 : decode cX8_placeBest 22 = .ok (.ireturn, 1) := by decide +kernel
theorem dX8_placeByRule_0 : decode cX8_placeByRule 0 = .ok (.aload_n 0, 1) := by decide +kernel
theorem dX8_placeByRule_1 : decode cX8_placeByRule 1 = .ok (.getfield 47, 3) := by decide +kernel
theorem dX8_placeByRule_4 : decode cX8_placeByRule 4 = .ok (.aload_n 0, 1) := by decide +kernel
theorem dX8_placeByRule_5 : decode cX8_placeByRule 5 = .ok (.getfield 19, 3) := by decide +kernel
theorem dX8_placeByRule_8 : decode cX8_placeByRule 8 = .ok (.invokevirtual 265, 3) := by decide +kernel
theorem dX8_placeByRule_11 : decode cX8_placeByRule 11 = .ok (.aload_n 0, 1) := by decide +kernel
theorem dX8_placeByRule_12 : decode cX8_placeByRule 12 = .ok (.getfield 47, 3) := by decide +kernel
theorem dX8_placeByRule_15 : decode cX8_placeByRule 15 = .ok (.iload_n 1, 1) := by decide +kernel
theorem dX8_placeByRule_16 : decode cX8_placeByRule 16 = .ok (.iconst 1, 1) := by decide +kernel
theorem dX8_placeByRule_17 : decode cX8_placeByRule 17 = .ok (.if_icmp .ne 7, 3) := by decide +kernel
theorem dX8_placeByRule_20 : decode cX8_placeByRule 20 = .ok (.iconst 1, 1) := by decide +kernel
theorem dX8_placeByRule_21 : decode cX8_placeByRule 21 = .ok (.goto 4, 3) := by decide +kernel
theorem dX8_placeByRule_24 : decode cX8_placeByRule 24 = .ok (.iconst 0, 1) := by decide +kernel
theorem dX8_placeByRule_25 : decode cX8_placeByRule 25 = .ok (.invokevirtual 363, 3) := by decide +kernel
theorem dX8_placeByRule_28 : decode cX8_placeByRule 28 = .ok (.ireturn, 1) := by decide +kernel
theorem dX8_wholeAnswer_0 : decode cX8_wholeAnswer 0 = .ok (.iload_n 1, 1) := by decide +kernel
theorem dX8_wholeAnswer_1 : decode cX8_wholeAnswer 1 = .ok (.ifCond .ne 6, 3) := by decide +kernel
theorem dX8_wholeAnswer_4 : decode cX8_wholeAnswer 4 = .ok (.ldc 109, 2) := by decide +kernel
theorem dX8_wholeAnswer_6 : decode cX8_wholeAnswer 6 = .ok (.ireturn, 1) := by decide +kernel
theorem dX8_wholeAnswer_7 : decode cX8_wholeAnswer 7 = .ok (.iload_n 2, 1) := by decide +kernel
theorem dX8_wholeAnswer_8 : decode cX8_wholeAnswer 8 = .ok (.ifCond .ne 13, 3) := by decide +kernel
theorem dX8_wholeAnswer_11 : decode cX8_wholeAnswer 11 = .ok (.aload_n 0, 1) := by decide +kernel
theorem dX8_wholeAnswer_12 : decode cX8_wholeAnswer 12 = .ok (.getfield 47, 3) := by decide +kernel
theorem dX8_wholeAnswer_15 : decode cX8_wholeAnswer 15 = .ok (.invokevirtual 355, 3) := by decide +kernel
theorem dX8_wholeAnswer_18 : decode cX8_wholeAnswer 18 = .ok (.goto 10, 3) := by decide +kernel
theorem dX8_wholeAnswer_21 : decode cX8_wholeAnswer 21 = .ok (.aload_n 0, 1) := by decide +kernel
theorem dX8_wholeAnswer_22 : decode cX8_wholeAnswer 22 = .ok (.getfield 47, 3) := by decide +kernel
theorem dX8_wholeAnswer_25 : decode cX8_wholeAnswer 25 = .ok (.invokevirtual 367, 3) := by decide +kernel
theorem dX8_wholeAnswer_28 : decode cX8_wholeAnswer 28 = .ok (.ireturn, 1) := by decide +kernel
theorem dX8_lookAhead_0 : decode cX8_lookAhead 0 = .ok (.aload_n 0, 1) := by decide +kernel
theorem dX8_lookAhead_1 : decode cX8_lookAhead 1 = .ok (.getfield 47, 3) := by decide +kernel
theorem dX8_lookAhead_4 : decode cX8_lookAhead 4 = .ok (.aload_n 0, 1) := by decide +kernel
theorem dX8_lookAhead_5 : decode cX8_lookAhead 5 = .ok (.getfield 19, 3) := by decide +kernel
theorem dX8_lookAhead_8 : decode cX8_lookAhead 8 = .ok (.invokevirtual 265, 3) := by decide +kernel
theorem dX8_lookAhead_11 : decode cX8_lookAhead 11 = .ok (.aload_n 0, 1) := by decide +kernel
theorem dX8_lookAhead_12 : decode cX8_lookAhead 12 = .ok (.getfield 61, 3) := by decide +kernel
theorem dX8_lookAhead_15 : decode cX8_lookAhead 15 = .ok (.aload_n 0, 1) := by decide +kernel
theorem dX8_lookAhead_16 : decode cX8_lookAhead 16 = .ok (.getfield 47, 3) := by decide +kernel
theorem dX8_lookAhead_19 : decode cX8_lookAhead 19 = .ok (.invokevirtual 370, 3) := by decide +kernel
theorem dX8_lookAhead_22 : decode cX8_lookAhead 22 = .ok (.return_, 1) := by decide +kernel
theorem dX8_power_0 : decode cX8_power 0 = .ok (.lconst 1, 1) := by decide +kernel
theorem dX8_power_1 : decode cX8_power 1 = .ok (.lstore_n 2, 1) := by decide +kernel
theorem dX8_power_2 : decode cX8_power 2 = .ok (.iconst 0, 1) := by decide +kernel
theorem dX8_power_3 : decode cX8_power 3 = .ok (.istore 4, 2) := by decide +kernel
theorem dX8_power_5 : decode cX8_power 5 = .ok (.iload 4, 2) := by decide +kernel
theorem dX8_power_7 : decode cX8_power 7 = .ok (.iload_n 1, 1) := by decide +kernel
theorem dX8_power_8 : decode cX8_power 8 = .ok (.if_icmp .ge 14, 3) := by decide +kernel
theorem dX8_power_11 : decode cX8_power 11 = .ok (.lload_n 2, 1) := by decide +kernel
theorem dX8_power_12 : decode cX8_power 12 = .ok (.iload_n 0, 1) := by decide +kernel
theorem dX8_power_13 : decode cX8_power 13 = .ok (.i2l, 1) := by decide +kernel
theorem dX8_power_14 : decode cX8_power 14 = .ok (.lmul, 1) := by decide +kernel
theorem dX8_power_15 : decode cX8_power 15 = .ok (.lstore_n 2, 1) := by decide +kernel
theorem dX8_power_16 : decode cX8_power 16 = .ok (.iinc 4 1, 3) := by decide +kernel
theorem dX8_power_19 : decode cX8_power 19 = .ok (.goto (-14), 3) := by decide +kernel
theorem dX8_power_22 : decode cX8_power 22 = .ok (.lload_n 2, 1) := by decide +kernel
theorem dX8_power_23 : decode cX8_power 23 = .ok (.lreturn, 1) := by decide +kernel
theorem dX8_greatestDivisor_0 : decode cX8_greatestDivisor 0 = .ok (.iconst 0, 1) := by decide +kernel
theorem dX8_greatestDivisor_1 : decode cX8_greatestDivisor 1 = .ok (.istore 4, 2) := by decide +kernel
theorem dX8_greatestDivisor_3 : decode cX8_greatestDivisor 3 = .ok (.iload 4, 2) := by decide +kernel
theorem dX8_greatestDivisor_5 : decode cX8_greatestDivisor 5 = .ok (.bipush 100, 2) := by decide +kernel
theorem dX8_greatestDivisor_7 : decode cX8_greatestDivisor 7 = .ok (.if_icmp .ge 25, 3) := by decide +kernel
theorem dX8_greatestDivisor_10 : decode cX8_greatestDivisor 10 = .ok (.lload_n 2, 1) := by decide +kernel
theorem dX8_greatestDivisor_11 : decode cX8_greatestDivisor 11 = .ok (.lconst 0, 1) := by decide +kernel
theorem dX8_greatestDivisor_12 : decode cX8_greatestDivisor 12 = .ok (.lcmp, 1) := by decide +kernel
theorem dX8_greatestDivisor_13 : decode cX8_greatestDivisor 13 = .ok (.ifCond .eq 19, 3) := by decide +kernel
theorem dX8_greatestDivisor_16 : decode cX8_greatestDivisor 16 = .ok (.lload_n 0, 1) := by decide +kernel
theorem dX8_greatestDivisor_17 : decode cX8_greatestDivisor 17 = .ok (.lload_n 2, 1) := by decide +kernel
theorem dX8_greatestDivisor_18 : decode cX8_greatestDivisor 18 = .ok (.lrem, 1) := by decide +kernel
theorem dX8_greatestDivisor_19 : decode cX8_greatestDivisor 19 = .ok (.lstore 5, 2) := by decide +kernel
theorem dX8_greatestDivisor_21 : decode cX8_greatestDivisor 21 = .ok (.lload_n 2, 1) := by decide +kernel
theorem dX8_greatestDivisor_22 : decode cX8_greatestDivisor 22 = .ok (.lstore_n 0, 1) := by decide +kernel
theorem dX8_greatestDivisor_23 : decode cX8_greatestDivisor 23 = .ok (.lload 5, 2) := by decide +kernel
theorem dX8_greatestDivisor_25 : decode cX8_greatestDivisor 25 = .ok (.lstore_n 2, 1) := by decide +kernel
theorem dX8_greatestDivisor_26 : decode cX8_greatestDivisor 26 = .ok (.iinc 4 1, 3) := by decide +kernel
theorem dX8_greatestDivisor_29 : decode cX8_greatestDivisor 29 = .ok (.goto (-26), 3) := by decide +kernel
theorem dX8_greatestDivisor_32 : decode cX8_greatestDivisor 32 = .ok (.lload_n 0, 1) := by decide +kernel
theorem dX8_greatestDivisor_33 : decode cX8_greatestDivisor 33 = .ok (.lreturn, 1) := by decide +kernel
theorem dX9_init_0 : decode cX9_init 0 = .ok (.aload_n 0, 1) := by decide +kernel
theorem dX9_init_1 : decode cX9_init 1 = .ok (.invokespecial 1, 3) := by decide +kernel
theorem dX9_init_4 : decode cX9_init 4 = .ok (.aload_n 0, 1) := by decide +kernel
theorem dX9_init_5 : decode cX9_init 5 = .ok (.bipush 89, 2) := by decide +kernel
theorem dX9_init_7 : decode cX9_init 7 = .ok (.newarray .int, 2) := by decide +kernel
theorem dX9_init_9 : decode cX9_init 9 = .ok (.putfield 7, 3) := by decide +kernel
theorem dX9_init_12 : decode cX9_init 12 = .ok (.aload_n 0, 1) := by decide +kernel
theorem dX9_init_13 : decode cX9_init 13 = .ok (.bipush 89, 2) := by decide +kernel
theorem dX9_init_15 : decode cX9_init 15 = .ok (.newarray .int, 2) := by decide +kernel
theorem dX9_init_17 : decode cX9_init 17 = .ok (.putfield 13, 3) := by decide +kernel
theorem dX9_init_20 : decode cX9_init 20 = .ok (.aload_n 0, 1) := by decide +kernel
theorem dX9_init_21 : decode cX9_init 21 = .ok (.sipush 1780, 3) := by decide +kernel
theorem dX9_init_24 : decode cX9_init 24 = .ok (.newarray .int, 2) := by decide +kernel
theorem dX9_init_26 : decode cX9_init 26 = .ok (.putfield 16, 3) := by decide +kernel
theorem dX9_init_29 : decode cX9_init 29 = .ok (.aload_n 0, 1) := by decide +kernel
theorem dX9_init_30 : decode cX9_init 30 = .ok (.sipush 178, 3) := by decide +kernel
theorem dX9_init_33 : decode cX9_init 33 = .ok (.newarray .int, 2) := by decide +kernel
theorem dX9_init_35 : decode cX9_init 35 = .ok (.putfield 19, 3) := by decide +kernel
theorem dX9_init_38 : decode cX9_init 38 = .ok (.aload_n 0, 1) := by decide +kernel
theorem dX9_init_39 : decode cX9_init 39 = .ok (.iconst 2, 1) := by decide +kernel
theorem dX9_init_40 : decode cX9_init 40 = .ok (.newarray .boolean, 2) := by decide +kernel
theorem dX9_init_42 : decode cX9_init 42 = .ok (.putfield 22, 3) := by decide +kernel
theorem dX9_init_45 : decode cX9_init 45 = .ok (.aload_n 0, 1) := by decide +kernel
theorem dX9_init_46 : decode cX9_init 46 = .ok (.bipush 110, 2) := by decide +kernel
theorem dX9_init_48 : decode cX9_init 48 = .ok (.newarray .int, 2) := by decide +kernel
theorem dX9_init_50 : decode cX9_init 50 = .ok (.putfield 26, 3) := by decide +kernel
theorem dX9_init_53 : decode cX9_init 53 = .ok (.aload_n 0, 1) := by decide +kernel
theorem dX9_init_54 : decode cX9_init 54 = .ok (.sipush 2048, 3) := by decide +kernel
theorem dX9_init_57 : decode cX9_init 57 = .ok (.newarray .int, 2) := by decide +kernel
theorem dX9_init_59 : decode cX9_init 59 = .ok (.putfield 29, 3) := by decide +kernel
theorem dX9_init_62 : decode cX9_init 62 = .ok (.aload_n 0, 1) := by decide +kernel
theorem dX9_init_63 : decode cX9_init 63 = .ok (.sipush 2048, 3) := by decide +kernel
theorem dX9_init_66 : decode cX9_init 66 = .ok (.newarray .int, 2) := by decide +kernel
theorem dX9_init_68 : decode cX9_init 68 = .ok (.putfield 32, 3) := by decide +kernel
theorem dX9_init_71 : decode cX9_init 71 = .ok (.aload_n 0, 1) := by decide +kernel
theorem dX9_init_72 : decode cX9_init 72 = .ok (.bipush 7, 2) := by decide +kernel
theorem dX9_init_74 : decode cX9_init 74 = .ok (.newarray .int, 2) := by decide +kernel
theorem dX9_init_76 : decode cX9_init 76 = .ok (.putfield 35, 3) := by decide +kernel
theorem dX9_init_79 : decode cX9_init 79 = .ok (.aload_n 0, 1) := by decide +kernel
theorem dX9_init_80 : decode cX9_init 80 = .ok (.bipush 8, 2) := by decide +kernel
theorem dX9_init_82 : decode cX9_init 82 = .ok (.newarray .int, 2) := by decide +kernel
theorem dX9_init_84 : decode cX9_init 84 = .ok (.putfield 38, 3) := by decide +kernel
theorem dX9_init_87 : decode cX9_init 87 = .ok (.aload_n 0, 1) := by decide +kernel
theorem dX9_init_88 : decode cX9_init 88 = .ok (.bipush 8, 2) := by decide +kernel
theorem dX9_init_90 : decode cX9_init 90 = .ok (.newarray .int, 2) := by decide +kernel
theorem dX9_init_92 : decode cX9_init 92 = .ok (.putfield 41, 3) := by decide +kernel
theorem dX9_init_95 : decode cX9_init 95 = .ok (.aload_n 0, 1) := by decide +kernel
theorem dX9_init_96 : decode cX9_init 96 = .ok (.sipush 256, 3) := by decide +kernel
theorem dX9_init_99 : decode cX9_init 99 = .ok (.newarray .int, 2) := by decide +kernel
theorem dX9_init_101 : decode cX9_init 101 = .ok (.putfield 44, 3) := by decide +kernel
theorem dX9_init_104 : decode cX9_init 104 = .ok (.aload_n 0, 1) := by decide +kernel
theorem dX9_init_105 : decode cX9_init 105 = .ok (.getfield 7, 3) := by decide +kernel
theorem dX9_init_108 : decode cX9_init 108 = .ok (.bipush 11, 2) := by decide +kernel
theorem dX9_init_110 : decode cX9_init 110 = .ok (.iconst (-1), 1) := by decide +kernel
theorem dX9_init_111 : decode cX9_init 111 = .ok (.iastore, 1) := by decide +kernel
theorem dX9_init_112 : decode cX9_init 112 = .ok (.return_, 1) := by decide +kernel
theorem dX9_in_0 : decode cX9_in 0 = .ok (.lload_n 0, 1) := by decide +kernel
theorem dX9_in_1 : decode cX9_in 1 = .ok (.lload_n 2, 1) := by decide +kernel
theorem dX9_in_2 : decode cX9_in 2 = .ok (.lcmp, 1) := by decide +kernel
theorem dX9_in_3 : decode cX9_in 3 = .ok (.ifCond .lt 14, 3) := by decide +kernel
theorem dX9_in_6 : decode cX9_in 6 = .ok (.lload_n 0, 1) := by decide +kernel
theorem dX9_in_7 : decode cX9_in 7 = .ok (.lload 4, 2) := by decide +kernel
theorem dX9_in_9 : decode cX9_in 9 = .ok (.lcmp, 1) := by decide +kernel
theorem dX9_in_10 : decode cX9_in 10 = .ok (.ifCond .gt 7, 3) := by decide +kernel
theorem dX9_in_13 : decode cX9_in 13 = .ok (.iconst 1, 1) := by decide +kernel
theorem dX9_in_14 : decode cX9_in 14 = .ok (.goto 4, 3) := by decide +kernel
theorem dX9_in_17 : decode cX9_in 17 = .ok (.iconst 0, 1) := by decide +kernel
theorem dX9_in_18 : decode cX9_in 18 = .ok (.ireturn, 1) := by decide +kernel
theorem dX9_has_0 : decode cX9_has 0 = .ok (.iload_n 0, 1) := by decide +kernel
theorem dX9_has_1 : decode cX9_has 1 = .ok (.iload_n 1, 1) := by decide +kernel
theorem dX9_has_2 : decode cX9_has 2 = .ok (.ishr, 1) := by decide +kernel
theorem dX9_has_3 : decode cX9_has 3 = .ok (.iconst 1, 1) := by decide +kernel
theorem dX9_has_4 : decode cX9_has 4 = .ok (.iand, 1) := by decide +kernel
theorem dX9_has_5 : decode cX9_has 5 = .ok (.iconst 1, 1) := by decide +kernel
theorem dX9_has_6 : decode cX9_has 6 = .ok (.if_icmp .ne 7, 3) := by decide +kernel
theorem dX9_has_9 : decode cX9_has 9 = .ok (.iconst 1, 1) := by decide +kernel
theorem dX9_has_10 : decode cX9_has 10 = .ok (.goto 4, 3) := by decide +kernel
theorem dX9_has_13 : decode cX9_has 13 = .ok (.iconst 0, 1) := by decide +kernel
theorem dX9_has_14 : decode cX9_has 14 = .ok (.ireturn, 1) := by decide +kernel
theorem dX9_copies_0 : decode cX9_copies 0 = .ok (.iconst 0, 1) := by decide +kernel
theorem dX9_copies_1 : decode cX9_copies 1 = .ok (.istore 4, 2) := by decide +kernel
theorem dX9_copies_3 : decode cX9_copies 3 = .ok (.iload 4, 2) := by decide +kernel
theorem dX9_copies_5 : decode cX9_copies 5 = .ok (.bipush 89, 2) := by decide +kernel
theorem dX9_copies_7 : decode cX9_copies 7 = .ok (.if_icmp .ge 21, 3) := by decide +kernel
theorem dX9_copies_10 : decode cX9_copies 10 = .ok (.aload_n 2, 1) := by decide +kernel
theorem dX9_copies_11 : decode cX9_copies 11 = .ok (.iload_n 3, 1) := by decide +kernel
theorem dX9_copies_12 : decode cX9_copies 12 = .ok (.iload 4, 2) := by decide +kernel
theorem dX9_copies_14 : decode cX9_copies 14 = .ok (.iadd, 1) := by decide +kernel
theorem dX9_copies_15 : decode cX9_copies 15 = .ok (.aload_n 0, 1) := by decide +kernel
theorem dX9_copies_16 : decode cX9_copies 16 = .ok (.iload_n 1, 1) := by decide +kernel
theorem dX9_copies_17 : decode cX9_copies 17 = .ok (.iload 4, 2) := by decide +kernel
theorem dX9_copies_19 : decode cX9_copies 19 = .ok (.iadd, 1) := by decide +kernel
theorem dX9_copies_20 : decode cX9_copies 20 = .ok (.iaload, 1) := by decide +kernel
theorem dX9_copies_21 : decode cX9_copies 21 = .ok (.iastore, 1) := by decide +kernel
theorem dX9_copies_22 : decode cX9_copies 22 = .ok (.iinc 4 1, 3) := by decide +kernel
theorem dX9_copies_25 : decode cX9_copies 25 = .ok (.goto (-22), 3) := by decide +kernel
theorem dX9_copies_28 : decode cX9_copies 28 = .ok (.return_, 1) := by decide +kernel
theorem dX9_isBook_0 : decode cX9_isBook 0 = .ok (.aload_n 0, 1) := by decide +kernel
theorem dX9_isBook_1 : decode cX9_isBook 1 = .ok (.getfield 7, 3) := by decide +kernel
theorem dX9_isBook_4 : decode cX9_isBook 4 = .ok (.iconst 4, 1) := by decide +kernel
theorem dX9_isBook_5 : decode cX9_isBook 5 = .ok (.iaload, 1) := by decide +kernel
theorem dX9_isBook_6 : decode cX9_isBook 6 = .ok (.ifCond .le 7, 3) := by decide +kernel
theorem dX9_isBook_9 : decode cX9_isBook 9 = .ok (.iconst 1, 1) := by decide +kernel
theorem dX9_isBook_10 : decode cX9_isBook 10 = .ok (.goto 4, 3) := by decide +kernel
theorem dX9_isBook_13 : decode cX9_isBook 13 = .ok (.iconst 0, 1) := by decide +kernel
theorem dX9_isBook_14 : decode cX9_isBook 14 = .ok (.ireturn, 1) := by decide +kernel
theorem dX9_isCan_0 : decode cX9_isCan 0 = .ok (.iload_n 1, 1) := by decide +kernel
theorem dX9_isCan_1 : decode cX9_isCan 1 = .ok (.i2l, 1) := by decide +kernel
theorem dX9_isCan_2 : decode cX9_isCan 2 = .ok (.lconst 0, 1) := by decide +kernel
theorem dX9_isCan_3 : decode cX9_isCan 3 = .ok (.aload_n 0, 1) := by decide +kernel
theorem dX9_isCan_4 : decode cX9_isCan 4 = .ok (.getfield 7, 3) := by decide +kernel
theorem dX9_isCan_7 : decode cX9_isCan 7 = .ok (.iconst 4, 1) := by decide +kernel
theorem dX9_isCan_8 : decode cX9_isCan 8 = .ok (.iaload, 1) := by decide +kernel
theorem dX9_isCan_9 : decode cX9_isCan 9 = .ok (.iconst 1, 1) := by decide +kernel
theorem dX9_isCan_10 : decode cX9_isCan 10 = .ok (.isub, 1) := by decide +kernel
theorem dX9_isCan_11 : decode cX9_isCan 11 = .ok (.i2l, 1) := by decide +kernel
theorem dX9_isCan_12 : decode cX9_isCan 12 = .ok (.invokestatic 47, 3) := by decide +kernel
theorem dX9_isCan_15 : decode cX9_isCan 15 = .ok (.ireturn, 1) := by decide +kernel
theorem dX9_isTake_0 : decode cX9_isTake 0 = .ok (.iload_n 1, 1) := by decide +kernel
theorem dX9_isTake_1 : decode cX9_isTake 1 = .ok (.i2l, 1) := by decide +kernel
theorem dX9_isTake_2 : decode cX9_isTake 2 = .ok (.lconst 0, 1) := by decide +kernel
theorem dX9_isTake_3 : decode cX9_isTake 3 = .ok (.aload_n 0, 1) := by decide +kernel
theorem dX9_isTake_4 : decode cX9_isTake 4 = .ok (.getfield 7, 3) := by decide +kernel
theorem dX9_isTake_7 : decode cX9_isTake 7 = .ok (.iconst 5, 1) := by decide +kernel
theorem dX9_isTake_8 : decode cX9_isTake 8 = .ok (.iaload, 1) := by decide +kernel
theorem dX9_isTake_9 : decode cX9_isTake 9 = .ok (.iconst 1, 1) := by decide +kernel
theorem dX9_isTake_10 : decode cX9_isTake 10 = .ok (.isub, 1) := by decide +kernel
theorem dX9_isTake_11 : decode cX9_isTake 11 = .ok (.i2l, 1) := by decide +kernel
theorem dX9_isTake_12 : decode cX9_isTake 12 = .ok (.invokestatic 47, 3) := by decide +kernel
theorem dX9_isTake_15 : decode cX9_isTake 15 = .ok (.ireturn, 1) := by decide +kernel
theorem dX9_kind_0 : decode cX9_kind 0 = .ok (.aload_n 0, 1) := by decide +kernel
theorem dX9_kind_1 : decode cX9_kind 1 = .ok (.bipush 13, 2) := by decide +kernel
theorem dX9_kind_3 : decode cX9_kind 3 = .ok (.iconst 4, 1) := by decide +kernel
theorem dX9_kind_4 : decode cX9_kind 4 = .ok (.iload_n 1, 1) := by decide +kernel
theorem dX9_kind_5 : decode cX9_kind 5 = .ok (.imul, 1) := by decide +kernel
theorem dX9_kind_6 : decode cX9_kind 6 = .ok (.iadd, 1) := by decide +kernel
theorem dX9_kind_7 : decode cX9_kind 7 = .ok (.iaload, 1) := by decide +kernel
theorem dX9_kind_8 : decode cX9_kind 8 = .ok (.ireturn, 1) := by decide +kernel
theorem dX9_feet_0 : decode cX9_feet 0 = .ok (.aload_n 0, 1) := by decide +kernel
theorem dX9_feet_1 : decode cX9_feet 1 = .ok (.bipush 13, 2) := by decide +kernel
theorem dX9_feet_3 : decode cX9_feet 3 = .ok (.iconst 4, 1) := by decide +kernel
theorem dX9_feet_4 : decode cX9_feet 4 = .ok (.iload_n 1, 1) := by decide +kernel
theorem dX9_feet_5 : decode cX9_feet 5 = .ok (.imul, 1) := by decide +kernel
theorem dX9_feet_6 : decode cX9_feet 6 = .ok (.iadd, 1) := by decide +kernel
theorem dX9_feet_7 : decode cX9_feet 7 = .ok (.iconst 1, 1) := by decide +kernel
theorem dX9_feet_8 : decode cX9_feet 8 = .ok (.iadd, 1) := by decide +kernel
theorem dX9_feet_9 : decode cX9_feet 9 = .ok (.iaload, 1) := by decide +kernel
theorem dX9_feet_10 : decode cX9_feet 10 = .ok (.ireturn, 1) := by decide +kernel
theorem dX9_where_0 : decode cX9_where 0 = .ok (.aload_n 0, 1) := by decide +kernel
theorem dX9_where_1 : decode cX9_where 1 = .ok (.bipush 13, 2) := by decide +kernel
theorem dX9_where_3 : decode cX9_where 3 = .ok (.iconst 4, 1) := by decide +kernel
theorem dX9_where_4 : decode cX9_where 4 = .ok (.iload_n 1, 1) := by decide +kernel
theorem dX9_where_5 : decode cX9_where 5 = .ok (.imul, 1) := by decide +kernel
theorem dX9_where_6 : decode cX9_where 6 = .ok (.iadd, 1) := by decide +kernel
theorem dX9_where_7 : decode cX9_where 7 = .ok (.iconst 2, 1) := by decide +kernel
theorem dX9_where_8 : decode cX9_where 8 = .ok (.iadd, 1) := by decide +kernel
theorem dX9_where_9 : decode cX9_where 9 = .ok (.iaload, 1) := by decide +kernel
theorem dX9_where_10 : decode cX9_where 10 = .ok (.ireturn, 1) := by decide +kernel
theorem dX9_isOpen_0 : decode cX9_isOpen 0 = .ok (.aload_n 0, 1) := by decide +kernel
theorem dX9_isOpen_1 : decode cX9_isOpen 1 = .ok (.bipush 41, 2) := by decide +kernel
theorem dX9_isOpen_3 : decode cX9_isOpen 3 = .ok (.iconst 3, 1) := by decide +kernel
theorem dX9_isOpen_4 : decode cX9_isOpen 4 = .ok (.iload_n 1, 1) := by decide +kernel
theorem dX9_isOpen_5 : decode cX9_isOpen 5 = .ok (.imul, 1) := by decide +kernel
theorem dX9_isOpen_6 : decode cX9_isOpen 6 = .ok (.iadd, 1) := by decide +kernel
theorem dX9_isOpen_7 : decode cX9_isOpen 7 = .ok (.iconst 2, 1) := by decide +kernel
theorem dX9_isOpen_8 : decode cX9_isOpen 8 = .ok (.iadd, 1) := by decide +kernel
theorem dX9_isOpen_9 : decode cX9_isOpen 9 = .ok (.iaload, 1) := by decide +kernel
theorem dX9_isOpen_10 : decode cX9_isOpen 10 = .ok (.ifCond .ge 7, 3) := by decide +kernel
theorem dX9_isOpen_13 : decode cX9_isOpen 13 = .ok (.iconst 1, 1) := by decide +kernel
theorem dX9_isOpen_14 : decode cX9_isOpen 14 = .ok (.goto 4, 3) := by decide +kernel
theorem dX9_isOpen_17 : decode cX9_isOpen 17 = .ok (.iconst 0, 1) := by decide +kernel
theorem dX9_isOpen_18 : decode cX9_isOpen 18 = .ok (.ireturn, 1) := by decide +kernel
theorem dX9_isOf_0 : decode cX9_isOf 0 = .ok (.iload_n 1, 1) := by decide +kernel
theorem dX9_isOf_1 : decode cX9_isOf 1 = .ok (.ifCond .eq 33, 3) := by decide +kernel
theorem dX9_isOf_4 : decode cX9_isOf 4 = .ok (.iload_n 0, 1) := by decide +kernel
theorem dX9_isOf_5 : decode cX9_isOf 5 = .ok (.iload_n 1, 1) := by decide +kernel
theorem dX9_isOf_6 : decode cX9_isOf 6 = .ok (.if_icmp .eq 28, 3) := by decide +kernel
theorem dX9_isOf_9 : decode cX9_isOf 9 = .ok (.iload_n 1, 1) := by decide +kernel
theorem dX9_isOf_10 : decode cX9_isOf 10 = .ok (.iconst 1, 1) := by decide +kernel
theorem dX9_isOf_11 : decode cX9_isOf 11 = .ok (.if_icmp .ne 13, 3) := by decide +kernel
theorem dX9_isOf_14 : decode cX9_isOf 14 = .ok (.iload_n 0, 1) := by decide +kernel
theorem dX9_isOf_15 : decode cX9_isOf 15 = .ok (.iconst 2, 1) := by decide +kernel
theorem dX9_isOf_16 : decode cX9_isOf 16 = .ok (.if_icmp .eq 18, 3) := by decide +kernel
theorem dX9_isOf_19 : decode cX9_isOf 19 = .ok (.iload_n 0, 1) := by decide +kernel
theorem dX9_isOf_20 : decode cX9_isOf 20 = .ok (.iconst 3, 1) := by decide +kernel
theorem dX9_isOf_21 : decode cX9_isOf 21 = .ok (.if_icmp .eq 13, 3) := by decide +kernel
theorem dX9_isOf_24 : decode cX9_isOf 24 = .ok (.iload_n 1, 1) := by decide +kernel
theorem dX9_isOf_25 : decode cX9_isOf 25 = .ok (.iconst 4, 1) := by decide +kernel
theorem dX9_isOf_26 : decode cX9_isOf 26 = .ok (.if_icmp .ne 12, 3) := by decide +kernel
theorem dX9_isOf_29 : decode cX9_isOf 29 = .ok (.iload_n 0, 1) := by decide +kernel
theorem dX9_isOf_30 : decode cX9_isOf 30 = .ok (.iconst 5, 1) := by decide +kernel
theorem dX9_isOf_31 : decode cX9_isOf 31 = .ok (.if_icmp .ne 7, 3) := by decide +kernel
theorem dX9_isOf_34 : decode cX9_isOf 34 = .ok (.iconst 1, 1) := by decide +kernel
theorem dX9_isOf_35 : decode cX9_isOf 35 = .ok (.goto 4, 3) := by decide +kernel
theorem dX9_isOf_38 : decode cX9_isOf 38 = .ok (.iconst 0, 1) := by decide +kernel
theorem dX9_isOf_39 : decode cX9_isOf 39 = .ok (.ireturn, 1) := by decide +kernel
theorem dX9_serves_0 : decode cX9_serves 0 = .ok (.aload_n 0, 1) := by decide +kernel
theorem dX9_serves_1 : decode cX9_serves 1 = .ok (.iload_n 1, 1) := by decide +kernel
theorem dX9_serves_2 : decode cX9_serves 2 = .ok (.invokestatic 51, 3) := by decide +kernel
theorem dX9_serves_5 : decode cX9_serves 5 = .ok (.aload_n 0, 1) := by decide +kernel
theorem dX9_serves_6 : decode cX9_serves 6 = .ok (.bipush 41, 2) := by decide +kernel
theorem dX9_serves_8 : decode cX9_serves 8 = .ok (.iconst 3, 1) := by decide +kernel
theorem dX9_serves_9 : decode cX9_serves 9 = .ok (.iload_n 2, 1) := by decide +kernel
theorem dX9_serves_10 : decode cX9_serves 10 = .ok (.imul, 1) := by decide +kernel
theorem dX9_serves_11 : decode cX9_serves 11 = .ok (.iadd, 1) := by decide +kernel
theorem dX9_serves_12 : decode cX9_serves 12 = .ok (.iaload, 1) := by decide +kernel
theorem dX9_serves_13 : decode cX9_serves 13 = .ok (.invokestatic 55, 3) := by decide +kernel
theorem dX9_serves_16 : decode cX9_serves 16 = .ok (.ireturn, 1) := by decide +kernel
theorem dX9_lead_0 : decode cX9_lead 0 = .ok (.aload_n 0, 1) := by decide +kernel
theorem dX9_lead_1 : decode cX9_lead 1 = .ok (.iload_n 1, 1) := by decide +kernel
theorem dX9_lead_2 : decode cX9_lead 2 = .ok (.invokestatic 51, 3) := by decide +kernel
theorem dX9_lead_5 : decode cX9_lead 5 = .ok (.iconst 4, 1) := by decide +kernel
theorem dX9_lead_6 : decode cX9_lead 6 = .ok (.if_icmp .lt 11, 3) := by decide +kernel
theorem dX9_lead_9 : decode cX9_lead 9 = .ok (.iconst 2, 1) := by decide +kernel
theorem dX9_lead_10 : decode cX9_lead 10 = .ok (.aload_n 0, 1) := by decide +kernel
theorem dX9_lead_11 : decode cX9_lead 11 = .ok (.iconst 0, 1) := by decide +kernel
theorem dX9_lead_12 : decode cX9_lead 12 = .ok (.iaload, 1) := by decide +kernel
theorem dX9_lead_13 : decode cX9_lead 13 = .ok (.imul, 1) := by decide +kernel
theorem dX9_lead_14 : decode cX9_lead 14 = .ok (.goto 6, 3) := by decide +kernel
theorem dX9_lead_17 : decode cX9_lead 17 = .ok (.aload_n 0, 1) := by decide +kernel
theorem dX9_lead_18 : decode cX9_lead 18 = .ok (.iconst 0, 1) := by decide +kernel
theorem dX9_lead_19 : decode cX9_lead 19 = .ok (.iaload, 1) := by decide +kernel
theorem dX9_lead_20 : decode cX9_lead 20 = .ok (.ireturn, 1) := by decide +kernel
theorem dX9_slate_0 : decode cX9_slate 0 = .ok (.aload_n 0, 1) := by decide +kernel
theorem dX9_slate_1 : decode cX9_slate 1 = .ok (.iload_n 1, 1) := by decide +kernel
theorem dX9_slate_2 : decode cX9_slate 2 = .ok (.invokestatic 51, 3) := by decide +kernel
theorem dX9_slate_5 : decode cX9_slate 5 = .ok (.iconst 3, 1) := by decide +kernel
theorem dX9_slate_6 : decode cX9_slate 6 = .ok (.if_icmp .ne 7, 3) := by decide +kernel
theorem dX9_slate_9 : decode cX9_slate 9 = .ok (.iconst 1, 1) := by decide +kernel
theorem dX9_slate_10 : decode cX9_slate 10 = .ok (.goto 4, 3) := by decide +kernel
theorem dX9_slate_13 : decode cX9_slate 13 = .ok (.iconst 0, 1) := by decide +kernel
theorem dX9_slate_14 : decode cX9_slate 14 = .ok (.ireturn, 1) := by decide +kernel
theorem dX9_leastEnd_0 : decode cX9_leastEnd 0 = .ok (.aload_n 0, 1) := by decide +kernel
theorem dX9_leastEnd_1 : decode cX9_leastEnd 1 = .ok (.iload_n 1, 1) := by decide +kernel
theorem dX9_leastEnd_2 : decode cX9_leastEnd 2 = .ok (.invokestatic 51, 3) := by decide +kernel
theorem dX9_leastEnd_5 : decode cX9_leastEnd 5 = .ok (.iconst 5, 1) := by decide +kernel
theorem dX9_leastEnd_6 : decode cX9_leastEnd 6 = .ok (.if_icmp .ne 6, 3) := by decide +kernel
theorem dX9_leastEnd_9 : decode cX9_leastEnd 9 = .ok (.ldc 59, 2) := by decide +kernel
theorem dX9_leastEnd_11 : decode cX9_leastEnd 11 = .ok (.ireturn, 1) := by decide +kernel
theorem dX9_leastEnd_12 : decode cX9_leastEnd 12 = .ok (.aload_n 0, 1) := by decide +kernel
theorem dX9_leastEnd_13 : decode cX9_leastEnd 13 = .ok (.iload_n 1, 1) := by decide +kernel
theorem dX9_leastEnd_14 : decode cX9_leastEnd 14 = .ok (.invokestatic 51, 3) := by decide +kernel
theorem dX9_leastEnd_17 : decode cX9_leastEnd 17 = .ok (.iconst 2, 1) := by decide +kernel
theorem dX9_leastEnd_18 : decode cX9_leastEnd 18 = .ok (.if_icmp .ne 11, 3) := by decide +kernel
theorem dX9_leastEnd_21 : decode cX9_leastEnd 21 = .ok (.aload_n 0, 1) := by decide +kernel
theorem dX9_leastEnd_22 : decode cX9_leastEnd 22 = .ok (.iconst 1, 1) := by decide +kernel
theorem dX9_leastEnd_23 : decode cX9_leastEnd 23 = .ok (.iaload, 1) := by decide +kernel
theorem dX9_leastEnd_24 : decode cX9_leastEnd 24 = .ok (.iconst 2, 1) := by decide +kernel
theorem dX9_leastEnd_25 : decode cX9_leastEnd 25 = .ok (.idiv, 1) := by decide +kernel
theorem dX9_leastEnd_26 : decode cX9_leastEnd 26 = .ok (.goto 6, 3) := by decide +kernel
theorem dX9_leastEnd_29 : decode cX9_leastEnd 29 = .ok (.aload_n 0, 1) := by decide +kernel
theorem dX9_leastEnd_30 : decode cX9_leastEnd 30 = .ok (.iconst 1, 1) := by decide +kernel
theorem dX9_leastEnd_31 : decode cX9_leastEnd 31 = .ok (.iaload, 1) := by decide +kernel
theorem dX9_leastEnd_32 : decode cX9_leastEnd 32 = .ok (.istore_n 2, 1) := by decide +kernel
theorem dX9_leastEnd_33 : decode cX9_leastEnd 33 = .ok (.iload_n 2, 1) := by decide +kernel
theorem dX9_leastEnd_34 : decode cX9_leastEnd 34 = .ok (.iconst 1, 1) := by decide +kernel
theorem dX9_leastEnd_35 : decode cX9_leastEnd 35 = .ok (.if_icmp .ge 7, 3) := by decide +kernel
theorem dX9_leastEnd_38 : decode cX9_leastEnd 38 = .ok (.iconst 1, 1) := by decide +kernel
theorem dX9_leastEnd_39 : decode cX9_leastEnd 39 = .ok (.goto 4, 3) := by decide +kernel
theorem dX9_leastEnd_42 : decode cX9_leastEnd 42 = .ok (.iload_n 2, 1) := by decide +kernel
theorem dX9_leastEnd_43 : decode cX9_leastEnd 43 = .ok (.ireturn, 1) := by decide +kernel
theorem dX9_isKept_0 : decode cX9_isKept 0 = .ok (.aload_n 0, 1) := by decide +kernel
theorem dX9_isKept_1 : decode cX9_isKept 1 = .ok (.iload_n 1, 1) := by decide +kernel
theorem dX9_isKept_2 : decode cX9_isKept 2 = .ok (.invokestatic 60, 3) := by decide +kernel
theorem dX9_isKept_5 : decode cX9_isKept 5 = .ok (.ldc 59, 2) := by decide +kernel
theorem dX9_isKept_7 : decode cX9_isKept 7 = .ok (.if_icmp .eq 16, 3) := by decide +kernel
theorem dX9_isKept_10 : decode cX9_isKept 10 = .ok (.iload_n 2, 1) := by decide +kernel
theorem dX9_isKept_11 : decode cX9_isKept 11 = .ok (.aload_n 0, 1) := by decide +kernel
theorem dX9_isKept_12 : decode cX9_isKept 12 = .ok (.iload_n 1, 1) := by decide +kernel
theorem dX9_isKept_13 : decode cX9_isKept 13 = .ok (.invokestatic 60, 3) := by decide +kernel
theorem dX9_isKept_16 : decode cX9_isKept 16 = .ok (.if_icmp .lt 7, 3) := by decide +kernel
theorem dX9_isKept_19 : decode cX9_isKept 19 = .ok (.iconst 1, 1) := by decide +kernel
theorem dX9_isKept_20 : decode cX9_isKept 20 = .ok (.goto 4, 3) := by decide +kernel
theorem dX9_isKept_23 : decode cX9_isKept 23 = .ok (.iconst 0, 1) := by decide +kernel
theorem dX9_isKept_24 : decode cX9_isKept 24 = .ok (.ireturn, 1) := by decide +kernel
theorem dX9_isRoom_0 : decode cX9_isRoom 0 = .ok (.aload_n 0, 1) := by decide +kernel
theorem dX9_isRoom_1 : decode cX9_isRoom 1 = .ok (.iload_n 1, 1) := by decide +kernel
theorem dX9_isRoom_2 : decode cX9_isRoom 2 = .ok (.invokestatic 63, 3) := by decide +kernel
theorem dX9_isRoom_5 : decode cX9_isRoom 5 = .ok (.iconst 2, 1) := by decide +kernel
theorem dX9_isRoom_6 : decode cX9_isRoom 6 = .ok (.if_icmp .eq 7, 3) := by decide +kernel
theorem dX9_isRoom_9 : decode cX9_isRoom 9 = .ok (.iconst 1, 1) := by decide +kernel
theorem dX9_isRoom_10 : decode cX9_isRoom 10 = .ok (.goto 4, 3) := by decide +kernel
theorem dX9_isRoom_13 : decode cX9_isRoom 13 = .ok (.iconst 0, 1) := by decide +kernel
theorem dX9_isRoom_14 : decode cX9_isRoom 14 = .ok (.ireturn, 1) := by decide +kernel
theorem dX9_openOnes_0 : decode cX9_openOnes 0 = .ok (.iconst 0, 1) := by decide +kernel
theorem dX9_openOnes_1 : decode cX9_openOnes 1 = .ok (.istore_n 1, 1) := by decide +kernel
theorem dX9_openOnes_2 : decode cX9_openOnes 2 = .ok (.iconst 0, 1) := by decide +kernel
theorem dX9_openOnes_3 : decode cX9_openOnes 3 = .ok (.istore_n 2, 1) := by decide +kernel
theorem dX9_openOnes_4 : decode cX9_openOnes 4 = .ok (.iload_n 2, 1) := by decide +kernel
theorem dX9_openOnes_5 : decode cX9_openOnes 5 = .ok (.aload_n 0, 1) := by decide +kernel
theorem dX9_openOnes_6 : decode cX9_openOnes 6 = .ok (.iconst 5, 1) := by decide +kernel
theorem dX9_openOnes_7 : decode cX9_openOnes 7 = .ok (.iaload, 1) := by decide +kernel
theorem dX9_openOnes_8 : decode cX9_openOnes 8 = .ok (.if_icmp .ge 27, 3) := by decide +kernel
theorem dX9_openOnes_11 : decode cX9_openOnes 11 = .ok (.iload_n 1, 1) := by decide +kernel
theorem dX9_openOnes_12 : decode cX9_openOnes 12 = .ok (.aload_n 0, 1) := by decide +kernel
theorem dX9_openOnes_13 : decode cX9_openOnes 13 = .ok (.iload_n 2, 1) := by decide +kernel
theorem dX9_openOnes_14 : decode cX9_openOnes 14 = .ok (.invokestatic 66, 3) := by decide +kernel
theorem dX9_openOnes_17 : decode cX9_openOnes 17 = .ok (.ifCond .eq 9, 3) := by decide +kernel
theorem dX9_openOnes_20 : decode cX9_openOnes 20 = .ok (.iconst 1, 1) := by decide +kernel
theorem dX9_openOnes_21 : decode cX9_openOnes 21 = .ok (.iload_n 2, 1) := by decide +kernel
theorem dX9_openOnes_22 : decode cX9_openOnes 22 = .ok (.ishl, 1) := by decide +kernel
theorem dX9_openOnes_23 : decode cX9_openOnes 23 = .ok (.goto 4, 3) := by decide +kernel
theorem dX9_openOnes_26 : decode cX9_openOnes 26 = .ok (.iconst 0, 1) := by decide +kernel
theorem dX9_openOnes_27 : decode cX9_openOnes 27 = .ok (.ior, 1) := by decide +kernel
theorem dX9_openOnes_28 : decode cX9_openOnes 28 = .ok (.istore_n 1, 1) := by decide +kernel
theorem dX9_openOnes_29 : decode cX9_openOnes 29 = .ok (.iinc 2 1, 3) := by decide +kernel
theorem dX9_openOnes_32 : decode cX9_openOnes 32 = .ok (.goto (-28), 3) := by decide +kernel
theorem dX9_openOnes_35 : decode cX9_openOnes 35 = .ok (.iload_n 1, 1) := by decide +kernel
theorem dX9_openOnes_36 : decode cX9_openOnes 36 = .ok (.ireturn, 1) := by decide +kernel
theorem dX9_left_0 : decode cX9_left 0 = .ok (.aload_n 0, 1) := by decide +kernel
theorem dX9_left_1 : decode cX9_left 1 = .ok (.iload_n 1, 1) := by decide +kernel
theorem dX9_left_2 : decode cX9_left 2 = .ok (.invokestatic 70, 3) := by decide +kernel
theorem dX9_left_5 : decode cX9_left 5 = .ok (.iload_n 2, 1) := by decide +kernel
theorem dX9_left_6 : decode cX9_left 6 = .ok (.ifCond .eq 19, 3) := by decide +kernel
theorem dX9_left_9 : decode cX9_left 9 = .ok (.aload_n 0, 1) := by decide +kernel
theorem dX9_left_10 : decode cX9_left 10 = .ok (.iload_n 1, 1) := by decide +kernel
theorem dX9_left_11 : decode cX9_left 11 = .ok (.invokestatic 63, 3) := by decide +kernel
theorem dX9_left_14 : decode cX9_left 14 = .ok (.ifCond .ne 11, 3) := by decide +kernel
theorem dX9_left_17 : decode cX9_left 17 = .ok (.aload_n 0, 1) := by decide +kernel
theorem dX9_left_18 : decode cX9_left 18 = .ok (.iload_n 1, 1) := by decide +kernel
theorem dX9_left_19 : decode cX9_left 19 = .ok (.invokestatic 73, 3) := by decide +kernel
theorem dX9_left_22 : decode cX9_left 22 = .ok (.goto 4, 3) := by decide +kernel
theorem dX9_left_25 : decode cX9_left 25 = .ok (.iconst 0, 1) := by decide +kernel
theorem dX9_left_26 : decode cX9_left 26 = .ok (.isub, 1) := by decide +kernel
theorem dX9_left_27 : decode cX9_left 27 = .ok (.istore_n 3, 1) := by decide +kernel
theorem dX9_left_28 : decode cX9_left 28 = .ok (.iconst 1, 1) := by decide +kernel
theorem dX9_left_29 : decode cX9_left 29 = .ok (.istore 4, 2) := by decide +kernel
theorem dX9_left_31 : decode cX9_left 31 = .ok (.iconst 0, 1) := by decide +kernel
theorem dX9_left_32 : decode cX9_left 32 = .ok (.istore 5, 2) := by decide +kernel
theorem dX9_left_34 : decode cX9_left 34 = .ok (.iload 5, 2) := by decide +kernel
theorem dX9_left_36 : decode cX9_left 36 = .ok (.bipush 8, 2) := by decide +kernel
theorem dX9_left_38 : decode cX9_left 38 = .ok (.if_icmp .ge 60, 3) := by decide +kernel
theorem dX9_left_41 : decode cX9_left 41 = .ok (.iload_n 2, 1) := by decide +kernel
theorem dX9_left_42 : decode cX9_left 42 = .ok (.iload 5, 2) := by decide +kernel
theorem dX9_left_44 : decode cX9_left 44 = .ok (.invokestatic 76, 3) := by decide +kernel
theorem dX9_left_47 : decode cX9_left 47 = .ok (.ifCond .eq 45, 3) := by decide +kernel
theorem dX9_left_50 : decode cX9_left 50 = .ok (.iload 4, 2) := by decide +kernel
theorem dX9_left_52 : decode cX9_left 52 = .ok (.ifCond .eq 17, 3) := by decide +kernel
theorem dX9_left_55 : decode cX9_left 55 = .ok (.aload_n 0, 1) := by decide +kernel
theorem dX9_left_56 : decode cX9_left 56 = .ok (.iload_n 1, 1) := by decide +kernel
theorem dX9_left_57 : decode cX9_left 57 = .ok (.iload 5, 2) := by decide +kernel
theorem dX9_left_59 : decode cX9_left 59 = .ok (.invokestatic 79, 3) := by decide +kernel
theorem dX9_left_62 : decode cX9_left 62 = .ok (.ifCond .eq 7, 3) := by decide +kernel
theorem dX9_left_65 : decode cX9_left 65 = .ok (.iconst 1, 1) := by decide +kernel
theorem dX9_left_66 : decode cX9_left 66 = .ok (.goto 4, 3) := by decide +kernel
theorem dX9_left_69 : decode cX9_left 69 = .ok (.iconst 0, 1) := by decide +kernel
theorem dX9_left_70 : decode cX9_left 70 = .ok (.istore 4, 2) := by decide +kernel
theorem dX9_left_72 : decode cX9_left 72 = .ok (.iload_n 3, 1) := by decide +kernel
theorem dX9_left_73 : decode cX9_left 73 = .ok (.aload_n 0, 1) := by decide +kernel
theorem dX9_left_74 : decode cX9_left 74 = .ok (.bipush 41, 2) := by decide +kernel
theorem dX9_left_76 : decode cX9_left 76 = .ok (.iconst 3, 1) := by decide +kernel
theorem dX9_left_77 : decode cX9_left 77 = .ok (.iload 5, 2) := by decide +kernel
theorem dX9_left_79 : decode cX9_left 79 = .ok (.imul, 1) := by decide +kernel
theorem dX9_left_80 : decode cX9_left 80 = .ok (.iadd, 1) := by decide +kernel
theorem dX9_left_81 : decode cX9_left 81 = .ok (.iconst 1, 1) := by decide +kernel
theorem dX9_left_82 : decode cX9_left 82 = .ok (.iadd, 1) := by decide +kernel
theorem dX9_left_83 : decode cX9_left 83 = .ok (.iaload, 1) := by decide +kernel
theorem dX9_left_84 : decode cX9_left 84 = .ok (.aload_n 0, 1) := by decide +kernel
theorem dX9_left_85 : decode cX9_left 85 = .ok (.iload_n 1, 1) := by decide +kernel
theorem dX9_left_86 : decode cX9_left 86 = .ok (.invokestatic 83, 3) := by decide +kernel
theorem dX9_left_89 : decode cX9_left 89 = .ok (.iadd, 1) := by decide +kernel
theorem dX9_left_90 : decode cX9_left 90 = .ok (.isub, 1) := by decide +kernel
theorem dX9_left_91 : decode cX9_left 91 = .ok (.istore_n 3, 1) := by decide +kernel
theorem dX9_left_92 : decode cX9_left 92 = .ok (.iinc 5 1, 3) := by decide +kernel
theorem dX9_left_95 : decode cX9_left 95 = .ok (.goto (-61), 3) := by decide +kernel
theorem dX9_left_98 : decode cX9_left 98 = .ok (.iload 4, 2) := by decide +kernel
theorem dX9_left_100 : decode cX9_left 100 = .ok (.ifCond .eq 7, 3) := by decide +kernel
theorem dX9_left_103 : decode cX9_left 103 = .ok (.iload_n 3, 1) := by decide +kernel
theorem dX9_left_104 : decode cX9_left 104 = .ok (.goto 4, 3) := by decide +kernel
theorem dX9_left_107 : decode cX9_left 107 = .ok (.iconst (-1), 1) := by decide +kernel
theorem dX9_left_108 : decode cX9_left 108 = .ok (.ireturn, 1) := by decide +kernel
theorem dX9_ones_0 : decode cX9_ones 0 = .ok (.iconst 0, 1) := by decide +kernel
theorem dX9_ones_1 : decode cX9_ones 1 = .ok (.istore_n 1, 1) := by decide +kernel
theorem dX9_ones_2 : decode cX9_ones 2 = .ok (.iconst 0, 1) := by decide +kernel
theorem dX9_ones_3 : decode cX9_ones 3 = .ok (.istore_n 2, 1) := by decide +kernel
theorem dX9_ones_4 : decode cX9_ones 4 = .ok (.iload_n 2, 1) := by decide +kernel
theorem dX9_ones_5 : decode cX9_ones 5 = .ok (.bipush 8, 2) := by decide +kernel
theorem dX9_ones_7 : decode cX9_ones 7 = .ok (.if_icmp .ge 25, 3) := by decide +kernel
theorem dX9_ones_10 : decode cX9_ones 10 = .ok (.iload_n 1, 1) := by decide +kernel
theorem dX9_ones_11 : decode cX9_ones 11 = .ok (.iload_n 0, 1) := by decide +kernel
theorem dX9_ones_12 : decode cX9_ones 12 = .ok (.iload_n 2, 1) := by decide +kernel
theorem dX9_ones_13 : decode cX9_ones 13 = .ok (.invokestatic 76, 3) := by decide +kernel
theorem dX9_ones_16 : decode cX9_ones 16 = .ok (.ifCond .eq 7, 3) := by decide +kernel
theorem dX9_ones_19 : decode cX9_ones 19 = .ok (.iconst 1, 1) := by decide +kernel
theorem dX9_ones_20 : decode cX9_ones 20 = .ok (.goto 4, 3) := by decide +kernel
theorem dX9_ones_23 : decode cX9_ones 23 = .ok (.iconst 0, 1) := by decide +kernel
theorem dX9_ones_24 : decode cX9_ones 24 = .ok (.iadd, 1) := by decide +kernel
theorem dX9_ones_25 : decode cX9_ones 25 = .ok (.istore_n 1, 1) := by decide +kernel
theorem dX9_ones_26 : decode cX9_ones 26 = .ok (.iinc 2 1, 3) := by decide +kernel
theorem dX9_ones_29 : decode cX9_ones 29 = .ok (.goto (-25), 3) := by decide +kernel
theorem dX9_ones_32 : decode cX9_ones 32 = .ok (.iload_n 1, 1) := by decide +kernel
theorem dX9_ones_33 : decode cX9_ones 33 = .ok (.ireturn, 1) := by decide +kernel
theorem dX9_lossOf_0 : decode cX9_lossOf 0 = .ok (.iload_n 2, 1) := by decide +kernel
theorem dX9_lossOf_1 : decode cX9_lossOf 1 = .ok (.ifCond .ne 5, 3) := by decide +kernel
theorem dX9_lossOf_4 : decode cX9_lossOf 4 = .ok (.iconst 0, 1) := by decide +kernel
theorem dX9_lossOf_5 : decode cX9_lossOf 5 = .ok (.ireturn, 1) := by decide +kernel
theorem dX9_lossOf_6 : decode cX9_lossOf 6 = .ok (.aload_n 0, 1) := by decide +kernel
theorem dX9_lossOf_7 : decode cX9_lossOf 7 = .ok (.iload_n 1, 1) := by decide +kernel
theorem dX9_lossOf_8 : decode cX9_lossOf 8 = .ok (.iload_n 2, 1) := by decide +kernel
theorem dX9_lossOf_9 : decode cX9_lossOf 9 = .ok (.invokestatic 86, 3) := by decide +kernel
theorem dX9_lossOf_12 : decode cX9_lossOf 12 = .ok (.istore_n 3, 1) := by decide +kernel
theorem dX9_lossOf_13 : decode cX9_lossOf 13 = .ok (.aload_n 0, 1) := by decide +kernel
theorem dX9_lossOf_14 : decode cX9_lossOf 14 = .ok (.iload_n 1, 1) := by decide +kernel
theorem dX9_lossOf_15 : decode cX9_lossOf 15 = .ok (.invokestatic 63, 3) := by decide +kernel
theorem dX9_lossOf_18 : decode cX9_lossOf 18 = .ok (.ifCond .ne 11, 3) := by decide +kernel
theorem dX9_lossOf_21 : decode cX9_lossOf 21 = .ok (.aload_n 0, 1) := by decide +kernel
theorem dX9_lossOf_22 : decode cX9_lossOf 22 = .ok (.iload_n 1, 1) := by decide +kernel
theorem dX9_lossOf_23 : decode cX9_lossOf 23 = .ok (.invokestatic 73, 3) := by decide +kernel
theorem dX9_lossOf_26 : decode cX9_lossOf 26 = .ok (.goto 4, 3) := by decide +kernel
theorem dX9_lossOf_29 : decode cX9_lossOf 29 = .ok (.iconst 0, 1) := by decide +kernel
theorem dX9_lossOf_30 : decode cX9_lossOf 30 = .ok (.iload_n 2, 1) := by decide +kernel
theorem dX9_lossOf_31 : decode cX9_lossOf 31 = .ok (.invokestatic 90, 3) := by decide +kernel
theorem dX9_lossOf_34 : decode cX9_lossOf 34 = .ok (.aload_n 0, 1) := by decide +kernel
theorem dX9_lossOf_35 : decode cX9_lossOf 35 = .ok (.iload_n 1, 1) := by decide +kernel
theorem dX9_lossOf_36 : decode cX9_lossOf 36 = .ok (.invokestatic 83, 3) := by decide +kernel
theorem dX9_lossOf_39 : decode cX9_lossOf 39 = .ok (.imul, 1) := by decide +kernel
theorem dX9_lossOf_40 : decode cX9_lossOf 40 = .ok (.iadd, 1) := by decide +kernel
theorem dX9_lossOf_41 : decode cX9_lossOf 41 = .ok (.aload_n 0, 1) := by decide +kernel
theorem dX9_lossOf_42 : decode cX9_lossOf 42 = .ok (.iload_n 1, 1) := by decide +kernel
theorem dX9_lossOf_43 : decode cX9_lossOf 43 = .ok (.iload_n 3, 1) := by decide +kernel
theorem dX9_lossOf_44 : decode cX9_lossOf 44 = .ok (.invokestatic 94, 3) := by decide +kernel
theorem dX9_lossOf_47 : decode cX9_lossOf 47 = .ok (.ifCond .eq 7, 3) := by decide +kernel
theorem dX9_lossOf_50 : decode cX9_lossOf 50 = .ok (.iconst 0, 1) := by decide +kernel
theorem dX9_lossOf_51 : decode cX9_lossOf 51 = .ok (.goto 4, 3) := by decide +kernel
theorem dX9_lossOf_54 : decode cX9_lossOf 54 = .ok (.iload_n 3, 1) := by decide +kernel
theorem dX9_lossOf_55 : decode cX9_lossOf 55 = .ok (.iadd, 1) := by decide +kernel
theorem dX9_lossOf_56 : decode cX9_lossOf 56 = .ok (.ireturn, 1) := by decide +kernel
theorem dX9_byteAt_0 : decode cX9_byteAt 0 = .ok (.iload_n 1, 1) := by decide +kernel
theorem dX9_byteAt_1 : decode cX9_byteAt 1 = .ok (.aload_n 0, 1) := by decide +kernel
theorem dX9_byteAt_2 : decode cX9_byteAt 2 = .ok (.getfield 97, 3) := by decide +kernel
theorem dX9_byteAt_5 : decode cX9_byteAt 5 = .ok (.if_icmp .ge 12, 3) := by decide +kernel
theorem dX9_byteAt_8 : decode cX9_byteAt 8 = .ok (.aload_n 0, 1) := by decide +kernel
theorem dX9_byteAt_9 : decode cX9_byteAt 9 = .ok (.getfield 26, 3) := by decide +kernel
theorem dX9_byteAt_12 : decode cX9_byteAt 12 = .ok (.iload_n 1, 1) := by decide +kernel
theorem dX9_byteAt_13 : decode cX9_byteAt 13 = .ok (.iaload, 1) := by decide +kernel
theorem dX9_byteAt_14 : decode cX9_byteAt 14 = .ok (.goto 4, 3) := by decide +kernel
theorem dX9_byteAt_17 : decode cX9_byteAt 17 = .ok (.iconst (-1), 1) := by decide +kernel
theorem dX9_byteAt_18 : decode cX9_byteAt 18 = .ok (.ireturn, 1) := by decide +kernel
theorem dX9_next_0 : decode cX9_next 0 = .ok (.aload_n 0, 1) := by decide +kernel
theorem dX9_next_1 : decode cX9_next 1 = .ok (.aload_n 0, 1) := by decide +kernel
theorem dX9_next_2 : decode cX9_next 2 = .ok (.getfield 101, 3) := by decide +kernel
theorem dX9_next_5 : decode cX9_next 5 = .ok (.putfield 104, 3) := by decide +kernel
theorem dX9_next_8 : decode cX9_next 8 = .ok (.aload_n 0, 1) := by decide +kernel
theorem dX9_next_9 : decode cX9_next 9 = .ok (.aload_n 0, 1) := by decide +kernel
theorem dX9_next_10 : decode cX9_next 10 = .ok (.getfield 101, 3) := by decide +kernel
theorem dX9_next_13 : decode cX9_next 13 = .ok (.invokevirtual 107, 3) := by decide +kernel
theorem dX9_next_16 : decode cX9_next 16 = .ok (.istore_n 1, 1) := by decide +kernel
theorem dX9_next_17 : decode cX9_next 17 = .ok (.aload_n 0, 1) := by decide +kernel
theorem dX9_next_18 : decode cX9_next 18 = .ok (.iload_n 1, 1) := by decide +kernel
theorem dX9_next_19 : decode cX9_next 19 = .ok (.putfield 110, 3) := by decide +kernel
theorem dX9_next_22 : decode cX9_next 22 = .ok (.aload_n 0, 1) := by decide +kernel
theorem dX9_next_23 : decode cX9_next 23 = .ok (.dup, 1) := by decide +kernel
theorem dX9_next_24 : decode cX9_next 24 = .ok (.getfield 101, 3) := by decide +kernel
theorem dX9_next_27 : decode cX9_next 27 = .ok (.iload_n 1, 1) := by decide +kernel
theorem dX9_next_28 : decode cX9_next 28 = .ok (.ifCond .ge 7, 3) := by decide +kernel
theorem dX9_next_31 : decode cX9_next 31 = .ok (.iconst 0, 1) := by decide +kernel
theorem dX9_next_32 : decode cX9_next 32 = .ok (.goto 4, 3) := by decide +kernel
theorem dX9_next_35 : decode cX9_next 35 = .ok (.iconst 1, 1) := by decide +kernel
theorem dX9_next_36 : decode cX9_next 36 = .ok (.iadd, 1) := by decide +kernel
theorem dX9_next_37 : decode cX9_next 37 = .ok (.putfield 101, 3) := by decide +kernel
theorem dX9_next_40 : decode cX9_next 40 = .ok (.aload_n 0, 1) := by decide +kernel
theorem dX9_next_41 : decode cX9_next 41 = .ok (.iload_n 1, 1) := by decide +kernel
theorem dX9_next_42 : decode cX9_next 42 = .ok (.ifCond .ge 7, 3) := by decide +kernel
theorem dX9_next_45 : decode cX9_next 45 = .ok (.iconst 0, 1) := by decide +kernel
theorem dX9_next_46 : decode cX9_next 46 = .ok (.goto 56, 3) := by decide +kernel
theorem dX9_next_49 : decode cX9_next 49 = .ok (.iload_n 1, 1) := by decide +kernel
theorem dX9_next_50 : decode cX9_next 50 = .ok (.i2l, 1) := by decide +kernel
theorem dX9_next_51 : decode cX9_next 51 = .ok (.ldc2_w 113, 3) := by decide +kernel
theorem dX9_next_54 : decode cX9_next 54 = .ok (.ldc2_w 115, 3) := by decide +kernel
theorem dX9_next_57 : decode cX9_next 57 = .ok (.invokestatic 47, 3) := by decide +kernel
theorem dX9_next_60 : decode cX9_next 60 = .ok (.ifCond .eq 7, 3) := by decide +kernel
theorem dX9_next_63 : decode cX9_next 63 = .ok (.iconst 1, 1) := by decide +kernel
theorem dX9_next_64 : decode cX9_next 64 = .ok (.goto 38, 3) := by decide +kernel
theorem dX9_next_67 : decode cX9_next 67 = .ok (.iload_n 1, 1) := by decide +kernel
theorem dX9_next_68 : decode cX9_next 68 = .ok (.i2l, 1) := by decide +kernel
theorem dX9_next_69 : decode cX9_next 69 = .ok (.ldc2_w 117, 3) := by decide +kernel
theorem dX9_next_72 : decode cX9_next 72 = .ok (.ldc2_w 119, 3) := by decide +kernel
theorem dX9_next_75 : decode cX9_next 75 = .ok (.invokestatic 47, 3) := by decide +kernel
theorem dX9_next_78 : decode cX9_next 78 = .ok (.ifCond .eq 7, 3) := by decide +kernel
theorem dX9_next_81 : decode cX9_next 81 = .ok (.iconst 2, 1) := by decide +kernel
theorem dX9_next_82 : decode cX9_next 82 = .ok (.goto 20, 3) := by decide +kernel
theorem dX9_next_85 : decode cX9_next 85 = .ok (.iload_n 1, 1) := by decide +kernel
theorem dX9_next_86 : decode cX9_next 86 = .ok (.bipush 44, 2) := by decide +kernel
theorem dX9_next_88 : decode cX9_next 88 = .ok (.if_icmp .eq 9, 3) := by decide +kernel
theorem dX9_next_91 : decode cX9_next 91 = .ok (.iload_n 1, 1) := by decide +kernel
theorem dX9_next_92 : decode cX9_next 92 = .ok (.bipush 59, 2) := by decide +kernel
theorem dX9_next_94 : decode cX9_next 94 = .ok (.if_icmp .ne 7, 3) := by decide +kernel
theorem dX9_next_97 : decode cX9_next 97 = .ok (.iconst 3, 1) := by decide +kernel
theorem dX9_next_98 : decode cX9_next 98 = .ok (.goto 4, 3) := by decide +kernel
theorem dX9_next_101 : decode cX9_next 101 = .ok (.iconst 4, 1) := by decide +kernel
theorem dX9_next_102 : decode cX9_next 102 = .ok (.putfield 121, 3) := by decide +kernel
theorem dX9_next_105 : decode cX9_next 105 = .ok (.aload_n 0, 1) := by decide +kernel
theorem dX9_next_106 : decode cX9_next 106 = .ok (.getfield 121, 3) := by decide +kernel
theorem dX9_next_109 : decode cX9_next 109 = .ok (.iconst 2, 1) := by decide +kernel
theorem dX9_next_110 : decode cX9_next 110 = .ok (.if_icmp .ne 110, 3) := by decide +kernel
theorem dX9_next_113 : decode cX9_next 113 = .ok (.aload_n 0, 1) := by decide +kernel
theorem dX9_next_114 : decode cX9_next 114 = .ok (.iload_n 1, 1) := by decide +kernel
theorem dX9_next_115 : decode cX9_next 115 = .ok (.bipush 48, 2) := by decide +kernel
theorem dX9_next_117 : decode cX9_next 117 = .ok (.isub, 1) := by decide +kernel
theorem dX9_next_118 : decode cX9_next 118 = .ok (.putfield 110, 3) := by decide +kernel
theorem dX9_next_121 : decode cX9_next 121 = .ok (.aload_n 0, 1) := by decide +kernel
theorem dX9_next_122 : decode cX9_next 122 = .ok (.aload_n 0, 1) := by decide +kernel
theorem dX9_next_123 : decode cX9_next 123 = .ok (.getfield 101, 3) := by decide +kernel
theorem dX9_next_126 : decode cX9_next 126 = .ok (.invokevirtual 107, 3) := by decide +kernel
theorem dX9_next_129 : decode cX9_next 129 = .ok (.i2l, 1) := by decide +kernel
theorem dX9_next_130 : decode cX9_next 130 = .ok (.ldc2_w 117, 3) := by decide +kernel
theorem dX9_next_133 : decode cX9_next 133 = .ok (.ldc2_w 119, 3) := by decide +kernel
theorem dX9_next_136 : decode cX9_next 136 = .ok (.invokestatic 47, 3) := by decide +kernel
theorem dX9_next_139 : decode cX9_next 139 = .ok (.ifCond .eq 59, 3) := by decide +kernel
theorem dX9_next_142 : decode cX9_next 142 = .ok (.aload_n 0, 1) := by decide +kernel
theorem dX9_next_143 : decode cX9_next 143 = .ok (.aload_n 0, 1) := by decide +kernel
theorem dX9_next_144 : decode cX9_next 144 = .ok (.getfield 101, 3) := by decide +kernel
theorem dX9_next_147 : decode cX9_next 147 = .ok (.aload_n 0, 1) := by decide +kernel
theorem dX9_next_148 : decode cX9_next 148 = .ok (.getfield 104, 3) := by decide +kernel
theorem dX9_next_151 : decode cX9_next 151 = .ok (.isub, 1) := by decide +kernel
theorem dX9_next_152 : decode cX9_next 152 = .ok (.iconst 2, 1) := by decide +kernel
theorem dX9_next_153 : decode cX9_next 153 = .ok (.if_icmp .ge 25, 3) := by decide +kernel
theorem dX9_next_156 : decode cX9_next 156 = .ok (.bipush 10, 2) := by decide +kernel
theorem dX9_next_158 : decode cX9_next 158 = .ok (.aload_n 0, 1) := by decide +kernel
theorem dX9_next_159 : decode cX9_next 159 = .ok (.getfield 110, 3) := by decide +kernel
theorem dX9_next_162 : decode cX9_next 162 = .ok (.imul, 1) := by decide +kernel
theorem dX9_next_163 : decode cX9_next 163 = .ok (.aload_n 0, 1) := by decide +kernel
theorem dX9_next_164 : decode cX9_next 164 = .ok (.aload_n 0, 1) := by decide +kernel
theorem dX9_next_165 : decode cX9_next 165 = .ok (.getfield 101, 3) := by decide +kernel
theorem dX9_next_168 : decode cX9_next 168 = .ok (.invokevirtual 107, 3) := by decide +kernel
theorem dX9_next_171 : decode cX9_next 171 = .ok (.iadd, 1) := by decide +kernel
theorem dX9_next_172 : decode cX9_next 172 = .ok (.bipush 48, 2) := by decide +kernel
theorem dX9_next_174 : decode cX9_next 174 = .ok (.isub, 1) := by decide +kernel
theorem dX9_next_175 : decode cX9_next 175 = .ok (.goto 7, 3) := by decide +kernel
theorem dX9_next_178 : decode cX9_next 178 = .ok (.aload_n 0, 1) := by decide +kernel
theorem dX9_next_179 : decode cX9_next 179 = .ok (.getfield 110, 3) := by decide +kernel
theorem dX9_next_182 : decode cX9_next 182 = .ok (.putfield 110, 3) := by decide +kernel
theorem dX9_next_185 : decode cX9_next 185 = .ok (.aload_n 0, 1) := by decide +kernel
theorem dX9_next_186 : decode cX9_next 186 = .ok (.dup, 1) := by decide +kernel
theorem dX9_next_187 : decode cX9_next 187 = .ok (.getfield 101, 3) := by decide +kernel
theorem dX9_next_190 : decode cX9_next 190 = .ok (.iconst 1, 1) := by decide +kernel
theorem dX9_next_191 : decode cX9_next 191 = .ok (.iadd, 1) := by decide +kernel
theorem dX9_next_192 : decode cX9_next 192 = .ok (.putfield 101, 3) := by decide +kernel
theorem dX9_next_195 : decode cX9_next 195 = .ok (.goto (-74), 3) := by decide +kernel
theorem dX9_next_198 : decode cX9_next 198 = .ok (.aload_n 0, 1) := by decide +kernel
theorem dX9_next_199 : decode cX9_next 199 = .ok (.aload_n 0, 1) := by decide +kernel
theorem dX9_next_200 : decode cX9_next 200 = .ok (.getfield 101, 3) := by decide +kernel
theorem dX9_next_203 : decode cX9_next 203 = .ok (.aload_n 0, 1) := by decide +kernel
theorem dX9_next_204 : decode cX9_next 204 = .ok (.getfield 104, 3) := by decide +kernel
theorem dX9_next_207 : decode cX9_next 207 = .ok (.isub, 1) := by decide +kernel
theorem dX9_next_208 : decode cX9_next 208 = .ok (.iconst 2, 1) := by decide +kernel
theorem dX9_next_209 : decode cX9_next 209 = .ok (.if_icmp .le 7, 3) := by decide +kernel
theorem dX9_next_212 : decode cX9_next 212 = .ok (.iconst 4, 1) := by decide +kernel
theorem dX9_next_213 : decode cX9_next 213 = .ok (.goto 4, 3) := by decide +kernel
theorem dX9_next_216 : decode cX9_next 216 = .ok (.iconst 2, 1) := by decide +kernel
theorem dX9_next_217 : decode cX9_next 217 = .ok (.putfield 121, 3) := by decide +kernel
theorem dX9_next_220 : decode cX9_next 220 = .ok (.return_, 1) := by decide +kernel
theorem dX9_bad_0 : decode cX9_bad 0 = .ok (.aload_n 0, 1) := by decide +kernel
theorem dX9_bad_1 : decode cX9_bad 1 = .ok (.getfield 124, 3) := by decide +kernel
theorem dX9_bad_4 : decode cX9_bad 4 = .ok (.ifCond .ne 16, 3) := by decide +kernel
theorem dX9_bad_7 : decode cX9_bad 7 = .ok (.aload_n 0, 1) := by decide +kernel
theorem dX9_bad_8 : decode cX9_bad 8 = .ok (.iload_n 1, 1) := by decide +kernel
theorem dX9_bad_9 : decode cX9_bad 9 = .ok (.putfield 124, 3) := by decide +kernel
theorem dX9_bad_12 : decode cX9_bad 12 = .ok (.aload_n 0, 1) := by decide +kernel
theorem dX9_bad_13 : decode cX9_bad 13 = .ok (.aload_n 0, 1) := by decide +kernel
theorem dX9_bad_14 : decode cX9_bad 14 = .ok (.getfield 104, 3) := by decide +kernel
theorem dX9_bad_17 : decode cX9_bad 17 = .ok (.putfield 127, 3) := by decide +kernel
theorem dX9_bad_20 : decode cX9_bad 20 = .ok (.return_, 1) := by decide +kernel
theorem dX9_goesOn_0 : decode cX9_goesOn 0 = .ok (.aload_n 0, 1) := by decide +kernel
theorem dX9_goesOn_1 : decode cX9_goesOn 1 = .ok (.getfield 124, 3) := by decide +kernel
theorem dX9_goesOn_4 : decode cX9_goesOn 4 = .ok (.ifCond .ne 7, 3) := by decide +kernel
theorem dX9_goesOn_7 : decode cX9_goesOn 7 = .ok (.aload_n 0, 1) := by decide +kernel
theorem dX9_goesOn_8 : decode cX9_goesOn 8 = .ok (.invokevirtual 130, 3) := by decide +kernel
theorem dX9_goesOn_11 : decode cX9_goesOn 11 = .ok (.return_, 1) := by decide +kernel
theorem dX9_number_0 : decode cX9_number 0 = .ok (.aload_n 0, 1) := by decide +kernel
theorem dX9_number_1 : decode cX9_number 1 = .ok (.getfield 121, 3) := by decide +kernel
theorem dX9_number_4 : decode cX9_number 4 = .ok (.iconst 2, 1) := by decide +kernel
theorem dX9_number_5 : decode cX9_number 5 = .ok (.if_icmp .eq 11, 3) := by decide +kernel
theorem dX9_number_8 : decode cX9_number 8 = .ok (.aload_n 0, 1) := by decide +kernel
theorem dX9_number_9 : decode cX9_number 9 = .ok (.iconst 1, 1) := by decide +kernel
theorem dX9_number_10 : decode cX9_number 10 = .ok (.invokevirtual 133, 3) := by decide +kernel
theorem dX9_number_13 : decode cX9_number 13 = .ok (.goto 23, 3) := by decide +kernel
theorem dX9_number_16 : decode cX9_number 16 = .ok (.aload_n 0, 1) := by decide +kernel
theorem dX9_number_17 : decode cX9_number 17 = .ok (.getfield 110, 3) := by decide +kernel
theorem dX9_number_20 : decode cX9_number 20 = .ok (.i2l, 1) := by decide +kernel
theorem dX9_number_21 : decode cX9_number 21 = .ok (.iload_n 1, 1) := by decide +kernel
theorem dX9_number_22 : decode cX9_number 22 = .ok (.i2l, 1) := by decide +kernel
theorem dX9_number_23 : decode cX9_number 23 = .ok (.iload_n 2, 1) := by decide +kernel
theorem dX9_number_24 : decode cX9_number 24 = .ok (.i2l, 1) := by decide +kernel
theorem dX9_number_25 : decode cX9_number 25 = .ok (.invokestatic 47, 3) := by decide +kernel
theorem dX9_number_28 : decode cX9_number 28 = .ok (.ifCond .ne 8, 3) := by decide +kernel
theorem dX9_number_31 : decode cX9_number 31 = .ok (.aload_n 0, 1) := by decide +kernel
theorem dX9_number_32 : decode cX9_number 32 = .ok (.iconst 2, 1) := by decide +kernel
theorem dX9_number_33 : decode cX9_number 33 = .ok (.invokevirtual 133, 3) := by decide +kernel
theorem dX9_number_36 : decode cX9_number 36 = .ok (.aload_n 0, 1) := by decide +kernel
theorem dX9_number_37 : decode cX9_number 37 = .ok (.getfield 124, 3) := by decide +kernel
theorem dX9_number_40 : decode cX9_number 40 = .ok (.ifCond .ne 10, 3) := by decide +kernel
theorem dX9_number_43 : decode cX9_number 43 = .ok (.aload_n 0, 1) := by decide +kernel
theorem dX9_number_44 : decode cX9_number 44 = .ok (.getfield 110, 3) := by decide +kernel
theorem dX9_number_47 : decode cX9_number 47 = .ok (.goto 4, 3) := by decide +kernel
theorem dX9_number_50 : decode cX9_number 50 = .ok (.iload_n 1, 1) := by decide +kernel
theorem dX9_number_51 : decode cX9_number 51 = .ok (.istore_n 3, 1) := by decide +kernel
theorem dX9_number_52 : decode cX9_number 52 = .ok (.aload_n 0, 1) := by decide +kernel
theorem dX9_number_53 : decode cX9_number 53 = .ok (.invokevirtual 137, 3) := by decide +kernel
theorem dX9_number_56 : decode cX9_number 56 = .ok (.iload_n 3, 1) := by decide +kernel
theorem dX9_number_57 : decode cX9_number 57 = .ok (.ireturn, 1) := by decide +kernel
theorem dX9_sign_0 : decode cX9_sign 0 = .ok (.aload_n 0, 1) := by decide +kernel
theorem dX9_sign_1 : decode cX9_sign 1 = .ok (.getfield 121, 3) := by decide +kernel
theorem dX9_sign_4 : decode cX9_sign 4 = .ok (.iconst 3, 1) := by decide +kernel
theorem dX9_sign_5 : decode cX9_sign 5 = .ok (.if_icmp .ne 11, 3) := by decide +kernel
theorem dX9_sign_8 : decode cX9_sign 8 = .ok (.aload_n 0, 1) := by decide +kernel
theorem dX9_sign_9 : decode cX9_sign 9 = .ok (.getfield 110, 3) := by decide +kernel
theorem dX9_sign_12 : decode cX9_sign 12 = .ok (.iload_n 1, 1) := by decide +kernel
theorem dX9_sign_13 : decode cX9_sign 13 = .ok (.if_icmp .eq 8, 3) := by decide +kernel
theorem dX9_sign_16 : decode cX9_sign 16 = .ok (.aload_n 0, 1) := by decide +kernel
theorem dX9_sign_17 : decode cX9_sign 17 = .ok (.iconst 1, 1) := by decide +kernel
theorem dX9_sign_18 : decode cX9_sign 18 = .ok (.invokevirtual 133, 3) := by decide +kernel
theorem dX9_sign_21 : decode cX9_sign 21 = .ok (.aload_n 0, 1) := by decide +kernel
theorem dX9_sign_22 : decode cX9_sign 22 = .ok (.invokevirtual 137, 3) := by decide +kernel
theorem dX9_sign_25 : decode cX9_sign 25 = .ok (.return_, 1) := by decide +kernel
theorem dX9_letter_0 : decode cX9_letter 0 = .ok (.aload_n 0, 1) := by decide +kernel
theorem dX9_letter_1 : decode cX9_letter 1 = .ok (.getfield 121, 3) := by decide +kernel
theorem dX9_letter_4 : decode cX9_letter 4 = .ok (.iconst 1, 1) := by decide +kernel
theorem dX9_letter_5 : decode cX9_letter 5 = .ok (.if_icmp .ne 11, 3) := by decide +kernel
theorem dX9_letter_8 : decode cX9_letter 8 = .ok (.aload_n 0, 1) := by decide +kernel
theorem dX9_letter_9 : decode cX9_letter 9 = .ok (.getfield 110, 3) := by decide +kernel
theorem dX9_letter_12 : decode cX9_letter 12 = .ok (.iload_n 1, 1) := by decide +kernel
theorem dX9_letter_13 : decode cX9_letter 13 = .ok (.if_icmp .eq 8, 3) := by decide +kernel
theorem dX9_letter_16 : decode cX9_letter 16 = .ok (.aload_n 0, 1) := by decide +kernel
theorem dX9_letter_17 : decode cX9_letter 17 = .ok (.iconst 1, 1) := by decide +kernel
theorem dX9_letter_18 : decode cX9_letter 18 = .ok (.invokevirtual 133, 3) := by decide +kernel
theorem dX9_letter_21 : decode cX9_letter 21 = .ok (.aload_n 0, 1) := by decide +kernel
theorem dX9_letter_22 : decode cX9_letter 22 = .ok (.invokevirtual 137, 3) := by decide +kernel
theorem dX9_letter_25 : decode cX9_letter 25 = .ok (.return_, 1) := by decide +kernel
theorem dX9_kindOf_0 : decode cX9_kindOf 0 = .ok (.iload_n 0, 1) := by decide +kernel
theorem dX9_kindOf_1 : decode cX9_kindOf 1 = .ok (.bipush 110, 2) := by decide +kernel
theorem dX9_kindOf_3 : decode cX9_kindOf 3 = .ok (.if_icmp .ne 7, 3) := by decide +kernel
theorem dX9_kindOf_6 : decode cX9_kindOf 6 = .ok (.iconst 1, 1) := by decide +kernel
theorem dX9_kindOf_7 : decode cX9_kindOf 7 = .ok (.goto 44, 3) := by decide +kernel
theorem dX9_kindOf_10 : decode cX9_kindOf 10 = .ok (.iload_n 0, 1) := by decide +kernel
theorem dX9_kindOf_11 : decode cX9_kindOf 11 = .ok (.bipush 102, 2) := by decide +kernel
theorem dX9_kindOf_13 : decode cX9_kindOf 13 = .ok (.if_icmp .ne 7, 3) := by decide +kernel
theorem dX9_kindOf_16 : decode cX9_kindOf 16 = .ok (.iconst 2, 1) := by decide +kernel
theorem dX9_kindOf_17 : decode cX9_kindOf 17 = .ok (.goto 34, 3) := by decide +kernel
theorem dX9_kindOf_20 : decode cX9_kindOf 20 = .ok (.iload_n 0, 1) := by decide +kernel
theorem dX9_kindOf_21 : decode cX9_kindOf 21 = .ok (.bipush 103, 2) := by decide +kernel
theorem dX9_kindOf_23 : decode cX9_kindOf 23 = .ok (.if_icmp .ne 7, 3) := by decide +kernel
theorem dX9_kindOf_26 : decode cX9_kindOf 26 = .ok (.iconst 3, 1) := by decide +kernel
theorem dX9_kindOf_27 : decode cX9_kindOf 27 = .ok (.goto 24, 3) := by decide +kernel
theorem dX9_kindOf_30 : decode cX9_kindOf 30 = .ok (.iload_n 0, 1) := by decide +kernel
theorem dX9_kindOf_31 : decode cX9_kindOf 31 = .ok (.bipush 114, 2) := by decide +kernel
theorem dX9_kindOf_33 : decode cX9_kindOf 33 = .ok (.if_icmp .ne 7, 3) := by decide +kernel
theorem dX9_kindOf_36 : decode cX9_kindOf 36 = .ok (.iconst 4, 1) := by decide +kernel
theorem dX9_kindOf_37 : decode cX9_kindOf 37 = .ok (.goto 14, 3) := by decide +kernel
theorem dX9_kindOf_40 : decode cX9_kindOf 40 = .ok (.iload_n 0, 1) := by decide +kernel
theorem dX9_kindOf_41 : decode cX9_kindOf 41 = .ok (.bipush 115, 2) := by decide +kernel
theorem dX9_kindOf_43 : decode cX9_kindOf 43 = .ok (.if_icmp .ne 7, 3) := by decide +kernel
theorem dX9_kindOf_46 : decode cX9_kindOf 46 = .ok (.iconst 5, 1) := by decide +kernel
theorem dX9_kindOf_47 : decode cX9_kindOf 47 = .ok (.goto 4, 3) := by decide +kernel
theorem dX9_kindOf_50 : decode cX9_kindOf 50 = .ok (.iconst 0, 1) := by decide +kernel
theorem dX9_kindOf_51 : decode cX9_kindOf 51 = .ok (.ireturn, 1) := by decide +kernel
theorem dX9_isCanTold_0 : decode cX9_isCanTold 0 = .ok (.aload_n 0, 1) := by decide +kernel
theorem dX9_isCanTold_1 : decode cX9_isCanTold 1 = .ok (.getfield 124, 3) := by decide +kernel
theorem dX9_isCanTold_4 : decode cX9_isCanTold 4 = .ok (.ifCond .ne 25, 3) := by decide +kernel
theorem dX9_isCanTold_7 : decode cX9_isCanTold 7 = .ok (.aload_n 0, 1) := by decide +kernel
theorem dX9_isCanTold_8 : decode cX9_isCanTold 8 = .ok (.getfield 121, 3) := by decide +kernel
theorem dX9_isCanTold_11 : decode cX9_isCanTold 11 = .ok (.iconst 1, 1) := by decide +kernel
theorem dX9_isCanTold_12 : decode cX9_isCanTold 12 = .ok (.if_icmp .ne 17, 3) := by decide +kernel
theorem dX9_isCanTold_15 : decode cX9_isCanTold 15 = .ok (.aload_n 0, 1) := by decide +kernel
theorem dX9_isCanTold_16 : decode cX9_isCanTold 16 = .ok (.getfield 110, 3) := by decide +kernel
theorem dX9_isCanTold_19 : decode cX9_isCanTold 19 = .ok (.invokestatic 140, 3) := by decide +kernel
theorem dX9_isCanTold_22 : decode cX9_isCanTold 22 = .ok (.ifCond .le 7, 3) := by decide +kernel
theorem dX9_isCanTold_25 : decode cX9_isCanTold 25 = .ok (.iconst 1, 1) := by decide +kernel
theorem dX9_isCanTold_26 : decode cX9_isCanTold 26 = .ok (.goto 4, 3) := by decide +kernel
theorem dX9_isCanTold_29 : decode cX9_isCanTold 29 = .ok (.iconst 0, 1) := by decide +kernel
theorem dX9_isCanTold_30 : decode cX9_isCanTold 30 = .ok (.ireturn, 1) := by decide +kernel
theorem dX9_readsCan_0 : decode cX9_readsCan 0 = .ok (.aload_n 0, 1) := by decide +kernel
theorem dX9_readsCan_1 : decode cX9_readsCan 1 = .ok (.getfield 110, 3) := by decide +kernel
theorem dX9_readsCan_4 : decode cX9_readsCan 4 = .ok (.invokestatic 140, 3) := by decide +kernel
theorem dX9_readsCan_7 : decode cX9_readsCan 7 = .ok (.istore_n 1, 1) := by decide +kernel
theorem dX9_readsCan_8 : decode cX9_readsCan 8 = .ok (.aload_n 0, 1) := by decide +kernel
theorem dX9_readsCan_9 : decode cX9_readsCan 9 = .ok (.getfield 13, 3) := by decide +kernel
theorem dX9_readsCan_12 : decode cX9_readsCan 12 = .ok (.iconst 4, 1) := by decide +kernel
theorem dX9_readsCan_13 : decode cX9_readsCan 13 = .ok (.iaload, 1) := by decide +kernel
theorem dX9_readsCan_14 : decode cX9_readsCan 14 = .ok (.bipush 6, 2) := by decide +kernel
theorem dX9_readsCan_16 : decode cX9_readsCan 16 = .ok (.if_icmp .ne 8, 3) := by decide +kernel
theorem dX9_readsCan_19 : decode cX9_readsCan 19 = .ok (.aload_n 0, 1) := by decide +kernel
theorem dX9_readsCan_20 : decode cX9_readsCan 20 = .ok (.iconst 3, 1) := by decide +kernel
theorem dX9_readsCan_21 : decode cX9_readsCan 21 = .ok (.invokevirtual 133, 3) := by decide +kernel
theorem dX9_readsCan_24 : decode cX9_readsCan 24 = .ok (.aload_n 0, 1) := by decide +kernel
theorem dX9_readsCan_25 : decode cX9_readsCan 25 = .ok (.invokevirtual 137, 3) := by decide +kernel
theorem dX9_readsCan_28 : decode cX9_readsCan 28 = .ok (.aload_n 0, 1) := by decide +kernel
theorem dX9_readsCan_29 : decode cX9_readsCan 29 = .ok (.iconst 1, 1) := by decide +kernel
theorem dX9_readsCan_30 : decode cX9_readsCan 30 = .ok (.bipush 99, 2) := by decide +kernel
theorem dX9_readsCan_32 : decode cX9_readsCan 32 = .ok (.invokevirtual 143, 3) := by decide +kernel
theorem dX9_readsCan_35 : decode cX9_readsCan 35 = .ok (.istore_n 2, 1) := by decide +kernel
theorem dX9_readsCan_36 : decode cX9_readsCan 36 = .ok (.aload_n 0, 1) := by decide +kernel
theorem dX9_readsCan_37 : decode cX9_readsCan 37 = .ok (.bipush 59, 2) := by decide +kernel
theorem dX9_readsCan_39 : decode cX9_readsCan 39 = .ok (.invokevirtual 147, 3) := by decide +kernel
theorem dX9_readsCan_42 : decode cX9_readsCan 42 = .ok (.aload_n 0, 1) := by decide +kernel
theorem dX9_readsCan_43 : decode cX9_readsCan 43 = .ok (.getfield 124, 3) := by decide +kernel
theorem dX9_readsCan_46 : decode cX9_readsCan 46 = .ok (.ifCond .ne 12, 3) := by decide +kernel
theorem dX9_readsCan_49 : decode cX9_readsCan 49 = .ok (.aload_n 0, 1) := by decide +kernel
theorem dX9_readsCan_50 : decode cX9_readsCan 50 = .ok (.getfield 13, 3) := by decide +kernel
theorem dX9_readsCan_53 : decode cX9_readsCan 53 = .ok (.iload_n 1, 1) := by decide +kernel
theorem dX9_readsCan_54 : decode cX9_readsCan 54 = .ok (.iload_n 2, 1) := by decide +kernel
theorem dX9_readsCan_55 : decode cX9_readsCan 55 = .ok (.invokestatic 150, 3) := by decide +kernel
theorem dX9_readsCan_58 : decode cX9_readsCan 58 = .ok (.return_, 1) := by decide +kernel
theorem dX9_readsTake_0 : decode cX9_readsTake 0 = .ok (.aload_n 0, 1) := by decide +kernel
theorem dX9_readsTake_1 : decode cX9_readsTake 1 = .ok (.getfield 13, 3) := by decide +kernel
theorem dX9_readsTake_4 : decode cX9_readsTake 4 = .ok (.iconst 5, 1) := by decide +kernel
theorem dX9_readsTake_5 : decode cX9_readsTake 5 = .ok (.iaload, 1) := by decide +kernel
theorem dX9_readsTake_6 : decode cX9_readsTake 6 = .ok (.bipush 8, 2) := by decide +kernel
theorem dX9_readsTake_8 : decode cX9_readsTake 8 = .ok (.if_icmp .ne 8, 3) := by decide +kernel
theorem dX9_readsTake_11 : decode cX9_readsTake 11 = .ok (.aload_n 0, 1) := by decide +kernel
theorem dX9_readsTake_12 : decode cX9_readsTake 12 = .ok (.iconst 3, 1) := by decide +kernel
theorem dX9_readsTake_13 : decode cX9_readsTake 13 = .ok (.invokevirtual 133, 3) := by decide +kernel
theorem dX9_readsTake_16 : decode cX9_readsTake 16 = .ok (.aload_n 0, 1) := by decide +kernel
theorem dX9_readsTake_17 : decode cX9_readsTake 17 = .ok (.invokevirtual 137, 3) := by decide +kernel
theorem dX9_readsTake_20 : decode cX9_readsTake 20 = .ok (.aload_n 0, 1) := by decide +kernel
theorem dX9_readsTake_21 : decode cX9_readsTake 21 = .ok (.iconst 0, 1) := by decide +kernel
theorem dX9_readsTake_22 : decode cX9_readsTake 22 = .ok (.iconst 5, 1) := by decide +kernel
theorem dX9_readsTake_23 : decode cX9_readsTake 23 = .ok (.invokevirtual 143, 3) := by decide +kernel
theorem dX9_readsTake_26 : decode cX9_readsTake 26 = .ok (.istore_n 1, 1) := by decide +kernel
theorem dX9_readsTake_27 : decode cX9_readsTake 27 = .ok (.aload_n 0, 1) := by decide +kernel
theorem dX9_readsTake_28 : decode cX9_readsTake 28 = .ok (.bipush 44, 2) := by decide +kernel
theorem dX9_readsTake_30 : decode cX9_readsTake 30 = .ok (.invokevirtual 147, 3) := by decide +kernel
theorem dX9_readsTake_33 : decode cX9_readsTake 33 = .ok (.aload_n 0, 1) := by decide +kernel
theorem dX9_readsTake_34 : decode cX9_readsTake 34 = .ok (.iconst 1, 1) := by decide +kernel
theorem dX9_readsTake_35 : decode cX9_readsTake 35 = .ok (.bipush 60, 2) := by decide +kernel
theorem dX9_readsTake_37 : decode cX9_readsTake 37 = .ok (.invokevirtual 143, 3) := by decide +kernel
theorem dX9_readsTake_40 : decode cX9_readsTake 40 = .ok (.istore_n 2, 1) := by decide +kernel
theorem dX9_readsTake_41 : decode cX9_readsTake 41 = .ok (.aload_n 0, 1) := by decide +kernel
theorem dX9_readsTake_42 : decode cX9_readsTake 42 = .ok (.bipush 59, 2) := by decide +kernel
theorem dX9_readsTake_44 : decode cX9_readsTake 44 = .ok (.invokevirtual 147, 3) := by decide +kernel
theorem dX9_readsTake_47 : decode cX9_readsTake 47 = .ok (.aload_n 0, 1) := by decide +kernel
theorem dX9_readsTake_48 : decode cX9_readsTake 48 = .ok (.getfield 124, 3) := by decide +kernel
theorem dX9_readsTake_51 : decode cX9_readsTake 51 = .ok (.ifCond .ne 50, 3) := by decide +kernel
theorem dX9_readsTake_54 : decode cX9_readsTake 54 = .ok (.bipush 41, 2) := by decide +kernel
theorem dX9_readsTake_56 : decode cX9_readsTake 56 = .ok (.iconst 3, 1) := by decide +kernel
theorem dX9_readsTake_57 : decode cX9_readsTake 57 = .ok (.aload_n 0, 1) := by decide +kernel
theorem dX9_readsTake_58 : decode cX9_readsTake 58 = .ok (.getfield 13, 3) := by decide +kernel
theorem dX9_readsTake_61 : decode cX9_readsTake 61 = .ok (.iconst 5, 1) := by decide +kernel
theorem dX9_readsTake_62 : decode cX9_readsTake 62 = .ok (.iaload, 1) := by decide +kernel
theorem dX9_readsTake_63 : decode cX9_readsTake 63 = .ok (.imul, 1) := by decide +kernel
theorem dX9_readsTake_64 : decode cX9_readsTake 64 = .ok (.iadd, 1) := by decide +kernel
theorem dX9_readsTake_65 : decode cX9_readsTake 65 = .ok (.istore_n 3, 1) := by decide +kernel
theorem dX9_readsTake_66 : decode cX9_readsTake 66 = .ok (.aload_n 0, 1) := by decide +kernel
theorem dX9_readsTake_67 : decode cX9_readsTake 67 = .ok (.getfield 13, 3) := by decide +kernel
theorem dX9_readsTake_70 : decode cX9_readsTake 70 = .ok (.iload_n 3, 1) := by decide +kernel
theorem dX9_readsTake_71 : decode cX9_readsTake 71 = .ok (.iload_n 1, 1) := by decide +kernel
theorem dX9_readsTake_72 : decode cX9_readsTake 72 = .ok (.iastore, 1) := by decide +kernel
theorem dX9_readsTake_73 : decode cX9_readsTake 73 = .ok (.aload_n 0, 1) := by decide +kernel
theorem dX9_readsTake_74 : decode cX9_readsTake 74 = .ok (.getfield 13, 3) := by decide +kernel
theorem dX9_readsTake_77 : decode cX9_readsTake 77 = .ok (.iload_n 3, 1) := by decide +kernel
theorem dX9_readsTake_78 : decode cX9_readsTake 78 = .ok (.iconst 1, 1) := by decide +kernel
theorem dX9_readsTake_79 : decode cX9_readsTake 79 = .ok (.iadd, 1) := by decide +kernel
theorem dX9_readsTake_80 : decode cX9_readsTake 80 = .ok (.iload_n 2, 1) := by decide +kernel
theorem dX9_readsTake_81 : decode cX9_readsTake 81 = .ok (.iastore, 1) := by decide +kernel
theorem dX9_readsTake_82 : decode cX9_readsTake 82 = .ok (.aload_n 0, 1) := by decide +kernel
theorem dX9_readsTake_83 : decode cX9_readsTake 83 = .ok (.getfield 13, 3) := by decide +kernel
theorem dX9_readsTake_86 : decode cX9_readsTake 86 = .ok (.iload_n 3, 1) := by decide +kernel
theorem dX9_readsTake_87 : decode cX9_readsTake 87 = .ok (.iconst 2, 1) := by decide +kernel
theorem dX9_readsTake_88 : decode cX9_readsTake 88 = .ok (.iadd, 1) := by decide +kernel
theorem dX9_readsTake_89 : decode cX9_readsTake 89 = .ok (.iconst (-1), 1) := by decide +kernel
theorem dX9_readsTake_90 : decode cX9_readsTake 90 = .ok (.iastore, 1) := by decide +kernel
theorem dX9_readsTake_91 : decode cX9_readsTake 91 = .ok (.aload_n 0, 1) := by decide +kernel
theorem dX9_readsTake_92 : decode cX9_readsTake 92 = .ok (.getfield 13, 3) := by decide +kernel
theorem dX9_readsTake_95 : decode cX9_readsTake 95 = .ok (.iconst 5, 1) := by decide +kernel
theorem dX9_readsTake_96 : decode cX9_readsTake 96 = .ok (.dup2, 1) := by decide +kernel
theorem dX9_readsTake_97 : decode cX9_readsTake 97 = .ok (.iaload, 1) := by decide +kernel
theorem dX9_readsTake_98 : decode cX9_readsTake 98 = .ok (.iconst 1, 1) := by decide +kernel
theorem dX9_readsTake_99 : decode cX9_readsTake 99 = .ok (.iadd, 1) := by decide +kernel
theorem dX9_readsTake_100 : decode cX9_readsTake 100 = .ok (.iastore, 1) := by decide +kernel
theorem dX9_readsTake_101 : decode cX9_readsTake 101 = .ok (.return_, 1) := by decide +kernel
theorem dX9_adds_0 : decode cX9_adds 0 = .ok (.bipush 13, 2) := by decide +kernel
theorem dX9_adds_2 : decode cX9_adds 2 = .ok (.iconst 4, 1) := by decide +kernel
theorem dX9_adds_3 : decode cX9_adds 3 = .ok (.aload_n 0, 1) := by decide +kernel
theorem dX9_adds_4 : decode cX9_adds 4 = .ok (.iconst 4, 1) := by decide +kernel
theorem dX9_adds_5 : decode cX9_adds 5 = .ok (.iaload, 1) := by decide +kernel
theorem dX9_adds_6 : decode cX9_adds 6 = .ok (.imul, 1) := by decide +kernel
theorem dX9_adds_7 : decode cX9_adds 7 = .ok (.iadd, 1) := by decide +kernel
theorem dX9_adds_8 : decode cX9_adds 8 = .ok (.istore_n 3, 1) := by decide +kernel
theorem dX9_adds_9 : decode cX9_adds 9 = .ok (.aload_n 0, 1) := by decide +kernel
theorem dX9_adds_10 : decode cX9_adds 10 = .ok (.iload_n 3, 1) := by decide +kernel
theorem dX9_adds_11 : decode cX9_adds 11 = .ok (.iload_n 1, 1) := by decide +kernel
theorem dX9_adds_12 : decode cX9_adds 12 = .ok (.iastore, 1) := by decide +kernel
theorem dX9_adds_13 : decode cX9_adds 13 = .ok (.aload_n 0, 1) := by decide +kernel
theorem dX9_adds_14 : decode cX9_adds 14 = .ok (.iload_n 3, 1) := by decide +kernel
theorem dX9_adds_15 : decode cX9_adds 15 = .ok (.iconst 1, 1) := by decide +kernel
theorem dX9_adds_16 : decode cX9_adds 16 = .ok (.iadd, 1) := by decide +kernel
theorem dX9_adds_17 : decode cX9_adds 17 = .ok (.iload_n 2, 1) := by decide +kernel
theorem dX9_adds_18 : decode cX9_adds 18 = .ok (.iastore, 1) := by decide +kernel
theorem dX9_adds_19 : decode cX9_adds 19 = .ok (.aload_n 0, 1) := by decide +kernel
theorem dX9_adds_20 : decode cX9_adds 20 = .ok (.iload_n 3, 1) := by decide +kernel
theorem dX9_adds_21 : decode cX9_adds 21 = .ok (.iconst 2, 1) := by decide +kernel
theorem dX9_adds_22 : decode cX9_adds 22 = .ok (.iadd, 1) := by decide +kernel
theorem dX9_adds_23 : decode cX9_adds 23 = .ok (.iconst 0, 1) := by decide +kernel
theorem dX9_adds_24 : decode cX9_adds 24 = .ok (.iastore, 1) := by decide +kernel
theorem dX9_adds_25 : decode cX9_adds 25 = .ok (.aload_n 0, 1) := by decide +kernel
theorem dX9_adds_26 : decode cX9_adds 26 = .ok (.iload_n 3, 1) := by decide +kernel
theorem dX9_adds_27 : decode cX9_adds 27 = .ok (.iconst 3, 1) := by decide +kernel
theorem dX9_adds_28 : decode cX9_adds 28 = .ok (.iadd, 1) := by decide +kernel
theorem dX9_adds_29 : decode cX9_adds 29 = .ok (.iconst 0, 1) := by decide +kernel
theorem dX9_adds_30 : decode cX9_adds 30 = .ok (.iastore, 1) := by decide +kernel
theorem dX9_adds_31 : decode cX9_adds 31 = .ok (.aload_n 0, 1) := by decide +kernel
theorem dX9_adds_32 : decode cX9_adds 32 = .ok (.iconst 4, 1) := by decide +kernel
theorem dX9_adds_33 : decode cX9_adds 33 = .ok (.dup2, 1) := by decide +kernel
theorem dX9_adds_34 : decode cX9_adds 34 = .ok (.iaload, 1) := by decide +kernel
theorem dX9_adds_35 : decode cX9_adds 35 = .ok (.iconst 1, 1) := by decide +kernel
theorem dX9_adds_36 : decode cX9_adds 36 = .ok (.iadd, 1) := by decide +kernel
theorem dX9_adds_37 : decode cX9_adds 37 = .ok (.iastore, 1) := by decide +kernel
theorem dX9_adds_38 : decode cX9_adds 38 = .ok (.aload_n 0, 1) := by decide +kernel
theorem dX9_adds_39 : decode cX9_adds 39 = .ok (.bipush 7, 2) := by decide +kernel
theorem dX9_adds_41 : decode cX9_adds 41 = .ok (.dup2, 1) := by decide +kernel
theorem dX9_adds_42 : decode cX9_adds 42 = .ok (.iaload, 1) := by decide +kernel
theorem dX9_adds_43 : decode cX9_adds 43 = .ok (.iload_n 2, 1) := by decide +kernel
theorem dX9_adds_44 : decode cX9_adds 44 = .ok (.iadd, 1) := by decide +kernel
theorem dX9_adds_45 : decode cX9_adds 45 = .ok (.iastore, 1) := by decide +kernel
theorem dX9_adds_46 : decode cX9_adds 46 = .ok (.return_, 1) := by decide +kernel
theorem dX9_feed_0 : decode cX9_feed 0 = .ok (.iload_n 1, 1) := by decide +kernel
theorem dX9_feed_1 : decode cX9_feed 1 = .ok (.i2l, 1) := by decide +kernel
theorem dX9_feed_2 : decode cX9_feed 2 = .ok (.lconst 0, 1) := by decide +kernel
theorem dX9_feed_3 : decode cX9_feed 3 = .ok (.ldc2_w 154, 3) := by decide +kernel
theorem dX9_feed_6 : decode cX9_feed 6 = .ok (.invokestatic 47, 3) := by decide +kernel
theorem dX9_feed_9 : decode cX9_feed 9 = .ok (.ifCond .ne 6, 3) := by decide +kernel
theorem dX9_feed_12 : decode cX9_feed 12 = .ok (.ldc 156, 2) := by decide +kernel
theorem dX9_feed_14 : decode cX9_feed 14 = .ok (.ireturn, 1) := by decide +kernel
theorem dX9_feed_15 : decode cX9_feed 15 = .ok (.aload_n 0, 1) := by decide +kernel
theorem dX9_feed_16 : decode cX9_feed 16 = .ok (.getfield 97, 3) := by decide +kernel
theorem dX9_feed_19 : decode cX9_feed 19 = .ok (.bipush 110, 2) := by decide +kernel
theorem dX9_feed_21 : decode cX9_feed 21 = .ok (.if_icmp .ne 6, 3) := by decide +kernel
theorem dX9_feed_24 : decode cX9_feed 24 = .ok (.ldc 157, 2) := by decide +kernel
theorem dX9_feed_26 : decode cX9_feed 26 = .ok (.ireturn, 1) := by decide +kernel
theorem dX9_feed_27 : decode cX9_feed 27 = .ok (.aload_n 0, 1) := by decide +kernel
theorem dX9_feed_28 : decode cX9_feed 28 = .ok (.getfield 26, 3) := by decide +kernel
theorem dX9_feed_31 : decode cX9_feed 31 = .ok (.aload_n 0, 1) := by decide +kernel
theorem dX9_feed_32 : decode cX9_feed 32 = .ok (.getfield 97, 3) := by decide +kernel
theorem dX9_feed_35 : decode cX9_feed 35 = .ok (.iload_n 1, 1) := by decide +kernel
theorem dX9_feed_36 : decode cX9_feed 36 = .ok (.iastore, 1) := by decide +kernel
theorem dX9_feed_37 : decode cX9_feed 37 = .ok (.aload_n 0, 1) := by decide +kernel
theorem dX9_feed_38 : decode cX9_feed 38 = .ok (.dup, 1) := by decide +kernel
theorem dX9_feed_39 : decode cX9_feed 39 = .ok (.getfield 97, 3) := by decide +kernel
theorem dX9_feed_42 : decode cX9_feed 42 = .ok (.iconst 1, 1) := by decide +kernel
theorem dX9_feed_43 : decode cX9_feed 43 = .ok (.iadd, 1) := by decide +kernel
theorem dX9_feed_44 : decode cX9_feed 44 = .ok (.putfield 97, 3) := by decide +kernel
theorem dX9_feed_47 : decode cX9_feed 47 = .ok (.aload_n 0, 1) := by decide +kernel
theorem dX9_feed_48 : decode cX9_feed 48 = .ok (.getfield 97, 3) := by decide +kernel
theorem dX9_feed_51 : decode cX9_feed 51 = .ok (.ireturn, 1) := by decide +kernel
theorem dX9_book_0 : decode cX9_book 0 = .ok (.iconst 0, 1) := by decide +kernel
theorem dX9_book_1 : decode cX9_book 1 = .ok (.istore_n 1, 1) := by decide +kernel
theorem dX9_book_2 : decode cX9_book 2 = .ok (.iload_n 1, 1) := by decide +kernel
theorem dX9_book_3 : decode cX9_book 3 = .ok (.bipush 89, 2) := by decide +kernel
theorem dX9_book_5 : decode cX9_book 5 = .ok (.if_icmp .ge 16, 3) := by decide +kernel
theorem dX9_book_8 : decode cX9_book 8 = .ok (.aload_n 0, 1) := by decide +kernel
theorem dX9_book_9 : decode cX9_book 9 = .ok (.getfield 13, 3) := by decide +kernel
theorem dX9_book_12 : decode cX9_book 12 = .ok (.iload_n 1, 1) := by decide +kernel
theorem dX9_book_13 : decode cX9_book 13 = .ok (.iconst 0, 1) := by decide +kernel
theorem dX9_book_14 : decode cX9_book 14 = .ok (.iastore, 1) := by decide +kernel
theorem dX9_book_15 : decode cX9_book 15 = .ok (.iinc 1 1, 3) := by decide +kernel
theorem dX9_book_18 : decode cX9_book 18 = .ok (.goto (-16), 3) := by decide +kernel
theorem dX9_book_21 : decode cX9_book 21 = .ok (.aload_n 0, 1) := by decide +kernel
theorem dX9_book_22 : decode cX9_book 22 = .ok (.getfield 13, 3) := by decide +kernel
theorem dX9_book_25 : decode cX9_book 25 = .ok (.bipush 11, 2) := by decide +kernel
theorem dX9_book_27 : decode cX9_book 27 = .ok (.iconst (-1), 1) := by decide +kernel
theorem dX9_book_28 : decode cX9_book 28 = .ok (.iastore, 1) := by decide +kernel
theorem dX9_book_29 : decode cX9_book 29 = .ok (.aload_n 0, 1) := by decide +kernel
theorem dX9_book_30 : decode cX9_book 30 = .ok (.iconst 0, 1) := by decide +kernel
theorem dX9_book_31 : decode cX9_book 31 = .ok (.putfield 101, 3) := by decide +kernel
theorem dX9_book_34 : decode cX9_book 34 = .ok (.aload_n 0, 1) := by decide +kernel
theorem dX9_book_35 : decode cX9_book 35 = .ok (.iconst 0, 1) := by decide +kernel
theorem dX9_book_36 : decode cX9_book 36 = .ok (.putfield 124, 3) := by decide +kernel
theorem dX9_book_39 : decode cX9_book 39 = .ok (.aload_n 0, 1) := by decide +kernel
theorem dX9_book_40 : decode cX9_book 40 = .ok (.invokevirtual 130, 3) := by decide +kernel
theorem dX9_book_43 : decode cX9_book 43 = .ok (.aload_n 0, 1) := by decide +kernel
theorem dX9_book_44 : decode cX9_book 44 = .ok (.bipush 104, 2) := by decide +kernel
theorem dX9_book_46 : decode cX9_book 46 = .ok (.invokevirtual 158, 3) := by decide +kernel
theorem dX9_book_49 : decode cX9_book 49 = .ok (.aload_n 0, 1) := by decide +kernel
theorem dX9_book_50 : decode cX9_book 50 = .ok (.getfield 13, 3) := by decide +kernel
theorem dX9_book_53 : decode cX9_book 53 = .ok (.iconst 0, 1) := by decide +kernel
theorem dX9_book_54 : decode cX9_book 54 = .ok (.aload_n 0, 1) := by decide +kernel
theorem dX9_book_55 : decode cX9_book 55 = .ok (.iconst 0, 1) := by decide +kernel
theorem dX9_book_56 : decode cX9_book 56 = .ok (.bipush 9, 2) := by decide +kernel
theorem dX9_book_58 : decode cX9_book 58 = .ok (.invokevirtual 143, 3) := by decide +kernel
theorem dX9_book_61 : decode cX9_book 61 = .ok (.iastore, 1) := by decide +kernel
theorem dX9_book_62 : decode cX9_book 62 = .ok (.aload_n 0, 1) := by decide +kernel
theorem dX9_book_63 : decode cX9_book 63 = .ok (.bipush 44, 2) := by decide +kernel
theorem dX9_book_65 : decode cX9_book 65 = .ok (.invokevirtual 147, 3) := by decide +kernel
theorem dX9_book_68 : decode cX9_book 68 = .ok (.aload_n 0, 1) := by decide +kernel
theorem dX9_book_69 : decode cX9_book 69 = .ok (.getfield 13, 3) := by decide +kernel
theorem dX9_book_72 : decode cX9_book 72 = .ok (.iconst 1, 1) := by decide +kernel
theorem dX9_book_73 : decode cX9_book 73 = .ok (.aload_n 0, 1) := by decide +kernel
theorem dX9_book_74 : decode cX9_book 74 = .ok (.iconst 1, 1) := by decide +kernel
theorem dX9_book_75 : decode cX9_book 75 = .ok (.bipush 40, 2) := by decide +kernel
theorem dX9_book_77 : decode cX9_book 77 = .ok (.invokevirtual 143, 3) := by decide +kernel
theorem dX9_book_80 : decode cX9_book 80 = .ok (.iastore, 1) := by decide +kernel
theorem dX9_book_81 : decode cX9_book 81 = .ok (.aload_n 0, 1) := by decide +kernel
theorem dX9_book_82 : decode cX9_book 82 = .ok (.bipush 44, 2) := by decide +kernel
theorem dX9_book_84 : decode cX9_book 84 = .ok (.invokevirtual 147, 3) := by decide +kernel
theorem dX9_book_87 : decode cX9_book 87 = .ok (.aload_n 0, 1) := by decide +kernel
theorem dX9_book_88 : decode cX9_book 88 = .ok (.getfield 13, 3) := by decide +kernel
theorem dX9_book_91 : decode cX9_book 91 = .ok (.iconst 2, 1) := by decide +kernel
theorem dX9_book_92 : decode cX9_book 92 = .ok (.aload_n 0, 1) := by decide +kernel
theorem dX9_book_93 : decode cX9_book 93 = .ok (.bipush 10, 2) := by decide +kernel
theorem dX9_book_95 : decode cX9_book 95 = .ok (.bipush 99, 2) := by decide +kernel
theorem dX9_book_97 : decode cX9_book 97 = .ok (.invokevirtual 143, 3) := by decide +kernel
theorem dX9_book_100 : decode cX9_book 100 = .ok (.iastore, 1) := by decide +kernel
theorem dX9_book_101 : decode cX9_book 101 = .ok (.aload_n 0, 1) := by decide +kernel
theorem dX9_book_102 : decode cX9_book 102 = .ok (.bipush 44, 2) := by decide +kernel
theorem dX9_book_104 : decode cX9_book 104 = .ok (.invokevirtual 147, 3) := by decide +kernel
theorem dX9_book_107 : decode cX9_book 107 = .ok (.aload_n 0, 1) := by decide +kernel
theorem dX9_book_108 : decode cX9_book 108 = .ok (.getfield 13, 3) := by decide +kernel
theorem dX9_book_111 : decode cX9_book 111 = .ok (.iconst 3, 1) := by decide +kernel
theorem dX9_book_112 : decode cX9_book 112 = .ok (.aload_n 0, 1) := by decide +kernel
theorem dX9_book_113 : decode cX9_book 113 = .ok (.iconst 0, 1) := by decide +kernel
theorem dX9_book_114 : decode cX9_book 114 = .ok (.bipush 20, 2) := by decide +kernel
theorem dX9_book_116 : decode cX9_book 116 = .ok (.invokevirtual 143, 3) := by decide +kernel
theorem dX9_book_119 : decode cX9_book 119 = .ok (.iastore, 1) := by decide +kernel
theorem dX9_book_120 : decode cX9_book 120 = .ok (.aload_n 0, 1) := by decide +kernel
theorem dX9_book_121 : decode cX9_book 121 = .ok (.bipush 59, 2) := by decide +kernel
theorem dX9_book_123 : decode cX9_book 123 = .ok (.invokevirtual 147, 3) := by decide +kernel
theorem dX9_book_126 : decode cX9_book 126 = .ok (.aload_n 0, 1) := by decide +kernel
theorem dX9_book_127 : decode cX9_book 127 = .ok (.invokevirtual 161, 3) := by decide +kernel
theorem dX9_book_130 : decode cX9_book 130 = .ok (.ifCond .ne 8, 3) := by decide +kernel
theorem dX9_book_133 : decode cX9_book 133 = .ok (.aload_n 0, 1) := by decide +kernel
theorem dX9_book_134 : decode cX9_book 134 = .ok (.iconst 1, 1) := by decide +kernel
theorem dX9_book_135 : decode cX9_book 135 = .ok (.invokevirtual 133, 3) := by decide +kernel
theorem dX9_book_138 : decode cX9_book 138 = .ok (.aload_n 0, 1) := by decide +kernel
theorem dX9_book_139 : decode cX9_book 139 = .ok (.invokevirtual 161, 3) := by decide +kernel
theorem dX9_book_142 : decode cX9_book 142 = .ok (.ifCond .eq 10, 3) := by decide +kernel
theorem dX9_book_145 : decode cX9_book 145 = .ok (.aload_n 0, 1) := by decide +kernel
theorem dX9_book_146 : decode cX9_book 146 = .ok (.invokevirtual 165, 3) := by decide +kernel
theorem dX9_book_149 : decode cX9_book 149 = .ok (.goto (-11), 3) := by decide +kernel
theorem dX9_book_152 : decode cX9_book 152 = .ok (.aload_n 0, 1) := by decide +kernel
theorem dX9_book_153 : decode cX9_book 153 = .ok (.getfield 124, 3) := by decide +kernel
theorem dX9_book_156 : decode cX9_book 156 = .ok (.ifCond .ne 27, 3) := by decide +kernel
theorem dX9_book_159 : decode cX9_book 159 = .ok (.aload_n 0, 1) := by decide +kernel
theorem dX9_book_160 : decode cX9_book 160 = .ok (.getfield 121, 3) := by decide +kernel
theorem dX9_book_163 : decode cX9_book 163 = .ok (.iconst 1, 1) := by decide +kernel
theorem dX9_book_164 : decode cX9_book 164 = .ok (.if_icmp .ne 19, 3) := by decide +kernel
theorem dX9_book_167 : decode cX9_book 167 = .ok (.aload_n 0, 1) := by decide +kernel
theorem dX9_book_168 : decode cX9_book 168 = .ok (.getfield 110, 3) := by decide +kernel
theorem dX9_book_171 : decode cX9_book 171 = .ok (.bipush 116, 2) := by decide +kernel
theorem dX9_book_173 : decode cX9_book 173 = .ok (.if_icmp .ne 10, 3) := by decide +kernel
theorem dX9_book_176 : decode cX9_book 176 = .ok (.aload_n 0, 1) := by decide +kernel
theorem dX9_book_177 : decode cX9_book 177 = .ok (.invokevirtual 168, 3) := by decide +kernel
theorem dX9_book_180 : decode cX9_book 180 = .ok (.goto (-28), 3) := by decide +kernel
theorem dX9_book_183 : decode cX9_book 183 = .ok (.aload_n 0, 1) := by decide +kernel
theorem dX9_book_184 : decode cX9_book 184 = .ok (.getfield 121, 3) := by decide +kernel
theorem dX9_book_187 : decode cX9_book 187 = .ok (.ifCond .eq 8, 3) := by decide +kernel
theorem dX9_book_190 : decode cX9_book 190 = .ok (.aload_n 0, 1) := by decide +kernel
theorem dX9_book_191 : decode cX9_book 191 = .ok (.iconst 1, 1) := by decide +kernel
theorem dX9_book_192 : decode cX9_book 192 = .ok (.invokevirtual 133, 3) := by decide +kernel
theorem dX9_book_195 : decode cX9_book 195 = .ok (.aload_n 0, 1) := by decide +kernel
theorem dX9_book_196 : decode cX9_book 196 = .ok (.iconst 0, 1) := by decide +kernel
theorem dX9_book_197 : decode cX9_book 197 = .ok (.putfield 97, 3) := by decide +kernel
theorem dX9_book_200 : decode cX9_book 200 = .ok (.aload_n 0, 1) := by decide +kernel
theorem dX9_book_201 : decode cX9_book 201 = .ok (.getfield 124, 3) := by decide +kernel
theorem dX9_book_204 : decode cX9_book 204 = .ok (.ifCond .le 19, 3) := by decide +kernel
theorem dX9_book_207 : decode cX9_book 207 = .ok (.aload_n 0, 1) := by decide +kernel
theorem dX9_book_208 : decode cX9_book 208 = .ok (.aload_n 0, 1) := by decide +kernel
theorem dX9_book_209 : decode cX9_book 209 = .ok (.getfield 124, 3) := by decide +kernel
theorem dX9_book_212 : decode cX9_book 212 = .ok (.putfield 171, 3) := by decide +kernel
theorem dX9_book_215 : decode cX9_book 215 = .ok (.ldc 174, 2) := by decide +kernel
theorem dX9_book_217 : decode cX9_book 217 = .ok (.aload_n 0, 1) := by decide +kernel
theorem dX9_book_218 : decode cX9_book 218 = .ok (.getfield 127, 3) := by decide +kernel
theorem dX9_book_221 : decode cX9_book 221 = .ok (.isub, 1) := by decide +kernel
theorem dX9_book_222 : decode cX9_book 222 = .ok (.ireturn, 1) := by decide +kernel
theorem dX9_book_223 : decode cX9_book 223 = .ok (.aload_n 0, 1) := by decide +kernel
theorem dX9_book_224 : decode cX9_book 224 = .ok (.getfield 13, 3) := by decide +kernel
theorem dX9_book_227 : decode cX9_book 227 = .ok (.iconst 0, 1) := by decide +kernel
theorem dX9_book_228 : decode cX9_book 228 = .ok (.aload_n 0, 1) := by decide +kernel
theorem dX9_book_229 : decode cX9_book 229 = .ok (.getfield 7, 3) := by decide +kernel
theorem dX9_book_232 : decode cX9_book 232 = .ok (.iconst 0, 1) := by decide +kernel
theorem dX9_book_233 : decode cX9_book 233 = .ok (.invokestatic 175, 3) := by decide +kernel
theorem dX9_book_236 : decode cX9_book 236 = .ok (.aload_n 0, 1) := by decide +kernel
theorem dX9_book_237 : decode cX9_book 237 = .ok (.iconst 0, 1) := by decide +kernel
theorem dX9_book_238 : decode cX9_book 238 = .ok (.putfield 179, 3) := by decide +kernel
theorem dX9_book_241 : decode cX9_book 241 = .ok (.aload_n 0, 1) := by decide +kernel
theorem dX9_book_242 : decode cX9_book 242 = .ok (.getfield 7, 3) := by decide +kernel
theorem dX9_book_245 : decode cX9_book 245 = .ok (.iconst 4, 1) := by decide +kernel
theorem dX9_book_246 : decode cX9_book 246 = .ok (.iaload, 1) := by decide +kernel
theorem dX9_book_247 : decode cX9_book 247 = .ok (.ireturn, 1) := by decide +kernel
theorem dX9_fault_0 : decode cX9_fault 0 = .ok (.aload_n 0, 1) := by decide +kernel
theorem dX9_fault_1 : decode cX9_fault 1 = .ok (.getfield 171, 3) := by decide +kernel
theorem dX9_fault_4 : decode cX9_fault 4 = .ok (.ireturn, 1) := by decide +kernel
theorem dX9_notes_0 : decode cX9_notes 0 = .ok (.aload_n 0, 1) := by decide +kernel
theorem dX9_notes_1 : decode cX9_notes 1 = .ok (.getfield 179, 3) := by decide +kernel
theorem dX9_notes_4 : decode cX9_notes 4 = .ok (.bipush 20, 2) := by decide +kernel
theorem dX9_notes_6 : decode cX9_notes 6 = .ok (.if_icmp .ne 43, 3) := by decide +kernel
theorem dX9_notes_9 : decode cX9_notes 9 = .ok (.iconst 0, 1) := by decide +kernel
theorem dX9_notes_10 : decode cX9_notes 10 = .ok (.istore_n 1, 1) := by decide +kernel
theorem dX9_notes_11 : decode cX9_notes 11 = .ok (.iload_n 1, 1) := by decide +kernel
theorem dX9_notes_12 : decode cX9_notes 12 = .ok (.sipush 1691, 3) := by decide +kernel
theorem dX9_notes_15 : decode cX9_notes 15 = .ok (.if_icmp .ge 24, 3) := by decide +kernel
theorem dX9_notes_18 : decode cX9_notes 18 = .ok (.aload_n 0, 1) := by decide +kernel
theorem dX9_notes_19 : decode cX9_notes 19 = .ok (.getfield 16, 3) := by decide +kernel
theorem dX9_notes_22 : decode cX9_notes 22 = .ok (.iload_n 1, 1) := by decide +kernel
theorem dX9_notes_23 : decode cX9_notes 23 = .ok (.aload_n 0, 1) := by decide +kernel
theorem dX9_notes_24 : decode cX9_notes 24 = .ok (.getfield 16, 3) := by decide +kernel
theorem dX9_notes_27 : decode cX9_notes 27 = .ok (.iload_n 1, 1) := by decide +kernel
theorem dX9_notes_28 : decode cX9_notes 28 = .ok (.bipush 89, 2) := by decide +kernel
theorem dX9_notes_30 : decode cX9_notes 30 = .ok (.iadd, 1) := by decide +kernel
theorem dX9_notes_31 : decode cX9_notes 31 = .ok (.iaload, 1) := by decide +kernel
theorem dX9_notes_32 : decode cX9_notes 32 = .ok (.iastore, 1) := by decide +kernel
theorem dX9_notes_33 : decode cX9_notes 33 = .ok (.iinc 1 1, 3) := by decide +kernel
theorem dX9_notes_36 : decode cX9_notes 36 = .ok (.goto (-25), 3) := by decide +kernel
theorem dX9_notes_39 : decode cX9_notes 39 = .ok (.aload_n 0, 1) := by decide +kernel
theorem dX9_notes_40 : decode cX9_notes 40 = .ok (.dup, 1) := by decide +kernel
theorem dX9_notes_41 : decode cX9_notes 41 = .ok (.getfield 179, 3) := by decide +kernel
theorem dX9_notes_44 : decode cX9_notes 44 = .ok (.iconst 1, 1) := by decide +kernel
theorem dX9_notes_45 : decode cX9_notes 45 = .ok (.isub, 1) := by decide +kernel
theorem dX9_notes_46 : decode cX9_notes 46 = .ok (.putfield 179, 3) := by decide +kernel
theorem dX9_notes_49 : decode cX9_notes 49 = .ok (.aload_n 0, 1) := by decide +kernel
theorem dX9_notes_50 : decode cX9_notes 50 = .ok (.getfield 7, 3) := by decide +kernel
theorem dX9_notes_53 : decode cX9_notes 53 = .ok (.iconst 0, 1) := by decide +kernel
theorem dX9_notes_54 : decode cX9_notes 54 = .ok (.aload_n 0, 1) := by decide +kernel
theorem dX9_notes_55 : decode cX9_notes 55 = .ok (.getfield 16, 3) := by decide +kernel
theorem dX9_notes_58 : decode cX9_notes 58 = .ok (.bipush 89, 2) := by decide +kernel
theorem dX9_notes_60 : decode cX9_notes 60 = .ok (.aload_n 0, 1) := by decide +kernel
theorem dX9_notes_61 : decode cX9_notes 61 = .ok (.getfield 179, 3) := by decide +kernel
theorem dX9_notes_64 : decode cX9_notes 64 = .ok (.imul, 1) := by decide +kernel
theorem dX9_notes_65 : decode cX9_notes 65 = .ok (.invokestatic 175, 3) := by decide +kernel
theorem dX9_notes_68 : decode cX9_notes 68 = .ok (.aload_n 0, 1) := by decide +kernel
theorem dX9_notes_69 : decode cX9_notes 69 = .ok (.dup, 1) := by decide +kernel
theorem dX9_notes_70 : decode cX9_notes 70 = .ok (.getfield 179, 3) := by decide +kernel
theorem dX9_notes_73 : decode cX9_notes 73 = .ok (.iconst 1, 1) := by decide +kernel
theorem dX9_notes_74 : decode cX9_notes 74 = .ok (.iadd, 1) := by decide +kernel
theorem dX9_notes_75 : decode cX9_notes 75 = .ok (.putfield 179, 3) := by decide +kernel
theorem dX9_notes_78 : decode cX9_notes 78 = .ok (.return_, 1) := by decide +kernel
theorem dX9_undo_0 : decode cX9_undo 0 = .ok (.aload_n 0, 1) := by decide +kernel
theorem dX9_undo_1 : decode cX9_undo 1 = .ok (.getfield 179, 3) := by decide +kernel
theorem dX9_undo_4 : decode cX9_undo 4 = .ok (.ifCond .ne 6, 3) := by decide +kernel
theorem dX9_undo_7 : decode cX9_undo 7 = .ok (.ldc 182, 2) := by decide +kernel
theorem dX9_undo_9 : decode cX9_undo 9 = .ok (.ireturn, 1) := by decide +kernel
theorem dX9_undo_10 : decode cX9_undo 10 = .ok (.aload_n 0, 1) := by decide +kernel
theorem dX9_undo_11 : decode cX9_undo 11 = .ok (.dup, 1) := by decide +kernel
theorem dX9_undo_12 : decode cX9_undo 12 = .ok (.getfield 179, 3) := by decide +kernel
theorem dX9_undo_15 : decode cX9_undo 15 = .ok (.iconst 1, 1) := by decide +kernel
theorem dX9_undo_16 : decode cX9_undo 16 = .ok (.isub, 1) := by decide +kernel
theorem dX9_undo_17 : decode cX9_undo 17 = .ok (.putfield 179, 3) := by decide +kernel
theorem dX9_undo_20 : decode cX9_undo 20 = .ok (.aload_n 0, 1) := by decide +kernel
theorem dX9_undo_21 : decode cX9_undo 21 = .ok (.getfield 16, 3) := by decide +kernel
theorem dX9_undo_24 : decode cX9_undo 24 = .ok (.bipush 89, 2) := by decide +kernel
theorem dX9_undo_26 : decode cX9_undo 26 = .ok (.aload_n 0, 1) := by decide +kernel
theorem dX9_undo_27 : decode cX9_undo 27 = .ok (.getfield 179, 3) := by decide +kernel
theorem dX9_undo_30 : decode cX9_undo 30 = .ok (.imul, 1) := by decide +kernel
theorem dX9_undo_31 : decode cX9_undo 31 = .ok (.aload_n 0, 1) := by decide +kernel
theorem dX9_undo_32 : decode cX9_undo 32 = .ok (.getfield 7, 3) := by decide +kernel
theorem dX9_undo_35 : decode cX9_undo 35 = .ok (.iconst 0, 1) := by decide +kernel
theorem dX9_undo_36 : decode cX9_undo 36 = .ok (.invokestatic 175, 3) := by decide +kernel
theorem dX9_undo_39 : decode cX9_undo 39 = .ok (.aload_n 0, 1) := by decide +kernel
theorem dX9_undo_40 : decode cX9_undo 40 = .ok (.getfield 179, 3) := by decide +kernel
theorem dX9_undo_43 : decode cX9_undo 43 = .ok (.ireturn, 1) := by decide +kernel
theorem dX9_load_0 : decode cX9_load 0 = .ok (.aload_n 0, 1) := by decide +kernel
theorem dX9_load_1 : decode cX9_load 1 = .ok (.iload_n 1, 1) := by decide +kernel
theorem dX9_load_2 : decode cX9_load 2 = .ok (.invokevirtual 183, 3) := by decide +kernel
theorem dX9_load_5 : decode cX9_load 5 = .ok (.ifCond .ne 6, 3) := by decide +kernel
theorem dX9_load_8 : decode cX9_load 8 = .ok (.ldc 156, 2) := by decide +kernel
theorem dX9_load_10 : decode cX9_load 10 = .ok (.ireturn, 1) := by decide +kernel
theorem dX9_load_11 : decode cX9_load 11 = .ok (.aload_n 0, 1) := by decide +kernel
theorem dX9_load_12 : decode cX9_load 12 = .ok (.getfield 7, 3) := by decide +kernel
theorem dX9_load_15 : decode cX9_load 15 = .ok (.bipush 11, 2) := by decide +kernel
theorem dX9_load_17 : decode cX9_load 17 = .ok (.iaload, 1) := by decide +kernel
theorem dX9_load_18 : decode cX9_load 18 = .ok (.ifCond .ge 33, 3) := by decide +kernel
theorem dX9_load_21 : decode cX9_load 21 = .ok (.aload_n 0, 1) := by decide +kernel
theorem dX9_load_22 : decode cX9_load 22 = .ok (.getfield 7, 3) := by decide +kernel
theorem dX9_load_25 : decode cX9_load 25 = .ok (.iload_n 1, 1) := by decide +kernel
theorem dX9_load_26 : decode cX9_load 26 = .ok (.invokestatic 63, 3) := by decide +kernel
theorem dX9_load_29 : decode cX9_load 29 = .ok (.ifCond .ne 22, 3) := by decide +kernel
theorem dX9_load_32 : decode cX9_load 32 = .ok (.aload_n 0, 1) := by decide +kernel
theorem dX9_load_33 : decode cX9_load 33 = .ok (.getfield 7, 3) := by decide +kernel
theorem dX9_load_36 : decode cX9_load 36 = .ok (.iload_n 1, 1) := by decide +kernel
theorem dX9_load_37 : decode cX9_load 37 = .ok (.invokestatic 70, 3) := by decide +kernel
theorem dX9_load_40 : decode cX9_load 40 = .ok (.aload_n 0, 1) := by decide +kernel
theorem dX9_load_41 : decode cX9_load 41 = .ok (.getfield 7, 3) := by decide +kernel
theorem dX9_load_44 : decode cX9_load 44 = .ok (.iload_n 1, 1) := by decide +kernel
theorem dX9_load_45 : decode cX9_load 45 = .ok (.invokestatic 73, 3) := by decide +kernel
theorem dX9_load_48 : decode cX9_load 48 = .ok (.if_icmp .ge 6, 3) := by decide +kernel
theorem dX9_load_51 : decode cX9_load 51 = .ok (.ldc 182, 2) := by decide +kernel
theorem dX9_load_53 : decode cX9_load 53 = .ok (.ireturn, 1) := by decide +kernel
theorem dX9_load_54 : decode cX9_load 54 = .ok (.aload_n 0, 1) := by decide +kernel
theorem dX9_load_55 : decode cX9_load 55 = .ok (.invokevirtual 187, 3) := by decide +kernel
theorem dX9_load_58 : decode cX9_load 58 = .ok (.aload_n 0, 1) := by decide +kernel
theorem dX9_load_59 : decode cX9_load 59 = .ok (.getfield 7, 3) := by decide +kernel
theorem dX9_load_62 : decode cX9_load 62 = .ok (.iload_n 1, 1) := by decide +kernel
theorem dX9_load_63 : decode cX9_load 63 = .ok (.invokestatic 73, 3) := by decide +kernel
theorem dX9_load_66 : decode cX9_load 66 = .ok (.istore_n 2, 1) := by decide +kernel
theorem dX9_load_67 : decode cX9_load 67 = .ok (.aload_n 0, 1) := by decide +kernel
theorem dX9_load_68 : decode cX9_load 68 = .ok (.getfield 7, 3) := by decide +kernel
theorem dX9_load_71 : decode cX9_load 71 = .ok (.bipush 13, 2) := by decide +kernel
theorem dX9_load_73 : decode cX9_load 73 = .ok (.iconst 4, 1) := by decide +kernel
theorem dX9_load_74 : decode cX9_load 74 = .ok (.iload_n 1, 1) := by decide +kernel
theorem dX9_load_75 : decode cX9_load 75 = .ok (.imul, 1) := by decide +kernel
theorem dX9_load_76 : decode cX9_load 76 = .ok (.iadd, 1) := by decide +kernel
theorem dX9_load_77 : decode cX9_load 77 = .ok (.iconst 1, 1) := by decide +kernel
theorem dX9_load_78 : decode cX9_load 78 = .ok (.iadd, 1) := by decide +kernel
theorem dX9_load_79 : decode cX9_load 79 = .ok (.dup2, 1) := by decide +kernel
theorem dX9_load_80 : decode cX9_load 80 = .ok (.iaload, 1) := by decide +kernel
theorem dX9_load_81 : decode cX9_load 81 = .ok (.iload_n 2, 1) := by decide +kernel
theorem dX9_load_82 : decode cX9_load 82 = .ok (.isub, 1) := by decide +kernel
theorem dX9_load_83 : decode cX9_load 83 = .ok (.iastore, 1) := by decide +kernel
theorem dX9_load_84 : decode cX9_load 84 = .ok (.aload_n 0, 1) := by decide +kernel
theorem dX9_load_85 : decode cX9_load 85 = .ok (.getfield 7, 3) := by decide +kernel
theorem dX9_load_88 : decode cX9_load 88 = .ok (.bipush 13, 2) := by decide +kernel
theorem dX9_load_90 : decode cX9_load 90 = .ok (.iconst 4, 1) := by decide +kernel
theorem dX9_load_91 : decode cX9_load 91 = .ok (.iload_n 1, 1) := by decide +kernel
theorem dX9_load_92 : decode cX9_load 92 = .ok (.imul, 1) := by decide +kernel
theorem dX9_load_93 : decode cX9_load 93 = .ok (.iadd, 1) := by decide +kernel
theorem dX9_load_94 : decode cX9_load 94 = .ok (.iconst 2, 1) := by decide +kernel
theorem dX9_load_95 : decode cX9_load 95 = .ok (.iadd, 1) := by decide +kernel
theorem dX9_load_96 : decode cX9_load 96 = .ok (.iconst 1, 1) := by decide +kernel
theorem dX9_load_97 : decode cX9_load 97 = .ok (.iastore, 1) := by decide +kernel
theorem dX9_load_98 : decode cX9_load 98 = .ok (.aload_n 0, 1) := by decide +kernel
theorem dX9_load_99 : decode cX9_load 99 = .ok (.getfield 7, 3) := by decide +kernel
theorem dX9_load_102 : decode cX9_load 102 = .ok (.bipush 9, 2) := by decide +kernel
theorem dX9_load_104 : decode cX9_load 104 = .ok (.dup2, 1) := by decide +kernel
theorem dX9_load_105 : decode cX9_load 105 = .ok (.iaload, 1) := by decide +kernel
theorem dX9_load_106 : decode cX9_load 106 = .ok (.iload_n 2, 1) := by decide +kernel
theorem dX9_load_107 : decode cX9_load 107 = .ok (.iadd, 1) := by decide +kernel
theorem dX9_load_108 : decode cX9_load 108 = .ok (.iastore, 1) := by decide +kernel
theorem dX9_load_109 : decode cX9_load 109 = .ok (.aload_n 0, 1) := by decide +kernel
theorem dX9_load_110 : decode cX9_load 110 = .ok (.getfield 7, 3) := by decide +kernel
theorem dX9_load_113 : decode cX9_load 113 = .ok (.bipush 11, 2) := by decide +kernel
theorem dX9_load_115 : decode cX9_load 115 = .ok (.iload_n 1, 1) := by decide +kernel
theorem dX9_load_116 : decode cX9_load 116 = .ok (.iastore, 1) := by decide +kernel
theorem dX9_load_117 : decode cX9_load 117 = .ok (.aload_n 0, 1) := by decide +kernel
theorem dX9_load_118 : decode cX9_load 118 = .ok (.getfield 7, 3) := by decide +kernel
theorem dX9_load_121 : decode cX9_load 121 = .ok (.bipush 12, 2) := by decide +kernel
theorem dX9_load_123 : decode cX9_load 123 = .ok (.iconst 0, 1) := by decide +kernel
theorem dX9_load_124 : decode cX9_load 124 = .ok (.iastore, 1) := by decide +kernel
theorem dX9_load_125 : decode cX9_load 125 = .ok (.aload_n 0, 1) := by decide +kernel
theorem dX9_load_126 : decode cX9_load 126 = .ok (.getfield 7, 3) := by decide +kernel
theorem dX9_load_129 : decode cX9_load 129 = .ok (.iload_n 1, 1) := by decide +kernel
theorem dX9_load_130 : decode cX9_load 130 = .ok (.invokestatic 70, 3) := by decide +kernel
theorem dX9_load_133 : decode cX9_load 133 = .ok (.ireturn, 1) := by decide +kernel
theorem dX9_shoot_0 : decode cX9_shoot 0 = .ok (.aload_n 0, 1) := by decide +kernel
theorem dX9_shoot_1 : decode cX9_shoot 1 = .ok (.iload_n 1, 1) := by decide +kernel
theorem dX9_shoot_2 : decode cX9_shoot 2 = .ok (.invokevirtual 190, 3) := by decide +kernel
theorem dX9_shoot_5 : decode cX9_shoot 5 = .ok (.ifCond .ne 6, 3) := by decide +kernel
theorem dX9_shoot_8 : decode cX9_shoot 8 = .ok (.ldc 156, 2) := by decide +kernel
theorem dX9_shoot_10 : decode cX9_shoot 10 = .ok (.ireturn, 1) := by decide +kernel
theorem dX9_shoot_11 : decode cX9_shoot 11 = .ok (.aload_n 0, 1) := by decide +kernel
theorem dX9_shoot_12 : decode cX9_shoot 12 = .ok (.getfield 7, 3) := by decide +kernel
theorem dX9_shoot_15 : decode cX9_shoot 15 = .ok (.bipush 11, 2) := by decide +kernel
theorem dX9_shoot_17 : decode cX9_shoot 17 = .ok (.iaload, 1) := by decide +kernel
theorem dX9_shoot_18 : decode cX9_shoot 18 = .ok (.istore_n 2, 1) := by decide +kernel
theorem dX9_shoot_19 : decode cX9_shoot 19 = .ok (.iload_n 2, 1) := by decide +kernel
theorem dX9_shoot_20 : decode cX9_shoot 20 = .ok (.ifCond .lt 26, 3) := by decide +kernel
theorem dX9_shoot_23 : decode cX9_shoot 23 = .ok (.aload_n 0, 1) := by decide +kernel
theorem dX9_shoot_24 : decode cX9_shoot 24 = .ok (.getfield 7, 3) := by decide +kernel
theorem dX9_shoot_27 : decode cX9_shoot 27 = .ok (.iload_n 1, 1) := by decide +kernel
theorem dX9_shoot_28 : decode cX9_shoot 28 = .ok (.invokestatic 66, 3) := by decide +kernel
theorem dX9_shoot_31 : decode cX9_shoot 31 = .ok (.ifCond .eq 15, 3) := by decide +kernel
theorem dX9_shoot_34 : decode cX9_shoot 34 = .ok (.aload_n 0, 1) := by decide +kernel
theorem dX9_shoot_35 : decode cX9_shoot 35 = .ok (.getfield 7, 3) := by decide +kernel
theorem dX9_shoot_38 : decode cX9_shoot 38 = .ok (.iload_n 2, 1) := by decide +kernel
theorem dX9_shoot_39 : decode cX9_shoot 39 = .ok (.iload_n 1, 1) := by decide +kernel
theorem dX9_shoot_40 : decode cX9_shoot 40 = .ok (.invokestatic 79, 3) := by decide +kernel
theorem dX9_shoot_43 : decode cX9_shoot 43 = .ok (.ifCond .ne 6, 3) := by decide +kernel
theorem dX9_shoot_46 : decode cX9_shoot 46 = .ok (.ldc 182, 2) := by decide +kernel
theorem dX9_shoot_48 : decode cX9_shoot 48 = .ok (.ireturn, 1) := by decide +kernel
theorem dX9_shoot_49 : decode cX9_shoot 49 = .ok (.aload_n 0, 1) := by decide +kernel
theorem dX9_shoot_50 : decode cX9_shoot 50 = .ok (.getfield 7, 3) := by decide +kernel
theorem dX9_shoot_53 : decode cX9_shoot 53 = .ok (.bipush 41, 2) := by decide +kernel
theorem dX9_shoot_55 : decode cX9_shoot 55 = .ok (.iconst 3, 1) := by decide +kernel
theorem dX9_shoot_56 : decode cX9_shoot 56 = .ok (.iload_n 1, 1) := by decide +kernel
theorem dX9_shoot_57 : decode cX9_shoot 57 = .ok (.imul, 1) := by decide +kernel
theorem dX9_shoot_58 : decode cX9_shoot 58 = .ok (.iadd, 1) := by decide +kernel
theorem dX9_shoot_59 : decode cX9_shoot 59 = .ok (.iconst 1, 1) := by decide +kernel
theorem dX9_shoot_60 : decode cX9_shoot 60 = .ok (.iadd, 1) := by decide +kernel
theorem dX9_shoot_61 : decode cX9_shoot 61 = .ok (.iaload, 1) := by decide +kernel
theorem dX9_shoot_62 : decode cX9_shoot 62 = .ok (.istore_n 3, 1) := by decide +kernel
theorem dX9_shoot_63 : decode cX9_shoot 63 = .ok (.aload_n 0, 1) := by decide +kernel
theorem dX9_shoot_64 : decode cX9_shoot 64 = .ok (.getfield 7, 3) := by decide +kernel
theorem dX9_shoot_67 : decode cX9_shoot 67 = .ok (.iload_n 2, 1) := by decide +kernel
theorem dX9_shoot_68 : decode cX9_shoot 68 = .ok (.invokestatic 70, 3) := by decide +kernel
theorem dX9_shoot_71 : decode cX9_shoot 71 = .ok (.iload_n 3, 1) := by decide +kernel
theorem dX9_shoot_72 : decode cX9_shoot 72 = .ok (.aload_n 0, 1) := by decide +kernel
theorem dX9_shoot_73 : decode cX9_shoot 73 = .ok (.getfield 7, 3) := by decide +kernel
theorem dX9_shoot_76 : decode cX9_shoot 76 = .ok (.iload_n 2, 1) := by decide +kernel
theorem dX9_shoot_77 : decode cX9_shoot 77 = .ok (.invokestatic 83, 3) := by decide +kernel
theorem dX9_shoot_80 : decode cX9_shoot 80 = .ok (.iadd, 1) := by decide +kernel
theorem dX9_shoot_81 : decode cX9_shoot 81 = .ok (.if_icmp .ge 6, 3) := by decide +kernel
theorem dX9_shoot_84 : decode cX9_shoot 84 = .ok (.ldc 157, 2) := by decide +kernel
theorem dX9_shoot_86 : decode cX9_shoot 86 = .ok (.ireturn, 1) := by decide +kernel
theorem dX9_shoot_87 : decode cX9_shoot 87 = .ok (.aload_n 0, 1) := by decide +kernel
theorem dX9_shoot_88 : decode cX9_shoot 88 = .ok (.invokevirtual 187, 3) := by decide +kernel
theorem dX9_shoot_91 : decode cX9_shoot 91 = .ok (.aload_n 0, 1) := by decide +kernel
theorem dX9_shoot_92 : decode cX9_shoot 92 = .ok (.getfield 7, 3) := by decide +kernel
theorem dX9_shoot_95 : decode cX9_shoot 95 = .ok (.bipush 13, 2) := by decide +kernel
theorem dX9_shoot_97 : decode cX9_shoot 97 = .ok (.iconst 4, 1) := by decide +kernel
theorem dX9_shoot_98 : decode cX9_shoot 98 = .ok (.iload_n 2, 1) := by decide +kernel
theorem dX9_shoot_99 : decode cX9_shoot 99 = .ok (.imul, 1) := by decide +kernel
theorem dX9_shoot_100 : decode cX9_shoot 100 = .ok (.iadd, 1) := by decide +kernel
theorem dX9_shoot_101 : decode cX9_shoot 101 = .ok (.iconst 1, 1) := by decide +kernel
theorem dX9_shoot_102 : decode cX9_shoot 102 = .ok (.iadd, 1) := by decide +kernel
theorem dX9_shoot_103 : decode cX9_shoot 103 = .ok (.dup2, 1) := by decide +kernel
theorem dX9_shoot_104 : decode cX9_shoot 104 = .ok (.iaload, 1) := by decide +kernel
theorem dX9_shoot_105 : decode cX9_shoot 105 = .ok (.iload_n 3, 1) := by decide +kernel
theorem dX9_shoot_106 : decode cX9_shoot 106 = .ok (.aload_n 0, 1) := by decide +kernel
theorem dX9_shoot_107 : decode cX9_shoot 107 = .ok (.getfield 7, 3) := by decide +kernel
theorem dX9_shoot_110 : decode cX9_shoot 110 = .ok (.iload_n 2, 1) := by decide +kernel
theorem dX9_shoot_111 : decode cX9_shoot 111 = .ok (.invokestatic 83, 3) := by decide +kernel
theorem dX9_shoot_114 : decode cX9_shoot 114 = .ok (.iadd, 1) := by decide +kernel
theorem dX9_shoot_115 : decode cX9_shoot 115 = .ok (.isub, 1) := by decide +kernel
theorem dX9_shoot_116 : decode cX9_shoot 116 = .ok (.iastore, 1) := by decide +kernel
theorem dX9_shoot_117 : decode cX9_shoot 117 = .ok (.aload_n 0, 1) := by decide +kernel
theorem dX9_shoot_118 : decode cX9_shoot 118 = .ok (.getfield 7, 3) := by decide +kernel
theorem dX9_shoot_121 : decode cX9_shoot 121 = .ok (.bipush 8, 2) := by decide +kernel
theorem dX9_shoot_123 : decode cX9_shoot 123 = .ok (.dup2, 1) := by decide +kernel
theorem dX9_shoot_124 : decode cX9_shoot 124 = .ok (.iaload, 1) := by decide +kernel
theorem dX9_shoot_125 : decode cX9_shoot 125 = .ok (.iload_n 3, 1) := by decide +kernel
theorem dX9_shoot_126 : decode cX9_shoot 126 = .ok (.iadd, 1) := by decide +kernel
theorem dX9_shoot_127 : decode cX9_shoot 127 = .ok (.iastore, 1) := by decide +kernel
theorem dX9_shoot_128 : decode cX9_shoot 128 = .ok (.aload_n 0, 1) := by decide +kernel
theorem dX9_shoot_129 : decode cX9_shoot 129 = .ok (.getfield 7, 3) := by decide +kernel
theorem dX9_shoot_132 : decode cX9_shoot 132 = .ok (.bipush 9, 2) := by decide +kernel
theorem dX9_shoot_134 : decode cX9_shoot 134 = .ok (.dup2, 1) := by decide +kernel
theorem dX9_shoot_135 : decode cX9_shoot 135 = .ok (.iaload, 1) := by decide +kernel
theorem dX9_shoot_136 : decode cX9_shoot 136 = .ok (.aload_n 0, 1) := by decide +kernel
theorem dX9_shoot_137 : decode cX9_shoot 137 = .ok (.getfield 7, 3) := by decide +kernel
theorem dX9_shoot_140 : decode cX9_shoot 140 = .ok (.iload_n 2, 1) := by decide +kernel
theorem dX9_shoot_141 : decode cX9_shoot 141 = .ok (.invokestatic 83, 3) := by decide +kernel
theorem dX9_shoot_144 : decode cX9_shoot 144 = .ok (.iadd, 1) := by decide +kernel
theorem dX9_shoot_145 : decode cX9_shoot 145 = .ok (.iastore, 1) := by decide +kernel
theorem dX9_shoot_146 : decode cX9_shoot 146 = .ok (.aload_n 0, 1) := by decide +kernel
theorem dX9_shoot_147 : decode cX9_shoot 147 = .ok (.getfield 7, 3) := by decide +kernel
theorem dX9_shoot_150 : decode cX9_shoot 150 = .ok (.bipush 12, 2) := by decide +kernel
theorem dX9_shoot_152 : decode cX9_shoot 152 = .ok (.dup2, 1) := by decide +kernel
theorem dX9_shoot_153 : decode cX9_shoot 153 = .ok (.iaload, 1) := by decide +kernel
theorem dX9_shoot_154 : decode cX9_shoot 154 = .ok (.iload_n 3, 1) := by decide +kernel
theorem dX9_shoot_155 : decode cX9_shoot 155 = .ok (.iadd, 1) := by decide +kernel
theorem dX9_shoot_156 : decode cX9_shoot 156 = .ok (.iastore, 1) := by decide +kernel
theorem dX9_shoot_157 : decode cX9_shoot 157 = .ok (.aload_n 0, 1) := by decide +kernel
theorem dX9_shoot_158 : decode cX9_shoot 158 = .ok (.getfield 7, 3) := by decide +kernel
theorem dX9_shoot_161 : decode cX9_shoot 161 = .ok (.bipush 41, 2) := by decide +kernel
theorem dX9_shoot_163 : decode cX9_shoot 163 = .ok (.iconst 3, 1) := by decide +kernel
theorem dX9_shoot_164 : decode cX9_shoot 164 = .ok (.iload_n 1, 1) := by decide +kernel
theorem dX9_shoot_165 : decode cX9_shoot 165 = .ok (.imul, 1) := by decide +kernel
theorem dX9_shoot_166 : decode cX9_shoot 166 = .ok (.iadd, 1) := by decide +kernel
theorem dX9_shoot_167 : decode cX9_shoot 167 = .ok (.iconst 2, 1) := by decide +kernel
theorem dX9_shoot_168 : decode cX9_shoot 168 = .ok (.iadd, 1) := by decide +kernel
theorem dX9_shoot_169 : decode cX9_shoot 169 = .ok (.iload_n 2, 1) := by decide +kernel
theorem dX9_shoot_170 : decode cX9_shoot 170 = .ok (.iastore, 1) := by decide +kernel
theorem dX9_shoot_171 : decode cX9_shoot 171 = .ok (.aload_n 0, 1) := by decide +kernel
theorem dX9_shoot_172 : decode cX9_shoot 172 = .ok (.getfield 7, 3) := by decide +kernel
theorem dX9_shoot_175 : decode cX9_shoot 175 = .ok (.iload_n 2, 1) := by decide +kernel
theorem dX9_shoot_176 : decode cX9_shoot 176 = .ok (.invokestatic 70, 3) := by decide +kernel
theorem dX9_shoot_179 : decode cX9_shoot 179 = .ok (.ireturn, 1) := by decide +kernel
theorem dX9_unload_0 : decode cX9_unload 0 = .ok (.aload_n 0, 1) := by decide +kernel
theorem dX9_unload_1 : decode cX9_unload 1 = .ok (.getfield 7, 3) := by decide +kernel
theorem dX9_unload_4 : decode cX9_unload 4 = .ok (.bipush 11, 2) := by decide +kernel
theorem dX9_unload_6 : decode cX9_unload 6 = .ok (.iaload, 1) := by decide +kernel
theorem dX9_unload_7 : decode cX9_unload 7 = .ok (.istore_n 1, 1) := by decide +kernel
theorem dX9_unload_8 : decode cX9_unload 8 = .ok (.iload_n 1, 1) := by decide +kernel
theorem dX9_unload_9 : decode cX9_unload 9 = .ok (.ifCond .ge 6, 3) := by decide +kernel
theorem dX9_unload_12 : decode cX9_unload 12 = .ok (.ldc 182, 2) := by decide +kernel
theorem dX9_unload_14 : decode cX9_unload 14 = .ok (.ireturn, 1) := by decide +kernel
theorem dX9_unload_15 : decode cX9_unload 15 = .ok (.aload_n 0, 1) := by decide +kernel
theorem dX9_unload_16 : decode cX9_unload 16 = .ok (.getfield 7, 3) := by decide +kernel
theorem dX9_unload_19 : decode cX9_unload 19 = .ok (.bipush 12, 2) := by decide +kernel
theorem dX9_unload_21 : decode cX9_unload 21 = .ok (.iaload, 1) := by decide +kernel
theorem dX9_unload_22 : decode cX9_unload 22 = .ok (.ifCond .le 18, 3) := by decide +kernel
theorem dX9_unload_25 : decode cX9_unload 25 = .ok (.aload_n 0, 1) := by decide +kernel
theorem dX9_unload_26 : decode cX9_unload 26 = .ok (.getfield 7, 3) := by decide +kernel
theorem dX9_unload_29 : decode cX9_unload 29 = .ok (.bipush 6, 2) := by decide +kernel
theorem dX9_unload_31 : decode cX9_unload 31 = .ok (.iaload, 1) := by decide +kernel
theorem dX9_unload_32 : decode cX9_unload 32 = .ok (.bipush 8, 2) := by decide +kernel
theorem dX9_unload_34 : decode cX9_unload 34 = .ok (.if_icmp .ne 6, 3) := by decide +kernel
theorem dX9_unload_37 : decode cX9_unload 37 = .ok (.ldc 157, 2) := by decide +kernel
theorem dX9_unload_39 : decode cX9_unload 39 = .ok (.ireturn, 1) := by decide +kernel
theorem dX9_unload_40 : decode cX9_unload 40 = .ok (.aload_n 0, 1) := by decide +kernel
theorem dX9_unload_41 : decode cX9_unload 41 = .ok (.invokevirtual 187, 3) := by decide +kernel
theorem dX9_unload_44 : decode cX9_unload 44 = .ok (.aload_n 0, 1) := by decide +kernel
theorem dX9_unload_45 : decode cX9_unload 45 = .ok (.getfield 7, 3) := by decide +kernel
theorem dX9_unload_48 : decode cX9_unload 48 = .ok (.bipush 12, 2) := by decide +kernel
theorem dX9_unload_50 : decode cX9_unload 50 = .ok (.iaload, 1) := by decide +kernel
theorem dX9_unload_51 : decode cX9_unload 51 = .ok (.ifCond .le 74, 3) := by decide +kernel
theorem dX9_unload_54 : decode cX9_unload 54 = .ok (.bipush 65, 2) := by decide +kernel
theorem dX9_unload_56 : decode cX9_unload 56 = .ok (.iconst 3, 1) := by decide +kernel
theorem dX9_unload_57 : decode cX9_unload 57 = .ok (.aload_n 0, 1) := by decide +kernel
theorem dX9_unload_58 : decode cX9_unload 58 = .ok (.getfield 7, 3) := by decide +kernel
theorem dX9_unload_61 : decode cX9_unload 61 = .ok (.bipush 6, 2) := by decide +kernel
theorem dX9_unload_63 : decode cX9_unload 63 = .ok (.iaload, 1) := by decide +kernel
theorem dX9_unload_64 : decode cX9_unload 64 = .ok (.imul, 1) := by decide +kernel
theorem dX9_unload_65 : decode cX9_unload 65 = .ok (.iadd, 1) := by decide +kernel
theorem dX9_unload_66 : decode cX9_unload 66 = .ok (.istore_n 2, 1) := by decide +kernel
theorem dX9_unload_67 : decode cX9_unload 67 = .ok (.aload_n 0, 1) := by decide +kernel
theorem dX9_unload_68 : decode cX9_unload 68 = .ok (.getfield 7, 3) := by decide +kernel
theorem dX9_unload_71 : decode cX9_unload 71 = .ok (.iload_n 2, 1) := by decide +kernel
theorem dX9_unload_72 : decode cX9_unload 72 = .ok (.iload_n 1, 1) := by decide +kernel
theorem dX9_unload_73 : decode cX9_unload 73 = .ok (.iastore, 1) := by decide +kernel
theorem dX9_unload_74 : decode cX9_unload 74 = .ok (.aload_n 0, 1) := by decide +kernel
theorem dX9_unload_75 : decode cX9_unload 75 = .ok (.getfield 7, 3) := by decide +kernel
theorem dX9_unload_78 : decode cX9_unload 78 = .ok (.iload_n 2, 1) := by decide +kernel
theorem dX9_unload_79 : decode cX9_unload 79 = .ok (.iconst 1, 1) := by decide +kernel
theorem dX9_unload_80 : decode cX9_unload 80 = .ok (.iadd, 1) := by decide +kernel
theorem dX9_unload_81 : decode cX9_unload 81 = .ok (.aload_n 0, 1) := by decide +kernel
theorem dX9_unload_82 : decode cX9_unload 82 = .ok (.getfield 7, 3) := by decide +kernel
theorem dX9_unload_85 : decode cX9_unload 85 = .ok (.bipush 12, 2) := by decide +kernel
theorem dX9_unload_87 : decode cX9_unload 87 = .ok (.iaload, 1) := by decide +kernel
theorem dX9_unload_88 : decode cX9_unload 88 = .ok (.iastore, 1) := by decide +kernel
theorem dX9_unload_89 : decode cX9_unload 89 = .ok (.aload_n 0, 1) := by decide +kernel
theorem dX9_unload_90 : decode cX9_unload 90 = .ok (.getfield 7, 3) := by decide +kernel
theorem dX9_unload_93 : decode cX9_unload 93 = .ok (.iload_n 2, 1) := by decide +kernel
theorem dX9_unload_94 : decode cX9_unload 94 = .ok (.iconst 2, 1) := by decide +kernel
theorem dX9_unload_95 : decode cX9_unload 95 = .ok (.iadd, 1) := by decide +kernel
theorem dX9_unload_96 : decode cX9_unload 96 = .ok (.aload_n 0, 1) := by decide +kernel
theorem dX9_unload_97 : decode cX9_unload 97 = .ok (.getfield 7, 3) := by decide +kernel
theorem dX9_unload_100 : decode cX9_unload 100 = .ok (.iload_n 1, 1) := by decide +kernel
theorem dX9_unload_101 : decode cX9_unload 101 = .ok (.invokestatic 51, 3) := by decide +kernel
theorem dX9_unload_104 : decode cX9_unload 104 = .ok (.iconst 4, 1) := by decide +kernel
theorem dX9_unload_105 : decode cX9_unload 105 = .ok (.if_icmp .lt 7, 3) := by decide +kernel
theorem dX9_unload_108 : decode cX9_unload 108 = .ok (.iconst 1, 1) := by decide +kernel
theorem dX9_unload_109 : decode cX9_unload 109 = .ok (.goto 4, 3) := by decide +kernel
theorem dX9_unload_112 : decode cX9_unload 112 = .ok (.iconst 0, 1) := by decide +kernel
theorem dX9_unload_113 : decode cX9_unload 113 = .ok (.iastore, 1) := by decide +kernel
theorem dX9_unload_114 : decode cX9_unload 114 = .ok (.aload_n 0, 1) := by decide +kernel
theorem dX9_unload_115 : decode cX9_unload 115 = .ok (.getfield 7, 3) := by decide +kernel
theorem dX9_unload_118 : decode cX9_unload 118 = .ok (.bipush 6, 2) := by decide +kernel
theorem dX9_unload_120 : decode cX9_unload 120 = .ok (.dup2, 1) := by decide +kernel
theorem dX9_unload_121 : decode cX9_unload 121 = .ok (.iaload, 1) := by decide +kernel
theorem dX9_unload_122 : decode cX9_unload 122 = .ok (.iconst 1, 1) := by decide +kernel
theorem dX9_unload_123 : decode cX9_unload 123 = .ok (.iadd, 1) := by decide +kernel
theorem dX9_unload_124 : decode cX9_unload 124 = .ok (.iastore, 1) := by decide +kernel
theorem dX9_unload_125 : decode cX9_unload 125 = .ok (.aload_n 0, 1) := by decide +kernel
theorem dX9_unload_126 : decode cX9_unload 126 = .ok (.getfield 7, 3) := by decide +kernel
theorem dX9_unload_129 : decode cX9_unload 129 = .ok (.iload_n 1, 1) := by decide +kernel
theorem dX9_unload_130 : decode cX9_unload 130 = .ok (.invokestatic 70, 3) := by decide +kernel
theorem dX9_unload_133 : decode cX9_unload 133 = .ok (.istore_n 2, 1) := by decide +kernel
theorem dX9_unload_134 : decode cX9_unload 134 = .ok (.aload_n 0, 1) := by decide +kernel
theorem dX9_unload_135 : decode cX9_unload 135 = .ok (.getfield 7, 3) := by decide +kernel
theorem dX9_unload_138 : decode cX9_unload 138 = .ok (.iload_n 1, 1) := by decide +kernel
theorem dX9_unload_139 : decode cX9_unload 139 = .ok (.iload_n 2, 1) := by decide +kernel
theorem dX9_unload_140 : decode cX9_unload 140 = .ok (.invokestatic 94, 3) := by decide +kernel
theorem dX9_unload_143 : decode cX9_unload 143 = .ok (.istore_n 3, 1) := by decide +kernel
theorem dX9_unload_144 : decode cX9_unload 144 = .ok (.aload_n 0, 1) := by decide +kernel
theorem dX9_unload_145 : decode cX9_unload 145 = .ok (.getfield 7, 3) := by decide +kernel
theorem dX9_unload_148 : decode cX9_unload 148 = .ok (.bipush 13, 2) := by decide +kernel
theorem dX9_unload_150 : decode cX9_unload 150 = .ok (.iconst 4, 1) := by decide +kernel
theorem dX9_unload_151 : decode cX9_unload 151 = .ok (.iload_n 1, 1) := by decide +kernel
theorem dX9_unload_152 : decode cX9_unload 152 = .ok (.imul, 1) := by decide +kernel
theorem dX9_unload_153 : decode cX9_unload 153 = .ok (.iadd, 1) := by decide +kernel
theorem dX9_unload_154 : decode cX9_unload 154 = .ok (.iconst 2, 1) := by decide +kernel
theorem dX9_unload_155 : decode cX9_unload 155 = .ok (.iadd, 1) := by decide +kernel
theorem dX9_unload_156 : decode cX9_unload 156 = .ok (.iload_n 3, 1) := by decide +kernel
theorem dX9_unload_157 : decode cX9_unload 157 = .ok (.ifCond .eq 7, 3) := by decide +kernel
theorem dX9_unload_160 : decode cX9_unload 160 = .ok (.iconst 0, 1) := by decide +kernel
theorem dX9_unload_161 : decode cX9_unload 161 = .ok (.goto 4, 3) := by decide +kernel
theorem dX9_unload_164 : decode cX9_unload 164 = .ok (.iconst 2, 1) := by decide +kernel
theorem dX9_unload_165 : decode cX9_unload 165 = .ok (.iastore, 1) := by decide +kernel
theorem dX9_unload_166 : decode cX9_unload 166 = .ok (.iload_n 3, 1) := by decide +kernel
theorem dX9_unload_167 : decode cX9_unload 167 = .ok (.ifCond .eq 20, 3) := by decide +kernel
theorem dX9_unload_170 : decode cX9_unload 170 = .ok (.aload_n 0, 1) := by decide +kernel
theorem dX9_unload_171 : decode cX9_unload 171 = .ok (.getfield 7, 3) := by decide +kernel
theorem dX9_unload_174 : decode cX9_unload 174 = .ok (.bipush 13, 2) := by decide +kernel
theorem dX9_unload_176 : decode cX9_unload 176 = .ok (.iconst 4, 1) := by decide +kernel
theorem dX9_unload_177 : decode cX9_unload 177 = .ok (.iload_n 1, 1) := by decide +kernel
theorem dX9_unload_178 : decode cX9_unload 178 = .ok (.imul, 1) := by decide +kernel
theorem dX9_unload_179 : decode cX9_unload 179 = .ok (.iadd, 1) := by decide +kernel
theorem dX9_unload_180 : decode cX9_unload 180 = .ok (.iconst 3, 1) := by decide +kernel
theorem dX9_unload_181 : decode cX9_unload 181 = .ok (.iadd, 1) := by decide +kernel
theorem dX9_unload_182 : decode cX9_unload 182 = .ok (.iconst 1, 1) := by decide +kernel
theorem dX9_unload_183 : decode cX9_unload 183 = .ok (.iastore, 1) := by decide +kernel
theorem dX9_unload_184 : decode cX9_unload 184 = .ok (.goto 28, 3) := by decide +kernel
theorem dX9_unload_187 : decode cX9_unload 187 = .ok (.aload_n 0, 1) := by decide +kernel
theorem dX9_unload_188 : decode cX9_unload 188 = .ok (.getfield 7, 3) := by decide +kernel
theorem dX9_unload_191 : decode cX9_unload 191 = .ok (.bipush 9, 2) := by decide +kernel
theorem dX9_unload_193 : decode cX9_unload 193 = .ok (.dup2, 1) := by decide +kernel
theorem dX9_unload_194 : decode cX9_unload 194 = .ok (.iaload, 1) := by decide +kernel
theorem dX9_unload_195 : decode cX9_unload 195 = .ok (.iload_n 2, 1) := by decide +kernel
theorem dX9_unload_196 : decode cX9_unload 196 = .ok (.iadd, 1) := by decide +kernel
theorem dX9_unload_197 : decode cX9_unload 197 = .ok (.iastore, 1) := by decide +kernel
theorem dX9_unload_198 : decode cX9_unload 198 = .ok (.aload_n 0, 1) := by decide +kernel
theorem dX9_unload_199 : decode cX9_unload 199 = .ok (.getfield 7, 3) := by decide +kernel
theorem dX9_unload_202 : decode cX9_unload 202 = .ok (.bipush 13, 2) := by decide +kernel
theorem dX9_unload_204 : decode cX9_unload 204 = .ok (.iconst 4, 1) := by decide +kernel
theorem dX9_unload_205 : decode cX9_unload 205 = .ok (.iload_n 1, 1) := by decide +kernel
theorem dX9_unload_206 : decode cX9_unload 206 = .ok (.imul, 1) := by decide +kernel
theorem dX9_unload_207 : decode cX9_unload 207 = .ok (.iadd, 1) := by decide +kernel
theorem dX9_unload_208 : decode cX9_unload 208 = .ok (.iconst 1, 1) := by decide +kernel
theorem dX9_unload_209 : decode cX9_unload 209 = .ok (.iadd, 1) := by decide +kernel
theorem dX9_unload_210 : decode cX9_unload 210 = .ok (.iconst 0, 1) := by decide +kernel
theorem dX9_unload_211 : decode cX9_unload 211 = .ok (.iastore, 1) := by decide +kernel
theorem dX9_unload_212 : decode cX9_unload 212 = .ok (.aload_n 0, 1) := by decide +kernel
theorem dX9_unload_213 : decode cX9_unload 213 = .ok (.getfield 7, 3) := by decide +kernel
theorem dX9_unload_216 : decode cX9_unload 216 = .ok (.bipush 11, 2) := by decide +kernel
theorem dX9_unload_218 : decode cX9_unload 218 = .ok (.iconst (-1), 1) := by decide +kernel
theorem dX9_unload_219 : decode cX9_unload 219 = .ok (.iastore, 1) := by decide +kernel
theorem dX9_unload_220 : decode cX9_unload 220 = .ok (.aload_n 0, 1) := by decide +kernel
theorem dX9_unload_221 : decode cX9_unload 221 = .ok (.getfield 7, 3) := by decide +kernel
theorem dX9_unload_224 : decode cX9_unload 224 = .ok (.bipush 12, 2) := by decide +kernel
theorem dX9_unload_226 : decode cX9_unload 226 = .ok (.iconst 0, 1) := by decide +kernel
theorem dX9_unload_227 : decode cX9_unload 227 = .ok (.iastore, 1) := by decide +kernel
theorem dX9_unload_228 : decode cX9_unload 228 = .ok (.iload_n 3, 1) := by decide +kernel
theorem dX9_unload_229 : decode cX9_unload 229 = .ok (.ifCond .eq 7, 3) := by decide +kernel
theorem dX9_unload_232 : decode cX9_unload 232 = .ok (.iload_n 2, 1) := by decide +kernel
theorem dX9_unload_233 : decode cX9_unload 233 = .ok (.goto 4, 3) := by decide +kernel
theorem dX9_unload_236 : decode cX9_unload 236 = .ok (.iconst 0, 1) := by decide +kernel
theorem dX9_unload_237 : decode cX9_unload 237 = .ok (.ireturn, 1) := by decide +kernel
theorem dX9_batched_0 : decode cX9_batched 0 = .ok (.iconst 0, 1) := by decide +kernel
theorem dX9_batched_1 : decode cX9_batched 1 = .ok (.istore_n 1, 1) := by decide +kernel
theorem dX9_batched_2 : decode cX9_batched 2 = .ok (.iconst 0, 1) := by decide +kernel
theorem dX9_batched_3 : decode cX9_batched 3 = .ok (.istore_n 2, 1) := by decide +kernel
theorem dX9_batched_4 : decode cX9_batched 4 = .ok (.iload_n 2, 1) := by decide +kernel
theorem dX9_batched_5 : decode cX9_batched 5 = .ok (.aload_n 0, 1) := by decide +kernel
theorem dX9_batched_6 : decode cX9_batched 6 = .ok (.getfield 7, 3) := by decide +kernel
theorem dX9_batched_9 : decode cX9_batched 9 = .ok (.bipush 6, 2) := by decide +kernel
theorem dX9_batched_11 : decode cX9_batched 11 = .ok (.iaload, 1) := by decide +kernel
theorem dX9_batched_12 : decode cX9_batched 12 = .ok (.if_icmp .ge 145, 3) := by decide +kernel
theorem dX9_batched_15 : decode cX9_batched 15 = .ok (.aload_n 0, 1) := by decide +kernel
theorem dX9_batched_16 : decode cX9_batched 16 = .ok (.getfield 7, 3) := by decide +kernel
theorem dX9_batched_19 : decode cX9_batched 19 = .ok (.bipush 65, 2) := by decide +kernel
theorem dX9_batched_21 : decode cX9_batched 21 = .ok (.iconst 3, 1) := by decide +kernel
theorem dX9_batched_22 : decode cX9_batched 22 = .ok (.iload_n 2, 1) := by decide +kernel
theorem dX9_batched_23 : decode cX9_batched 23 = .ok (.imul, 1) := by decide +kernel
theorem dX9_batched_24 : decode cX9_batched 24 = .ok (.iadd, 1) := by decide +kernel
theorem dX9_batched_25 : decode cX9_batched 25 = .ok (.iconst 1, 1) := by decide +kernel
theorem dX9_batched_26 : decode cX9_batched 26 = .ok (.iadd, 1) := by decide +kernel
theorem dX9_batched_27 : decode cX9_batched 27 = .ok (.iaload, 1) := by decide +kernel
theorem dX9_batched_28 : decode cX9_batched 28 = .ok (.istore_n 3, 1) := by decide +kernel
theorem dX9_batched_29 : decode cX9_batched 29 = .ok (.aload_n 0, 1) := by decide +kernel
theorem dX9_batched_30 : decode cX9_batched 30 = .ok (.getfield 7, 3) := by decide +kernel
theorem dX9_batched_33 : decode cX9_batched 33 = .ok (.bipush 65, 2) := by decide +kernel
theorem dX9_batched_35 : decode cX9_batched 35 = .ok (.iconst 3, 1) := by decide +kernel
theorem dX9_batched_36 : decode cX9_batched 36 = .ok (.iload_n 2, 1) := by decide +kernel
theorem dX9_batched_37 : decode cX9_batched 37 = .ok (.imul, 1) := by decide +kernel
theorem dX9_batched_38 : decode cX9_batched 38 = .ok (.iadd, 1) := by decide +kernel
theorem dX9_batched_39 : decode cX9_batched 39 = .ok (.iconst 2, 1) := by decide +kernel
theorem dX9_batched_40 : decode cX9_batched 40 = .ok (.iadd, 1) := by decide +kernel
theorem dX9_batched_41 : decode cX9_batched 41 = .ok (.iaload, 1) := by decide +kernel
theorem dX9_batched_42 : decode cX9_batched 42 = .ok (.istore 4, 2) := by decide +kernel
theorem dX9_batched_44 : decode cX9_batched 44 = .ok (.iload_n 1, 1) := by decide +kernel
theorem dX9_batched_45 : decode cX9_batched 45 = .ok (.istore 5, 2) := by decide +kernel
theorem dX9_batched_47 : decode cX9_batched 47 = .ok (.iload_n 1, 1) := by decide +kernel
theorem dX9_batched_48 : decode cX9_batched 48 = .ok (.iconst 1, 1) := by decide +kernel
theorem dX9_batched_49 : decode cX9_batched 49 = .ok (.isub, 1) := by decide +kernel
theorem dX9_batched_50 : decode cX9_batched 50 = .ok (.istore 6, 2) := by decide +kernel
theorem dX9_batched_52 : decode cX9_batched 52 = .ok (.iload 6, 2) := by decide +kernel
theorem dX9_batched_54 : decode cX9_batched 54 = .ok (.ifCond .lt 48, 3) := by decide +kernel
theorem dX9_batched_57 : decode cX9_batched 57 = .ok (.aload_n 0, 1) := by decide +kernel
theorem dX9_batched_58 : decode cX9_batched 58 = .ok (.getfield 41, 3) := by decide +kernel
theorem dX9_batched_61 : decode cX9_batched 61 = .ok (.iload 6, 2) := by decide +kernel
theorem dX9_batched_63 : decode cX9_batched 63 = .ok (.iaload, 1) := by decide +kernel
theorem dX9_batched_64 : decode cX9_batched 64 = .ok (.iload 4, 2) := by decide +kernel
theorem dX9_batched_66 : decode cX9_batched 66 = .ok (.if_icmp .ne 26, 3) := by decide +kernel
theorem dX9_batched_69 : decode cX9_batched 69 = .ok (.aload_n 0, 1) := by decide +kernel
theorem dX9_batched_70 : decode cX9_batched 70 = .ok (.getfield 38, 3) := by decide +kernel
theorem dX9_batched_73 : decode cX9_batched 73 = .ok (.iload 6, 2) := by decide +kernel
theorem dX9_batched_75 : decode cX9_batched 75 = .ok (.iaload, 1) := by decide +kernel
theorem dX9_batched_76 : decode cX9_batched 76 = .ok (.iload_n 3, 1) := by decide +kernel
theorem dX9_batched_77 : decode cX9_batched 77 = .ok (.iadd, 1) := by decide +kernel
theorem dX9_batched_78 : decode cX9_batched 78 = .ok (.aload_n 0, 1) := by decide +kernel
theorem dX9_batched_79 : decode cX9_batched 79 = .ok (.getfield 7, 3) := by decide +kernel
theorem dX9_batched_82 : decode cX9_batched 82 = .ok (.iconst 2, 1) := by decide +kernel
theorem dX9_batched_83 : decode cX9_batched 83 = .ok (.iaload, 1) := by decide +kernel
theorem dX9_batched_84 : decode cX9_batched 84 = .ok (.if_icmp .gt 8, 3) := by decide +kernel
theorem dX9_batched_87 : decode cX9_batched 87 = .ok (.iload 6, 2) := by decide +kernel
theorem dX9_batched_89 : decode cX9_batched 89 = .ok (.goto 5, 3) := by decide +kernel
theorem dX9_batched_92 : decode cX9_batched 92 = .ok (.iload 5, 2) := by decide +kernel
theorem dX9_batched_94 : decode cX9_batched 94 = .ok (.istore 5, 2) := by decide +kernel
theorem dX9_batched_96 : decode cX9_batched 96 = .ok (.iinc 6 (-1), 3) := by decide +kernel
theorem dX9_batched_99 : decode cX9_batched 99 = .ok (.goto (-47), 3) := by decide +kernel
theorem dX9_batched_102 : decode cX9_batched 102 = .ok (.aload_n 0, 1) := by decide +kernel
theorem dX9_batched_103 : decode cX9_batched 103 = .ok (.getfield 38, 3) := by decide +kernel
theorem dX9_batched_106 : decode cX9_batched 106 = .ok (.iload 5, 2) := by decide +kernel
theorem dX9_batched_108 : decode cX9_batched 108 = .ok (.iload 5, 2) := by decide +kernel
theorem dX9_batched_110 : decode cX9_batched 110 = .ok (.iload_n 1, 1) := by decide +kernel
theorem dX9_batched_111 : decode cX9_batched 111 = .ok (.if_icmp .ne 7, 3) := by decide +kernel
theorem dX9_batched_114 : decode cX9_batched 114 = .ok (.iload_n 3, 1) := by decide +kernel
theorem dX9_batched_115 : decode cX9_batched 115 = .ok (.goto 12, 3) := by decide +kernel
theorem dX9_batched_118 : decode cX9_batched 118 = .ok (.aload_n 0, 1) := by decide +kernel
theorem dX9_batched_119 : decode cX9_batched 119 = .ok (.getfield 38, 3) := by decide +kernel
theorem dX9_batched_122 : decode cX9_batched 122 = .ok (.iload 5, 2) := by decide +kernel
theorem dX9_batched_124 : decode cX9_batched 124 = .ok (.iaload, 1) := by decide +kernel
theorem dX9_batched_125 : decode cX9_batched 125 = .ok (.iload_n 3, 1) := by decide +kernel
theorem dX9_batched_126 : decode cX9_batched 126 = .ok (.iadd, 1) := by decide +kernel
theorem dX9_batched_127 : decode cX9_batched 127 = .ok (.iastore, 1) := by decide +kernel
theorem dX9_batched_128 : decode cX9_batched 128 = .ok (.aload_n 0, 1) := by decide +kernel
theorem dX9_batched_129 : decode cX9_batched 129 = .ok (.getfield 41, 3) := by decide +kernel
theorem dX9_batched_132 : decode cX9_batched 132 = .ok (.iload 5, 2) := by decide +kernel
theorem dX9_batched_134 : decode cX9_batched 134 = .ok (.iload 4, 2) := by decide +kernel
theorem dX9_batched_136 : decode cX9_batched 136 = .ok (.iastore, 1) := by decide +kernel
theorem dX9_batched_137 : decode cX9_batched 137 = .ok (.iload_n 1, 1) := by decide +kernel
theorem dX9_batched_138 : decode cX9_batched 138 = .ok (.iload 5, 2) := by decide +kernel
theorem dX9_batched_140 : decode cX9_batched 140 = .ok (.iload_n 1, 1) := by decide +kernel
theorem dX9_batched_141 : decode cX9_batched 141 = .ok (.if_icmp .ne 7, 3) := by decide +kernel
theorem dX9_batched_144 : decode cX9_batched 144 = .ok (.iconst 1, 1) := by decide +kernel
theorem dX9_batched_145 : decode cX9_batched 145 = .ok (.goto 4, 3) := by decide +kernel
theorem dX9_batched_148 : decode cX9_batched 148 = .ok (.iconst 0, 1) := by decide +kernel
theorem dX9_batched_149 : decode cX9_batched 149 = .ok (.iadd, 1) := by decide +kernel
theorem dX9_batched_150 : decode cX9_batched 150 = .ok (.istore_n 1, 1) := by decide +kernel
theorem dX9_batched_151 : decode cX9_batched 151 = .ok (.iinc 2 1, 3) := by decide +kernel
theorem dX9_batched_154 : decode cX9_batched 154 = .ok (.goto (-150), 3) := by decide +kernel
theorem dX9_batched_157 : decode cX9_batched 157 = .ok (.iload_n 1, 1) := by decide +kernel
theorem dX9_batched_158 : decode cX9_batched 158 = .ok (.ireturn, 1) := by decide +kernel
theorem dX9_waiting_0 : decode cX9_waiting 0 = .ok (.iconst 0, 1) := by decide +kernel
theorem dX9_waiting_1 : decode cX9_waiting 1 = .ok (.istore_n 1, 1) := by decide +kernel
theorem dX9_waiting_2 : decode cX9_waiting 2 = .ok (.iconst 0, 1) := by decide +kernel
theorem dX9_waiting_3 : decode cX9_waiting 3 = .ok (.istore_n 2, 1) := by decide +kernel
theorem dX9_waiting_4 : decode cX9_waiting 4 = .ok (.iload_n 2, 1) := by decide +kernel
theorem dX9_waiting_5 : decode cX9_waiting 5 = .ok (.aload_n 0, 1) := by decide +kernel
theorem dX9_waiting_6 : decode cX9_waiting 6 = .ok (.getfield 7, 3) := by decide +kernel
theorem dX9_waiting_9 : decode cX9_waiting 9 = .ok (.bipush 6, 2) := by decide +kernel
theorem dX9_waiting_11 : decode cX9_waiting 11 = .ok (.iaload, 1) := by decide +kernel
theorem dX9_waiting_12 : decode cX9_waiting 12 = .ok (.if_icmp .ge 25, 3) := by decide +kernel
theorem dX9_waiting_15 : decode cX9_waiting 15 = .ok (.iload_n 1, 1) := by decide +kernel
theorem dX9_waiting_16 : decode cX9_waiting 16 = .ok (.aload_n 0, 1) := by decide +kernel
theorem dX9_waiting_17 : decode cX9_waiting 17 = .ok (.getfield 7, 3) := by decide +kernel
theorem dX9_waiting_20 : decode cX9_waiting 20 = .ok (.bipush 65, 2) := by decide +kernel
theorem dX9_waiting_22 : decode cX9_waiting 22 = .ok (.iconst 3, 1) := by decide +kernel
theorem dX9_waiting_23 : decode cX9_waiting 23 = .ok (.iload_n 2, 1) := by decide +kernel
theorem dX9_waiting_24 : decode cX9_waiting 24 = .ok (.imul, 1) := by decide +kernel
theorem dX9_waiting_25 : decode cX9_waiting 25 = .ok (.iadd, 1) := by decide +kernel
theorem dX9_waiting_26 : decode cX9_waiting 26 = .ok (.iconst 1, 1) := by decide +kernel
theorem dX9_waiting_27 : decode cX9_waiting 27 = .ok (.iadd, 1) := by decide +kernel
theorem dX9_waiting_28 : decode cX9_waiting 28 = .ok (.iaload, 1) := by decide +kernel
theorem dX9_waiting_29 : decode cX9_waiting 29 = .ok (.iadd, 1) := by decide +kernel
theorem dX9_waiting_30 : decode cX9_waiting 30 = .ok (.istore_n 1, 1) := by decide +kernel
theorem dX9_waiting_31 : decode cX9_waiting 31 = .ok (.iinc 2 1, 3) := by decide +kernel
theorem dX9_waiting_34 : decode cX9_waiting 34 = .ok (.goto (-30), 3) := by decide +kernel
theorem dX9_waiting_37 : decode cX9_waiting 37 = .ok (.iload_n 1, 1) := by decide +kernel
theorem dX9_waiting_38 : decode cX9_waiting 38 = .ok (.ireturn, 1) := by decide +kernel
theorem dX9_lab_0 : decode cX9_lab 0 = .ok (.aload_n 0, 1) := by decide +kernel
theorem dX9_lab_1 : decode cX9_lab 1 = .ok (.getfield 7, 3) := by decide +kernel
theorem dX9_lab_4 : decode cX9_lab 4 = .ok (.bipush 6, 2) := by decide +kernel
theorem dX9_lab_6 : decode cX9_lab 6 = .ok (.iaload, 1) := by decide +kernel
theorem dX9_lab_7 : decode cX9_lab 7 = .ok (.ifCond .ne 6, 3) := by decide +kernel
theorem dX9_lab_10 : decode cX9_lab 10 = .ok (.ldc 182, 2) := by decide +kernel
theorem dX9_lab_12 : decode cX9_lab 12 = .ok (.ireturn, 1) := by decide +kernel
theorem dX9_lab_13 : decode cX9_lab 13 = .ok (.aload_n 0, 1) := by decide +kernel
theorem dX9_lab_14 : decode cX9_lab 14 = .ok (.invokevirtual 187, 3) := by decide +kernel
theorem dX9_lab_17 : decode cX9_lab 17 = .ok (.aload_n 0, 1) := by decide +kernel
theorem dX9_lab_18 : decode cX9_lab 18 = .ok (.invokevirtual 193, 3) := by decide +kernel
theorem dX9_lab_21 : decode cX9_lab 21 = .ok (.istore_n 1, 1) := by decide +kernel
theorem dX9_lab_22 : decode cX9_lab 22 = .ok (.aload_n 0, 1) := by decide +kernel
theorem dX9_lab_23 : decode cX9_lab 23 = .ok (.getfield 7, 3) := by decide +kernel
theorem dX9_lab_26 : decode cX9_lab 26 = .ok (.bipush 10, 2) := by decide +kernel
theorem dX9_lab_28 : decode cX9_lab 28 = .ok (.dup2, 1) := by decide +kernel
theorem dX9_lab_29 : decode cX9_lab 29 = .ok (.iaload, 1) := by decide +kernel
theorem dX9_lab_30 : decode cX9_lab 30 = .ok (.iload_n 1, 1) := by decide +kernel
theorem dX9_lab_31 : decode cX9_lab 31 = .ok (.aload_n 0, 1) := by decide +kernel
theorem dX9_lab_32 : decode cX9_lab 32 = .ok (.getfield 7, 3) := by decide +kernel
theorem dX9_lab_35 : decode cX9_lab 35 = .ok (.iconst 3, 1) := by decide +kernel
theorem dX9_lab_36 : decode cX9_lab 36 = .ok (.iaload, 1) := by decide +kernel
theorem dX9_lab_37 : decode cX9_lab 37 = .ok (.imul, 1) := by decide +kernel
end
section
theorem dX9_lab_38 : decode cX9_lab 38 = .ok (.aload_n 0, 1) := by decide +kernel
theorem dX9_lab_39 : decode cX9_lab 39 = .ok (.invokevirtual 197, 3) := by decide +kernel
theorem dX9_lab_42 : decode cX9_lab 42 = .ok (.iadd, 1) := by decide +kernel
theorem dX9_lab_43 : decode cX9_lab 43 = .ok (.iadd, 1) := by decide +kernel
theorem dX9_lab_44 : decode cX9_lab 44 = .ok (.iastore, 1) := by decide +kernel
theorem dX9_lab_45 : decode cX9_lab 45 = .ok (.aload_n 0, 1) := by decide +kernel
theorem dX9_lab_46 : decode cX9_lab 46 = .ok (.getfield 7, 3) := by decide +kernel
theorem dX9_lab_49 : decode cX9_lab 49 = .ok (.bipush 6, 2) := by decide +kernel
theorem dX9_lab_51 : decode cX9_lab 51 = .ok (.iconst 0, 1) := by decide +kernel
theorem dX9_lab_52 : decode cX9_lab 52 = .ok (.iastore, 1) := by decide +kernel
theorem dX9_lab_53 : decode cX9_lab 53 = .ok (.iload_n 1, 1) := by decide +kernel
theorem dX9_lab_54 : decode cX9_lab 54 = .ok (.ireturn, 1) := by decide +kernel
theorem dX9_again_0 : decode cX9_again 0 = .ok (.aload_n 0, 1) := by decide +kernel
theorem dX9_again_1 : decode cX9_again 1 = .ok (.iload_n 1, 1) := by decide +kernel
theorem dX9_again_2 : decode cX9_again 2 = .ok (.invokevirtual 190, 3) := by decide +kernel
theorem dX9_again_5 : decode cX9_again 5 = .ok (.ifCond .ne 6, 3) := by decide +kernel
theorem dX9_again_8 : decode cX9_again 8 = .ok (.ldc 156, 2) := by decide +kernel
theorem dX9_again_10 : decode cX9_again 10 = .ok (.ireturn, 1) := by decide +kernel
theorem dX9_again_11 : decode cX9_again 11 = .ok (.aload_n 0, 1) := by decide +kernel
theorem dX9_again_12 : decode cX9_again 12 = .ok (.getfield 7, 3) := by decide +kernel
theorem dX9_again_15 : decode cX9_again 15 = .ok (.iload_n 1, 1) := by decide +kernel
theorem dX9_again_16 : decode cX9_again 16 = .ok (.invokestatic 66, 3) := by decide +kernel
theorem dX9_again_19 : decode cX9_again 19 = .ok (.ifCond .eq 6, 3) := by decide +kernel
theorem dX9_again_22 : decode cX9_again 22 = .ok (.ldc 182, 2) := by decide +kernel
theorem dX9_again_24 : decode cX9_again 24 = .ok (.ireturn, 1) := by decide +kernel
theorem dX9_again_25 : decode cX9_again 25 = .ok (.aload_n 0, 1) := by decide +kernel
theorem dX9_again_26 : decode cX9_again 26 = .ok (.invokevirtual 187, 3) := by decide +kernel
theorem dX9_again_29 : decode cX9_again 29 = .ok (.aload_n 0, 1) := by decide +kernel
theorem dX9_again_30 : decode cX9_again 30 = .ok (.getfield 7, 3) := by decide +kernel
theorem dX9_again_33 : decode cX9_again 33 = .ok (.bipush 41, 2) := by decide +kernel
theorem dX9_again_35 : decode cX9_again 35 = .ok (.iconst 3, 1) := by decide +kernel
theorem dX9_again_36 : decode cX9_again 36 = .ok (.iload_n 1, 1) := by decide +kernel
theorem dX9_again_37 : decode cX9_again 37 = .ok (.imul, 1) := by decide +kernel
theorem dX9_again_38 : decode cX9_again 38 = .ok (.iadd, 1) := by decide +kernel
theorem dX9_again_39 : decode cX9_again 39 = .ok (.iconst 2, 1) := by decide +kernel
theorem dX9_again_40 : decode cX9_again 40 = .ok (.iadd, 1) := by decide +kernel
theorem dX9_again_41 : decode cX9_again 41 = .ok (.iaload, 1) := by decide +kernel
theorem dX9_again_42 : decode cX9_again 42 = .ok (.istore_n 2, 1) := by decide +kernel
theorem dX9_again_43 : decode cX9_again 43 = .ok (.aload_n 0, 1) := by decide +kernel
theorem dX9_again_44 : decode cX9_again 44 = .ok (.getfield 7, 3) := by decide +kernel
theorem dX9_again_47 : decode cX9_again 47 = .ok (.bipush 41, 2) := by decide +kernel
theorem dX9_again_49 : decode cX9_again 49 = .ok (.iconst 3, 1) := by decide +kernel
theorem dX9_again_50 : decode cX9_again 50 = .ok (.iload_n 1, 1) := by decide +kernel
theorem dX9_again_51 : decode cX9_again 51 = .ok (.imul, 1) := by decide +kernel
theorem dX9_again_52 : decode cX9_again 52 = .ok (.iadd, 1) := by decide +kernel
theorem dX9_again_53 : decode cX9_again 53 = .ok (.iconst 2, 1) := by decide +kernel
theorem dX9_again_54 : decode cX9_again 54 = .ok (.iadd, 1) := by decide +kernel
theorem dX9_again_55 : decode cX9_again 55 = .ok (.iconst (-1), 1) := by decide +kernel
theorem dX9_again_56 : decode cX9_again 56 = .ok (.iastore, 1) := by decide +kernel
theorem dX9_again_57 : decode cX9_again 57 = .ok (.aload_n 0, 1) := by decide +kernel
theorem dX9_again_58 : decode cX9_again 58 = .ok (.getfield 7, 3) := by decide +kernel
theorem dX9_again_61 : decode cX9_again 61 = .ok (.bipush 8, 2) := by decide +kernel
theorem dX9_again_63 : decode cX9_again 63 = .ok (.dup2, 1) := by decide +kernel
theorem dX9_again_64 : decode cX9_again 64 = .ok (.iaload, 1) := by decide +kernel
theorem dX9_again_65 : decode cX9_again 65 = .ok (.aload_n 0, 1) := by decide +kernel
theorem dX9_again_66 : decode cX9_again 66 = .ok (.getfield 7, 3) := by decide +kernel
theorem dX9_again_69 : decode cX9_again 69 = .ok (.bipush 41, 2) := by decide +kernel
theorem dX9_again_71 : decode cX9_again 71 = .ok (.iconst 3, 1) := by decide +kernel
theorem dX9_again_72 : decode cX9_again 72 = .ok (.iload_n 1, 1) := by decide +kernel
theorem dX9_again_73 : decode cX9_again 73 = .ok (.imul, 1) := by decide +kernel
theorem dX9_again_74 : decode cX9_again 74 = .ok (.iadd, 1) := by decide +kernel
theorem dX9_again_75 : decode cX9_again 75 = .ok (.iconst 1, 1) := by decide +kernel
theorem dX9_again_76 : decode cX9_again 76 = .ok (.iadd, 1) := by decide +kernel
theorem dX9_again_77 : decode cX9_again 77 = .ok (.iaload, 1) := by decide +kernel
theorem dX9_again_78 : decode cX9_again 78 = .ok (.isub, 1) := by decide +kernel
theorem dX9_again_79 : decode cX9_again 79 = .ok (.iastore, 1) := by decide +kernel
theorem dX9_again_80 : decode cX9_again 80 = .ok (.aload_n 0, 1) := by decide +kernel
theorem dX9_again_81 : decode cX9_again 81 = .ok (.getfield 7, 3) := by decide +kernel
theorem dX9_again_84 : decode cX9_again 84 = .ok (.bipush 9, 2) := by decide +kernel
theorem dX9_again_86 : decode cX9_again 86 = .ok (.dup2, 1) := by decide +kernel
theorem dX9_again_87 : decode cX9_again 87 = .ok (.iaload, 1) := by decide +kernel
theorem dX9_again_88 : decode cX9_again 88 = .ok (.aload_n 0, 1) := by decide +kernel
theorem dX9_again_89 : decode cX9_again 89 = .ok (.getfield 7, 3) := by decide +kernel
theorem dX9_again_92 : decode cX9_again 92 = .ok (.bipush 41, 2) := by decide +kernel
theorem dX9_again_94 : decode cX9_again 94 = .ok (.iconst 3, 1) := by decide +kernel
theorem dX9_again_95 : decode cX9_again 95 = .ok (.iload_n 1, 1) := by decide +kernel
theorem dX9_again_96 : decode cX9_again 96 = .ok (.imul, 1) := by decide +kernel
theorem dX9_again_97 : decode cX9_again 97 = .ok (.iadd, 1) := by decide +kernel
theorem dX9_again_98 : decode cX9_again 98 = .ok (.iconst 1, 1) := by decide +kernel
theorem dX9_again_99 : decode cX9_again 99 = .ok (.iadd, 1) := by decide +kernel
theorem dX9_again_100 : decode cX9_again 100 = .ok (.iaload, 1) := by decide +kernel
theorem dX9_again_101 : decode cX9_again 101 = .ok (.iadd, 1) := by decide +kernel
theorem dX9_again_102 : decode cX9_again 102 = .ok (.iastore, 1) := by decide +kernel
theorem dX9_again_103 : decode cX9_again 103 = .ok (.iload_n 2, 1) := by decide +kernel
theorem dX9_again_104 : decode cX9_again 104 = .ok (.ireturn, 1) := by decide +kernel
theorem dX9_buy_0 : decode cX9_buy 0 = .ok (.aload_n 0, 1) := by decide +kernel
theorem dX9_buy_1 : decode cX9_buy 1 = .ok (.invokevirtual 200, 3) := by decide +kernel
theorem dX9_buy_4 : decode cX9_buy 4 = .ok (.ifCond .ne 6, 3) := by decide +kernel
theorem dX9_buy_7 : decode cX9_buy 7 = .ok (.ldc 182, 2) := by decide +kernel
theorem dX9_buy_9 : decode cX9_buy 9 = .ok (.ireturn, 1) := by decide +kernel
theorem dX9_buy_10 : decode cX9_buy 10 = .ok (.iload_n 1, 1) := by decide +kernel
theorem dX9_buy_11 : decode cX9_buy 11 = .ok (.i2l, 1) := by decide +kernel
theorem dX9_buy_12 : decode cX9_buy 12 = .ok (.lconst 1, 1) := by decide +kernel
theorem dX9_buy_13 : decode cX9_buy 13 = .ok (.ldc2_w 203, 3) := by decide +kernel
theorem dX9_buy_16 : decode cX9_buy 16 = .ok (.invokestatic 47, 3) := by decide +kernel
theorem dX9_buy_19 : decode cX9_buy 19 = .ok (.ifCond .eq 15, 3) := by decide +kernel
theorem dX9_buy_22 : decode cX9_buy 22 = .ok (.iload_n 2, 1) := by decide +kernel
theorem dX9_buy_23 : decode cX9_buy 23 = .ok (.i2l, 1) := by decide +kernel
theorem dX9_buy_24 : decode cX9_buy 24 = .ok (.lconst 1, 1) := by decide +kernel
theorem dX9_buy_25 : decode cX9_buy 25 = .ok (.ldc2_w 205, 3) := by decide +kernel
theorem dX9_buy_28 : decode cX9_buy 28 = .ok (.invokestatic 47, 3) := by decide +kernel
theorem dX9_buy_31 : decode cX9_buy 31 = .ok (.ifCond .ne 6, 3) := by decide +kernel
theorem dX9_buy_34 : decode cX9_buy 34 = .ok (.ldc 156, 2) := by decide +kernel
theorem dX9_buy_36 : decode cX9_buy 36 = .ok (.ireturn, 1) := by decide +kernel
theorem dX9_buy_37 : decode cX9_buy 37 = .ok (.aload_n 0, 1) := by decide +kernel
theorem dX9_buy_38 : decode cX9_buy 38 = .ok (.getfield 7, 3) := by decide +kernel
theorem dX9_buy_41 : decode cX9_buy 41 = .ok (.iconst 4, 1) := by decide +kernel
theorem dX9_buy_42 : decode cX9_buy 42 = .ok (.iaload, 1) := by decide +kernel
theorem dX9_buy_43 : decode cX9_buy 43 = .ok (.bipush 6, 2) := by decide +kernel
theorem dX9_buy_45 : decode cX9_buy 45 = .ok (.if_icmp .ne 6, 3) := by decide +kernel
theorem dX9_buy_48 : decode cX9_buy 48 = .ok (.ldc 157, 2) := by decide +kernel
theorem dX9_buy_50 : decode cX9_buy 50 = .ok (.ireturn, 1) := by decide +kernel
theorem dX9_buy_51 : decode cX9_buy 51 = .ok (.aload_n 0, 1) := by decide +kernel
theorem dX9_buy_52 : decode cX9_buy 52 = .ok (.invokevirtual 187, 3) := by decide +kernel
theorem dX9_buy_55 : decode cX9_buy 55 = .ok (.aload_n 0, 1) := by decide +kernel
theorem dX9_buy_56 : decode cX9_buy 56 = .ok (.getfield 7, 3) := by decide +kernel
theorem dX9_buy_59 : decode cX9_buy 59 = .ok (.iload_n 1, 1) := by decide +kernel
theorem dX9_buy_60 : decode cX9_buy 60 = .ok (.iload_n 2, 1) := by decide +kernel
theorem dX9_buy_61 : decode cX9_buy 61 = .ok (.invokestatic 150, 3) := by decide +kernel
theorem dX9_buy_64 : decode cX9_buy 64 = .ok (.aload_n 0, 1) := by decide +kernel
theorem dX9_buy_65 : decode cX9_buy 65 = .ok (.getfield 7, 3) := by decide +kernel
theorem dX9_buy_68 : decode cX9_buy 68 = .ok (.iconst 4, 1) := by decide +kernel
theorem dX9_buy_69 : decode cX9_buy 69 = .ok (.iaload, 1) := by decide +kernel
theorem dX9_buy_70 : decode cX9_buy 70 = .ok (.iconst 1, 1) := by decide +kernel
theorem dX9_buy_71 : decode cX9_buy 71 = .ok (.isub, 1) := by decide +kernel
theorem dX9_buy_72 : decode cX9_buy 72 = .ok (.ireturn, 1) := by decide +kernel
theorem dX9_ask_0 : decode cX9_ask 0 = .ok (.aload_n 0, 1) := by decide +kernel
theorem dX9_ask_1 : decode cX9_ask 1 = .ok (.invokevirtual 200, 3) := by decide +kernel
theorem dX9_ask_4 : decode cX9_ask 4 = .ok (.ifCond .ne 6, 3) := by decide +kernel
theorem dX9_ask_7 : decode cX9_ask 7 = .ok (.ldc 182, 2) := by decide +kernel
theorem dX9_ask_9 : decode cX9_ask 9 = .ok (.ireturn, 1) := by decide +kernel
theorem dX9_ask_10 : decode cX9_ask 10 = .ok (.iload_n 1, 1) := by decide +kernel
theorem dX9_ask_11 : decode cX9_ask 11 = .ok (.i2l, 1) := by decide +kernel
theorem dX9_ask_12 : decode cX9_ask 12 = .ok (.lconst 0, 1) := by decide +kernel
theorem dX9_ask_13 : decode cX9_ask 13 = .ok (.ldc2_w 203, 3) := by decide +kernel
theorem dX9_ask_16 : decode cX9_ask 16 = .ok (.invokestatic 47, 3) := by decide +kernel
theorem dX9_ask_19 : decode cX9_ask 19 = .ok (.ifCond .eq 15, 3) := by decide +kernel
theorem dX9_ask_22 : decode cX9_ask 22 = .ok (.iload_n 2, 1) := by decide +kernel
theorem dX9_ask_23 : decode cX9_ask 23 = .ok (.i2l, 1) := by decide +kernel
theorem dX9_ask_24 : decode cX9_ask 24 = .ok (.lconst 1, 1) := by decide +kernel
theorem dX9_ask_25 : decode cX9_ask 25 = .ok (.ldc2_w 207, 3) := by decide +kernel
theorem dX9_ask_28 : decode cX9_ask 28 = .ok (.invokestatic 47, 3) := by decide +kernel
theorem dX9_ask_31 : decode cX9_ask 31 = .ok (.ifCond .ne 6, 3) := by decide +kernel
theorem dX9_ask_34 : decode cX9_ask 34 = .ok (.ldc 156, 2) := by decide +kernel
theorem dX9_ask_36 : decode cX9_ask 36 = .ok (.ireturn, 1) := by decide +kernel
theorem dX9_ask_37 : decode cX9_ask 37 = .ok (.aload_n 0, 1) := by decide +kernel
theorem dX9_ask_38 : decode cX9_ask 38 = .ok (.getfield 7, 3) := by decide +kernel
theorem dX9_ask_41 : decode cX9_ask 41 = .ok (.iconst 5, 1) := by decide +kernel
theorem dX9_ask_42 : decode cX9_ask 42 = .ok (.iaload, 1) := by decide +kernel
theorem dX9_ask_43 : decode cX9_ask 43 = .ok (.bipush 8, 2) := by decide +kernel
theorem dX9_ask_45 : decode cX9_ask 45 = .ok (.if_icmp .ne 6, 3) := by decide +kernel
theorem dX9_ask_48 : decode cX9_ask 48 = .ok (.ldc 157, 2) := by decide +kernel
theorem dX9_ask_50 : decode cX9_ask 50 = .ok (.ireturn, 1) := by decide +kernel
theorem dX9_ask_51 : decode cX9_ask 51 = .ok (.aload_n 0, 1) := by decide +kernel
theorem dX9_ask_52 : decode cX9_ask 52 = .ok (.invokevirtual 187, 3) := by decide +kernel
theorem dX9_ask_55 : decode cX9_ask 55 = .ok (.bipush 41, 2) := by decide +kernel
theorem dX9_ask_57 : decode cX9_ask 57 = .ok (.iconst 3, 1) := by decide +kernel
theorem dX9_ask_58 : decode cX9_ask 58 = .ok (.aload_n 0, 1) := by decide +kernel
theorem dX9_ask_59 : decode cX9_ask 59 = .ok (.getfield 7, 3) := by decide +kernel
theorem dX9_ask_62 : decode cX9_ask 62 = .ok (.iconst 5, 1) := by decide +kernel
theorem dX9_ask_63 : decode cX9_ask 63 = .ok (.iaload, 1) := by decide +kernel
theorem dX9_ask_64 : decode cX9_ask 64 = .ok (.imul, 1) := by decide +kernel
theorem dX9_ask_65 : decode cX9_ask 65 = .ok (.iadd, 1) := by decide +kernel
theorem dX9_ask_66 : decode cX9_ask 66 = .ok (.istore_n 3, 1) := by decide +kernel
theorem dX9_ask_67 : decode cX9_ask 67 = .ok (.aload_n 0, 1) := by decide +kernel
theorem dX9_ask_68 : decode cX9_ask 68 = .ok (.getfield 7, 3) := by decide +kernel
theorem dX9_ask_71 : decode cX9_ask 71 = .ok (.iload_n 3, 1) := by decide +kernel
theorem dX9_ask_72 : decode cX9_ask 72 = .ok (.iload_n 1, 1) := by decide +kernel
theorem dX9_ask_73 : decode cX9_ask 73 = .ok (.iastore, 1) := by decide +kernel
theorem dX9_ask_74 : decode cX9_ask 74 = .ok (.aload_n 0, 1) := by decide +kernel
theorem dX9_ask_75 : decode cX9_ask 75 = .ok (.getfield 7, 3) := by decide +kernel
theorem dX9_ask_78 : decode cX9_ask 78 = .ok (.iload_n 3, 1) := by decide +kernel
theorem dX9_ask_79 : decode cX9_ask 79 = .ok (.iconst 1, 1) := by decide +kernel
theorem dX9_ask_80 : decode cX9_ask 80 = .ok (.iadd, 1) := by decide +kernel
theorem dX9_ask_81 : decode cX9_ask 81 = .ok (.iload_n 2, 1) := by decide +kernel
theorem dX9_ask_82 : decode cX9_ask 82 = .ok (.iastore, 1) := by decide +kernel
theorem dX9_ask_83 : decode cX9_ask 83 = .ok (.aload_n 0, 1) := by decide +kernel
theorem dX9_ask_84 : decode cX9_ask 84 = .ok (.getfield 7, 3) := by decide +kernel
theorem dX9_ask_87 : decode cX9_ask 87 = .ok (.iload_n 3, 1) := by decide +kernel
theorem dX9_ask_88 : decode cX9_ask 88 = .ok (.iconst 2, 1) := by decide +kernel
theorem dX9_ask_89 : decode cX9_ask 89 = .ok (.iadd, 1) := by decide +kernel
theorem dX9_ask_90 : decode cX9_ask 90 = .ok (.iconst (-1), 1) := by decide +kernel
theorem dX9_ask_91 : decode cX9_ask 91 = .ok (.iastore, 1) := by decide +kernel
theorem dX9_ask_92 : decode cX9_ask 92 = .ok (.aload_n 0, 1) := by decide +kernel
theorem dX9_ask_93 : decode cX9_ask 93 = .ok (.getfield 7, 3) := by decide +kernel
theorem dX9_ask_96 : decode cX9_ask 96 = .ok (.iconst 5, 1) := by decide +kernel
theorem dX9_ask_97 : decode cX9_ask 97 = .ok (.dup2, 1) := by decide +kernel
theorem dX9_ask_98 : decode cX9_ask 98 = .ok (.iaload, 1) := by decide +kernel
theorem dX9_ask_99 : decode cX9_ask 99 = .ok (.iconst 1, 1) := by decide +kernel
theorem dX9_ask_100 : decode cX9_ask 100 = .ok (.iadd, 1) := by decide +kernel
theorem dX9_ask_101 : decode cX9_ask 101 = .ok (.iastore, 1) := by decide +kernel
theorem dX9_ask_102 : decode cX9_ask 102 = .ok (.aload_n 0, 1) := by decide +kernel
theorem dX9_ask_103 : decode cX9_ask 103 = .ok (.getfield 7, 3) := by decide +kernel
theorem dX9_ask_106 : decode cX9_ask 106 = .ok (.iconst 5, 1) := by decide +kernel
theorem dX9_ask_107 : decode cX9_ask 107 = .ok (.iaload, 1) := by decide +kernel
theorem dX9_ask_108 : decode cX9_ask 108 = .ok (.iconst 1, 1) := by decide +kernel
theorem dX9_ask_109 : decode cX9_ask 109 = .ok (.isub, 1) := by decide +kernel
theorem dX9_ask_110 : decode cX9_ask 110 = .ok (.ireturn, 1) := by decide +kernel
theorem dX9_become_0 : decode cX9_become 0 = .ok (.aload_n 0, 1) := by decide +kernel
theorem dX9_become_1 : decode cX9_become 1 = .ok (.iload_n 1, 1) := by decide +kernel
theorem dX9_become_2 : decode cX9_become 2 = .ok (.invokevirtual 183, 3) := by decide +kernel
theorem dX9_become_5 : decode cX9_become 5 = .ok (.ifCond .eq 15, 3) := by decide +kernel
theorem dX9_become_8 : decode cX9_become 8 = .ok (.iload_n 2, 1) := by decide +kernel
theorem dX9_become_9 : decode cX9_become 9 = .ok (.i2l, 1) := by decide +kernel
theorem dX9_become_10 : decode cX9_become 10 = .ok (.lconst 1, 1) := by decide +kernel
theorem dX9_become_11 : decode cX9_become 11 = .ok (.ldc2_w 203, 3) := by decide +kernel
theorem dX9_become_14 : decode cX9_become 14 = .ok (.invokestatic 47, 3) := by decide +kernel
theorem dX9_become_17 : decode cX9_become 17 = .ok (.ifCond .ne 6, 3) := by decide +kernel
theorem dX9_become_20 : decode cX9_become 20 = .ok (.ldc 156, 2) := by decide +kernel
theorem dX9_become_22 : decode cX9_become 22 = .ok (.ireturn, 1) := by decide +kernel
theorem dX9_become_23 : decode cX9_become 23 = .ok (.aload_n 0, 1) := by decide +kernel
theorem dX9_become_24 : decode cX9_become 24 = .ok (.getfield 7, 3) := by decide +kernel
theorem dX9_become_27 : decode cX9_become 27 = .ok (.iload_n 1, 1) := by decide +kernel
theorem dX9_become_28 : decode cX9_become 28 = .ok (.invokestatic 51, 3) := by decide +kernel
theorem dX9_become_31 : decode cX9_become 31 = .ok (.istore_n 3, 1) := by decide +kernel
theorem dX9_become_32 : decode cX9_become 32 = .ok (.iload_n 3, 1) := by decide +kernel
theorem dX9_become_33 : decode cX9_become 33 = .ok (.iload_n 2, 1) := by decide +kernel
theorem dX9_become_34 : decode cX9_become 34 = .ok (.if_icmp .eq 14, 3) := by decide +kernel
theorem dX9_become_37 : decode cX9_become 37 = .ok (.aload_n 0, 1) := by decide +kernel
theorem dX9_become_38 : decode cX9_become 38 = .ok (.getfield 7, 3) := by decide +kernel
theorem dX9_become_41 : decode cX9_become 41 = .ok (.iload_n 1, 1) := by decide +kernel
theorem dX9_become_42 : decode cX9_become 42 = .ok (.invokestatic 63, 3) := by decide +kernel
theorem dX9_become_45 : decode cX9_become 45 = .ok (.ifCond .eq 6, 3) := by decide +kernel
theorem dX9_become_48 : decode cX9_become 48 = .ok (.ldc 182, 2) := by decide +kernel
theorem dX9_become_50 : decode cX9_become 50 = .ok (.ireturn, 1) := by decide +kernel
theorem dX9_become_51 : decode cX9_become 51 = .ok (.aload_n 0, 1) := by decide +kernel
theorem dX9_become_52 : decode cX9_become 52 = .ok (.invokevirtual 187, 3) := by decide +kernel
theorem dX9_become_55 : decode cX9_become 55 = .ok (.aload_n 0, 1) := by decide +kernel
theorem dX9_become_56 : decode cX9_become 56 = .ok (.getfield 7, 3) := by decide +kernel
theorem dX9_become_59 : decode cX9_become 59 = .ok (.bipush 13, 2) := by decide +kernel
theorem dX9_become_61 : decode cX9_become 61 = .ok (.iconst 4, 1) := by decide +kernel
theorem dX9_become_62 : decode cX9_become 62 = .ok (.iload_n 1, 1) := by decide +kernel
theorem dX9_become_63 : decode cX9_become 63 = .ok (.imul, 1) := by decide +kernel
theorem dX9_become_64 : decode cX9_become 64 = .ok (.iadd, 1) := by decide +kernel
theorem dX9_become_65 : decode cX9_become 65 = .ok (.iload_n 2, 1) := by decide +kernel
theorem dX9_become_66 : decode cX9_become 66 = .ok (.iastore, 1) := by decide +kernel
theorem dX9_become_67 : decode cX9_become 67 = .ok (.iload_n 3, 1) := by decide +kernel
theorem dX9_become_68 : decode cX9_become 68 = .ok (.ireturn, 1) := by decide +kernel
theorem dX9_demand_0 : decode cX9_demand 0 = .ok (.aload_n 0, 1) := by decide +kernel
theorem dX9_demand_1 : decode cX9_demand 1 = .ok (.iload_n 1, 1) := by decide +kernel
theorem dX9_demand_2 : decode cX9_demand 2 = .ok (.invokevirtual 190, 3) := by decide +kernel
theorem dX9_demand_5 : decode cX9_demand 5 = .ok (.ifCond .eq 27, 3) := by decide +kernel
theorem dX9_demand_8 : decode cX9_demand 8 = .ok (.iload_n 2, 1) := by decide +kernel
theorem dX9_demand_9 : decode cX9_demand 9 = .ok (.i2l, 1) := by decide +kernel
theorem dX9_demand_10 : decode cX9_demand 10 = .ok (.lconst 0, 1) := by decide +kernel
theorem dX9_demand_11 : decode cX9_demand 11 = .ok (.ldc2_w 203, 3) := by decide +kernel
theorem dX9_demand_14 : decode cX9_demand 14 = .ok (.invokestatic 47, 3) := by decide +kernel
theorem dX9_demand_17 : decode cX9_demand 17 = .ok (.ifCond .eq 15, 3) := by decide +kernel
theorem dX9_demand_20 : decode cX9_demand 20 = .ok (.iload_n 3, 1) := by decide +kernel
theorem dX9_demand_21 : decode cX9_demand 21 = .ok (.i2l, 1) := by decide +kernel
theorem dX9_demand_22 : decode cX9_demand 22 = .ok (.lconst 1, 1) := by decide +kernel
theorem dX9_demand_23 : decode cX9_demand 23 = .ok (.ldc2_w 207, 3) := by decide +kernel
theorem dX9_demand_26 : decode cX9_demand 26 = .ok (.invokestatic 47, 3) := by decide +kernel
theorem dX9_demand_29 : decode cX9_demand 29 = .ok (.ifCond .ne 6, 3) := by decide +kernel
theorem dX9_demand_32 : decode cX9_demand 32 = .ok (.ldc 156, 2) := by decide +kernel
theorem dX9_demand_34 : decode cX9_demand 34 = .ok (.ireturn, 1) := by decide +kernel
theorem dX9_demand_35 : decode cX9_demand 35 = .ok (.aload_n 0, 1) := by decide +kernel
theorem dX9_demand_36 : decode cX9_demand 36 = .ok (.getfield 7, 3) := by decide +kernel
theorem dX9_demand_39 : decode cX9_demand 39 = .ok (.iload_n 1, 1) := by decide +kernel
theorem dX9_demand_40 : decode cX9_demand 40 = .ok (.invokestatic 66, 3) := by decide +kernel
theorem dX9_demand_43 : decode cX9_demand 43 = .ok (.ifCond .ne 6, 3) := by decide +kernel
theorem dX9_demand_46 : decode cX9_demand 46 = .ok (.ldc 182, 2) := by decide +kernel
theorem dX9_demand_48 : decode cX9_demand 48 = .ok (.ireturn, 1) := by decide +kernel
theorem dX9_demand_49 : decode cX9_demand 49 = .ok (.aload_n 0, 1) := by decide +kernel
theorem dX9_demand_50 : decode cX9_demand 50 = .ok (.invokevirtual 187, 3) := by decide +kernel
theorem dX9_demand_53 : decode cX9_demand 53 = .ok (.aload_n 0, 1) := by decide +kernel
theorem dX9_demand_54 : decode cX9_demand 54 = .ok (.getfield 7, 3) := by decide +kernel
theorem dX9_demand_57 : decode cX9_demand 57 = .ok (.bipush 41, 2) := by decide +kernel
theorem dX9_demand_59 : decode cX9_demand 59 = .ok (.iconst 3, 1) := by decide +kernel
theorem dX9_demand_60 : decode cX9_demand 60 = .ok (.iload_n 1, 1) := by decide +kernel
theorem dX9_demand_61 : decode cX9_demand 61 = .ok (.imul, 1) := by decide +kernel
theorem dX9_demand_62 : decode cX9_demand 62 = .ok (.iadd, 1) := by decide +kernel
theorem dX9_demand_63 : decode cX9_demand 63 = .ok (.iconst 1, 1) := by decide +kernel
theorem dX9_demand_64 : decode cX9_demand 64 = .ok (.iadd, 1) := by decide +kernel
theorem dX9_demand_65 : decode cX9_demand 65 = .ok (.iaload, 1) := by decide +kernel
theorem dX9_demand_66 : decode cX9_demand 66 = .ok (.istore 4, 2) := by decide +kernel
theorem dX9_demand_68 : decode cX9_demand 68 = .ok (.aload_n 0, 1) := by decide +kernel
theorem dX9_demand_69 : decode cX9_demand 69 = .ok (.getfield 7, 3) := by decide +kernel
theorem dX9_demand_72 : decode cX9_demand 72 = .ok (.bipush 41, 2) := by decide +kernel
theorem dX9_demand_74 : decode cX9_demand 74 = .ok (.iconst 3, 1) := by decide +kernel
theorem dX9_demand_75 : decode cX9_demand 75 = .ok (.iload_n 1, 1) := by decide +kernel
theorem dX9_demand_76 : decode cX9_demand 76 = .ok (.imul, 1) := by decide +kernel
theorem dX9_demand_77 : decode cX9_demand 77 = .ok (.iadd, 1) := by decide +kernel
theorem dX9_demand_78 : decode cX9_demand 78 = .ok (.iload_n 2, 1) := by decide +kernel
theorem dX9_demand_79 : decode cX9_demand 79 = .ok (.iastore, 1) := by decide +kernel
theorem dX9_demand_80 : decode cX9_demand 80 = .ok (.aload_n 0, 1) := by decide +kernel
theorem dX9_demand_81 : decode cX9_demand 81 = .ok (.getfield 7, 3) := by decide +kernel
theorem dX9_demand_84 : decode cX9_demand 84 = .ok (.bipush 41, 2) := by decide +kernel
theorem dX9_demand_86 : decode cX9_demand 86 = .ok (.iconst 3, 1) := by decide +kernel
theorem dX9_demand_87 : decode cX9_demand 87 = .ok (.iload_n 1, 1) := by decide +kernel
theorem dX9_demand_88 : decode cX9_demand 88 = .ok (.imul, 1) := by decide +kernel
theorem dX9_demand_89 : decode cX9_demand 89 = .ok (.iadd, 1) := by decide +kernel
theorem dX9_demand_90 : decode cX9_demand 90 = .ok (.iconst 1, 1) := by decide +kernel
theorem dX9_demand_91 : decode cX9_demand 91 = .ok (.iadd, 1) := by decide +kernel
theorem dX9_demand_92 : decode cX9_demand 92 = .ok (.iload_n 3, 1) := by decide +kernel
theorem dX9_demand_93 : decode cX9_demand 93 = .ok (.iastore, 1) := by decide +kernel
theorem dX9_demand_94 : decode cX9_demand 94 = .ok (.iload 4, 2) := by decide +kernel
theorem dX9_demand_96 : decode cX9_demand 96 = .ok (.ireturn, 1) := by decide +kernel
theorem dX9_law_0 : decode cX9_law 0 = .ok (.aload_n 0, 1) := by decide +kernel
theorem dX9_law_1 : decode cX9_law 1 = .ok (.invokevirtual 200, 3) := by decide +kernel
theorem dX9_law_4 : decode cX9_law 4 = .ok (.ifCond .ne 6, 3) := by decide +kernel
theorem dX9_law_7 : decode cX9_law 7 = .ok (.ldc 182, 2) := by decide +kernel
theorem dX9_law_9 : decode cX9_law 9 = .ok (.ireturn, 1) := by decide +kernel
theorem dX9_law_10 : decode cX9_law 10 = .ok (.iload_n 1, 1) := by decide +kernel
theorem dX9_law_11 : decode cX9_law 11 = .ok (.ifCond .ne 15, 3) := by decide +kernel
theorem dX9_law_14 : decode cX9_law 14 = .ok (.iload_n 2, 1) := by decide +kernel
theorem dX9_law_15 : decode cX9_law 15 = .ok (.i2l, 1) := by decide +kernel
theorem dX9_law_16 : decode cX9_law 16 = .ok (.lconst 0, 1) := by decide +kernel
theorem dX9_law_17 : decode cX9_law 17 = .ok (.ldc2_w 209, 3) := by decide +kernel
theorem dX9_law_20 : decode cX9_law 20 = .ok (.invokestatic 47, 3) := by decide +kernel
theorem dX9_law_23 : decode cX9_law 23 = .ok (.ifCond .ne 56, 3) := by decide +kernel
theorem dX9_law_26 : decode cX9_law 26 = .ok (.iload_n 1, 1) := by decide +kernel
theorem dX9_law_27 : decode cX9_law 27 = .ok (.iconst 1, 1) := by decide +kernel
theorem dX9_law_28 : decode cX9_law 28 = .ok (.if_icmp .ne 15, 3) := by decide +kernel
theorem dX9_law_31 : decode cX9_law 31 = .ok (.iload_n 2, 1) := by decide +kernel
theorem dX9_law_32 : decode cX9_law 32 = .ok (.i2l, 1) := by decide +kernel
theorem dX9_law_33 : decode cX9_law 33 = .ok (.lconst 1, 1) := by decide +kernel
theorem dX9_law_34 : decode cX9_law 34 = .ok (.ldc2_w 211, 3) := by decide +kernel
theorem dX9_law_37 : decode cX9_law 37 = .ok (.invokestatic 47, 3) := by decide +kernel
theorem dX9_law_40 : decode cX9_law 40 = .ok (.ifCond .ne 39, 3) := by decide +kernel
theorem dX9_law_43 : decode cX9_law 43 = .ok (.iload_n 1, 1) := by decide +kernel
theorem dX9_law_44 : decode cX9_law 44 = .ok (.iconst 2, 1) := by decide +kernel
theorem dX9_law_45 : decode cX9_law 45 = .ok (.if_icmp .ne 17, 3) := by decide +kernel
theorem dX9_law_48 : decode cX9_law 48 = .ok (.iload_n 2, 1) := by decide +kernel
theorem dX9_law_49 : decode cX9_law 49 = .ok (.i2l, 1) := by decide +kernel
theorem dX9_law_50 : decode cX9_law 50 = .ok (.ldc2_w 213, 3) := by decide +kernel
theorem dX9_law_53 : decode cX9_law 53 = .ok (.ldc2_w 205, 3) := by decide +kernel
theorem dX9_law_56 : decode cX9_law 56 = .ok (.invokestatic 47, 3) := by decide +kernel
theorem dX9_law_59 : decode cX9_law 59 = .ok (.ifCond .ne 20, 3) := by decide +kernel
theorem dX9_law_62 : decode cX9_law 62 = .ok (.iload_n 1, 1) := by decide +kernel
theorem dX9_law_63 : decode cX9_law 63 = .ok (.iconst 3, 1) := by decide +kernel
theorem dX9_law_64 : decode cX9_law 64 = .ok (.if_icmp .ne 19, 3) := by decide +kernel
theorem dX9_law_67 : decode cX9_law 67 = .ok (.iload_n 2, 1) := by decide +kernel
theorem dX9_law_68 : decode cX9_law 68 = .ok (.i2l, 1) := by decide +kernel
theorem dX9_law_69 : decode cX9_law 69 = .ok (.lconst 0, 1) := by decide +kernel
theorem dX9_law_70 : decode cX9_law 70 = .ok (.ldc2_w 215, 3) := by decide +kernel
theorem dX9_law_73 : decode cX9_law 73 = .ok (.invokestatic 47, 3) := by decide +kernel
theorem dX9_law_76 : decode cX9_law 76 = .ok (.ifCond .eq 7, 3) := by decide +kernel
theorem dX9_law_79 : decode cX9_law 79 = .ok (.iconst 1, 1) := by decide +kernel
theorem dX9_law_80 : decode cX9_law 80 = .ok (.goto 4, 3) := by decide +kernel
theorem dX9_law_83 : decode cX9_law 83 = .ok (.iconst 0, 1) := by decide +kernel
theorem dX9_law_84 : decode cX9_law 84 = .ok (.istore_n 3, 1) := by decide +kernel
theorem dX9_law_85 : decode cX9_law 85 = .ok (.iload_n 3, 1) := by decide +kernel
theorem dX9_law_86 : decode cX9_law 86 = .ok (.ifCond .ne 6, 3) := by decide +kernel
theorem dX9_law_89 : decode cX9_law 89 = .ok (.ldc 156, 2) := by decide +kernel
theorem dX9_law_91 : decode cX9_law 91 = .ok (.ireturn, 1) := by decide +kernel
theorem dX9_law_92 : decode cX9_law 92 = .ok (.aload_n 0, 1) := by decide +kernel
theorem dX9_law_93 : decode cX9_law 93 = .ok (.invokevirtual 187, 3) := by decide +kernel
theorem dX9_law_96 : decode cX9_law 96 = .ok (.aload_n 0, 1) := by decide +kernel
theorem dX9_law_97 : decode cX9_law 97 = .ok (.getfield 7, 3) := by decide +kernel
theorem dX9_law_100 : decode cX9_law 100 = .ok (.iload_n 1, 1) := by decide +kernel
theorem dX9_law_101 : decode cX9_law 101 = .ok (.iaload, 1) := by decide +kernel
theorem dX9_law_102 : decode cX9_law 102 = .ok (.istore 4, 2) := by decide +kernel
theorem dX9_law_104 : decode cX9_law 104 = .ok (.aload_n 0, 1) := by decide +kernel
theorem dX9_law_105 : decode cX9_law 105 = .ok (.getfield 7, 3) := by decide +kernel
theorem dX9_law_108 : decode cX9_law 108 = .ok (.iload_n 1, 1) := by decide +kernel
theorem dX9_law_109 : decode cX9_law 109 = .ok (.iload_n 2, 1) := by decide +kernel
theorem dX9_law_110 : decode cX9_law 110 = .ok (.iastore, 1) := by decide +kernel
theorem dX9_law_111 : decode cX9_law 111 = .ok (.iload 4, 2) := by decide +kernel
theorem dX9_law_113 : decode cX9_law 113 = .ok (.ireturn, 1) := by decide +kernel
theorem dX9_shotOn_0 : decode cX9_shotOn 0 = .ok (.iconst 0, 1) := by decide +kernel
theorem dX9_shotOn_1 : decode cX9_shotOn 1 = .ok (.istore_n 2, 1) := by decide +kernel
theorem dX9_shotOn_2 : decode cX9_shotOn 2 = .ok (.iconst 0, 1) := by decide +kernel
theorem dX9_shotOn_3 : decode cX9_shotOn 3 = .ok (.istore_n 3, 1) := by decide +kernel
theorem dX9_shotOn_4 : decode cX9_shotOn 4 = .ok (.iload_n 3, 1) := by decide +kernel
theorem dX9_shotOn_5 : decode cX9_shotOn 5 = .ok (.aload_n 0, 1) := by decide +kernel
theorem dX9_shotOn_6 : decode cX9_shotOn 6 = .ok (.getfield 7, 3) := by decide +kernel
theorem dX9_shotOn_9 : decode cX9_shotOn 9 = .ok (.iconst 5, 1) := by decide +kernel
theorem dX9_shotOn_10 : decode cX9_shotOn 10 = .ok (.iaload, 1) := by decide +kernel
theorem dX9_shotOn_11 : decode cX9_shotOn 11 = .ok (.if_icmp .ge 36, 3) := by decide +kernel
theorem dX9_shotOn_14 : decode cX9_shotOn 14 = .ok (.iload_n 2, 1) := by decide +kernel
theorem dX9_shotOn_15 : decode cX9_shotOn 15 = .ok (.aload_n 0, 1) := by decide +kernel
theorem dX9_shotOn_16 : decode cX9_shotOn 16 = .ok (.getfield 7, 3) := by decide +kernel
theorem dX9_shotOn_19 : decode cX9_shotOn 19 = .ok (.bipush 41, 2) := by decide +kernel
theorem dX9_shotOn_21 : decode cX9_shotOn 21 = .ok (.iconst 3, 1) := by decide +kernel
theorem dX9_shotOn_22 : decode cX9_shotOn 22 = .ok (.iload_n 3, 1) := by decide +kernel
theorem dX9_shotOn_23 : decode cX9_shotOn 23 = .ok (.imul, 1) := by decide +kernel
theorem dX9_shotOn_24 : decode cX9_shotOn 24 = .ok (.iadd, 1) := by decide +kernel
theorem dX9_shotOn_25 : decode cX9_shotOn 25 = .ok (.iconst 2, 1) := by decide +kernel
theorem dX9_shotOn_26 : decode cX9_shotOn 26 = .ok (.iadd, 1) := by decide +kernel
theorem dX9_shotOn_27 : decode cX9_shotOn 27 = .ok (.iaload, 1) := by decide +kernel
theorem dX9_shotOn_28 : decode cX9_shotOn 28 = .ok (.iload_n 1, 1) := by decide +kernel
theorem dX9_shotOn_29 : decode cX9_shotOn 29 = .ok (.if_icmp .ne 9, 3) := by decide +kernel
theorem dX9_shotOn_32 : decode cX9_shotOn 32 = .ok (.iconst 1, 1) := by decide +kernel
theorem dX9_shotOn_33 : decode cX9_shotOn 33 = .ok (.iload_n 3, 1) := by decide +kernel
theorem dX9_shotOn_34 : decode cX9_shotOn 34 = .ok (.ishl, 1) := by decide +kernel
theorem dX9_shotOn_35 : decode cX9_shotOn 35 = .ok (.goto 4, 3) := by decide +kernel
theorem dX9_shotOn_38 : decode cX9_shotOn 38 = .ok (.iconst 0, 1) := by decide +kernel
theorem dX9_shotOn_39 : decode cX9_shotOn 39 = .ok (.ior, 1) := by decide +kernel
theorem dX9_shotOn_40 : decode cX9_shotOn 40 = .ok (.istore_n 2, 1) := by decide +kernel
theorem dX9_shotOn_41 : decode cX9_shotOn 41 = .ok (.iinc 3 1, 3) := by decide +kernel
theorem dX9_shotOn_44 : decode cX9_shotOn 44 = .ok (.goto (-40), 3) := by decide +kernel
theorem dX9_shotOn_47 : decode cX9_shotOn 47 = .ok (.iload_n 2, 1) := by decide +kernel
theorem dX9_shotOn_48 : decode cX9_shotOn 48 = .ok (.ireturn, 1) := by decide +kernel
theorem dX9_can_0 : decode cX9_can 0 = .ok (.aload_n 0, 1) := by decide +kernel
theorem dX9_can_1 : decode cX9_can 1 = .ok (.iload_n 1, 1) := by decide +kernel
theorem dX9_can_2 : decode cX9_can 2 = .ok (.invokevirtual 183, 3) := by decide +kernel
theorem dX9_can_5 : decode cX9_can 5 = .ok (.ifCond .ne 6, 3) := by decide +kernel
theorem dX9_can_8 : decode cX9_can 8 = .ok (.ldc 156, 2) := by decide +kernel
theorem dX9_can_10 : decode cX9_can 10 = .ok (.ireturn, 1) := by decide +kernel
theorem dX9_can_11 : decode cX9_can 11 = .ok (.iload_n 2, 1) := by decide +kernel
theorem dX9_can_12 : decode cX9_can 12 = .ok (.tableswitch 95 0 7 #[48, 48, 48, 48, 62, 68, 77, 86], 48) := by decide +kernel
theorem dX9_can_60 : decode cX9_can 60 = .ok (.aload_n 0, 1) := by decide +kernel
theorem dX9_can_61 : decode cX9_can 61 = .ok (.getfield 7, 3) := by decide +kernel
theorem dX9_can_64 : decode cX9_can 64 = .ok (.bipush 13, 2) := by decide +kernel
theorem dX9_can_66 : decode cX9_can 66 = .ok (.iconst 4, 1) := by decide +kernel
theorem dX9_can_67 : decode cX9_can 67 = .ok (.iload_n 1, 1) := by decide +kernel
theorem dX9_can_68 : decode cX9_can 68 = .ok (.imul, 1) := by decide +kernel
theorem dX9_can_69 : decode cX9_can 69 = .ok (.iadd, 1) := by decide +kernel
theorem dX9_can_70 : decode cX9_can 70 = .ok (.iload_n 2, 1) := by decide +kernel
theorem dX9_can_71 : decode cX9_can 71 = .ok (.iadd, 1) := by decide +kernel
theorem dX9_can_72 : decode cX9_can 72 = .ok (.iaload, 1) := by decide +kernel
theorem dX9_can_73 : decode cX9_can 73 = .ok (.ireturn, 1) := by decide +kernel
theorem dX9_can_74 : decode cX9_can 74 = .ok (.aload_n 0, 1) := by decide +kernel
theorem dX9_can_75 : decode cX9_can 75 = .ok (.iload_n 1, 1) := by decide +kernel
theorem dX9_can_76 : decode cX9_can 76 = .ok (.invokevirtual 217, 3) := by decide +kernel
theorem dX9_can_79 : decode cX9_can 79 = .ok (.ireturn, 1) := by decide +kernel
theorem dX9_can_80 : decode cX9_can 80 = .ok (.aload_n 0, 1) := by decide +kernel
theorem dX9_can_81 : decode cX9_can 81 = .ok (.getfield 7, 3) := by decide +kernel
theorem dX9_can_84 : decode cX9_can 84 = .ok (.iload_n 1, 1) := by decide +kernel
theorem dX9_can_85 : decode cX9_can 85 = .ok (.invokestatic 73, 3) := by decide +kernel
theorem dX9_can_88 : decode cX9_can 88 = .ok (.ireturn, 1) := by decide +kernel
theorem dX9_can_89 : decode cX9_can 89 = .ok (.aload_n 0, 1) := by decide +kernel
theorem dX9_can_90 : decode cX9_can 90 = .ok (.getfield 7, 3) := by decide +kernel
theorem dX9_can_93 : decode cX9_can 93 = .ok (.iload_n 1, 1) := by decide +kernel
theorem dX9_can_94 : decode cX9_can 94 = .ok (.invokestatic 83, 3) := by decide +kernel
theorem dX9_can_97 : decode cX9_can 97 = .ok (.ireturn, 1) := by decide +kernel
theorem dX9_can_98 : decode cX9_can 98 = .ok (.aload_n 0, 1) := by decide +kernel
theorem dX9_can_99 : decode cX9_can 99 = .ok (.getfield 7, 3) := by decide +kernel
theorem dX9_can_102 : decode cX9_can 102 = .ok (.iload_n 1, 1) := by decide +kernel
theorem dX9_can_103 : decode cX9_can 103 = .ok (.invokestatic 60, 3) := by decide +kernel
theorem dX9_can_106 : decode cX9_can 106 = .ok (.ireturn, 1) := by decide +kernel
theorem dX9_can_107 : decode cX9_can 107 = .ok (.ldc 156, 2) := by decide +kernel
theorem dX9_can_109 : decode cX9_can 109 = .ok (.ireturn, 1) := by decide +kernel
theorem dX9_serving_0 : decode cX9_serving 0 = .ok (.iconst 0, 1) := by decide +kernel
theorem dX9_serving_1 : decode cX9_serving 1 = .ok (.istore_n 2, 1) := by decide +kernel
theorem dX9_serving_2 : decode cX9_serving 2 = .ok (.iconst 0, 1) := by decide +kernel
theorem dX9_serving_3 : decode cX9_serving 3 = .ok (.istore_n 3, 1) := by decide +kernel
theorem dX9_serving_4 : decode cX9_serving 4 = .ok (.iload_n 3, 1) := by decide +kernel
theorem dX9_serving_5 : decode cX9_serving 5 = .ok (.aload_n 0, 1) := by decide +kernel
theorem dX9_serving_6 : decode cX9_serving 6 = .ok (.getfield 7, 3) := by decide +kernel
theorem dX9_serving_9 : decode cX9_serving 9 = .ok (.iconst 4, 1) := by decide +kernel
theorem dX9_serving_10 : decode cX9_serving 10 = .ok (.iaload, 1) := by decide +kernel
theorem dX9_serving_11 : decode cX9_serving 11 = .ok (.if_icmp .ge 31, 3) := by decide +kernel
theorem dX9_serving_14 : decode cX9_serving 14 = .ok (.iload_n 2, 1) := by decide +kernel
theorem dX9_serving_15 : decode cX9_serving 15 = .ok (.aload_n 0, 1) := by decide +kernel
theorem dX9_serving_16 : decode cX9_serving 16 = .ok (.getfield 7, 3) := by decide +kernel
theorem dX9_serving_19 : decode cX9_serving 19 = .ok (.iload_n 3, 1) := by decide +kernel
theorem dX9_serving_20 : decode cX9_serving 20 = .ok (.iload_n 1, 1) := by decide +kernel
theorem dX9_serving_21 : decode cX9_serving 21 = .ok (.invokestatic 79, 3) := by decide +kernel
theorem dX9_serving_24 : decode cX9_serving 24 = .ok (.ifCond .eq 9, 3) := by decide +kernel
theorem dX9_serving_27 : decode cX9_serving 27 = .ok (.iconst 1, 1) := by decide +kernel
theorem dX9_serving_28 : decode cX9_serving 28 = .ok (.iload_n 3, 1) := by decide +kernel
theorem dX9_serving_29 : decode cX9_serving 29 = .ok (.ishl, 1) := by decide +kernel
theorem dX9_serving_30 : decode cX9_serving 30 = .ok (.goto 4, 3) := by decide +kernel
theorem dX9_serving_33 : decode cX9_serving 33 = .ok (.iconst 0, 1) := by decide +kernel
theorem dX9_serving_34 : decode cX9_serving 34 = .ok (.ior, 1) := by decide +kernel
theorem dX9_serving_35 : decode cX9_serving 35 = .ok (.istore_n 2, 1) := by decide +kernel
theorem dX9_serving_36 : decode cX9_serving 36 = .ok (.iinc 3 1, 3) := by decide +kernel
theorem dX9_serving_39 : decode cX9_serving 39 = .ok (.goto (-35), 3) := by decide +kernel
theorem dX9_serving_42 : decode cX9_serving 42 = .ok (.iload_n 2, 1) := by decide +kernel
theorem dX9_serving_43 : decode cX9_serving 43 = .ok (.ireturn, 1) := by decide +kernel
theorem dX9_take_0 : decode cX9_take 0 = .ok (.aload_n 0, 1) := by decide +kernel
theorem dX9_take_1 : decode cX9_take 1 = .ok (.iload_n 1, 1) := by decide +kernel
theorem dX9_take_2 : decode cX9_take 2 = .ok (.invokevirtual 190, 3) := by decide +kernel
theorem dX9_take_5 : decode cX9_take 5 = .ok (.ifCond .ne 6, 3) := by decide +kernel
theorem dX9_take_8 : decode cX9_take 8 = .ok (.ldc 156, 2) := by decide +kernel
theorem dX9_take_10 : decode cX9_take 10 = .ok (.ireturn, 1) := by decide +kernel
theorem dX9_take_11 : decode cX9_take 11 = .ok (.iload_n 2, 1) := by decide +kernel
theorem dX9_take_12 : decode cX9_take 12 = .ok (.tableswitch 82 0 3 #[32, 32, 46, 76], 32) := by decide +kernel
theorem dX9_take_44 : decode cX9_take 44 = .ok (.aload_n 0, 1) := by decide +kernel
theorem dX9_take_45 : decode cX9_take 45 = .ok (.getfield 7, 3) := by decide +kernel
theorem dX9_take_48 : decode cX9_take 48 = .ok (.bipush 41, 2) := by decide +kernel
theorem dX9_take_50 : decode cX9_take 50 = .ok (.iconst 3, 1) := by decide +kernel
theorem dX9_take_51 : decode cX9_take 51 = .ok (.iload_n 1, 1) := by decide +kernel
theorem dX9_take_52 : decode cX9_take 52 = .ok (.imul, 1) := by decide +kernel
theorem dX9_take_53 : decode cX9_take 53 = .ok (.iadd, 1) := by decide +kernel
theorem dX9_take_54 : decode cX9_take 54 = .ok (.iload_n 2, 1) := by decide +kernel
theorem dX9_take_55 : decode cX9_take 55 = .ok (.iadd, 1) := by decide +kernel
theorem dX9_take_56 : decode cX9_take 56 = .ok (.iaload, 1) := by decide +kernel
theorem dX9_take_57 : decode cX9_take 57 = .ok (.ireturn, 1) := by decide +kernel
theorem dX9_take_58 : decode cX9_take 58 = .ok (.aload_n 0, 1) := by decide +kernel
theorem dX9_take_59 : decode cX9_take 59 = .ok (.getfield 7, 3) := by decide +kernel
theorem dX9_take_62 : decode cX9_take 62 = .ok (.iload_n 1, 1) := by decide +kernel
theorem dX9_take_63 : decode cX9_take 63 = .ok (.invokestatic 66, 3) := by decide +kernel
theorem dX9_take_66 : decode cX9_take 66 = .ok (.ifCond .eq 8, 3) := by decide +kernel
theorem dX9_take_69 : decode cX9_take 69 = .ok (.ldc 59, 2) := by decide +kernel
theorem dX9_take_71 : decode cX9_take 71 = .ok (.goto 16, 3) := by decide +kernel
theorem dX9_take_74 : decode cX9_take 74 = .ok (.aload_n 0, 1) := by decide +kernel
theorem dX9_take_75 : decode cX9_take 75 = .ok (.getfield 7, 3) := by decide +kernel
theorem dX9_take_78 : decode cX9_take 78 = .ok (.bipush 41, 2) := by decide +kernel
theorem dX9_take_80 : decode cX9_take 80 = .ok (.iconst 3, 1) := by decide +kernel
theorem dX9_take_81 : decode cX9_take 81 = .ok (.iload_n 1, 1) := by decide +kernel
theorem dX9_take_82 : decode cX9_take 82 = .ok (.imul, 1) := by decide +kernel
theorem dX9_take_83 : decode cX9_take 83 = .ok (.iadd, 1) := by decide +kernel
theorem dX9_take_84 : decode cX9_take 84 = .ok (.iconst 2, 1) := by decide +kernel
theorem dX9_take_85 : decode cX9_take 85 = .ok (.iadd, 1) := by decide +kernel
theorem dX9_take_86 : decode cX9_take 86 = .ok (.iaload, 1) := by decide +kernel
theorem dX9_take_87 : decode cX9_take 87 = .ok (.ireturn, 1) := by decide +kernel
theorem dX9_take_88 : decode cX9_take 88 = .ok (.aload_n 0, 1) := by decide +kernel
theorem dX9_take_89 : decode cX9_take 89 = .ok (.iload_n 1, 1) := by decide +kernel
theorem dX9_take_90 : decode cX9_take 90 = .ok (.invokevirtual 220, 3) := by decide +kernel
theorem dX9_take_93 : decode cX9_take 93 = .ok (.ireturn, 1) := by decide +kernel
theorem dX9_take_94 : decode cX9_take 94 = .ok (.ldc 156, 2) := by decide +kernel
theorem dX9_take_96 : decode cX9_take 96 = .ok (.ireturn, 1) := by decide +kernel
theorem dX9_roll_0 : decode cX9_roll 0 = .ok (.iload_n 1, 1) := by decide +kernel
theorem dX9_roll_1 : decode cX9_roll 1 = .ok (.i2l, 1) := by decide +kernel
theorem dX9_roll_2 : decode cX9_roll 2 = .ok (.lconst 0, 1) := by decide +kernel
theorem dX9_roll_3 : decode cX9_roll 3 = .ok (.aload_n 0, 1) := by decide +kernel
theorem dX9_roll_4 : decode cX9_roll 4 = .ok (.getfield 7, 3) := by decide +kernel
theorem dX9_roll_7 : decode cX9_roll 7 = .ok (.bipush 6, 2) := by decide +kernel
theorem dX9_roll_9 : decode cX9_roll 9 = .ok (.iaload, 1) := by decide +kernel
theorem dX9_roll_10 : decode cX9_roll 10 = .ok (.iconst 1, 1) := by decide +kernel
theorem dX9_roll_11 : decode cX9_roll 11 = .ok (.isub, 1) := by decide +kernel
theorem dX9_roll_12 : decode cX9_roll 12 = .ok (.i2l, 1) := by decide +kernel
theorem dX9_roll_13 : decode cX9_roll 13 = .ok (.invokestatic 47, 3) := by decide +kernel
theorem dX9_roll_16 : decode cX9_roll 16 = .ok (.ifCond .eq 31, 3) := by decide +kernel
theorem dX9_roll_19 : decode cX9_roll 19 = .ok (.iload_n 2, 1) := by decide +kernel
theorem dX9_roll_20 : decode cX9_roll 20 = .ok (.i2l, 1) := by decide +kernel
theorem dX9_roll_21 : decode cX9_roll 21 = .ok (.lconst 0, 1) := by decide +kernel
theorem dX9_roll_22 : decode cX9_roll 22 = .ok (.ldc2_w 223, 3) := by decide +kernel
theorem dX9_roll_25 : decode cX9_roll 25 = .ok (.invokestatic 47, 3) := by decide +kernel
theorem dX9_roll_28 : decode cX9_roll 28 = .ok (.ifCond .eq 19, 3) := by decide +kernel
theorem dX9_roll_31 : decode cX9_roll 31 = .ok (.aload_n 0, 1) := by decide +kernel
theorem dX9_roll_32 : decode cX9_roll 32 = .ok (.getfield 7, 3) := by decide +kernel
theorem dX9_roll_35 : decode cX9_roll 35 = .ok (.bipush 65, 2) := by decide +kernel
theorem dX9_roll_37 : decode cX9_roll 37 = .ok (.iconst 3, 1) := by decide +kernel
theorem dX9_roll_38 : decode cX9_roll 38 = .ok (.iload_n 1, 1) := by decide +kernel
theorem dX9_roll_39 : decode cX9_roll 39 = .ok (.imul, 1) := by decide +kernel
theorem dX9_roll_40 : decode cX9_roll 40 = .ok (.iadd, 1) := by decide +kernel
theorem dX9_roll_41 : decode cX9_roll 41 = .ok (.iload_n 2, 1) := by decide +kernel
theorem dX9_roll_42 : decode cX9_roll 42 = .ok (.iadd, 1) := by decide +kernel
theorem dX9_roll_43 : decode cX9_roll 43 = .ok (.iaload, 1) := by decide +kernel
theorem dX9_roll_44 : decode cX9_roll 44 = .ok (.goto 5, 3) := by decide +kernel
theorem dX9_roll_47 : decode cX9_roll 47 = .ok (.ldc 156, 2) := by decide +kernel
theorem dX9_roll_49 : decode cX9_roll 49 = .ok (.ireturn, 1) := by decide +kernel
theorem dX9_onShelf_0 : decode cX9_onShelf 0 = .ok (.iconst 0, 1) := by decide +kernel
theorem dX9_onShelf_1 : decode cX9_onShelf 1 = .ok (.istore_n 1, 1) := by decide +kernel
theorem dX9_onShelf_2 : decode cX9_onShelf 2 = .ok (.iconst 0, 1) := by decide +kernel
theorem dX9_onShelf_3 : decode cX9_onShelf 3 = .ok (.istore_n 2, 1) := by decide +kernel
theorem dX9_onShelf_4 : decode cX9_onShelf 4 = .ok (.iload_n 2, 1) := by decide +kernel
theorem dX9_onShelf_5 : decode cX9_onShelf 5 = .ok (.aload_n 0, 1) := by decide +kernel
theorem dX9_onShelf_6 : decode cX9_onShelf 6 = .ok (.getfield 7, 3) := by decide +kernel
theorem dX9_onShelf_9 : decode cX9_onShelf 9 = .ok (.iconst 4, 1) := by decide +kernel
theorem dX9_onShelf_10 : decode cX9_onShelf 10 = .ok (.iaload, 1) := by decide +kernel
theorem dX9_onShelf_11 : decode cX9_onShelf 11 = .ok (.if_icmp .ge 35, 3) := by decide +kernel
theorem dX9_onShelf_14 : decode cX9_onShelf 14 = .ok (.iload_n 1, 1) := by decide +kernel
theorem dX9_onShelf_15 : decode cX9_onShelf 15 = .ok (.aload_n 0, 1) := by decide +kernel
theorem dX9_onShelf_16 : decode cX9_onShelf 16 = .ok (.getfield 7, 3) := by decide +kernel
theorem dX9_onShelf_19 : decode cX9_onShelf 19 = .ok (.iload_n 2, 1) := by decide +kernel
theorem dX9_onShelf_20 : decode cX9_onShelf 20 = .ok (.invokestatic 63, 3) := by decide +kernel
theorem dX9_onShelf_23 : decode cX9_onShelf 23 = .ok (.ifCond .ne 14, 3) := by decide +kernel
theorem dX9_onShelf_26 : decode cX9_onShelf 26 = .ok (.aload_n 0, 1) := by decide +kernel
theorem dX9_onShelf_27 : decode cX9_onShelf 27 = .ok (.getfield 7, 3) := by decide +kernel
theorem dX9_onShelf_30 : decode cX9_onShelf 30 = .ok (.iload_n 2, 1) := by decide +kernel
theorem dX9_onShelf_31 : decode cX9_onShelf 31 = .ok (.invokestatic 70, 3) := by decide +kernel
theorem dX9_onShelf_34 : decode cX9_onShelf 34 = .ok (.goto 4, 3) := by decide +kernel
theorem dX9_onShelf_37 : decode cX9_onShelf 37 = .ok (.iconst 0, 1) := by decide +kernel
theorem dX9_onShelf_38 : decode cX9_onShelf 38 = .ok (.iadd, 1) := by decide +kernel
theorem dX9_onShelf_39 : decode cX9_onShelf 39 = .ok (.istore_n 1, 1) := by decide +kernel
theorem dX9_onShelf_40 : decode cX9_onShelf 40 = .ok (.iinc 2 1, 3) := by decide +kernel
theorem dX9_onShelf_43 : decode cX9_onShelf 43 = .ok (.goto (-39), 3) := by decide +kernel
theorem dX9_onShelf_46 : decode cX9_onShelf 46 = .ok (.iload_n 1, 1) := by decide +kernel
theorem dX9_onShelf_47 : decode cX9_onShelf 47 = .ok (.ireturn, 1) := by decide +kernel
theorem dX9_sums_0 : decode cX9_sums 0 = .ok (.iload_n 1, 1) := by decide +kernel
theorem dX9_sums_1 : decode cX9_sums 1 = .ok (.tableswitch 126 0 7 #[47, 55, 60, 89, 97, 105, 110, 118], 47) := by decide +kernel
theorem dX9_sums_48 : decode cX9_sums 48 = .ok (.aload_n 0, 1) := by decide +kernel
theorem dX9_sums_49 : decode cX9_sums 49 = .ok (.getfield 7, 3) := by decide +kernel
theorem dX9_sums_52 : decode cX9_sums 52 = .ok (.bipush 7, 2) := by decide +kernel
theorem dX9_sums_54 : decode cX9_sums 54 = .ok (.iaload, 1) := by decide +kernel
theorem dX9_sums_55 : decode cX9_sums 55 = .ok (.ireturn, 1) := by decide +kernel
theorem dX9_sums_56 : decode cX9_sums 56 = .ok (.aload_n 0, 1) := by decide +kernel
theorem dX9_sums_57 : decode cX9_sums 57 = .ok (.invokevirtual 225, 3) := by decide +kernel
theorem dX9_sums_60 : decode cX9_sums 60 = .ok (.ireturn, 1) := by decide +kernel
theorem dX9_sums_61 : decode cX9_sums 61 = .ok (.aload_n 0, 1) := by decide +kernel
theorem dX9_sums_62 : decode cX9_sums 62 = .ok (.getfield 7, 3) := by decide +kernel
theorem dX9_sums_65 : decode cX9_sums 65 = .ok (.bipush 11, 2) := by decide +kernel
theorem dX9_sums_67 : decode cX9_sums 67 = .ok (.iaload, 1) := by decide +kernel
theorem dX9_sums_68 : decode cX9_sums 68 = .ok (.ifCond .ge 7, 3) := by decide +kernel
theorem dX9_sums_71 : decode cX9_sums 71 = .ok (.iconst 0, 1) := by decide +kernel
theorem dX9_sums_72 : decode cX9_sums 72 = .ok (.goto 17, 3) := by decide +kernel
theorem dX9_sums_75 : decode cX9_sums 75 = .ok (.aload_n 0, 1) := by decide +kernel
theorem dX9_sums_76 : decode cX9_sums 76 = .ok (.getfield 7, 3) := by decide +kernel
theorem dX9_sums_79 : decode cX9_sums 79 = .ok (.aload_n 0, 1) := by decide +kernel
theorem dX9_sums_80 : decode cX9_sums 80 = .ok (.getfield 7, 3) := by decide +kernel
theorem dX9_sums_83 : decode cX9_sums 83 = .ok (.bipush 11, 2) := by decide +kernel
theorem dX9_sums_85 : decode cX9_sums 85 = .ok (.iaload, 1) := by decide +kernel
theorem dX9_sums_86 : decode cX9_sums 86 = .ok (.invokestatic 70, 3) := by decide +kernel
theorem dX9_sums_89 : decode cX9_sums 89 = .ok (.ireturn, 1) := by decide +kernel
theorem dX9_sums_90 : decode cX9_sums 90 = .ok (.aload_n 0, 1) := by decide +kernel
theorem dX9_sums_91 : decode cX9_sums 91 = .ok (.getfield 7, 3) := by decide +kernel
theorem dX9_sums_94 : decode cX9_sums 94 = .ok (.bipush 8, 2) := by decide +kernel
theorem dX9_sums_96 : decode cX9_sums 96 = .ok (.iaload, 1) := by decide +kernel
theorem dX9_sums_97 : decode cX9_sums 97 = .ok (.ireturn, 1) := by decide +kernel
theorem dX9_sums_98 : decode cX9_sums 98 = .ok (.aload_n 0, 1) := by decide +kernel
theorem dX9_sums_99 : decode cX9_sums 99 = .ok (.getfield 7, 3) := by decide +kernel
theorem dX9_sums_102 : decode cX9_sums 102 = .ok (.bipush 9, 2) := by decide +kernel
theorem dX9_sums_104 : decode cX9_sums 104 = .ok (.iaload, 1) := by decide +kernel
theorem dX9_sums_105 : decode cX9_sums 105 = .ok (.ireturn, 1) := by decide +kernel
theorem dX9_sums_106 : decode cX9_sums 106 = .ok (.aload_n 0, 1) := by decide +kernel
theorem dX9_sums_107 : decode cX9_sums 107 = .ok (.invokevirtual 197, 3) := by decide +kernel
theorem dX9_sums_110 : decode cX9_sums 110 = .ok (.ireturn, 1) := by decide +kernel
theorem dX9_sums_111 : decode cX9_sums 111 = .ok (.aload_n 0, 1) := by decide +kernel
theorem dX9_sums_112 : decode cX9_sums 112 = .ok (.getfield 7, 3) := by decide +kernel
theorem dX9_sums_115 : decode cX9_sums 115 = .ok (.bipush 10, 2) := by decide +kernel
theorem dX9_sums_117 : decode cX9_sums 117 = .ok (.iaload, 1) := by decide +kernel
theorem dX9_sums_118 : decode cX9_sums 118 = .ok (.ireturn, 1) := by decide +kernel
theorem dX9_sums_119 : decode cX9_sums 119 = .ok (.aload_n 0, 1) := by decide +kernel
theorem dX9_sums_120 : decode cX9_sums 120 = .ok (.getfield 7, 3) := by decide +kernel
theorem dX9_sums_123 : decode cX9_sums 123 = .ok (.bipush 12, 2) := by decide +kernel
theorem dX9_sums_125 : decode cX9_sums 125 = .ok (.iaload, 1) := by decide +kernel
theorem dX9_sums_126 : decode cX9_sums 126 = .ok (.ireturn, 1) := by decide +kernel
theorem dX9_sums_127 : decode cX9_sums 127 = .ok (.ldc 156, 2) := by decide +kernel
theorem dX9_sums_129 : decode cX9_sums 129 = .ok (.ireturn, 1) := by decide +kernel
theorem dX9_isBatch_0 : decode cX9_isBatch 0 = .ok (.iconst 0, 1) := by decide +kernel
theorem dX9_isBatch_1 : decode cX9_isBatch 1 = .ok (.istore_n 2, 1) := by decide +kernel
theorem dX9_isBatch_2 : decode cX9_isBatch 2 = .ok (.iconst 0, 1) := by decide +kernel
theorem dX9_isBatch_3 : decode cX9_isBatch 3 = .ok (.istore_n 3, 1) := by decide +kernel
theorem dX9_isBatch_4 : decode cX9_isBatch 4 = .ok (.iconst 0, 1) := by decide +kernel
theorem dX9_isBatch_5 : decode cX9_isBatch 5 = .ok (.istore 4, 2) := by decide +kernel
theorem dX9_isBatch_7 : decode cX9_isBatch 7 = .ok (.iload 4, 2) := by decide +kernel
theorem dX9_isBatch_9 : decode cX9_isBatch 9 = .ok (.bipush 8, 2) := by decide +kernel
theorem dX9_isBatch_11 : decode cX9_isBatch 11 = .ok (.if_icmp .ge 71, 3) := by decide +kernel
theorem dX9_isBatch_14 : decode cX9_isBatch 14 = .ok (.iload_n 2, 1) := by decide +kernel
theorem dX9_isBatch_15 : decode cX9_isBatch 15 = .ok (.iload_n 1, 1) := by decide +kernel
theorem dX9_isBatch_16 : decode cX9_isBatch 16 = .ok (.iload 4, 2) := by decide +kernel
theorem dX9_isBatch_18 : decode cX9_isBatch 18 = .ok (.invokestatic 76, 3) := by decide +kernel
theorem dX9_isBatch_21 : decode cX9_isBatch 21 = .ok (.ifCond .eq 20, 3) := by decide +kernel
theorem dX9_isBatch_24 : decode cX9_isBatch 24 = .ok (.aload_n 0, 1) := by decide +kernel
theorem dX9_isBatch_25 : decode cX9_isBatch 25 = .ok (.getfield 7, 3) := by decide +kernel
theorem dX9_isBatch_28 : decode cX9_isBatch 28 = .ok (.bipush 65, 2) := by decide +kernel
theorem dX9_isBatch_30 : decode cX9_isBatch 30 = .ok (.iconst 3, 1) := by decide +kernel
theorem dX9_isBatch_31 : decode cX9_isBatch 31 = .ok (.iload 4, 2) := by decide +kernel
theorem dX9_isBatch_33 : decode cX9_isBatch 33 = .ok (.imul, 1) := by decide +kernel
theorem dX9_isBatch_34 : decode cX9_isBatch 34 = .ok (.iadd, 1) := by decide +kernel
theorem dX9_isBatch_35 : decode cX9_isBatch 35 = .ok (.iconst 1, 1) := by decide +kernel
theorem dX9_isBatch_36 : decode cX9_isBatch 36 = .ok (.iadd, 1) := by decide +kernel
theorem dX9_isBatch_37 : decode cX9_isBatch 37 = .ok (.iaload, 1) := by decide +kernel
theorem dX9_isBatch_38 : decode cX9_isBatch 38 = .ok (.goto 4, 3) := by decide +kernel
theorem dX9_isBatch_41 : decode cX9_isBatch 41 = .ok (.iconst 0, 1) := by decide +kernel
theorem dX9_isBatch_42 : decode cX9_isBatch 42 = .ok (.iadd, 1) := by decide +kernel
theorem dX9_isBatch_43 : decode cX9_isBatch 43 = .ok (.istore_n 2, 1) := by decide +kernel
theorem dX9_isBatch_44 : decode cX9_isBatch 44 = .ok (.iload_n 3, 1) := by decide +kernel
theorem dX9_isBatch_45 : decode cX9_isBatch 45 = .ok (.iload_n 1, 1) := by decide +kernel
theorem dX9_isBatch_46 : decode cX9_isBatch 46 = .ok (.iload 4, 2) := by decide +kernel
theorem dX9_isBatch_48 : decode cX9_isBatch 48 = .ok (.invokestatic 76, 3) := by decide +kernel
theorem dX9_isBatch_51 : decode cX9_isBatch 51 = .ok (.ifCond .eq 22, 3) := by decide +kernel
theorem dX9_isBatch_54 : decode cX9_isBatch 54 = .ok (.iconst 1, 1) := by decide +kernel
theorem dX9_isBatch_55 : decode cX9_isBatch 55 = .ok (.aload_n 0, 1) := by decide +kernel
theorem dX9_isBatch_56 : decode cX9_isBatch 56 = .ok (.getfield 7, 3) := by decide +kernel
theorem dX9_isBatch_59 : decode cX9_isBatch 59 = .ok (.bipush 65, 2) := by decide +kernel
theorem dX9_isBatch_61 : decode cX9_isBatch 61 = .ok (.iconst 3, 1) := by decide +kernel
theorem dX9_isBatch_62 : decode cX9_isBatch 62 = .ok (.iload 4, 2) := by decide +kernel
theorem dX9_isBatch_64 : decode cX9_isBatch 64 = .ok (.imul, 1) := by decide +kernel
theorem dX9_isBatch_65 : decode cX9_isBatch 65 = .ok (.iadd, 1) := by decide +kernel
theorem dX9_isBatch_66 : decode cX9_isBatch 66 = .ok (.iconst 2, 1) := by decide +kernel
theorem dX9_isBatch_67 : decode cX9_isBatch 67 = .ok (.iadd, 1) := by decide +kernel
theorem dX9_isBatch_68 : decode cX9_isBatch 68 = .ok (.iaload, 1) := by decide +kernel
theorem dX9_isBatch_69 : decode cX9_isBatch 69 = .ok (.ishl, 1) := by decide +kernel
theorem dX9_isBatch_70 : decode cX9_isBatch 70 = .ok (.goto 4, 3) := by decide +kernel
theorem dX9_isBatch_73 : decode cX9_isBatch 73 = .ok (.iconst 0, 1) := by decide +kernel
theorem dX9_isBatch_74 : decode cX9_isBatch 74 = .ok (.ior, 1) := by decide +kernel
theorem dX9_isBatch_75 : decode cX9_isBatch 75 = .ok (.istore_n 3, 1) := by decide +kernel
theorem dX9_isBatch_76 : decode cX9_isBatch 76 = .ok (.iinc 4 1, 3) := by decide +kernel
theorem dX9_isBatch_79 : decode cX9_isBatch 79 = .ok (.goto (-72), 3) := by decide +kernel
theorem dX9_isBatch_82 : decode cX9_isBatch 82 = .ok (.iload_n 1, 1) := by decide +kernel
theorem dX9_isBatch_83 : decode cX9_isBatch 83 = .ok (.iload_n 1, 1) := by decide +kernel
theorem dX9_isBatch_84 : decode cX9_isBatch 84 = .ok (.iconst 1, 1) := by decide +kernel
theorem dX9_isBatch_85 : decode cX9_isBatch 85 = .ok (.isub, 1) := by decide +kernel
theorem dX9_isBatch_86 : decode cX9_isBatch 86 = .ok (.iand, 1) := by decide +kernel
theorem dX9_isBatch_87 : decode cX9_isBatch 87 = .ok (.ifCond .eq 18, 3) := by decide +kernel
theorem dX9_isBatch_90 : decode cX9_isBatch 90 = .ok (.iload_n 3, 1) := by decide +kernel
theorem dX9_isBatch_91 : decode cX9_isBatch 91 = .ok (.iconst 3, 1) := by decide +kernel
theorem dX9_isBatch_92 : decode cX9_isBatch 92 = .ok (.if_icmp .eq 17, 3) := by decide +kernel
theorem dX9_isBatch_95 : decode cX9_isBatch 95 = .ok (.iload_n 2, 1) := by decide +kernel
theorem dX9_isBatch_96 : decode cX9_isBatch 96 = .ok (.aload_n 0, 1) := by decide +kernel
theorem dX9_isBatch_97 : decode cX9_isBatch 97 = .ok (.getfield 7, 3) := by decide +kernel
theorem dX9_isBatch_100 : decode cX9_isBatch 100 = .ok (.iconst 2, 1) := by decide +kernel
theorem dX9_isBatch_101 : decode cX9_isBatch 101 = .ok (.iaload, 1) := by decide +kernel
theorem dX9_isBatch_102 : decode cX9_isBatch 102 = .ok (.if_icmp .gt 7, 3) := by decide +kernel
theorem dX9_isBatch_105 : decode cX9_isBatch 105 = .ok (.iconst 1, 1) := by decide +kernel
theorem dX9_isBatch_106 : decode cX9_isBatch 106 = .ok (.goto 4, 3) := by decide +kernel
theorem dX9_isBatch_109 : decode cX9_isBatch 109 = .ok (.iconst 0, 1) := by decide +kernel
theorem dX9_isBatch_110 : decode cX9_isBatch 110 = .ok (.ireturn, 1) := by decide +kernel
theorem dX9_fewest_0 : decode cX9_fewest 0 = .ok (.iconst 1, 1) := by decide +kernel
theorem dX9_fewest_1 : decode cX9_fewest 1 = .ok (.aload_n 0, 1) := by decide +kernel
theorem dX9_fewest_2 : decode cX9_fewest 2 = .ok (.getfield 7, 3) := by decide +kernel
theorem dX9_fewest_5 : decode cX9_fewest 5 = .ok (.bipush 6, 2) := by decide +kernel
theorem dX9_fewest_7 : decode cX9_fewest 7 = .ok (.iaload, 1) := by decide +kernel
theorem dX9_fewest_8 : decode cX9_fewest 8 = .ok (.ishl, 1) := by decide +kernel
theorem dX9_fewest_9 : decode cX9_fewest 9 = .ok (.iconst 1, 1) := by decide +kernel
theorem dX9_fewest_10 : decode cX9_fewest 10 = .ok (.isub, 1) := by decide +kernel
theorem dX9_fewest_11 : decode cX9_fewest 11 = .ok (.istore_n 1, 1) := by decide +kernel
theorem dX9_fewest_12 : decode cX9_fewest 12 = .ok (.aload_n 0, 1) := by decide +kernel
theorem dX9_fewest_13 : decode cX9_fewest 13 = .ok (.getfield 44, 3) := by decide +kernel
theorem dX9_fewest_16 : decode cX9_fewest 16 = .ok (.iconst 0, 1) := by decide +kernel
theorem dX9_fewest_17 : decode cX9_fewest 17 = .ok (.iconst 0, 1) := by decide +kernel
theorem dX9_fewest_18 : decode cX9_fewest 18 = .ok (.iastore, 1) := by decide +kernel
theorem dX9_fewest_19 : decode cX9_fewest 19 = .ok (.iconst 1, 1) := by decide +kernel
theorem dX9_fewest_20 : decode cX9_fewest 20 = .ok (.istore_n 2, 1) := by decide +kernel
theorem dX9_fewest_21 : decode cX9_fewest 21 = .ok (.iload_n 2, 1) := by decide +kernel
theorem dX9_fewest_22 : decode cX9_fewest 22 = .ok (.iload_n 1, 1) := by decide +kernel
theorem dX9_fewest_23 : decode cX9_fewest 23 = .ok (.if_icmp .gt 80, 3) := by decide +kernel
theorem dX9_fewest_26 : decode cX9_fewest 26 = .ok (.aload_n 0, 1) := by decide +kernel
theorem dX9_fewest_27 : decode cX9_fewest 27 = .ok (.getfield 44, 3) := by decide +kernel
theorem dX9_fewest_30 : decode cX9_fewest 30 = .ok (.iload_n 2, 1) := by decide +kernel
theorem dX9_fewest_31 : decode cX9_fewest 31 = .ok (.bipush 9, 2) := by decide +kernel
theorem dX9_fewest_33 : decode cX9_fewest 33 = .ok (.iastore, 1) := by decide +kernel
theorem dX9_fewest_34 : decode cX9_fewest 34 = .ok (.iload_n 2, 1) := by decide +kernel
theorem dX9_fewest_35 : decode cX9_fewest 35 = .ok (.istore_n 3, 1) := by decide +kernel
theorem dX9_fewest_36 : decode cX9_fewest 36 = .ok (.iload_n 3, 1) := by decide +kernel
theorem dX9_fewest_37 : decode cX9_fewest 37 = .ok (.ifCond .le 60, 3) := by decide +kernel
theorem dX9_fewest_40 : decode cX9_fewest 40 = .ok (.aload_n 0, 1) := by decide +kernel
theorem dX9_fewest_41 : decode cX9_fewest 41 = .ok (.getfield 44, 3) := by decide +kernel
theorem dX9_fewest_44 : decode cX9_fewest 44 = .ok (.iload_n 2, 1) := by decide +kernel
theorem dX9_fewest_45 : decode cX9_fewest 45 = .ok (.iload_n 3, 1) := by decide +kernel
theorem dX9_fewest_46 : decode cX9_fewest 46 = .ok (.ixor, 1) := by decide +kernel
theorem dX9_fewest_47 : decode cX9_fewest 47 = .ok (.iaload, 1) := by decide +kernel
theorem dX9_fewest_48 : decode cX9_fewest 48 = .ok (.iconst 1, 1) := by decide +kernel
theorem dX9_fewest_49 : decode cX9_fewest 49 = .ok (.iadd, 1) := by decide +kernel
theorem dX9_fewest_50 : decode cX9_fewest 50 = .ok (.istore 4, 2) := by decide +kernel
theorem dX9_fewest_52 : decode cX9_fewest 52 = .ok (.aload_n 0, 1) := by decide +kernel
theorem dX9_fewest_53 : decode cX9_fewest 53 = .ok (.getfield 44, 3) := by decide +kernel
theorem dX9_fewest_56 : decode cX9_fewest 56 = .ok (.iload_n 2, 1) := by decide +kernel
theorem dX9_fewest_57 : decode cX9_fewest 57 = .ok (.iload 4, 2) := by decide +kernel
theorem dX9_fewest_59 : decode cX9_fewest 59 = .ok (.aload_n 0, 1) := by decide +kernel
theorem dX9_fewest_60 : decode cX9_fewest 60 = .ok (.getfield 44, 3) := by decide +kernel
theorem dX9_fewest_63 : decode cX9_fewest 63 = .ok (.iload_n 2, 1) := by decide +kernel
theorem dX9_fewest_64 : decode cX9_fewest 64 = .ok (.iaload, 1) := by decide +kernel
theorem dX9_fewest_65 : decode cX9_fewest 65 = .ok (.if_icmp .ge 16, 3) := by decide +kernel
theorem dX9_fewest_68 : decode cX9_fewest 68 = .ok (.aload_n 0, 1) := by decide +kernel
theorem dX9_fewest_69 : decode cX9_fewest 69 = .ok (.iload_n 3, 1) := by decide +kernel
theorem dX9_fewest_70 : decode cX9_fewest 70 = .ok (.invokevirtual 228, 3) := by decide +kernel
theorem dX9_fewest_73 : decode cX9_fewest 73 = .ok (.ifCond .eq 8, 3) := by decide +kernel
theorem dX9_fewest_76 : decode cX9_fewest 76 = .ok (.iload 4, 2) := by decide +kernel
theorem dX9_fewest_78 : decode cX9_fewest 78 = .ok (.goto 9, 3) := by decide +kernel
theorem dX9_fewest_81 : decode cX9_fewest 81 = .ok (.aload_n 0, 1) := by decide +kernel
theorem dX9_fewest_82 : decode cX9_fewest 82 = .ok (.getfield 44, 3) := by decide +kernel
theorem dX9_fewest_85 : decode cX9_fewest 85 = .ok (.iload_n 2, 1) := by decide +kernel
theorem dX9_fewest_86 : decode cX9_fewest 86 = .ok (.iaload, 1) := by decide +kernel
theorem dX9_fewest_87 : decode cX9_fewest 87 = .ok (.iastore, 1) := by decide +kernel
theorem dX9_fewest_88 : decode cX9_fewest 88 = .ok (.iload_n 3, 1) := by decide +kernel
theorem dX9_fewest_89 : decode cX9_fewest 89 = .ok (.iconst 1, 1) := by decide +kernel
theorem dX9_fewest_90 : decode cX9_fewest 90 = .ok (.isub, 1) := by decide +kernel
theorem dX9_fewest_91 : decode cX9_fewest 91 = .ok (.iload_n 2, 1) := by decide +kernel
theorem dX9_fewest_92 : decode cX9_fewest 92 = .ok (.iand, 1) := by decide +kernel
theorem dX9_fewest_93 : decode cX9_fewest 93 = .ok (.istore_n 3, 1) := by decide +kernel
theorem dX9_fewest_94 : decode cX9_fewest 94 = .ok (.goto (-58), 3) := by decide +kernel
theorem dX9_fewest_97 : decode cX9_fewest 97 = .ok (.iinc 2 1, 3) := by decide +kernel
theorem dX9_fewest_100 : decode cX9_fewest 100 = .ok (.goto (-79), 3) := by decide +kernel
theorem dX9_fewest_103 : decode cX9_fewest 103 = .ok (.aload_n 0, 1) := by decide +kernel
theorem dX9_fewest_104 : decode cX9_fewest 104 = .ok (.getfield 44, 3) := by decide +kernel
theorem dX9_fewest_107 : decode cX9_fewest 107 = .ok (.iload_n 1, 1) := by decide +kernel
theorem dX9_fewest_108 : decode cX9_fewest 108 = .ok (.iaload, 1) := by decide +kernel
theorem dX9_fewest_109 : decode cX9_fewest 109 = .ok (.ireturn, 1) := by decide +kernel
theorem dX9_batches_0 : decode cX9_batches 0 = .ok (.iload_n 1, 1) := by decide +kernel
theorem dX9_batches_1 : decode cX9_batches 1 = .ok (.ifCond .ne 10, 3) := by decide +kernel
theorem dX9_batches_4 : decode cX9_batches 4 = .ok (.aload_n 0, 1) := by decide +kernel
theorem dX9_batches_5 : decode cX9_batches 5 = .ok (.invokevirtual 193, 3) := by decide +kernel
theorem dX9_batches_8 : decode cX9_batches 8 = .ok (.goto 17, 3) := by decide +kernel
theorem dX9_batches_11 : decode cX9_batches 11 = .ok (.iload_n 1, 1) := by decide +kernel
theorem dX9_batches_12 : decode cX9_batches 12 = .ok (.iconst 1, 1) := by decide +kernel
theorem dX9_batches_13 : decode cX9_batches 13 = .ok (.if_icmp .ne 10, 3) := by decide +kernel
theorem dX9_batches_16 : decode cX9_batches 16 = .ok (.aload_n 0, 1) := by decide +kernel
theorem dX9_batches_17 : decode cX9_batches 17 = .ok (.invokevirtual 231, 3) := by decide +kernel
theorem dX9_batches_20 : decode cX9_batches 20 = .ok (.goto 5, 3) := by decide +kernel
theorem dX9_batches_23 : decode cX9_batches 23 = .ok (.ldc 156, 2) := by decide +kernel
theorem dX9_batches_25 : decode cX9_batches 25 = .ok (.ireturn, 1) := by decide +kernel
theorem dX9_as_0 : decode cX9_as 0 = .ok (.aload_n 0, 1) := by decide +kernel
theorem dX9_as_1 : decode cX9_as 1 = .ok (.iload_n 1, 1) := by decide +kernel
theorem dX9_as_2 : decode cX9_as 2 = .ok (.invokevirtual 183, 3) := by decide +kernel
theorem dX9_as_5 : decode cX9_as 5 = .ok (.ifCond .eq 15, 3) := by decide +kernel
theorem dX9_as_8 : decode cX9_as 8 = .ok (.iload_n 2, 1) := by decide +kernel
theorem dX9_as_9 : decode cX9_as 9 = .ok (.i2l, 1) := by decide +kernel
theorem dX9_as_10 : decode cX9_as 10 = .ok (.lconst 0, 1) := by decide +kernel
theorem dX9_as_11 : decode cX9_as 11 = .ok (.ldc2_w 203, 3) := by decide +kernel
theorem dX9_as_14 : decode cX9_as 14 = .ok (.invokestatic 47, 3) := by decide +kernel
theorem dX9_as_17 : decode cX9_as 17 = .ok (.ifCond .ne 6, 3) := by decide +kernel
theorem dX9_as_20 : decode cX9_as 20 = .ok (.ldc 156, 2) := by decide +kernel
theorem dX9_as_22 : decode cX9_as 22 = .ok (.ireturn, 1) := by decide +kernel
theorem dX9_as_23 : decode cX9_as 23 = .ok (.aload_n 0, 1) := by decide +kernel
theorem dX9_as_24 : decode cX9_as 24 = .ok (.getfield 7, 3) := by decide +kernel
theorem dX9_as_27 : decode cX9_as 27 = .ok (.iload_n 1, 1) := by decide +kernel
theorem dX9_as_28 : decode cX9_as 28 = .ok (.invokestatic 51, 3) := by decide +kernel
theorem dX9_as_31 : decode cX9_as 31 = .ok (.iload_n 2, 1) := by decide +kernel
theorem dX9_as_32 : decode cX9_as 32 = .ok (.invokestatic 55, 3) := by decide +kernel
theorem dX9_as_35 : decode cX9_as 35 = .ok (.ifCond .eq 7, 3) := by decide +kernel
theorem dX9_as_38 : decode cX9_as 38 = .ok (.iload_n 1, 1) := by decide +kernel
theorem dX9_as_39 : decode cX9_as 39 = .ok (.goto 5, 3) := by decide +kernel
theorem dX9_as_42 : decode cX9_as 42 = .ok (.ldc 59, 2) := by decide +kernel
theorem dX9_as_44 : decode cX9_as 44 = .ok (.ireturn, 1) := by decide +kernel
theorem dX9_fits_0 : decode cX9_fits 0 = .ok (.aload_n 0, 1) := by decide +kernel
theorem dX9_fits_1 : decode cX9_fits 1 = .ok (.iload_n 1, 1) := by decide +kernel
theorem dX9_fits_2 : decode cX9_fits 2 = .ok (.invokevirtual 183, 3) := by decide +kernel
theorem dX9_fits_5 : decode cX9_fits 5 = .ok (.ifCond .eq 21, 3) := by decide +kernel
theorem dX9_fits_8 : decode cX9_fits 8 = .ok (.iload_n 2, 1) := by decide +kernel
theorem dX9_fits_9 : decode cX9_fits 9 = .ok (.ifCond .lt 17, 3) := by decide +kernel
theorem dX9_fits_12 : decode cX9_fits 12 = .ok (.iload_n 2, 1) := by decide +kernel
theorem dX9_fits_13 : decode cX9_fits 13 = .ok (.aload_n 0, 1) := by decide +kernel
theorem dX9_fits_14 : decode cX9_fits 14 = .ok (.getfield 7, 3) := by decide +kernel
theorem dX9_fits_17 : decode cX9_fits 17 = .ok (.invokestatic 234, 3) := by decide +kernel
theorem dX9_fits_20 : decode cX9_fits 20 = .ok (.iconst (-1), 1) := by decide +kernel
theorem dX9_fits_21 : decode cX9_fits 21 = .ok (.ixor, 1) := by decide +kernel
theorem dX9_fits_22 : decode cX9_fits 22 = .ok (.iand, 1) := by decide +kernel
theorem dX9_fits_23 : decode cX9_fits 23 = .ok (.ifCond .eq 6, 3) := by decide +kernel
theorem dX9_fits_26 : decode cX9_fits 26 = .ok (.ldc 156, 2) := by decide +kernel
theorem dX9_fits_28 : decode cX9_fits 28 = .ok (.ireturn, 1) := by decide +kernel
theorem dX9_fits_29 : decode cX9_fits 29 = .ok (.aload_n 0, 1) := by decide +kernel
theorem dX9_fits_30 : decode cX9_fits 30 = .ok (.getfield 7, 3) := by decide +kernel
theorem dX9_fits_33 : decode cX9_fits 33 = .ok (.iload_n 1, 1) := by decide +kernel
theorem dX9_fits_34 : decode cX9_fits 34 = .ok (.iload_n 2, 1) := by decide +kernel
theorem dX9_fits_35 : decode cX9_fits 35 = .ok (.invokestatic 86, 3) := by decide +kernel
theorem dX9_fits_38 : decode cX9_fits 38 = .ok (.istore_n 3, 1) := by decide +kernel
theorem dX9_fits_39 : decode cX9_fits 39 = .ok (.aload_n 0, 1) := by decide +kernel
theorem dX9_fits_40 : decode cX9_fits 40 = .ok (.getfield 7, 3) := by decide +kernel
theorem dX9_fits_43 : decode cX9_fits 43 = .ok (.iload_n 1, 1) := by decide +kernel
theorem dX9_fits_44 : decode cX9_fits 44 = .ok (.invokestatic 238, 3) := by decide +kernel
theorem dX9_fits_47 : decode cX9_fits 47 = .ok (.ifCond .eq 7, 3) := by decide +kernel
theorem dX9_fits_50 : decode cX9_fits 50 = .ok (.iload_n 3, 1) := by decide +kernel
theorem dX9_fits_51 : decode cX9_fits 51 = .ok (.ifCond .ge 8, 3) := by decide +kernel
theorem dX9_fits_54 : decode cX9_fits 54 = .ok (.ldc 59, 2) := by decide +kernel
theorem dX9_fits_56 : decode cX9_fits 56 = .ok (.goto 4, 3) := by decide +kernel
theorem dX9_fits_59 : decode cX9_fits 59 = .ok (.iload_n 3, 1) := by decide +kernel
theorem dX9_fits_60 : decode cX9_fits 60 = .ok (.ireturn, 1) := by decide +kernel
theorem dX9_plans_0 : decode cX9_plans 0 = .ok (.iconst 0, 1) := by decide +kernel
theorem dX9_plans_1 : decode cX9_plans 1 = .ok (.istore 4, 2) := by decide +kernel
theorem dX9_plans_3 : decode cX9_plans 3 = .ok (.iload 4, 2) := by decide +kernel
theorem dX9_plans_5 : decode cX9_plans 5 = .ok (.sipush 256, 3) := by decide +kernel
theorem dX9_plans_8 : decode cX9_plans 8 = .ok (.if_icmp .ge 51, 3) := by decide +kernel
theorem dX9_plans_11 : decode cX9_plans 11 = .ok (.aload_n 0, 1) := by decide +kernel
theorem dX9_plans_12 : decode cX9_plans 12 = .ok (.getfield 29, 3) := by decide +kernel
theorem dX9_plans_15 : decode cX9_plans 15 = .ok (.sipush 256, 3) := by decide +kernel
theorem dX9_plans_18 : decode cX9_plans 18 = .ok (.aload_n 1, 1) := by decide +kernel
theorem dX9_plans_19 : decode cX9_plans 19 = .ok (.iconst 4, 1) := by decide +kernel
theorem dX9_plans_20 : decode cX9_plans 20 = .ok (.iaload, 1) := by decide +kernel
theorem dX9_plans_21 : decode cX9_plans 21 = .ok (.imul, 1) := by decide +kernel
theorem dX9_plans_22 : decode cX9_plans 22 = .ok (.iload 4, 2) := by decide +kernel
theorem dX9_plans_24 : decode cX9_plans 24 = .ok (.iadd, 1) := by decide +kernel
theorem dX9_plans_25 : decode cX9_plans 25 = .ok (.iload 4, 2) := by decide +kernel
theorem dX9_plans_27 : decode cX9_plans 27 = .ok (.ifCond .ne 7, 3) := by decide +kernel
theorem dX9_plans_30 : decode cX9_plans 30 = .ok (.iconst 0, 1) := by decide +kernel
theorem dX9_plans_31 : decode cX9_plans 31 = .ok (.goto 5, 3) := by decide +kernel
theorem dX9_plans_34 : decode cX9_plans 34 = .ok (.ldc 59, 2) := by decide +kernel
theorem dX9_plans_36 : decode cX9_plans 36 = .ok (.iastore, 1) := by decide +kernel
theorem dX9_plans_37 : decode cX9_plans 37 = .ok (.aload_n 0, 1) := by decide +kernel
theorem dX9_plans_38 : decode cX9_plans 38 = .ok (.getfield 32, 3) := by decide +kernel
theorem dX9_plans_41 : decode cX9_plans 41 = .ok (.sipush 256, 3) := by decide +kernel
theorem dX9_plans_44 : decode cX9_plans 44 = .ok (.aload_n 1, 1) := by decide +kernel
theorem dX9_plans_45 : decode cX9_plans 45 = .ok (.iconst 4, 1) := by decide +kernel
theorem dX9_plans_46 : decode cX9_plans 46 = .ok (.iaload, 1) := by decide +kernel
theorem dX9_plans_47 : decode cX9_plans 47 = .ok (.imul, 1) := by decide +kernel
theorem dX9_plans_48 : decode cX9_plans 48 = .ok (.iload 4, 2) := by decide +kernel
theorem dX9_plans_50 : decode cX9_plans 50 = .ok (.iadd, 1) := by decide +kernel
theorem dX9_plans_51 : decode cX9_plans 51 = .ok (.iconst 0, 1) := by decide +kernel
theorem dX9_plans_52 : decode cX9_plans 52 = .ok (.iastore, 1) := by decide +kernel
theorem dX9_plans_53 : decode cX9_plans 53 = .ok (.iinc 4 1, 3) := by decide +kernel
theorem dX9_plans_56 : decode cX9_plans 56 = .ok (.goto (-53), 3) := by decide +kernel
theorem dX9_plans_59 : decode cX9_plans 59 = .ok (.aload_n 1, 1) := by decide +kernel
theorem dX9_plans_60 : decode cX9_plans 60 = .ok (.iconst 4, 1) := by decide +kernel
theorem dX9_plans_61 : decode cX9_plans 61 = .ok (.iaload, 1) := by decide +kernel
theorem dX9_plans_62 : decode cX9_plans 62 = .ok (.iconst 1, 1) := by decide +kernel
theorem dX9_plans_63 : decode cX9_plans 63 = .ok (.isub, 1) := by decide +kernel
theorem dX9_plans_64 : decode cX9_plans 64 = .ok (.istore 4, 2) := by decide +kernel
theorem dX9_plans_66 : decode cX9_plans 66 = .ok (.iload 4, 2) := by decide +kernel
theorem dX9_plans_68 : decode cX9_plans 68 = .ok (.ifCond .lt 69, 3) := by decide +kernel
theorem dX9_plans_71 : decode cX9_plans 71 = .ok (.iload_n 2, 1) := by decide +kernel
theorem dX9_plans_72 : decode cX9_plans 72 = .ok (.istore 5, 2) := by decide +kernel
theorem dX9_plans_74 : decode cX9_plans 74 = .ok (.iload 5, 2) := by decide +kernel
theorem dX9_plans_76 : decode cX9_plans 76 = .ok (.ifCond .lt 55, 3) := by decide +kernel
theorem dX9_plans_79 : decode cX9_plans 79 = .ok (.aload_n 0, 1) := by decide +kernel
theorem dX9_plans_80 : decode cX9_plans 80 = .ok (.aload_n 1, 1) := by decide +kernel
theorem dX9_plans_81 : decode cX9_plans 81 = .ok (.iload 4, 2) := by decide +kernel
theorem dX9_plans_83 : decode cX9_plans 83 = .ok (.iload 5, 2) := by decide +kernel
theorem dX9_plans_85 : decode cX9_plans 85 = .ok (.aload_n 1, 1) := by decide +kernel
theorem dX9_plans_86 : decode cX9_plans 86 = .ok (.iload 4, 2) := by decide +kernel
theorem dX9_plans_88 : decode cX9_plans 88 = .ok (.invokestatic 238, 3) := by decide +kernel
theorem dX9_plans_91 : decode cX9_plans 91 = .ok (.ifCond .eq 16, 3) := by decide +kernel
theorem dX9_plans_94 : decode cX9_plans 94 = .ok (.iload_n 3, 1) := by decide +kernel
theorem dX9_plans_95 : decode cX9_plans 95 = .ok (.iload 4, 2) := by decide +kernel
theorem dX9_plans_97 : decode cX9_plans 97 = .ok (.invokestatic 76, 3) := by decide +kernel
theorem dX9_plans_100 : decode cX9_plans 100 = .ok (.ifCond .ne 7, 3) := by decide +kernel
theorem dX9_plans_103 : decode cX9_plans 103 = .ok (.iconst 1, 1) := by decide +kernel
theorem dX9_plans_104 : decode cX9_plans 104 = .ok (.goto 4, 3) := by decide +kernel
theorem dX9_plans_107 : decode cX9_plans 107 = .ok (.iconst 0, 1) := by decide +kernel
theorem dX9_plans_108 : decode cX9_plans 108 = .ok (.invokevirtual 241, 3) := by decide +kernel
theorem dX9_plans_111 : decode cX9_plans 111 = .ok (.iload 5, 2) := by decide +kernel
theorem dX9_plans_113 : decode cX9_plans 113 = .ok (.ifCond .ne 7, 3) := by decide +kernel
theorem dX9_plans_116 : decode cX9_plans 116 = .ok (.iconst (-1), 1) := by decide +kernel
theorem dX9_plans_117 : decode cX9_plans 117 = .ok (.goto 9, 3) := by decide +kernel
theorem dX9_plans_120 : decode cX9_plans 120 = .ok (.iload 5, 2) := by decide +kernel
theorem dX9_plans_122 : decode cX9_plans 122 = .ok (.iconst 1, 1) := by decide +kernel
theorem dX9_plans_123 : decode cX9_plans 123 = .ok (.isub, 1) := by decide +kernel
theorem dX9_plans_124 : decode cX9_plans 124 = .ok (.iload_n 2, 1) := by decide +kernel
theorem dX9_plans_125 : decode cX9_plans 125 = .ok (.iand, 1) := by decide +kernel
theorem dX9_plans_126 : decode cX9_plans 126 = .ok (.istore 5, 2) := by decide +kernel
theorem dX9_plans_128 : decode cX9_plans 128 = .ok (.goto (-54), 3) := by decide +kernel
theorem dX9_plans_131 : decode cX9_plans 131 = .ok (.iinc 4 (-1), 3) := by decide +kernel
theorem dX9_plans_134 : decode cX9_plans 134 = .ok (.goto (-68), 3) := by decide +kernel
theorem dX9_plans_137 : decode cX9_plans 137 = .ok (.return_, 1) := by decide +kernel
theorem dX9_weighs_0 : decode cX9_weighs 0 = .ok (.sipush 256, 3) := by decide +kernel
theorem dX9_weighs_3 : decode cX9_weighs 3 = .ok (.iload_n 2, 1) := by decide +kernel
theorem dX9_weighs_4 : decode cX9_weighs 4 = .ok (.imul, 1) := by decide +kernel
theorem dX9_weighs_5 : decode cX9_weighs 5 = .ok (.iload_n 3, 1) := by decide +kernel
theorem dX9_weighs_6 : decode cX9_weighs 6 = .ok (.iadd, 1) := by decide +kernel
theorem dX9_weighs_7 : decode cX9_weighs 7 = .ok (.istore 5, 2) := by decide +kernel
theorem dX9_weighs_9 : decode cX9_weighs 9 = .ok (.aload_n 0, 1) := by decide +kernel
theorem dX9_weighs_10 : decode cX9_weighs 10 = .ok (.getfield 29, 3) := by decide +kernel
theorem dX9_weighs_13 : decode cX9_weighs 13 = .ok (.iload 5, 2) := by decide +kernel
theorem dX9_weighs_15 : decode cX9_weighs 15 = .ok (.aload_n 0, 1) := by decide +kernel
theorem dX9_weighs_16 : decode cX9_weighs 16 = .ok (.getfield 29, 3) := by decide +kernel
theorem dX9_weighs_19 : decode cX9_weighs 19 = .ok (.iload 5, 2) := by decide +kernel
theorem dX9_weighs_21 : decode cX9_weighs 21 = .ok (.sipush 256, 3) := by decide +kernel
theorem dX9_weighs_24 : decode cX9_weighs 24 = .ok (.iadd, 1) := by decide +kernel
theorem dX9_weighs_25 : decode cX9_weighs 25 = .ok (.iaload, 1) := by decide +kernel
theorem dX9_weighs_26 : decode cX9_weighs 26 = .ok (.iastore, 1) := by decide +kernel
theorem dX9_weighs_27 : decode cX9_weighs 27 = .ok (.aload_n 0, 1) := by decide +kernel
theorem dX9_weighs_28 : decode cX9_weighs 28 = .ok (.getfield 32, 3) := by decide +kernel
theorem dX9_weighs_31 : decode cX9_weighs 31 = .ok (.iload 5, 2) := by decide +kernel
theorem dX9_weighs_33 : decode cX9_weighs 33 = .ok (.aload_n 0, 1) := by decide +kernel
theorem dX9_weighs_34 : decode cX9_weighs 34 = .ok (.getfield 32, 3) := by decide +kernel
theorem dX9_weighs_37 : decode cX9_weighs 37 = .ok (.iload 5, 2) := by decide +kernel
theorem dX9_weighs_39 : decode cX9_weighs 39 = .ok (.sipush 256, 3) := by decide +kernel
theorem dX9_weighs_42 : decode cX9_weighs 42 = .ok (.iadd, 1) := by decide +kernel
theorem dX9_weighs_43 : decode cX9_weighs 43 = .ok (.iaload, 1) := by decide +kernel
theorem dX9_weighs_44 : decode cX9_weighs 44 = .ok (.iastore, 1) := by decide +kernel
theorem dX9_weighs_45 : decode cX9_weighs 45 = .ok (.iload_n 3, 1) := by decide +kernel
theorem dX9_weighs_46 : decode cX9_weighs 46 = .ok (.istore 6, 2) := by decide +kernel
theorem dX9_weighs_48 : decode cX9_weighs 48 = .ok (.iload 6, 2) := by decide +kernel
theorem dX9_weighs_50 : decode cX9_weighs 50 = .ok (.ifCond .le 186, 3) := by decide +kernel
theorem dX9_weighs_53 : decode cX9_weighs 53 = .ok (.iload 4, 2) := by decide +kernel
theorem dX9_weighs_55 : decode cX9_weighs 55 = .ok (.ifCond .eq 181, 3) := by decide +kernel
theorem dX9_weighs_58 : decode cX9_weighs 58 = .ok (.sipush 256, 3) := by decide +kernel
theorem dX9_weighs_61 : decode cX9_weighs 61 = .ok (.iload_n 2, 1) := by decide +kernel
theorem dX9_weighs_62 : decode cX9_weighs 62 = .ok (.iconst 1, 1) := by decide +kernel
theorem dX9_weighs_63 : decode cX9_weighs 63 = .ok (.iadd, 1) := by decide +kernel
theorem dX9_weighs_64 : decode cX9_weighs 64 = .ok (.imul, 1) := by decide +kernel
theorem dX9_weighs_65 : decode cX9_weighs 65 = .ok (.iload_n 3, 1) := by decide +kernel
theorem dX9_weighs_66 : decode cX9_weighs 66 = .ok (.iload 6, 2) := by decide +kernel
theorem dX9_weighs_68 : decode cX9_weighs 68 = .ok (.ixor, 1) := by decide +kernel
theorem dX9_weighs_69 : decode cX9_weighs 69 = .ok (.iadd, 1) := by decide +kernel
theorem dX9_weighs_70 : decode cX9_weighs 70 = .ok (.istore 7, 2) := by decide +kernel
theorem dX9_weighs_72 : decode cX9_weighs 72 = .ok (.aload_n 0, 1) := by decide +kernel
theorem dX9_weighs_73 : decode cX9_weighs 73 = .ok (.getfield 29, 3) := by decide +kernel
theorem dX9_weighs_76 : decode cX9_weighs 76 = .ok (.iload 7, 2) := by decide +kernel
theorem dX9_weighs_78 : decode cX9_weighs 78 = .ok (.iaload, 1) := by decide +kernel
theorem dX9_weighs_79 : decode cX9_weighs 79 = .ok (.ldc 59, 2) := by decide +kernel
theorem dX9_weighs_81 : decode cX9_weighs 81 = .ok (.if_icmp .eq 144, 3) := by decide +kernel
theorem dX9_weighs_84 : decode cX9_weighs 84 = .ok (.aload_n 1, 1) := by decide +kernel
theorem dX9_weighs_85 : decode cX9_weighs 85 = .ok (.iload_n 2, 1) := by decide +kernel
theorem dX9_weighs_86 : decode cX9_weighs 86 = .ok (.iload 6, 2) := by decide +kernel
theorem dX9_weighs_88 : decode cX9_weighs 88 = .ok (.invokestatic 86, 3) := by decide +kernel
theorem dX9_weighs_91 : decode cX9_weighs 91 = .ok (.ifCond .lt 134, 3) := by decide +kernel
theorem dX9_weighs_94 : decode cX9_weighs 94 = .ok (.aload_n 0, 1) := by decide +kernel
theorem dX9_weighs_95 : decode cX9_weighs 95 = .ok (.getfield 29, 3) := by decide +kernel
theorem dX9_weighs_98 : decode cX9_weighs 98 = .ok (.iload 7, 2) := by decide +kernel
theorem dX9_weighs_100 : decode cX9_weighs 100 = .ok (.iaload, 1) := by decide +kernel
theorem dX9_weighs_101 : decode cX9_weighs 101 = .ok (.aload_n 1, 1) := by decide +kernel
theorem dX9_weighs_102 : decode cX9_weighs 102 = .ok (.iload_n 2, 1) := by decide +kernel
theorem dX9_weighs_103 : decode cX9_weighs 103 = .ok (.iload 6, 2) := by decide +kernel
theorem dX9_weighs_105 : decode cX9_weighs 105 = .ok (.invokestatic 245, 3) := by decide +kernel
theorem dX9_weighs_108 : decode cX9_weighs 108 = .ok (.iadd, 1) := by decide +kernel
theorem dX9_weighs_109 : decode cX9_weighs 109 = .ok (.istore 8, 2) := by decide +kernel
theorem dX9_weighs_111 : decode cX9_weighs 111 = .ok (.aload_n 0, 1) := by decide +kernel
theorem dX9_weighs_112 : decode cX9_weighs 112 = .ok (.getfield 32, 3) := by decide +kernel
theorem dX9_weighs_115 : decode cX9_weighs 115 = .ok (.iload 7, 2) := by decide +kernel
theorem dX9_weighs_117 : decode cX9_weighs 117 = .ok (.iaload, 1) := by decide +kernel
theorem dX9_weighs_118 : decode cX9_weighs 118 = .ok (.iconst 1, 1) := by decide +kernel
theorem dX9_weighs_119 : decode cX9_weighs 119 = .ok (.iadd, 1) := by decide +kernel
theorem dX9_weighs_120 : decode cX9_weighs 120 = .ok (.istore 9, 2) := by decide +kernel
theorem dX9_weighs_122 : decode cX9_weighs 122 = .ok (.aload_n 0, 1) := by decide +kernel
theorem dX9_weighs_123 : decode cX9_weighs 123 = .ok (.getfield 29, 3) := by decide +kernel
theorem dX9_weighs_126 : decode cX9_weighs 126 = .ok (.iload 5, 2) := by decide +kernel
theorem dX9_weighs_128 : decode cX9_weighs 128 = .ok (.iaload, 1) := by decide +kernel
theorem dX9_weighs_129 : decode cX9_weighs 129 = .ok (.ldc 59, 2) := by decide +kernel
theorem dX9_weighs_131 : decode cX9_weighs 131 = .ok (.if_icmp .eq 39, 3) := by decide +kernel
theorem dX9_weighs_134 : decode cX9_weighs 134 = .ok (.iload 8, 2) := by decide +kernel
theorem dX9_weighs_136 : decode cX9_weighs 136 = .ok (.aload_n 0, 1) := by decide +kernel
theorem dX9_weighs_137 : decode cX9_weighs 137 = .ok (.getfield 29, 3) := by decide +kernel
theorem dX9_weighs_140 : decode cX9_weighs 140 = .ok (.iload 5, 2) := by decide +kernel
theorem dX9_weighs_142 : decode cX9_weighs 142 = .ok (.iaload, 1) := by decide +kernel
theorem dX9_weighs_143 : decode cX9_weighs 143 = .ok (.if_icmp .lt 27, 3) := by decide +kernel
theorem dX9_weighs_146 : decode cX9_weighs 146 = .ok (.iload 8, 2) := by decide +kernel
theorem dX9_weighs_148 : decode cX9_weighs 148 = .ok (.aload_n 0, 1) := by decide +kernel
theorem dX9_weighs_149 : decode cX9_weighs 149 = .ok (.getfield 29, 3) := by decide +kernel
theorem dX9_weighs_152 : decode cX9_weighs 152 = .ok (.iload 5, 2) := by decide +kernel
theorem dX9_weighs_154 : decode cX9_weighs 154 = .ok (.iaload, 1) := by decide +kernel
theorem dX9_weighs_155 : decode cX9_weighs 155 = .ok (.if_icmp .ne 19, 3) := by decide +kernel
theorem dX9_weighs_158 : decode cX9_weighs 158 = .ok (.iload 9, 2) := by decide +kernel
theorem dX9_weighs_160 : decode cX9_weighs 160 = .ok (.aload_n 0, 1) := by decide +kernel
theorem dX9_weighs_161 : decode cX9_weighs 161 = .ok (.getfield 32, 3) := by decide +kernel
theorem dX9_weighs_164 : decode cX9_weighs 164 = .ok (.iload 5, 2) := by decide +kernel
theorem dX9_weighs_166 : decode cX9_weighs 166 = .ok (.iaload, 1) := by decide +kernel
theorem dX9_weighs_167 : decode cX9_weighs 167 = .ok (.if_icmp .ge 7, 3) := by decide +kernel
theorem dX9_weighs_170 : decode cX9_weighs 170 = .ok (.iconst 1, 1) := by decide +kernel
theorem dX9_weighs_171 : decode cX9_weighs 171 = .ok (.goto 4, 3) := by decide +kernel
theorem dX9_weighs_174 : decode cX9_weighs 174 = .ok (.iconst 0, 1) := by decide +kernel
theorem dX9_weighs_175 : decode cX9_weighs 175 = .ok (.istore 10, 2) := by decide +kernel
theorem dX9_weighs_177 : decode cX9_weighs 177 = .ok (.aload_n 0, 1) := by decide +kernel
theorem dX9_weighs_178 : decode cX9_weighs 178 = .ok (.getfield 29, 3) := by decide +kernel
theorem dX9_weighs_181 : decode cX9_weighs 181 = .ok (.iload 5, 2) := by decide +kernel
theorem dX9_weighs_183 : decode cX9_weighs 183 = .ok (.iload 10, 2) := by decide +kernel
theorem dX9_weighs_185 : decode cX9_weighs 185 = .ok (.ifCond .eq 8, 3) := by decide +kernel
theorem dX9_weighs_188 : decode cX9_weighs 188 = .ok (.iload 8, 2) := by decide +kernel
theorem dX9_weighs_190 : decode cX9_weighs 190 = .ok (.goto 10, 3) := by decide +kernel
theorem dX9_weighs_193 : decode cX9_weighs 193 = .ok (.aload_n 0, 1) := by decide +kernel
theorem dX9_weighs_194 : decode cX9_weighs 194 = .ok (.getfield 29, 3) := by decide +kernel
theorem dX9_weighs_197 : decode cX9_weighs 197 = .ok (.iload 5, 2) := by decide +kernel
theorem dX9_weighs_199 : decode cX9_weighs 199 = .ok (.iaload, 1) := by decide +kernel
theorem dX9_weighs_200 : decode cX9_weighs 200 = .ok (.iastore, 1) := by decide +kernel
theorem dX9_weighs_201 : decode cX9_weighs 201 = .ok (.aload_n 0, 1) := by decide +kernel
theorem dX9_weighs_202 : decode cX9_weighs 202 = .ok (.getfield 32, 3) := by decide +kernel
theorem dX9_weighs_205 : decode cX9_weighs 205 = .ok (.iload 5, 2) := by decide +kernel
theorem dX9_weighs_207 : decode cX9_weighs 207 = .ok (.iload 10, 2) := by decide +kernel
theorem dX9_weighs_209 : decode cX9_weighs 209 = .ok (.ifCond .eq 8, 3) := by decide +kernel
theorem dX9_weighs_212 : decode cX9_weighs 212 = .ok (.iload 9, 2) := by decide +kernel
theorem dX9_weighs_214 : decode cX9_weighs 214 = .ok (.goto 10, 3) := by decide +kernel
theorem dX9_weighs_217 : decode cX9_weighs 217 = .ok (.aload_n 0, 1) := by decide +kernel
theorem dX9_weighs_218 : decode cX9_weighs 218 = .ok (.getfield 32, 3) := by decide +kernel
theorem dX9_weighs_221 : decode cX9_weighs 221 = .ok (.iload 5, 2) := by decide +kernel
theorem dX9_weighs_223 : decode cX9_weighs 223 = .ok (.iaload, 1) := by decide +kernel
theorem dX9_weighs_224 : decode cX9_weighs 224 = .ok (.iastore, 1) := by decide +kernel
theorem dX9_weighs_225 : decode cX9_weighs 225 = .ok (.iload 6, 2) := by decide +kernel
theorem dX9_weighs_227 : decode cX9_weighs 227 = .ok (.iconst 1, 1) := by decide +kernel
theorem dX9_weighs_228 : decode cX9_weighs 228 = .ok (.isub, 1) := by decide +kernel
theorem dX9_weighs_229 : decode cX9_weighs 229 = .ok (.iload_n 3, 1) := by decide +kernel
theorem dX9_weighs_230 : decode cX9_weighs 230 = .ok (.iand, 1) := by decide +kernel
theorem dX9_weighs_231 : decode cX9_weighs 231 = .ok (.istore 6, 2) := by decide +kernel
theorem dX9_weighs_233 : decode cX9_weighs 233 = .ok (.goto (-185), 3) := by decide +kernel
theorem dX9_weighs_236 : decode cX9_weighs 236 = .ok (.return_, 1) := by decide +kernel
theorem dX9_canBePlaced_0 : decode cX9_canBePlaced 0 = .ok (.aload_n 0, 1) := by decide +kernel
theorem dX9_canBePlaced_1 : decode cX9_canBePlaced 1 = .ok (.aload_n 1, 1) := by decide +kernel
theorem dX9_canBePlaced_2 : decode cX9_canBePlaced 2 = .ok (.aload_n 1, 1) := by decide +kernel
theorem dX9_canBePlaced_3 : decode cX9_canBePlaced 3 = .ok (.invokestatic 234, 3) := by decide +kernel
theorem dX9_canBePlaced_6 : decode cX9_canBePlaced 6 = .ok (.iload_n 2, 1) := by decide +kernel
theorem dX9_canBePlaced_7 : decode cX9_canBePlaced 7 = .ok (.invokevirtual 248, 3) := by decide +kernel
theorem dX9_canBePlaced_10 : decode cX9_canBePlaced 10 = .ok (.aload_n 0, 1) := by decide +kernel
theorem dX9_canBePlaced_11 : decode cX9_canBePlaced 11 = .ok (.getfield 29, 3) := by decide +kernel
theorem dX9_canBePlaced_14 : decode cX9_canBePlaced 14 = .ok (.aload_n 1, 1) := by decide +kernel
theorem dX9_canBePlaced_15 : decode cX9_canBePlaced 15 = .ok (.invokestatic 234, 3) := by decide +kernel
theorem dX9_canBePlaced_18 : decode cX9_canBePlaced 18 = .ok (.iaload, 1) := by decide +kernel
theorem dX9_canBePlaced_19 : decode cX9_canBePlaced 19 = .ok (.ldc 59, 2) := by decide +kernel
theorem dX9_canBePlaced_21 : decode cX9_canBePlaced 21 = .ok (.if_icmp .eq 7, 3) := by decide +kernel
theorem dX9_canBePlaced_24 : decode cX9_canBePlaced 24 = .ok (.iconst 1, 1) := by decide +kernel
theorem dX9_canBePlaced_25 : decode cX9_canBePlaced 25 = .ok (.goto 4, 3) := by decide +kernel
theorem dX9_canBePlaced_28 : decode cX9_canBePlaced 28 = .ok (.iconst 0, 1) := by decide +kernel
theorem dX9_canBePlaced_29 : decode cX9_canBePlaced 29 = .ok (.ireturn, 1) := by decide +kernel
theorem dX9_best_0 : decode cX9_best 0 = .ok (.aload_n 0, 1) := by decide +kernel
theorem dX9_best_1 : decode cX9_best 1 = .ok (.aload_n 1, 1) := by decide +kernel
theorem dX9_best_2 : decode cX9_best 2 = .ok (.iconst 0, 1) := by decide +kernel
theorem dX9_best_3 : decode cX9_best 3 = .ok (.invokevirtual 251, 3) := by decide +kernel
theorem dX9_best_6 : decode cX9_best 6 = .ok (.ifCond .ne 5, 3) := by decide +kernel
theorem dX9_best_9 : decode cX9_best 9 = .ok (.iconst 0, 1) := by decide +kernel
theorem dX9_best_10 : decode cX9_best 10 = .ok (.ireturn, 1) := by decide +kernel
theorem dX9_best_11 : decode cX9_best 11 = .ok (.aload_n 1, 1) := by decide +kernel
theorem dX9_best_12 : decode cX9_best 12 = .ok (.invokestatic 234, 3) := by decide +kernel
theorem dX9_best_15 : decode cX9_best 15 = .ok (.istore_n 2, 1) := by decide +kernel
theorem dX9_best_16 : decode cX9_best 16 = .ok (.iconst 0, 1) := by decide +kernel
theorem dX9_best_17 : decode cX9_best 17 = .ok (.istore_n 3, 1) := by decide +kernel
theorem dX9_best_18 : decode cX9_best 18 = .ok (.iload_n 3, 1) := by decide +kernel
theorem dX9_best_19 : decode cX9_best 19 = .ok (.aload_n 1, 1) := by decide +kernel
theorem dX9_best_20 : decode cX9_best 20 = .ok (.iconst 4, 1) := by decide +kernel
theorem dX9_best_21 : decode cX9_best 21 = .ok (.iaload, 1) := by decide +kernel
theorem dX9_best_22 : decode cX9_best 22 = .ok (.if_icmp .ge 31, 3) := by decide +kernel
theorem dX9_best_25 : decode cX9_best 25 = .ok (.aload_n 0, 1) := by decide +kernel
theorem dX9_best_26 : decode cX9_best 26 = .ok (.getfield 35, 3) := by decide +kernel
theorem dX9_best_29 : decode cX9_best 29 = .ok (.iload_n 3, 1) := by decide +kernel
theorem dX9_best_30 : decode cX9_best 30 = .ok (.aload_n 0, 1) := by decide +kernel
theorem dX9_best_31 : decode cX9_best 31 = .ok (.aload_n 1, 1) := by decide +kernel
theorem dX9_best_32 : decode cX9_best 32 = .ok (.iload_n 3, 1) := by decide +kernel
theorem dX9_best_33 : decode cX9_best 33 = .ok (.iload_n 2, 1) := by decide +kernel
theorem dX9_best_34 : decode cX9_best 34 = .ok (.invokevirtual 254, 3) := by decide +kernel
theorem dX9_best_37 : decode cX9_best 37 = .ok (.iastore, 1) := by decide +kernel
theorem dX9_best_38 : decode cX9_best 38 = .ok (.iload_n 2, 1) := by decide +kernel
theorem dX9_best_39 : decode cX9_best 39 = .ok (.aload_n 0, 1) := by decide +kernel
theorem dX9_best_40 : decode cX9_best 40 = .ok (.getfield 35, 3) := by decide +kernel
theorem dX9_best_43 : decode cX9_best 43 = .ok (.iload_n 3, 1) := by decide +kernel
theorem dX9_best_44 : decode cX9_best 44 = .ok (.iaload, 1) := by decide +kernel
theorem dX9_best_45 : decode cX9_best 45 = .ok (.ixor, 1) := by decide +kernel
theorem dX9_best_46 : decode cX9_best 46 = .ok (.istore_n 2, 1) := by decide +kernel
theorem dX9_best_47 : decode cX9_best 47 = .ok (.iinc 3 1, 3) := by decide +kernel
theorem dX9_best_50 : decode cX9_best 50 = .ok (.goto (-32), 3) := by decide +kernel
theorem dX9_best_53 : decode cX9_best 53 = .ok (.iconst 1, 1) := by decide +kernel
theorem dX9_best_54 : decode cX9_best 54 = .ok (.ireturn, 1) := by decide +kernel
theorem dX9_leastAt_0 : decode cX9_leastAt 0 = .ok (.sipush 256, 3) := by decide +kernel
theorem dX9_leastAt_3 : decode cX9_leastAt 3 = .ok (.iload_n 2, 1) := by decide +kernel
theorem dX9_leastAt_4 : decode cX9_leastAt 4 = .ok (.imul, 1) := by decide +kernel
theorem dX9_leastAt_5 : decode cX9_leastAt 5 = .ok (.iload_n 3, 1) := by decide +kernel
theorem dX9_leastAt_6 : decode cX9_leastAt 6 = .ok (.iadd, 1) := by decide +kernel
theorem dX9_leastAt_7 : decode cX9_leastAt 7 = .ok (.istore 4, 2) := by decide +kernel
theorem dX9_leastAt_9 : decode cX9_leastAt 9 = .ok (.aload_n 0, 1) := by decide +kernel
theorem dX9_leastAt_10 : decode cX9_leastAt 10 = .ok (.getfield 29, 3) := by decide +kernel
theorem dX9_leastAt_13 : decode cX9_leastAt 13 = .ok (.iload 4, 2) := by decide +kernel
theorem dX9_leastAt_15 : decode cX9_leastAt 15 = .ok (.sipush 256, 3) := by decide +kernel
theorem dX9_leastAt_18 : decode cX9_leastAt 18 = .ok (.iadd, 1) := by decide +kernel
theorem dX9_leastAt_19 : decode cX9_leastAt 19 = .ok (.iaload, 1) := by decide +kernel
theorem dX9_leastAt_20 : decode cX9_leastAt 20 = .ok (.aload_n 0, 1) := by decide +kernel
theorem dX9_leastAt_21 : decode cX9_leastAt 21 = .ok (.getfield 29, 3) := by decide +kernel
theorem dX9_leastAt_24 : decode cX9_leastAt 24 = .ok (.iload 4, 2) := by decide +kernel
theorem dX9_leastAt_26 : decode cX9_leastAt 26 = .ok (.iaload, 1) := by decide +kernel
theorem dX9_leastAt_27 : decode cX9_leastAt 27 = .ok (.if_icmp .ne 26, 3) := by decide +kernel
theorem dX9_leastAt_30 : decode cX9_leastAt 30 = .ok (.aload_n 0, 1) := by decide +kernel
theorem dX9_leastAt_31 : decode cX9_leastAt 31 = .ok (.getfield 32, 3) := by decide +kernel
theorem dX9_leastAt_34 : decode cX9_leastAt 34 = .ok (.iload 4, 2) := by decide +kernel
theorem dX9_leastAt_36 : decode cX9_leastAt 36 = .ok (.sipush 256, 3) := by decide +kernel
theorem dX9_leastAt_39 : decode cX9_leastAt 39 = .ok (.iadd, 1) := by decide +kernel
theorem dX9_leastAt_40 : decode cX9_leastAt 40 = .ok (.iaload, 1) := by decide +kernel
theorem dX9_leastAt_41 : decode cX9_leastAt 41 = .ok (.aload_n 0, 1) := by decide +kernel
theorem dX9_leastAt_42 : decode cX9_leastAt 42 = .ok (.getfield 32, 3) := by decide +kernel
theorem dX9_leastAt_45 : decode cX9_leastAt 45 = .ok (.iload 4, 2) := by decide +kernel
theorem dX9_leastAt_47 : decode cX9_leastAt 47 = .ok (.iaload, 1) := by decide +kernel
theorem dX9_leastAt_48 : decode cX9_leastAt 48 = .ok (.if_icmp .ne 5, 3) := by decide +kernel
theorem dX9_leastAt_51 : decode cX9_leastAt 51 = .ok (.iconst 0, 1) := by decide +kernel
theorem dX9_leastAt_52 : decode cX9_leastAt 52 = .ok (.ireturn, 1) := by decide +kernel
theorem dX9_leastAt_53 : decode cX9_leastAt 53 = .ok (.iload_n 3, 1) := by decide +kernel
theorem dX9_leastAt_54 : decode cX9_leastAt 54 = .ok (.istore 5, 2) := by decide +kernel
theorem dX9_leastAt_56 : decode cX9_leastAt 56 = .ok (.iload_n 3, 1) := by decide +kernel
theorem dX9_leastAt_57 : decode cX9_leastAt 57 = .ok (.istore 6, 2) := by decide +kernel
theorem dX9_leastAt_59 : decode cX9_leastAt 59 = .ok (.iload 6, 2) := by decide +kernel
theorem dX9_leastAt_61 : decode cX9_leastAt 61 = .ok (.ifCond .le 115, 3) := by decide +kernel
theorem dX9_leastAt_64 : decode cX9_leastAt 64 = .ok (.sipush 256, 3) := by decide +kernel
theorem dX9_leastAt_67 : decode cX9_leastAt 67 = .ok (.iload_n 2, 1) := by decide +kernel
theorem dX9_leastAt_68 : decode cX9_leastAt 68 = .ok (.iconst 1, 1) := by decide +kernel
theorem dX9_leastAt_69 : decode cX9_leastAt 69 = .ok (.iadd, 1) := by decide +kernel
theorem dX9_leastAt_70 : decode cX9_leastAt 70 = .ok (.imul, 1) := by decide +kernel
theorem dX9_leastAt_71 : decode cX9_leastAt 71 = .ok (.iload_n 3, 1) := by decide +kernel
theorem dX9_leastAt_72 : decode cX9_leastAt 72 = .ok (.iload 6, 2) := by decide +kernel
theorem dX9_leastAt_74 : decode cX9_leastAt 74 = .ok (.ixor, 1) := by decide +kernel
theorem dX9_leastAt_75 : decode cX9_leastAt 75 = .ok (.iadd, 1) := by decide +kernel
theorem dX9_leastAt_76 : decode cX9_leastAt 76 = .ok (.istore 7, 2) := by decide +kernel
theorem dX9_leastAt_78 : decode cX9_leastAt 78 = .ok (.aload_n 0, 1) := by decide +kernel
theorem dX9_leastAt_79 : decode cX9_leastAt 79 = .ok (.getfield 29, 3) := by decide +kernel
theorem dX9_leastAt_82 : decode cX9_leastAt 82 = .ok (.iload 7, 2) := by decide +kernel
theorem dX9_leastAt_84 : decode cX9_leastAt 84 = .ok (.iaload, 1) := by decide +kernel
theorem dX9_leastAt_85 : decode cX9_leastAt 85 = .ok (.ldc 59, 2) := by decide +kernel
theorem dX9_leastAt_87 : decode cX9_leastAt 87 = .ok (.if_icmp .eq 61, 3) := by decide +kernel
theorem dX9_leastAt_90 : decode cX9_leastAt 90 = .ok (.aload_n 1, 1) := by decide +kernel
theorem dX9_leastAt_91 : decode cX9_leastAt 91 = .ok (.iload_n 2, 1) := by decide +kernel
theorem dX9_leastAt_92 : decode cX9_leastAt 92 = .ok (.iload 6, 2) := by decide +kernel
theorem dX9_leastAt_94 : decode cX9_leastAt 94 = .ok (.invokestatic 86, 3) := by decide +kernel
theorem dX9_leastAt_97 : decode cX9_leastAt 97 = .ok (.ifCond .lt 51, 3) := by decide +kernel
theorem dX9_leastAt_100 : decode cX9_leastAt 100 = .ok (.aload_n 0, 1) := by decide +kernel
theorem dX9_leastAt_101 : decode cX9_leastAt 101 = .ok (.getfield 29, 3) := by decide +kernel
theorem dX9_leastAt_104 : decode cX9_leastAt 104 = .ok (.iload 7, 2) := by decide +kernel
theorem dX9_leastAt_106 : decode cX9_leastAt 106 = .ok (.iaload, 1) := by decide +kernel
theorem dX9_leastAt_107 : decode cX9_leastAt 107 = .ok (.aload_n 1, 1) := by decide +kernel
theorem dX9_leastAt_108 : decode cX9_leastAt 108 = .ok (.iload_n 2, 1) := by decide +kernel
theorem dX9_leastAt_109 : decode cX9_leastAt 109 = .ok (.iload 6, 2) := by decide +kernel
theorem dX9_leastAt_111 : decode cX9_leastAt 111 = .ok (.invokestatic 245, 3) := by decide +kernel
theorem dX9_leastAt_114 : decode cX9_leastAt 114 = .ok (.iadd, 1) := by decide +kernel
theorem dX9_leastAt_115 : decode cX9_leastAt 115 = .ok (.aload_n 0, 1) := by decide +kernel
theorem dX9_leastAt_116 : decode cX9_leastAt 116 = .ok (.getfield 29, 3) := by decide +kernel
theorem dX9_leastAt_119 : decode cX9_leastAt 119 = .ok (.iload 4, 2) := by decide +kernel
theorem dX9_leastAt_121 : decode cX9_leastAt 121 = .ok (.iaload, 1) := by decide +kernel
theorem dX9_leastAt_122 : decode cX9_leastAt 122 = .ok (.if_icmp .ne 26, 3) := by decide +kernel
theorem dX9_leastAt_125 : decode cX9_leastAt 125 = .ok (.aload_n 0, 1) := by decide +kernel
theorem dX9_leastAt_126 : decode cX9_leastAt 126 = .ok (.getfield 32, 3) := by decide +kernel
theorem dX9_leastAt_129 : decode cX9_leastAt 129 = .ok (.iload 7, 2) := by decide +kernel
theorem dX9_leastAt_131 : decode cX9_leastAt 131 = .ok (.iaload, 1) := by decide +kernel
theorem dX9_leastAt_132 : decode cX9_leastAt 132 = .ok (.iconst 1, 1) := by decide +kernel
theorem dX9_leastAt_133 : decode cX9_leastAt 133 = .ok (.iadd, 1) := by decide +kernel
theorem dX9_leastAt_134 : decode cX9_leastAt 134 = .ok (.aload_n 0, 1) := by decide +kernel
theorem dX9_leastAt_135 : decode cX9_leastAt 135 = .ok (.getfield 32, 3) := by decide +kernel
theorem dX9_leastAt_138 : decode cX9_leastAt 138 = .ok (.iload 4, 2) := by decide +kernel
theorem dX9_leastAt_140 : decode cX9_leastAt 140 = .ok (.iaload, 1) := by decide +kernel
theorem dX9_leastAt_141 : decode cX9_leastAt 141 = .ok (.if_icmp .ne 7, 3) := by decide +kernel
theorem dX9_leastAt_144 : decode cX9_leastAt 144 = .ok (.iconst 1, 1) := by decide +kernel
theorem dX9_leastAt_145 : decode cX9_leastAt 145 = .ok (.goto 4, 3) := by decide +kernel
theorem dX9_leastAt_148 : decode cX9_leastAt 148 = .ok (.iconst 0, 1) := by decide +kernel
theorem dX9_leastAt_149 : decode cX9_leastAt 149 = .ok (.istore 8, 2) := by decide +kernel
theorem dX9_leastAt_151 : decode cX9_leastAt 151 = .ok (.iload 8, 2) := by decide +kernel
theorem dX9_leastAt_153 : decode cX9_leastAt 153 = .ok (.ifCond .eq 8, 3) := by decide +kernel
theorem dX9_leastAt_156 : decode cX9_leastAt 156 = .ok (.iload 6, 2) := by decide +kernel
theorem dX9_leastAt_158 : decode cX9_leastAt 158 = .ok (.goto 5, 3) := by decide +kernel
theorem dX9_leastAt_161 : decode cX9_leastAt 161 = .ok (.iload 5, 2) := by decide +kernel
theorem dX9_leastAt_163 : decode cX9_leastAt 163 = .ok (.istore 5, 2) := by decide +kernel
theorem dX9_leastAt_165 : decode cX9_leastAt 165 = .ok (.iload 6, 2) := by decide +kernel
theorem dX9_leastAt_167 : decode cX9_leastAt 167 = .ok (.iconst 1, 1) := by decide +kernel
theorem dX9_leastAt_168 : decode cX9_leastAt 168 = .ok (.isub, 1) := by decide +kernel
theorem dX9_leastAt_169 : decode cX9_leastAt 169 = .ok (.iload_n 3, 1) := by decide +kernel
theorem dX9_leastAt_170 : decode cX9_leastAt 170 = .ok (.iand, 1) := by decide +kernel
theorem dX9_leastAt_171 : decode cX9_leastAt 171 = .ok (.istore 6, 2) := by decide +kernel
theorem dX9_leastAt_173 : decode cX9_leastAt 173 = .ok (.goto (-114), 3) := by decide +kernel
theorem dX9_leastAt_176 : decode cX9_leastAt 176 = .ok (.iload 5, 2) := by decide +kernel
theorem dX9_leastAt_178 : decode cX9_leastAt 178 = .ok (.ireturn, 1) := by decide +kernel
theorem dX9_lossOfPlan_0 : decode cX9_lossOfPlan 0 = .ok (.iconst 0, 1) := by decide +kernel
theorem dX9_lossOfPlan_1 : decode cX9_lossOfPlan 1 = .ok (.istore_n 1, 1) := by decide +kernel
theorem dX9_lossOfPlan_2 : decode cX9_lossOfPlan 2 = .ok (.iconst 0, 1) := by decide +kernel
theorem dX9_lossOfPlan_3 : decode cX9_lossOfPlan 3 = .ok (.istore_n 2, 1) := by decide +kernel
theorem dX9_lossOfPlan_4 : decode cX9_lossOfPlan 4 = .ok (.iload_n 2, 1) := by decide +kernel
theorem dX9_lossOfPlan_5 : decode cX9_lossOfPlan 5 = .ok (.aload_n 0, 1) := by decide +kernel
theorem dX9_lossOfPlan_6 : decode cX9_lossOfPlan 6 = .ok (.getfield 7, 3) := by decide +kernel
theorem dX9_lossOfPlan_9 : decode cX9_lossOfPlan 9 = .ok (.iconst 4, 1) := by decide +kernel
theorem dX9_lossOfPlan_10 : decode cX9_lossOfPlan 10 = .ok (.iaload, 1) := by decide +kernel
theorem dX9_lossOfPlan_11 : decode cX9_lossOfPlan 11 = .ok (.if_icmp .ge 26, 3) := by decide +kernel
theorem dX9_lossOfPlan_14 : decode cX9_lossOfPlan 14 = .ok (.iload_n 1, 1) := by decide +kernel
theorem dX9_lossOfPlan_15 : decode cX9_lossOfPlan 15 = .ok (.aload_n 0, 1) := by decide +kernel
theorem dX9_lossOfPlan_16 : decode cX9_lossOfPlan 16 = .ok (.getfield 7, 3) := by decide +kernel
theorem dX9_lossOfPlan_19 : decode cX9_lossOfPlan 19 = .ok (.iload_n 2, 1) := by decide +kernel
theorem dX9_lossOfPlan_20 : decode cX9_lossOfPlan 20 = .ok (.aload_n 0, 1) := by decide +kernel
theorem dX9_lossOfPlan_21 : decode cX9_lossOfPlan 21 = .ok (.getfield 35, 3) := by decide +kernel
theorem dX9_lossOfPlan_24 : decode cX9_lossOfPlan 24 = .ok (.iload_n 2, 1) := by decide +kernel
theorem dX9_lossOfPlan_25 : decode cX9_lossOfPlan 25 = .ok (.iaload, 1) := by decide +kernel
theorem dX9_lossOfPlan_26 : decode cX9_lossOfPlan 26 = .ok (.invokestatic 245, 3) := by decide +kernel
theorem dX9_lossOfPlan_29 : decode cX9_lossOfPlan 29 = .ok (.iadd, 1) := by decide +kernel
theorem dX9_lossOfPlan_30 : decode cX9_lossOfPlan 30 = .ok (.istore_n 1, 1) := by decide +kernel
theorem dX9_lossOfPlan_31 : decode cX9_lossOfPlan 31 = .ok (.iinc 2 1, 3) := by decide +kernel
theorem dX9_lossOfPlan_34 : decode cX9_lossOfPlan 34 = .ok (.goto (-30), 3) := by decide +kernel
theorem dX9_lossOfPlan_37 : decode cX9_lossOfPlan 37 = .ok (.iload_n 1, 1) := by decide +kernel
theorem dX9_lossOfPlan_38 : decode cX9_lossOfPlan 38 = .ok (.ireturn, 1) := by decide +kernel
theorem dX9_roomsOfPlan_0 : decode cX9_roomsOfPlan 0 = .ok (.iconst 0, 1) := by decide +kernel
theorem dX9_roomsOfPlan_1 : decode cX9_roomsOfPlan 1 = .ok (.istore_n 1, 1) := by decide +kernel
theorem dX9_roomsOfPlan_2 : decode cX9_roomsOfPlan 2 = .ok (.iconst 0, 1) := by decide +kernel
theorem dX9_roomsOfPlan_3 : decode cX9_roomsOfPlan 3 = .ok (.istore_n 2, 1) := by decide +kernel
theorem dX9_roomsOfPlan_4 : decode cX9_roomsOfPlan 4 = .ok (.iload_n 2, 1) := by decide +kernel
theorem dX9_roomsOfPlan_5 : decode cX9_roomsOfPlan 5 = .ok (.aload_n 0, 1) := by decide +kernel
theorem dX9_roomsOfPlan_6 : decode cX9_roomsOfPlan 6 = .ok (.getfield 7, 3) := by decide +kernel
theorem dX9_roomsOfPlan_9 : decode cX9_roomsOfPlan 9 = .ok (.iconst 4, 1) := by decide +kernel
theorem dX9_roomsOfPlan_10 : decode cX9_roomsOfPlan 10 = .ok (.iaload, 1) := by decide +kernel
theorem dX9_roomsOfPlan_11 : decode cX9_roomsOfPlan 11 = .ok (.if_icmp .ge 26, 3) := by decide +kernel
theorem dX9_roomsOfPlan_14 : decode cX9_roomsOfPlan 14 = .ok (.iload_n 1, 1) := by decide +kernel
theorem dX9_roomsOfPlan_15 : decode cX9_roomsOfPlan 15 = .ok (.aload_n 0, 1) := by decide +kernel
theorem dX9_roomsOfPlan_16 : decode cX9_roomsOfPlan 16 = .ok (.getfield 35, 3) := by decide +kernel
theorem dX9_roomsOfPlan_19 : decode cX9_roomsOfPlan 19 = .ok (.iload_n 2, 1) := by decide +kernel
theorem dX9_roomsOfPlan_20 : decode cX9_roomsOfPlan 20 = .ok (.iaload, 1) := by decide +kernel
theorem dX9_roomsOfPlan_21 : decode cX9_roomsOfPlan 21 = .ok (.ifCond .ne 7, 3) := by decide +kernel
theorem dX9_roomsOfPlan_24 : decode cX9_roomsOfPlan 24 = .ok (.iconst 0, 1) := by decide +kernel
theorem dX9_roomsOfPlan_25 : decode cX9_roomsOfPlan 25 = .ok (.goto 4, 3) := by decide +kernel
theorem dX9_roomsOfPlan_28 : decode cX9_roomsOfPlan 28 = .ok (.iconst 1, 1) := by decide +kernel
theorem dX9_roomsOfPlan_29 : decode cX9_roomsOfPlan 29 = .ok (.iadd, 1) := by decide +kernel
theorem dX9_roomsOfPlan_30 : decode cX9_roomsOfPlan 30 = .ok (.istore_n 1, 1) := by decide +kernel
theorem dX9_roomsOfPlan_31 : decode cX9_roomsOfPlan 31 = .ok (.iinc 2 1, 3) := by decide +kernel
theorem dX9_roomsOfPlan_34 : decode cX9_roomsOfPlan 34 = .ok (.goto (-30), 3) := by decide +kernel
theorem dX9_roomsOfPlan_37 : decode cX9_roomsOfPlan 37 = .ok (.iload_n 1, 1) := by decide +kernel
theorem dX9_roomsOfPlan_38 : decode cX9_roomsOfPlan 38 = .ok (.ireturn, 1) := by decide +kernel
theorem dX9_plan_0 : decode cX9_plan 0 = .ok (.aload_n 0, 1) := by decide +kernel
theorem dX9_plan_1 : decode cX9_plan 1 = .ok (.invokevirtual 200, 3) := by decide +kernel
theorem dX9_plan_4 : decode cX9_plan 4 = .ok (.ifCond .ne 6, 3) := by decide +kernel
theorem dX9_plan_7 : decode cX9_plan 7 = .ok (.ldc 182, 2) := by decide +kernel
theorem dX9_plan_9 : decode cX9_plan 9 = .ok (.ireturn, 1) := by decide +kernel
theorem dX9_plan_10 : decode cX9_plan 10 = .ok (.iload_n 1, 1) := by decide +kernel
theorem dX9_plan_11 : decode cX9_plan 11 = .ok (.i2l, 1) := by decide +kernel
theorem dX9_plan_12 : decode cX9_plan 12 = .ok (.lconst 0, 1) := by decide +kernel
theorem dX9_plan_13 : decode cX9_plan 13 = .ok (.lconst 1, 1) := by decide +kernel
theorem dX9_plan_14 : decode cX9_plan 14 = .ok (.invokestatic 47, 3) := by decide +kernel
theorem dX9_plan_17 : decode cX9_plan 17 = .ok (.ifCond .ne 6, 3) := by decide +kernel
theorem dX9_plan_20 : decode cX9_plan 20 = .ok (.ldc 156, 2) := by decide +kernel
theorem dX9_plan_22 : decode cX9_plan 22 = .ok (.ireturn, 1) := by decide +kernel
theorem dX9_plan_23 : decode cX9_plan 23 = .ok (.aload_n 0, 1) := by decide +kernel
theorem dX9_plan_24 : decode cX9_plan 24 = .ok (.aload_n 0, 1) := by decide +kernel
theorem dX9_plan_25 : decode cX9_plan 25 = .ok (.getfield 7, 3) := by decide +kernel
theorem dX9_plan_28 : decode cX9_plan 28 = .ok (.invokevirtual 257, 3) := by decide +kernel
theorem dX9_plan_31 : decode cX9_plan 31 = .ok (.ifCond .ne 8, 3) := by decide +kernel
theorem dX9_plan_34 : decode cX9_plan 34 = .ok (.ldc 59, 2) := by decide +kernel
theorem dX9_plan_36 : decode cX9_plan 36 = .ok (.goto 18, 3) := by decide +kernel
theorem dX9_plan_39 : decode cX9_plan 39 = .ok (.iload_n 1, 1) := by decide +kernel
theorem dX9_plan_40 : decode cX9_plan 40 = .ok (.ifCond .ne 10, 3) := by decide +kernel
theorem dX9_plan_43 : decode cX9_plan 43 = .ok (.aload_n 0, 1) := by decide +kernel
theorem dX9_plan_44 : decode cX9_plan 44 = .ok (.invokevirtual 261, 3) := by decide +kernel
theorem dX9_plan_47 : decode cX9_plan 47 = .ok (.goto 7, 3) := by decide +kernel
theorem dX9_plan_50 : decode cX9_plan 50 = .ok (.aload_n 0, 1) := by decide +kernel
theorem dX9_plan_51 : decode cX9_plan 51 = .ok (.invokevirtual 264, 3) := by decide +kernel
theorem dX9_plan_54 : decode cX9_plan 54 = .ok (.ireturn, 1) := by decide +kernel
theorem dX9_planOf_0 : decode cX9_planOf 0 = .ok (.aload_n 0, 1) := by decide +kernel
theorem dX9_planOf_1 : decode cX9_planOf 1 = .ok (.iload_n 1, 1) := by decide +kernel
theorem dX9_planOf_2 : decode cX9_planOf 2 = .ok (.invokevirtual 183, 3) := by decide +kernel
theorem dX9_planOf_5 : decode cX9_planOf 5 = .ok (.ifCond .ne 6, 3) := by decide +kernel
theorem dX9_planOf_8 : decode cX9_planOf 8 = .ok (.ldc 156, 2) := by decide +kernel
theorem dX9_planOf_10 : decode cX9_planOf 10 = .ok (.ireturn, 1) := by decide +kernel
theorem dX9_planOf_11 : decode cX9_planOf 11 = .ok (.aload_n 0, 1) := by decide +kernel
theorem dX9_planOf_12 : decode cX9_planOf 12 = .ok (.aload_n 0, 1) := by decide +kernel
theorem dX9_planOf_13 : decode cX9_planOf 13 = .ok (.getfield 7, 3) := by decide +kernel
theorem dX9_planOf_16 : decode cX9_planOf 16 = .ok (.invokevirtual 257, 3) := by decide +kernel
theorem dX9_planOf_19 : decode cX9_planOf 19 = .ok (.ifCond .eq 12, 3) := by decide +kernel
theorem dX9_planOf_22 : decode cX9_planOf 22 = .ok (.aload_n 0, 1) := by decide +kernel
theorem dX9_planOf_23 : decode cX9_planOf 23 = .ok (.getfield 35, 3) := by decide +kernel
theorem dX9_planOf_26 : decode cX9_planOf 26 = .ok (.iload_n 1, 1) := by decide +kernel
theorem dX9_planOf_27 : decode cX9_planOf 27 = .ok (.iaload, 1) := by decide +kernel
theorem dX9_planOf_28 : decode cX9_planOf 28 = .ok (.goto 5, 3) := by decide +kernel
theorem dX9_planOf_31 : decode cX9_planOf 31 = .ok (.ldc 59, 2) := by decide +kernel
theorem dX9_planOf_33 : decode cX9_planOf 33 = .ok (.ireturn, 1) := by decide +kernel
theorem dX9_puts_0 : decode cX9_puts 0 = .ok (.iconst 0, 1) := by decide +kernel
theorem dX9_puts_1 : decode cX9_puts 1 = .ok (.istore_n 2, 1) := by decide +kernel
theorem dX9_puts_2 : decode cX9_puts 2 = .ok (.iload_n 2, 1) := by decide +kernel
theorem dX9_puts_3 : decode cX9_puts 3 = .ok (.bipush 7, 2) := by decide +kernel
theorem dX9_puts_5 : decode cX9_puts 5 = .ok (.if_icmp .ge 16, 3) := by decide +kernel
theorem dX9_puts_8 : decode cX9_puts 8 = .ok (.aload_n 0, 1) := by decide +kernel
theorem dX9_puts_9 : decode cX9_puts 9 = .ok (.getfield 35, 3) := by decide +kernel
theorem dX9_puts_12 : decode cX9_puts 12 = .ok (.iload_n 2, 1) := by decide +kernel
theorem dX9_puts_13 : decode cX9_puts 13 = .ok (.iconst 0, 1) := by decide +kernel
theorem dX9_puts_14 : decode cX9_puts 14 = .ok (.iastore, 1) := by decide +kernel
theorem dX9_puts_15 : decode cX9_puts 15 = .ok (.iinc 2 1, 3) := by decide +kernel
theorem dX9_puts_18 : decode cX9_puts 18 = .ok (.goto (-16), 3) := by decide +kernel
theorem dX9_puts_21 : decode cX9_puts 21 = .ok (.iconst 0, 1) := by decide +kernel
theorem dX9_puts_22 : decode cX9_puts 22 = .ok (.istore_n 2, 1) := by decide +kernel
theorem dX9_puts_23 : decode cX9_puts 23 = .ok (.iload_n 2, 1) := by decide +kernel
theorem dX9_puts_24 : decode cX9_puts 24 = .ok (.aload_n 0, 1) := by decide +kernel
theorem dX9_puts_25 : decode cX9_puts 25 = .ok (.getfield 7, 3) := by decide +kernel
theorem dX9_puts_28 : decode cX9_puts 28 = .ok (.iconst 5, 1) := by decide +kernel
theorem dX9_puts_29 : decode cX9_puts 29 = .ok (.iaload, 1) := by decide +kernel
theorem dX9_puts_30 : decode cX9_puts 30 = .ok (.if_icmp .ge 64, 3) := by decide +kernel
theorem dX9_puts_33 : decode cX9_puts 33 = .ok (.aload_n 0, 1) := by decide +kernel
theorem dX9_puts_34 : decode cX9_puts 34 = .ok (.getfield 7, 3) := by decide +kernel
theorem dX9_puts_37 : decode cX9_puts 37 = .ok (.iload_n 2, 1) := by decide +kernel
theorem dX9_puts_38 : decode cX9_puts 38 = .ok (.invokestatic 66, 3) := by decide +kernel
theorem dX9_puts_41 : decode cX9_puts 41 = .ok (.ifCond .eq 12, 3) := by decide +kernel
theorem dX9_puts_44 : decode cX9_puts 44 = .ok (.aload_n 0, 1) := by decide +kernel
theorem dX9_puts_45 : decode cX9_puts 45 = .ok (.iload_n 1, 1) := by decide +kernel
theorem dX9_puts_46 : decode cX9_puts 46 = .ok (.iload_n 2, 1) := by decide +kernel
theorem dX9_puts_47 : decode cX9_puts 47 = .ok (.invokevirtual 267, 3) := by decide +kernel
theorem dX9_puts_50 : decode cX9_puts 50 = .ok (.goto 4, 3) := by decide +kernel
theorem dX9_puts_53 : decode cX9_puts 53 = .ok (.iconst (-1), 1) := by decide +kernel
theorem dX9_puts_54 : decode cX9_puts 54 = .ok (.istore_n 3, 1) := by decide +kernel
theorem dX9_puts_55 : decode cX9_puts 55 = .ok (.iload_n 3, 1) := by decide +kernel
theorem dX9_puts_56 : decode cX9_puts 56 = .ok (.ifCond .ge 16, 3) := by decide +kernel
theorem dX9_puts_59 : decode cX9_puts 59 = .ok (.aload_n 0, 1) := by decide +kernel
theorem dX9_puts_60 : decode cX9_puts 60 = .ok (.getfield 7, 3) := by decide +kernel
theorem dX9_puts_63 : decode cX9_puts 63 = .ok (.iload_n 2, 1) := by decide +kernel
theorem dX9_puts_64 : decode cX9_puts 64 = .ok (.invokestatic 66, 3) := by decide +kernel
theorem dX9_puts_67 : decode cX9_puts 67 = .ok (.ifCond .eq 5, 3) := by decide +kernel
theorem dX9_puts_70 : decode cX9_puts 70 = .ok (.iconst 0, 1) := by decide +kernel
theorem dX9_puts_71 : decode cX9_puts 71 = .ok (.ireturn, 1) := by decide +kernel
theorem dX9_puts_72 : decode cX9_puts 72 = .ok (.iload_n 3, 1) := by decide +kernel
theorem dX9_puts_73 : decode cX9_puts 73 = .ok (.ifCond .lt 15, 3) := by decide +kernel
theorem dX9_puts_76 : decode cX9_puts 76 = .ok (.aload_n 0, 1) := by decide +kernel
theorem dX9_puts_77 : decode cX9_puts 77 = .ok (.getfield 35, 3) := by decide +kernel
theorem dX9_puts_80 : decode cX9_puts 80 = .ok (.iload_n 3, 1) := by decide +kernel
theorem dX9_puts_81 : decode cX9_puts 81 = .ok (.dup2, 1) := by decide +kernel
theorem dX9_puts_82 : decode cX9_puts 82 = .ok (.iaload, 1) := by decide +kernel
theorem dX9_puts_83 : decode cX9_puts 83 = .ok (.iconst 1, 1) := by decide +kernel
theorem dX9_puts_84 : decode cX9_puts 84 = .ok (.iload_n 2, 1) := by decide +kernel
theorem dX9_puts_85 : decode cX9_puts 85 = .ok (.ishl, 1) := by decide +kernel
theorem dX9_puts_86 : decode cX9_puts 86 = .ok (.ior, 1) := by decide +kernel
theorem dX9_puts_87 : decode cX9_puts 87 = .ok (.iastore, 1) := by decide +kernel
theorem dX9_puts_88 : decode cX9_puts 88 = .ok (.iinc 2 1, 3) := by decide +kernel
theorem dX9_puts_91 : decode cX9_puts 91 = .ok (.goto (-68), 3) := by decide +kernel
theorem dX9_puts_94 : decode cX9_puts 94 = .ok (.iconst 1, 1) := by decide +kernel
theorem dX9_puts_95 : decode cX9_puts 95 = .ok (.ireturn, 1) := by decide +kernel
theorem dX9_roomFor_0 : decode cX9_roomFor 0 = .ok (.iconst (-1), 1) := by decide +kernel
theorem dX9_roomFor_1 : decode cX9_roomFor 1 = .ok (.istore_n 3, 1) := by decide +kernel
theorem dX9_roomFor_2 : decode cX9_roomFor 2 = .ok (.iconst 0, 1) := by decide +kernel
theorem dX9_roomFor_3 : decode cX9_roomFor 3 = .ok (.istore 4, 2) := by decide +kernel
theorem dX9_roomFor_5 : decode cX9_roomFor 5 = .ok (.iconst 0, 1) := by decide +kernel
theorem dX9_roomFor_6 : decode cX9_roomFor 6 = .ok (.istore 5, 2) := by decide +kernel
theorem dX9_roomFor_8 : decode cX9_roomFor 8 = .ok (.iload 5, 2) := by decide +kernel
theorem dX9_roomFor_10 : decode cX9_roomFor 10 = .ok (.aload_n 0, 1) := by decide +kernel
theorem dX9_roomFor_11 : decode cX9_roomFor 11 = .ok (.getfield 7, 3) := by decide +kernel
theorem dX9_roomFor_14 : decode cX9_roomFor 14 = .ok (.iconst 4, 1) := by decide +kernel
theorem dX9_roomFor_15 : decode cX9_roomFor 15 = .ok (.iaload, 1) := by decide +kernel
theorem dX9_roomFor_16 : decode cX9_roomFor 16 = .ok (.if_icmp .ge 75, 3) := by decide +kernel
theorem dX9_roomFor_19 : decode cX9_roomFor 19 = .ok (.aload_n 0, 1) := by decide +kernel
theorem dX9_roomFor_20 : decode cX9_roomFor 20 = .ok (.getfield 7, 3) := by decide +kernel
theorem dX9_roomFor_23 : decode cX9_roomFor 23 = .ok (.iload 5, 2) := by decide +kernel
theorem dX9_roomFor_25 : decode cX9_roomFor 25 = .ok (.invokestatic 238, 3) := by decide +kernel
theorem dX9_roomFor_28 : decode cX9_roomFor 28 = .ok (.ifCond .eq 26, 3) := by decide +kernel
theorem dX9_roomFor_31 : decode cX9_roomFor 31 = .ok (.aload_n 0, 1) := by decide +kernel
theorem dX9_roomFor_32 : decode cX9_roomFor 32 = .ok (.getfield 7, 3) := by decide +kernel
theorem dX9_roomFor_35 : decode cX9_roomFor 35 = .ok (.iload 5, 2) := by decide +kernel
theorem dX9_roomFor_37 : decode cX9_roomFor 37 = .ok (.aload_n 0, 1) := by decide +kernel
theorem dX9_roomFor_38 : decode cX9_roomFor 38 = .ok (.getfield 35, 3) := by decide +kernel
theorem dX9_roomFor_41 : decode cX9_roomFor 41 = .ok (.iload 5, 2) := by decide +kernel
theorem dX9_roomFor_43 : decode cX9_roomFor 43 = .ok (.iaload, 1) := by decide +kernel
theorem dX9_roomFor_44 : decode cX9_roomFor 44 = .ok (.iconst 1, 1) := by decide +kernel
theorem dX9_roomFor_45 : decode cX9_roomFor 45 = .ok (.iload_n 2, 1) := by decide +kernel
theorem dX9_roomFor_46 : decode cX9_roomFor 46 = .ok (.ishl, 1) := by decide +kernel
theorem dX9_roomFor_47 : decode cX9_roomFor 47 = .ok (.ior, 1) := by decide +kernel
theorem dX9_roomFor_48 : decode cX9_roomFor 48 = .ok (.invokestatic 86, 3) := by decide +kernel
theorem dX9_roomFor_51 : decode cX9_roomFor 51 = .ok (.goto 4, 3) := by decide +kernel
theorem dX9_roomFor_54 : decode cX9_roomFor 54 = .ok (.iconst (-1), 1) := by decide +kernel
theorem dX9_roomFor_55 : decode cX9_roomFor 55 = .ok (.istore 6, 2) := by decide +kernel
theorem dX9_roomFor_57 : decode cX9_roomFor 57 = .ok (.iload 6, 2) := by decide +kernel
theorem dX9_roomFor_59 : decode cX9_roomFor 59 = .ok (.ifCond .lt 26, 3) := by decide +kernel
theorem dX9_roomFor_62 : decode cX9_roomFor 62 = .ok (.iload_n 3, 1) := by decide +kernel
theorem dX9_roomFor_63 : decode cX9_roomFor 63 = .ok (.ifCond .lt 15, 3) := by decide +kernel
theorem dX9_roomFor_66 : decode cX9_roomFor 66 = .ok (.iload_n 1, 1) := by decide +kernel
theorem dX9_roomFor_67 : decode cX9_roomFor 67 = .ok (.iconst 1, 1) := by decide +kernel
theorem dX9_roomFor_68 : decode cX9_roomFor 68 = .ok (.if_icmp .ne 17, 3) := by decide +kernel
theorem dX9_roomFor_71 : decode cX9_roomFor 71 = .ok (.iload 6, 2) := by decide +kernel
theorem dX9_roomFor_73 : decode cX9_roomFor 73 = .ok (.iload 4, 2) := by decide +kernel
theorem dX9_roomFor_75 : decode cX9_roomFor 75 = .ok (.if_icmp .ge 10, 3) := by decide +kernel
theorem dX9_roomFor_78 : decode cX9_roomFor 78 = .ok (.iload 5, 2) := by decide +kernel
theorem dX9_roomFor_80 : decode cX9_roomFor 80 = .ok (.istore_n 3, 1) := by decide +kernel
theorem dX9_roomFor_81 : decode cX9_roomFor 81 = .ok (.iload 6, 2) := by decide +kernel
theorem dX9_roomFor_83 : decode cX9_roomFor 83 = .ok (.istore 4, 2) := by decide +kernel
theorem dX9_roomFor_85 : decode cX9_roomFor 85 = .ok (.iinc 5 1, 3) := by decide +kernel
theorem dX9_roomFor_88 : decode cX9_roomFor 88 = .ok (.goto (-80), 3) := by decide +kernel
theorem dX9_roomFor_91 : decode cX9_roomFor 91 = .ok (.iload_n 3, 1) := by decide +kernel
theorem dX9_roomFor_92 : decode cX9_roomFor 92 = .ok (.ireturn, 1) := by decide +kernel
theorem dX9_rule_0 : decode cX9_rule 0 = .ok (.aload_n 0, 1) := by decide +kernel
theorem dX9_rule_1 : decode cX9_rule 1 = .ok (.invokevirtual 200, 3) := by decide +kernel
theorem dX9_rule_4 : decode cX9_rule 4 = .ok (.ifCond .ne 6, 3) := by decide +kernel
theorem dX9_rule_7 : decode cX9_rule 7 = .ok (.ldc 182, 2) := by decide +kernel
theorem dX9_rule_9 : decode cX9_rule 9 = .ok (.ireturn, 1) := by decide +kernel
theorem dX9_rule_10 : decode cX9_rule 10 = .ok (.iload_n 1, 1) := by decide +kernel
theorem dX9_rule_11 : decode cX9_rule 11 = .ok (.i2l, 1) := by decide +kernel
theorem dX9_rule_12 : decode cX9_rule 12 = .ok (.lconst 0, 1) := by decide +kernel
theorem dX9_rule_13 : decode cX9_rule 13 = .ok (.lconst 1, 1) := by decide +kernel
theorem dX9_rule_14 : decode cX9_rule 14 = .ok (.invokestatic 47, 3) := by decide +kernel
theorem dX9_rule_17 : decode cX9_rule 17 = .ok (.ifCond .eq 13, 3) := by decide +kernel
theorem dX9_rule_20 : decode cX9_rule 20 = .ok (.iload_n 2, 1) := by decide +kernel
theorem dX9_rule_21 : decode cX9_rule 21 = .ok (.i2l, 1) := by decide +kernel
theorem dX9_rule_22 : decode cX9_rule 22 = .ok (.lconst 0, 1) := by decide +kernel
theorem dX9_rule_23 : decode cX9_rule 23 = .ok (.lconst 1, 1) := by decide +kernel
theorem dX9_rule_24 : decode cX9_rule 24 = .ok (.invokestatic 47, 3) := by decide +kernel
theorem dX9_rule_27 : decode cX9_rule 27 = .ok (.ifCond .ne 6, 3) := by decide +kernel
theorem dX9_rule_30 : decode cX9_rule 30 = .ok (.ldc 156, 2) := by decide +kernel
theorem dX9_rule_32 : decode cX9_rule 32 = .ok (.ireturn, 1) := by decide +kernel
theorem dX9_rule_33 : decode cX9_rule 33 = .ok (.aload_n 0, 1) := by decide +kernel
theorem dX9_rule_34 : decode cX9_rule 34 = .ok (.iload_n 1, 1) := by decide +kernel
theorem dX9_rule_35 : decode cX9_rule 35 = .ok (.invokevirtual 270, 3) := by decide +kernel
theorem dX9_rule_38 : decode cX9_rule 38 = .ok (.ifCond .ne 8, 3) := by decide +kernel
theorem dX9_rule_41 : decode cX9_rule 41 = .ok (.ldc 59, 2) := by decide +kernel
theorem dX9_rule_43 : decode cX9_rule 43 = .ok (.goto 18, 3) := by decide +kernel
theorem dX9_rule_46 : decode cX9_rule 46 = .ok (.iload_n 2, 1) := by decide +kernel
theorem dX9_rule_47 : decode cX9_rule 47 = .ok (.ifCond .ne 10, 3) := by decide +kernel
theorem dX9_rule_50 : decode cX9_rule 50 = .ok (.aload_n 0, 1) := by decide +kernel
theorem dX9_rule_51 : decode cX9_rule 51 = .ok (.invokevirtual 261, 3) := by decide +kernel
theorem dX9_rule_54 : decode cX9_rule 54 = .ok (.goto 7, 3) := by decide +kernel
theorem dX9_rule_57 : decode cX9_rule 57 = .ok (.aload_n 0, 1) := by decide +kernel
theorem dX9_rule_58 : decode cX9_rule 58 = .ok (.invokevirtual 264, 3) := by decide +kernel
theorem dX9_rule_61 : decode cX9_rule 61 = .ok (.ireturn, 1) := by decide +kernel
theorem dX9_ruleOf_0 : decode cX9_ruleOf 0 = .ok (.iload_n 1, 1) := by decide +kernel
theorem dX9_ruleOf_1 : decode cX9_ruleOf 1 = .ok (.i2l, 1) := by decide +kernel
theorem dX9_ruleOf_2 : decode cX9_ruleOf 2 = .ok (.lconst 0, 1) := by decide +kernel
theorem dX9_ruleOf_3 : decode cX9_ruleOf 3 = .ok (.lconst 1, 1) := by decide +kernel
theorem dX9_ruleOf_4 : decode cX9_ruleOf 4 = .ok (.invokestatic 47, 3) := by decide +kernel
theorem dX9_ruleOf_7 : decode cX9_ruleOf 7 = .ok (.ifCond .eq 11, 3) := by decide +kernel
theorem dX9_ruleOf_10 : decode cX9_ruleOf 10 = .ok (.aload_n 0, 1) := by decide +kernel
theorem dX9_ruleOf_11 : decode cX9_ruleOf 11 = .ok (.iload_n 2, 1) := by decide +kernel
theorem dX9_ruleOf_12 : decode cX9_ruleOf 12 = .ok (.invokevirtual 183, 3) := by decide +kernel
theorem dX9_ruleOf_15 : decode cX9_ruleOf 15 = .ok (.ifCond .ne 6, 3) := by decide +kernel
theorem dX9_ruleOf_18 : decode cX9_ruleOf 18 = .ok (.ldc 156, 2) := by decide +kernel
theorem dX9_ruleOf_20 : decode cX9_ruleOf 20 = .ok (.ireturn, 1) := by decide +kernel
theorem dX9_ruleOf_21 : decode cX9_ruleOf 21 = .ok (.aload_n 0, 1) := by decide +kernel
theorem dX9_ruleOf_22 : decode cX9_ruleOf 22 = .ok (.iload_n 1, 1) := by decide +kernel
theorem dX9_ruleOf_23 : decode cX9_ruleOf 23 = .ok (.invokevirtual 270, 3) := by decide +kernel
theorem dX9_ruleOf_26 : decode cX9_ruleOf 26 = .ok (.ifCond .eq 12, 3) := by decide +kernel
theorem dX9_ruleOf_29 : decode cX9_ruleOf 29 = .ok (.aload_n 0, 1) := by decide +kernel
theorem dX9_ruleOf_30 : decode cX9_ruleOf 30 = .ok (.getfield 35, 3) := by decide +kernel
theorem dX9_ruleOf_33 : decode cX9_ruleOf 33 = .ok (.iload_n 2, 1) := by decide +kernel
theorem dX9_ruleOf_34 : decode cX9_ruleOf 34 = .ok (.iaload, 1) := by decide +kernel
theorem dX9_ruleOf_35 : decode cX9_ruleOf 35 = .ok (.goto 5, 3) := by decide +kernel
theorem dX9_ruleOf_38 : decode cX9_ruleOf 38 = .ok (.ldc 59, 2) := by decide +kernel
theorem dX9_ruleOf_40 : decode cX9_ruleOf 40 = .ok (.ireturn, 1) := by decide +kernel
theorem dX9_longer_0 : decode cX9_longer 0 = .ok (.aload_n 0, 1) := by decide +kernel
theorem dX9_longer_1 : decode cX9_longer 1 = .ok (.iload_n 1, 1) := by decide +kernel
theorem dX9_longer_2 : decode cX9_longer 2 = .ok (.invokevirtual 190, 3) := by decide +kernel
theorem dX9_longer_5 : decode cX9_longer 5 = .ok (.ifCond .ne 6, 3) := by decide +kernel
theorem dX9_longer_8 : decode cX9_longer 8 = .ok (.ldc 156, 2) := by decide +kernel
theorem dX9_longer_10 : decode cX9_longer 10 = .ok (.ireturn, 1) := by decide +kernel
theorem dX9_longer_11 : decode cX9_longer 11 = .ok (.aload_n 0, 1) := by decide +kernel
theorem dX9_longer_12 : decode cX9_longer 12 = .ok (.getfield 7, 3) := by decide +kernel
theorem dX9_longer_15 : decode cX9_longer 15 = .ok (.iload_n 1, 1) := by decide +kernel
theorem dX9_longer_16 : decode cX9_longer 16 = .ok (.invokestatic 66, 3) := by decide +kernel
theorem dX9_longer_19 : decode cX9_longer 19 = .ok (.ifCond .ne 6, 3) := by decide +kernel
theorem dX9_longer_22 : decode cX9_longer 22 = .ok (.ldc 182, 2) := by decide +kernel
theorem dX9_longer_24 : decode cX9_longer 24 = .ok (.ireturn, 1) := by decide +kernel
theorem dX9_longer_25 : decode cX9_longer 25 = .ok (.aload_n 0, 1) := by decide +kernel
theorem dX9_longer_26 : decode cX9_longer 26 = .ok (.getfield 7, 3) := by decide +kernel
theorem dX9_longer_29 : decode cX9_longer 29 = .ok (.iconst 0, 1) := by decide +kernel
theorem dX9_longer_30 : decode cX9_longer 30 = .ok (.aload_n 0, 1) := by decide +kernel
theorem dX9_longer_31 : decode cX9_longer 31 = .ok (.getfield 13, 3) := by decide +kernel
theorem dX9_longer_34 : decode cX9_longer 34 = .ok (.iconst 0, 1) := by decide +kernel
theorem dX9_longer_35 : decode cX9_longer 35 = .ok (.invokestatic 175, 3) := by decide +kernel
theorem dX9_longer_38 : decode cX9_longer 38 = .ok (.bipush 60, 2) := by decide +kernel
theorem dX9_longer_40 : decode cX9_longer 40 = .ok (.istore_n 2, 1) := by decide +kernel
theorem dX9_longer_41 : decode cX9_longer 41 = .ok (.iload_n 2, 1) := by decide +kernel
theorem dX9_longer_42 : decode cX9_longer 42 = .ok (.ifCond .le 37, 3) := by decide +kernel
theorem dX9_longer_45 : decode cX9_longer 45 = .ok (.aload_n 0, 1) := by decide +kernel
theorem dX9_longer_46 : decode cX9_longer 46 = .ok (.getfield 13, 3) := by decide +kernel
theorem dX9_longer_49 : decode cX9_longer 49 = .ok (.bipush 41, 2) := by decide +kernel
theorem dX9_longer_51 : decode cX9_longer 51 = .ok (.iconst 3, 1) := by decide +kernel
theorem dX9_longer_52 : decode cX9_longer 52 = .ok (.iload_n 1, 1) := by decide +kernel
theorem dX9_longer_53 : decode cX9_longer 53 = .ok (.imul, 1) := by decide +kernel
theorem dX9_longer_54 : decode cX9_longer 54 = .ok (.iadd, 1) := by decide +kernel
theorem dX9_longer_55 : decode cX9_longer 55 = .ok (.iconst 1, 1) := by decide +kernel
theorem dX9_longer_56 : decode cX9_longer 56 = .ok (.iadd, 1) := by decide +kernel
theorem dX9_longer_57 : decode cX9_longer 57 = .ok (.iload_n 2, 1) := by decide +kernel
theorem dX9_longer_58 : decode cX9_longer 58 = .ok (.iastore, 1) := by decide +kernel
theorem dX9_longer_59 : decode cX9_longer 59 = .ok (.aload_n 0, 1) := by decide +kernel
theorem dX9_longer_60 : decode cX9_longer 60 = .ok (.aload_n 0, 1) := by decide +kernel
theorem dX9_longer_61 : decode cX9_longer 61 = .ok (.getfield 13, 3) := by decide +kernel
theorem dX9_longer_64 : decode cX9_longer 64 = .ok (.iconst 0, 1) := by decide +kernel
theorem dX9_longer_65 : decode cX9_longer 65 = .ok (.invokevirtual 251, 3) := by decide +kernel
theorem dX9_longer_68 : decode cX9_longer 68 = .ok (.ifCond .eq 5, 3) := by decide +kernel
theorem dX9_longer_71 : decode cX9_longer 71 = .ok (.iload_n 2, 1) := by decide +kernel
theorem dX9_longer_72 : decode cX9_longer 72 = .ok (.ireturn, 1) := by decide +kernel
theorem dX9_longer_73 : decode cX9_longer 73 = .ok (.iinc 2 (-1), 3) := by decide +kernel
theorem dX9_longer_76 : decode cX9_longer 76 = .ok (.goto (-35), 3) := by decide +kernel
theorem dX9_longer_79 : decode cX9_longer 79 = .ok (.ldc 59, 2) := by decide +kernel
theorem dX9_longer_81 : decode cX9_longer 81 = .ok (.ireturn, 1) := by decide +kernel
theorem dX9_more_0 : decode cX9_more 0 = .ok (.aload_n 0, 1) := by decide +kernel
theorem dX9_more_1 : decode cX9_more 1 = .ok (.invokevirtual 200, 3) := by decide +kernel
theorem dX9_more_4 : decode cX9_more 4 = .ok (.ifCond .ne 6, 3) := by decide +kernel
theorem dX9_more_7 : decode cX9_more 7 = .ok (.ldc 182, 2) := by decide +kernel
theorem dX9_more_9 : decode cX9_more 9 = .ok (.ireturn, 1) := by decide +kernel
theorem dX9_more_10 : decode cX9_more 10 = .ok (.iload_n 1, 1) := by decide +kernel
theorem dX9_more_11 : decode cX9_more 11 = .ok (.i2l, 1) := by decide +kernel
theorem dX9_more_12 : decode cX9_more 12 = .ok (.lconst 1, 1) := by decide +kernel
theorem dX9_more_13 : decode cX9_more 13 = .ok (.ldc2_w 203, 3) := by decide +kernel
theorem dX9_more_16 : decode cX9_more 16 = .ok (.invokestatic 47, 3) := by decide +kernel
theorem dX9_more_19 : decode cX9_more 19 = .ok (.ifCond .ne 6, 3) := by decide +kernel
theorem dX9_more_22 : decode cX9_more 22 = .ok (.ldc 156, 2) := by decide +kernel
theorem dX9_more_24 : decode cX9_more 24 = .ok (.ireturn, 1) := by decide +kernel
theorem dX9_more_25 : decode cX9_more 25 = .ok (.aload_n 0, 1) := by decide +kernel
theorem dX9_more_26 : decode cX9_more 26 = .ok (.aload_n 0, 1) := by decide +kernel
theorem dX9_more_27 : decode cX9_more 27 = .ok (.getfield 7, 3) := by decide +kernel
theorem dX9_more_30 : decode cX9_more 30 = .ok (.iconst 0, 1) := by decide +kernel
theorem dX9_more_31 : decode cX9_more 31 = .ok (.invokevirtual 251, 3) := by decide +kernel
theorem dX9_more_34 : decode cX9_more 34 = .ok (.ifCond .eq 5, 3) := by decide +kernel
theorem dX9_more_37 : decode cX9_more 37 = .ok (.iconst 0, 1) := by decide +kernel
theorem dX9_more_38 : decode cX9_more 38 = .ok (.ireturn, 1) := by decide +kernel
theorem dX9_more_39 : decode cX9_more 39 = .ok (.iconst 1, 1) := by decide +kernel
theorem dX9_more_40 : decode cX9_more 40 = .ok (.istore_n 2, 1) := by decide +kernel
theorem dX9_more_41 : decode cX9_more 41 = .ok (.iload_n 2, 1) := by decide +kernel
theorem dX9_more_42 : decode cX9_more 42 = .ok (.bipush 100, 2) := by decide +kernel
theorem dX9_more_44 : decode cX9_more 44 = .ok (.if_icmp .ge 45, 3) := by decide +kernel
theorem dX9_more_47 : decode cX9_more 47 = .ok (.aload_n 0, 1) := by decide +kernel
theorem dX9_more_48 : decode cX9_more 48 = .ok (.getfield 7, 3) := by decide +kernel
theorem dX9_more_51 : decode cX9_more 51 = .ok (.iconst 0, 1) := by decide +kernel
theorem dX9_more_52 : decode cX9_more 52 = .ok (.aload_n 0, 1) := by decide +kernel
theorem dX9_more_53 : decode cX9_more 53 = .ok (.getfield 13, 3) := by decide +kernel
theorem dX9_more_56 : decode cX9_more 56 = .ok (.iconst 0, 1) := by decide +kernel
theorem dX9_more_57 : decode cX9_more 57 = .ok (.invokestatic 175, 3) := by decide +kernel
theorem dX9_more_60 : decode cX9_more 60 = .ok (.aload_n 0, 1) := by decide +kernel
theorem dX9_more_61 : decode cX9_more 61 = .ok (.getfield 13, 3) := by decide +kernel
theorem dX9_more_64 : decode cX9_more 64 = .ok (.iload_n 1, 1) := by decide +kernel
theorem dX9_more_65 : decode cX9_more 65 = .ok (.iload_n 2, 1) := by decide +kernel
theorem dX9_more_66 : decode cX9_more 66 = .ok (.invokestatic 150, 3) := by decide +kernel
theorem dX9_more_69 : decode cX9_more 69 = .ok (.aload_n 0, 1) := by decide +kernel
theorem dX9_more_70 : decode cX9_more 70 = .ok (.aload_n 0, 1) := by decide +kernel
theorem dX9_more_71 : decode cX9_more 71 = .ok (.getfield 13, 3) := by decide +kernel
theorem dX9_more_74 : decode cX9_more 74 = .ok (.iconst 0, 1) := by decide +kernel
theorem dX9_more_75 : decode cX9_more 75 = .ok (.invokevirtual 251, 3) := by decide +kernel
theorem dX9_more_78 : decode cX9_more 78 = .ok (.ifCond .eq 5, 3) := by decide +kernel
theorem dX9_more_81 : decode cX9_more 81 = .ok (.iload_n 2, 1) := by decide +kernel
theorem dX9_more_82 : decode cX9_more 82 = .ok (.ireturn, 1) := by decide +kernel
theorem dX9_more_83 : decode cX9_more 83 = .ok (.iinc 2 1, 3) := by decide +kernel
theorem dX9_more_86 : decode cX9_more 86 = .ok (.goto (-45), 3) := by decide +kernel
theorem dX9_more_89 : decode cX9_more 89 = .ok (.ldc 59, 2) := by decide +kernel
theorem dX9_more_91 : decode cX9_more 91 = .ok (.ireturn, 1) := by decide +kernel
theorem dX9_needed_0 : decode cX9_needed 0 = .ok (.aload_n 0, 1) := by decide +kernel
theorem dX9_needed_1 : decode cX9_needed 1 = .ok (.invokevirtual 200, 3) := by decide +kernel
theorem dX9_needed_4 : decode cX9_needed 4 = .ok (.ifCond .ne 6, 3) := by decide +kernel
theorem dX9_needed_7 : decode cX9_needed 7 = .ok (.ldc 182, 2) := by decide +kernel
theorem dX9_needed_9 : decode cX9_needed 9 = .ok (.ireturn, 1) := by decide +kernel
theorem dX9_needed_10 : decode cX9_needed 10 = .ok (.aload_n 0, 1) := by decide +kernel
theorem dX9_needed_11 : decode cX9_needed 11 = .ok (.aload_n 0, 1) := by decide +kernel
theorem dX9_needed_12 : decode cX9_needed 12 = .ok (.getfield 7, 3) := by decide +kernel
theorem dX9_needed_15 : decode cX9_needed 15 = .ok (.iconst 0, 1) := by decide +kernel
theorem dX9_needed_16 : decode cX9_needed 16 = .ok (.invokevirtual 251, 3) := by decide +kernel
theorem dX9_needed_19 : decode cX9_needed 19 = .ok (.ifCond .ne 6, 3) := by decide +kernel
theorem dX9_needed_22 : decode cX9_needed 22 = .ok (.ldc 59, 2) := by decide +kernel
theorem dX9_needed_24 : decode cX9_needed 24 = .ok (.ireturn, 1) := by decide +kernel
theorem dX9_needed_25 : decode cX9_needed 25 = .ok (.iconst 0, 1) := by decide +kernel
theorem dX9_needed_26 : decode cX9_needed 26 = .ok (.istore_n 1, 1) := by decide +kernel
theorem dX9_needed_27 : decode cX9_needed 27 = .ok (.iconst 0, 1) := by decide +kernel
theorem dX9_needed_28 : decode cX9_needed 28 = .ok (.istore_n 2, 1) := by decide +kernel
theorem dX9_needed_29 : decode cX9_needed 29 = .ok (.iload_n 2, 1) := by decide +kernel
theorem dX9_needed_30 : decode cX9_needed 30 = .ok (.aload_n 0, 1) := by decide +kernel
theorem dX9_needed_31 : decode cX9_needed 31 = .ok (.getfield 7, 3) := by decide +kernel
theorem dX9_needed_34 : decode cX9_needed 34 = .ok (.iconst 4, 1) := by decide +kernel
theorem dX9_needed_35 : decode cX9_needed 35 = .ok (.iaload, 1) := by decide +kernel
theorem dX9_needed_36 : decode cX9_needed 36 = .ok (.if_icmp .ge 44, 3) := by decide +kernel
theorem dX9_needed_39 : decode cX9_needed 39 = .ok (.iload_n 1, 1) := by decide +kernel
theorem dX9_needed_40 : decode cX9_needed 40 = .ok (.aload_n 0, 1) := by decide +kernel
theorem dX9_needed_41 : decode cX9_needed 41 = .ok (.getfield 7, 3) := by decide +kernel
theorem dX9_needed_44 : decode cX9_needed 44 = .ok (.iload_n 2, 1) := by decide +kernel
theorem dX9_needed_45 : decode cX9_needed 45 = .ok (.invokestatic 238, 3) := by decide +kernel
theorem dX9_needed_48 : decode cX9_needed 48 = .ok (.ifCond .eq 23, 3) := by decide +kernel
theorem dX9_needed_51 : decode cX9_needed 51 = .ok (.aload_n 0, 1) := by decide +kernel
theorem dX9_needed_52 : decode cX9_needed 52 = .ok (.aload_n 0, 1) := by decide +kernel
theorem dX9_needed_53 : decode cX9_needed 53 = .ok (.getfield 7, 3) := by decide +kernel
theorem dX9_needed_56 : decode cX9_needed 56 = .ok (.iconst 1, 1) := by decide +kernel
theorem dX9_needed_57 : decode cX9_needed 57 = .ok (.iload_n 2, 1) := by decide +kernel
theorem dX9_needed_58 : decode cX9_needed 58 = .ok (.ishl, 1) := by decide +kernel
theorem dX9_needed_59 : decode cX9_needed 59 = .ok (.invokevirtual 251, 3) := by decide +kernel
theorem dX9_needed_62 : decode cX9_needed 62 = .ok (.ifCond .ne 9, 3) := by decide +kernel
theorem dX9_needed_65 : decode cX9_needed 65 = .ok (.iconst 1, 1) := by decide +kernel
theorem dX9_needed_66 : decode cX9_needed 66 = .ok (.iload_n 2, 1) := by decide +kernel
theorem dX9_needed_67 : decode cX9_needed 67 = .ok (.ishl, 1) := by decide +kernel
theorem dX9_needed_68 : decode cX9_needed 68 = .ok (.goto 4, 3) := by decide +kernel
theorem dX9_needed_71 : decode cX9_needed 71 = .ok (.iconst 0, 1) := by decide +kernel
theorem dX9_needed_72 : decode cX9_needed 72 = .ok (.ior, 1) := by decide +kernel
theorem dX9_needed_73 : decode cX9_needed 73 = .ok (.istore_n 1, 1) := by decide +kernel
theorem dX9_needed_74 : decode cX9_needed 74 = .ok (.iinc 2 1, 3) := by decide +kernel
theorem dX9_needed_77 : decode cX9_needed 77 = .ok (.goto (-48), 3) := by decide +kernel
theorem dX9_needed_80 : decode cX9_needed 80 = .ok (.iload_n 1, 1) := by decide +kernel
theorem dX9_needed_81 : decode cX9_needed 81 = .ok (.ireturn, 1) := by decide +kernel
theorem dX9_gcd_0 : decode cX9_gcd 0 = .ok (.lload_n 0, 1) := by decide +kernel
theorem dX9_gcd_1 : decode cX9_gcd 1 = .ok (.lstore 4, 2) := by decide +kernel
theorem dX9_gcd_3 : decode cX9_gcd 3 = .ok (.lload_n 2, 1) := by decide +kernel
theorem dX9_gcd_4 : decode cX9_gcd 4 = .ok (.lstore 6, 2) := by decide +kernel
theorem dX9_gcd_6 : decode cX9_gcd 6 = .ok (.lload 6, 2) := by decide +kernel
theorem dX9_gcd_8 : decode cX9_gcd 8 = .ok (.lconst 0, 1) := by decide +kernel
theorem dX9_gcd_9 : decode cX9_gcd 9 = .ok (.lcmp, 1) := by decide +kernel
theorem dX9_gcd_10 : decode cX9_gcd 10 = .ok (.ifCond .eq 21, 3) := by decide +kernel
theorem dX9_gcd_13 : decode cX9_gcd 13 = .ok (.lload 4, 2) := by decide +kernel
theorem dX9_gcd_15 : decode cX9_gcd 15 = .ok (.lload 6, 2) := by decide +kernel
theorem dX9_gcd_17 : decode cX9_gcd 17 = .ok (.lrem, 1) := by decide +kernel
theorem dX9_gcd_18 : decode cX9_gcd 18 = .ok (.lstore 8, 2) := by decide +kernel
theorem dX9_gcd_20 : decode cX9_gcd 20 = .ok (.lload 6, 2) := by decide +kernel
theorem dX9_gcd_22 : decode cX9_gcd 22 = .ok (.lstore 4, 2) := by decide +kernel
theorem dX9_gcd_24 : decode cX9_gcd 24 = .ok (.lload 8, 2) := by decide +kernel
theorem dX9_gcd_26 : decode cX9_gcd 26 = .ok (.lstore 6, 2) := by decide +kernel
theorem dX9_gcd_28 : decode cX9_gcd 28 = .ok (.goto (-22), 3) := by decide +kernel
theorem dX9_gcd_31 : decode cX9_gcd 31 = .ok (.lload 4, 2) := by decide +kernel
theorem dX9_gcd_33 : decode cX9_gcd 33 = .ok (.lreturn, 1) := by decide +kernel
theorem dX9_fogged_0 : decode cX9_fogged 0 = .ok (.aload_n 0, 1) := by decide +kernel
theorem dX9_fogged_1 : decode cX9_fogged 1 = .ok (.invokevirtual 200, 3) := by decide +kernel
theorem dX9_fogged_4 : decode cX9_fogged 4 = .ok (.ifCond .ne 7, 3) := by decide +kernel
theorem dX9_fogged_7 : decode cX9_fogged 7 = .ok (.ldc2_w 273, 3) := by decide +kernel
theorem dX9_fogged_10 : decode cX9_fogged 10 = .ok (.lreturn, 1) := by decide +kernel
theorem dX9_fogged_11 : decode cX9_fogged 11 = .ok (.iload_n 1, 1) := by decide +kernel
theorem dX9_fogged_12 : decode cX9_fogged 12 = .ok (.i2l, 1) := by decide +kernel
theorem dX9_fogged_13 : decode cX9_fogged 13 = .ok (.lconst 0, 1) := by decide +kernel
theorem dX9_fogged_14 : decode cX9_fogged 14 = .ok (.ldc2_w 213, 3) := by decide +kernel
theorem dX9_fogged_17 : decode cX9_fogged 17 = .ok (.invokestatic 47, 3) := by decide +kernel
theorem dX9_fogged_20 : decode cX9_fogged 20 = .ok (.ifCond .eq 13, 3) := by decide +kernel
theorem dX9_fogged_23 : decode cX9_fogged 23 = .ok (.iload_n 2, 1) := by decide +kernel
theorem dX9_fogged_24 : decode cX9_fogged 24 = .ok (.i2l, 1) := by decide +kernel
theorem dX9_fogged_25 : decode cX9_fogged 25 = .ok (.lconst 0, 1) := by decide +kernel
theorem dX9_fogged_26 : decode cX9_fogged 26 = .ok (.lconst 1, 1) := by decide +kernel
theorem dX9_fogged_27 : decode cX9_fogged 27 = .ok (.invokestatic 47, 3) := by decide +kernel
theorem dX9_fogged_30 : decode cX9_fogged 30 = .ok (.ifCond .ne 7, 3) := by decide +kernel
theorem dX9_fogged_33 : decode cX9_fogged 33 = .ok (.ldc2_w 275, 3) := by decide +kernel
theorem dX9_fogged_36 : decode cX9_fogged 36 = .ok (.lreturn, 1) := by decide +kernel
theorem dX9_fogged_37 : decode cX9_fogged 37 = .ok (.lconst 0, 1) := by decide +kernel
theorem dX9_fogged_38 : decode cX9_fogged 38 = .ok (.lstore_n 3, 1) := by decide +kernel
theorem dX9_fogged_39 : decode cX9_fogged 39 = .ok (.lconst 0, 1) := by decide +kernel
theorem dX9_fogged_40 : decode cX9_fogged 40 = .ok (.lstore 5, 2) := by decide +kernel
theorem dX9_fogged_42 : decode cX9_fogged 42 = .ok (.iconst 0, 1) := by decide +kernel
theorem dX9_fogged_43 : decode cX9_fogged 43 = .ok (.istore 7, 2) := by decide +kernel
theorem dX9_fogged_45 : decode cX9_fogged 45 = .ok (.iload 7, 2) := by decide +kernel
theorem dX9_fogged_47 : decode cX9_fogged 47 = .ok (.iconst 1, 1) := by decide +kernel
theorem dX9_fogged_48 : decode cX9_fogged 48 = .ok (.aload_n 0, 1) := by decide +kernel
theorem dX9_fogged_49 : decode cX9_fogged 49 = .ok (.getfield 7, 3) := by decide +kernel
theorem dX9_fogged_52 : decode cX9_fogged 52 = .ok (.iconst 4, 1) := by decide +kernel
theorem dX9_fogged_53 : decode cX9_fogged 53 = .ok (.iaload, 1) := by decide +kernel
theorem dX9_fogged_54 : decode cX9_fogged 54 = .ok (.ishl, 1) := by decide +kernel
theorem dX9_fogged_55 : decode cX9_fogged 55 = .ok (.if_icmp .ge 123, 3) := by decide +kernel
theorem dX9_fogged_58 : decode cX9_fogged 58 = .ok (.lconst 1, 1) := by decide +kernel
theorem dX9_fogged_59 : decode cX9_fogged 59 = .ok (.lstore 8, 2) := by decide +kernel
theorem dX9_fogged_61 : decode cX9_fogged 61 = .ok (.iconst 0, 1) := by decide +kernel
theorem dX9_fogged_62 : decode cX9_fogged 62 = .ok (.istore 10, 2) := by decide +kernel
theorem dX9_fogged_64 : decode cX9_fogged 64 = .ok (.iload 10, 2) := by decide +kernel
theorem dX9_fogged_66 : decode cX9_fogged 66 = .ok (.aload_n 0, 1) := by decide +kernel
theorem dX9_fogged_67 : decode cX9_fogged 67 = .ok (.getfield 7, 3) := by decide +kernel
theorem dX9_fogged_70 : decode cX9_fogged 70 = .ok (.iconst 4, 1) := by decide +kernel
theorem dX9_fogged_71 : decode cX9_fogged 71 = .ok (.iaload, 1) := by decide +kernel
theorem dX9_fogged_72 : decode cX9_fogged 72 = .ok (.if_icmp .ge 64, 3) := by decide +kernel
theorem dX9_fogged_75 : decode cX9_fogged 75 = .ok (.lload 8, 2) := by decide +kernel
theorem dX9_fogged_77 : decode cX9_fogged 77 = .ok (.aload_n 0, 1) := by decide +kernel
theorem dX9_fogged_78 : decode cX9_fogged 78 = .ok (.getfield 7, 3) := by decide +kernel
theorem dX9_fogged_81 : decode cX9_fogged 81 = .ok (.iload 10, 2) := by decide +kernel
theorem dX9_fogged_83 : decode cX9_fogged 83 = .ok (.invokestatic 238, 3) := by decide +kernel
theorem dX9_fogged_86 : decode cX9_fogged 86 = .ok (.ifCond .eq 26, 3) := by decide +kernel
theorem dX9_fogged_89 : decode cX9_fogged 89 = .ok (.iload 7, 2) := by decide +kernel
theorem dX9_fogged_91 : decode cX9_fogged 91 = .ok (.iload 10, 2) := by decide +kernel
theorem dX9_fogged_93 : decode cX9_fogged 93 = .ok (.invokestatic 76, 3) := by decide +kernel
theorem dX9_fogged_96 : decode cX9_fogged 96 = .ok (.ifCond .eq 8, 3) := by decide +kernel
theorem dX9_fogged_99 : decode cX9_fogged 99 = .ok (.iload_n 1, 1) := by decide +kernel
theorem dX9_fogged_100 : decode cX9_fogged 100 = .ok (.i2l, 1) := by decide +kernel
theorem dX9_fogged_101 : decode cX9_fogged 101 = .ok (.goto 26, 3) := by decide +kernel
theorem dX9_fogged_104 : decode cX9_fogged 104 = .ok (.bipush 10, 2) := by decide +kernel
theorem dX9_fogged_106 : decode cX9_fogged 106 = .ok (.iload_n 1, 1) := by decide +kernel
theorem dX9_fogged_107 : decode cX9_fogged 107 = .ok (.isub, 1) := by decide +kernel
theorem dX9_fogged_108 : decode cX9_fogged 108 = .ok (.i2l, 1) := by decide +kernel
theorem dX9_fogged_109 : decode cX9_fogged 109 = .ok (.goto 18, 3) := by decide +kernel
theorem dX9_fogged_112 : decode cX9_fogged 112 = .ok (.iload 7, 2) := by decide +kernel
theorem dX9_fogged_114 : decode cX9_fogged 114 = .ok (.iload 10, 2) := by decide +kernel
theorem dX9_fogged_116 : decode cX9_fogged 116 = .ok (.invokestatic 76, 3) := by decide +kernel
theorem dX9_fogged_119 : decode cX9_fogged 119 = .ok (.ifCond .eq 7, 3) := by decide +kernel
theorem dX9_fogged_122 : decode cX9_fogged 122 = .ok (.lconst 0, 1) := by decide +kernel
theorem dX9_fogged_123 : decode cX9_fogged 123 = .ok (.goto 4, 3) := by decide +kernel
theorem dX9_fogged_126 : decode cX9_fogged 126 = .ok (.lconst 1, 1) := by decide +kernel
theorem dX9_fogged_127 : decode cX9_fogged 127 = .ok (.lmul, 1) := by decide +kernel
theorem dX9_fogged_128 : decode cX9_fogged 128 = .ok (.lstore 8, 2) := by decide +kernel
theorem dX9_fogged_130 : decode cX9_fogged 130 = .ok (.iinc 10 1, 3) := by decide +kernel
theorem dX9_fogged_133 : decode cX9_fogged 133 = .ok (.goto (-69), 3) := by decide +kernel
theorem dX9_fogged_136 : decode cX9_fogged 136 = .ok (.lload 5, 2) := by decide +kernel
theorem dX9_fogged_138 : decode cX9_fogged 138 = .ok (.lload 8, 2) := by decide +kernel
theorem dX9_fogged_140 : decode cX9_fogged 140 = .ok (.ladd, 1) := by decide +kernel
theorem dX9_fogged_141 : decode cX9_fogged 141 = .ok (.lstore 5, 2) := by decide +kernel
theorem dX9_fogged_143 : decode cX9_fogged 143 = .ok (.lload_n 3, 1) := by decide +kernel
theorem dX9_fogged_144 : decode cX9_fogged 144 = .ok (.lload 8, 2) := by decide +kernel
theorem dX9_fogged_146 : decode cX9_fogged 146 = .ok (.lconst 0, 1) := by decide +kernel
theorem dX9_fogged_147 : decode cX9_fogged 147 = .ok (.lcmp, 1) := by decide +kernel
theorem dX9_fogged_148 : decode cX9_fogged 148 = .ok (.ifCond .le 21, 3) := by decide +kernel
theorem dX9_fogged_151 : decode cX9_fogged 151 = .ok (.aload_n 0, 1) := by decide +kernel
theorem dX9_fogged_152 : decode cX9_fogged 152 = .ok (.aload_n 0, 1) := by decide +kernel
theorem dX9_fogged_153 : decode cX9_fogged 153 = .ok (.getfield 7, 3) := by decide +kernel
theorem dX9_fogged_156 : decode cX9_fogged 156 = .ok (.iload 7, 2) := by decide +kernel
theorem dX9_fogged_158 : decode cX9_fogged 158 = .ok (.invokevirtual 251, 3) := by decide +kernel
theorem dX9_fogged_161 : decode cX9_fogged 161 = .ok (.ifCond .eq 8, 3) := by decide +kernel
theorem dX9_fogged_164 : decode cX9_fogged 164 = .ok (.lload 8, 2) := by decide +kernel
theorem dX9_fogged_166 : decode cX9_fogged 166 = .ok (.goto 4, 3) := by decide +kernel
theorem dX9_fogged_169 : decode cX9_fogged 169 = .ok (.lconst 0, 1) := by decide +kernel
theorem dX9_fogged_170 : decode cX9_fogged 170 = .ok (.ladd, 1) := by decide +kernel
theorem dX9_fogged_171 : decode cX9_fogged 171 = .ok (.lstore_n 3, 1) := by decide +kernel
theorem dX9_fogged_172 : decode cX9_fogged 172 = .ok (.iinc 7 1, 3) := by decide +kernel
theorem dX9_fogged_175 : decode cX9_fogged 175 = .ok (.goto (-130), 3) := by decide +kernel
theorem dX9_fogged_178 : decode cX9_fogged 178 = .ok (.iload_n 2, 1) := by decide +kernel
theorem dX9_fogged_179 : decode cX9_fogged 179 = .ok (.ifCond .ne 7, 3) := by decide +kernel
theorem dX9_fogged_182 : decode cX9_fogged 182 = .ok (.lload_n 3, 1) := by decide +kernel
theorem dX9_fogged_183 : decode cX9_fogged 183 = .ok (.goto 5, 3) := by decide +kernel
theorem dX9_fogged_186 : decode cX9_fogged 186 = .ok (.lload 5, 2) := by decide +kernel
theorem dX9_fogged_188 : decode cX9_fogged 188 = .ok (.lload_n 3, 1) := by decide +kernel
theorem dX9_fogged_189 : decode cX9_fogged 189 = .ok (.lload 5, 2) := by decide +kernel
theorem dX9_fogged_191 : decode cX9_fogged 191 = .ok (.invokestatic 277, 3) := by decide +kernel
theorem dX9_fogged_194 : decode cX9_fogged 194 = .ok (.ldiv, 1) := by decide +kernel
theorem dX9_fogged_195 : decode cX9_fogged 195 = .ok (.lreturn, 1) := by decide +kernel
theorem dX9_nth_0 : decode cX9_nth 0 = .ok (.lload_n 1, 1) := by decide +kernel
theorem dX9_nth_1 : decode cX9_nth 1 = .ok (.lstore_n 3, 1) := by decide +kernel
theorem dX9_nth_2 : decode cX9_nth 2 = .ok (.iconst 0, 1) := by decide +kernel
theorem dX9_nth_3 : decode cX9_nth 3 = .ok (.istore 5, 2) := by decide +kernel
theorem dX9_nth_5 : decode cX9_nth 5 = .ok (.iload 5, 2) := by decide +kernel
theorem dX9_nth_7 : decode cX9_nth 7 = .ok (.bipush 8, 2) := by decide +kernel
theorem dX9_nth_9 : decode cX9_nth 9 = .ok (.if_icmp .ge 41, 3) := by decide +kernel
theorem dX9_nth_12 : decode cX9_nth 12 = .ok (.iload_n 0, 1) := by decide +kernel
theorem dX9_nth_13 : decode cX9_nth 13 = .ok (.iload 5, 2) := by decide +kernel
theorem dX9_nth_15 : decode cX9_nth 15 = .ok (.invokestatic 76, 3) := by decide +kernel
theorem dX9_nth_18 : decode cX9_nth 18 = .ok (.ifCond .eq 9, 3) := by decide +kernel
theorem dX9_nth_21 : decode cX9_nth 21 = .ok (.lload_n 3, 1) := by decide +kernel
theorem dX9_nth_22 : decode cX9_nth 22 = .ok (.lconst 0, 1) := by decide +kernel
theorem dX9_nth_23 : decode cX9_nth 23 = .ok (.lcmp, 1) := by decide +kernel
theorem dX9_nth_24 : decode cX9_nth 24 = .ok (.ifCond .le 26, 3) := by decide +kernel
theorem dX9_nth_27 : decode cX9_nth 27 = .ok (.lload_n 3, 1) := by decide +kernel
theorem dX9_nth_28 : decode cX9_nth 28 = .ok (.iload_n 0, 1) := by decide +kernel
theorem dX9_nth_29 : decode cX9_nth 29 = .ok (.iload 5, 2) := by decide +kernel
theorem dX9_nth_31 : decode cX9_nth 31 = .ok (.invokestatic 76, 3) := by decide +kernel
theorem dX9_nth_34 : decode cX9_nth 34 = .ok (.ifCond .eq 7, 3) := by decide +kernel
theorem dX9_nth_37 : decode cX9_nth 37 = .ok (.lconst 1, 1) := by decide +kernel
theorem dX9_nth_38 : decode cX9_nth 38 = .ok (.goto 4, 3) := by decide +kernel
theorem dX9_nth_41 : decode cX9_nth 41 = .ok (.lconst 0, 1) := by decide +kernel
theorem dX9_nth_42 : decode cX9_nth 42 = .ok (.lsub, 1) := by decide +kernel
theorem dX9_nth_43 : decode cX9_nth 43 = .ok (.lstore_n 3, 1) := by decide +kernel
theorem dX9_nth_44 : decode cX9_nth 44 = .ok (.iinc 5 1, 3) := by decide +kernel
theorem dX9_nth_47 : decode cX9_nth 47 = .ok (.goto (-42), 3) := by decide +kernel
theorem dX9_nth_50 : decode cX9_nth 50 = .ok (.iload 5, 2) := by decide +kernel
theorem dX9_nth_52 : decode cX9_nth 52 = .ok (.ireturn, 1) := by decide +kernel
theorem dX9_drawn_0 : decode cX9_drawn 0 = .ok (.aload_n 0, 1) := by decide +kernel
theorem dX9_drawn_1 : decode cX9_drawn 1 = .ok (.invokevirtual 200, 3) := by decide +kernel
theorem dX9_drawn_4 : decode cX9_drawn 4 = .ok (.ifCond .ne 6, 3) := by decide +kernel
theorem dX9_drawn_7 : decode cX9_drawn 7 = .ok (.ldc 182, 2) := by decide +kernel
theorem dX9_drawn_9 : decode cX9_drawn 9 = .ok (.ireturn, 1) := by decide +kernel
theorem dX9_drawn_10 : decode cX9_drawn 10 = .ok (.iload_n 1, 1) := by decide +kernel
theorem dX9_drawn_11 : decode cX9_drawn 11 = .ok (.i2l, 1) := by decide +kernel
theorem dX9_drawn_12 : decode cX9_drawn 12 = .ok (.lconst 0, 1) := by decide +kernel
theorem dX9_drawn_13 : decode cX9_drawn 13 = .ok (.ldc2_w 215, 3) := by decide +kernel
theorem dX9_drawn_16 : decode cX9_drawn 16 = .ok (.invokestatic 47, 3) := by decide +kernel
theorem dX9_drawn_19 : decode cX9_drawn 19 = .ok (.ifCond .eq 25, 3) := by decide +kernel
theorem dX9_drawn_22 : decode cX9_drawn 22 = .ok (.iload_n 2, 1) := by decide +kernel
theorem dX9_drawn_23 : decode cX9_drawn 23 = .ok (.i2l, 1) := by decide +kernel
theorem dX9_drawn_24 : decode cX9_drawn 24 = .ok (.lconst 1, 1) := by decide +kernel
theorem dX9_drawn_25 : decode cX9_drawn 25 = .ok (.ldc2_w 281, 3) := by decide +kernel
theorem dX9_drawn_28 : decode cX9_drawn 28 = .ok (.invokestatic 47, 3) := by decide +kernel
theorem dX9_drawn_31 : decode cX9_drawn 31 = .ok (.ifCond .eq 13, 3) := by decide +kernel
theorem dX9_drawn_34 : decode cX9_drawn 34 = .ok (.iload_n 3, 1) := by decide +kernel
theorem dX9_drawn_35 : decode cX9_drawn 35 = .ok (.i2l, 1) := by decide +kernel
theorem dX9_drawn_36 : decode cX9_drawn 36 = .ok (.lconst 0, 1) := by decide +kernel
theorem dX9_drawn_37 : decode cX9_drawn 37 = .ok (.lconst 1, 1) := by decide +kernel
theorem dX9_drawn_38 : decode cX9_drawn 38 = .ok (.invokestatic 47, 3) := by decide +kernel
theorem dX9_drawn_41 : decode cX9_drawn 41 = .ok (.ifCond .ne 6, 3) := by decide +kernel
theorem dX9_drawn_44 : decode cX9_drawn 44 = .ok (.ldc 156, 2) := by decide +kernel
theorem dX9_drawn_46 : decode cX9_drawn 46 = .ok (.ireturn, 1) := by decide +kernel
theorem dX9_drawn_47 : decode cX9_drawn 47 = .ok (.aload_n 0, 1) := by decide +kernel
theorem dX9_drawn_48 : decode cX9_drawn 48 = .ok (.getfield 7, 3) := by decide +kernel
theorem dX9_drawn_51 : decode cX9_drawn 51 = .ok (.iconst 0, 1) := by decide +kernel
theorem dX9_drawn_52 : decode cX9_drawn 52 = .ok (.aload_n 0, 1) := by decide +kernel
theorem dX9_drawn_53 : decode cX9_drawn 53 = .ok (.getfield 13, 3) := by decide +kernel
theorem dX9_drawn_56 : decode cX9_drawn 56 = .ok (.iconst 0, 1) := by decide +kernel
theorem dX9_drawn_57 : decode cX9_drawn 57 = .ok (.invokestatic 175, 3) := by decide +kernel
theorem dX9_drawn_60 : decode cX9_drawn 60 = .ok (.aload_n 0, 1) := by decide +kernel
theorem dX9_drawn_61 : decode cX9_drawn 61 = .ok (.getfield 7, 3) := by decide +kernel
theorem dX9_drawn_64 : decode cX9_drawn 64 = .ok (.invokestatic 234, 3) := by decide +kernel
theorem dX9_drawn_67 : decode cX9_drawn 67 = .ok (.istore 4, 2) := by decide +kernel
theorem dX9_drawn_69 : decode cX9_drawn 69 = .ok (.iconst 0, 1) := by decide +kernel
theorem dX9_drawn_70 : decode cX9_drawn 70 = .ok (.istore 5, 2) := by decide +kernel
theorem dX9_drawn_72 : decode cX9_drawn 72 = .ok (.iconst 0, 1) := by decide +kernel
theorem dX9_drawn_73 : decode cX9_drawn 73 = .ok (.istore 6, 2) := by decide +kernel
theorem dX9_drawn_75 : decode cX9_drawn 75 = .ok (.iload_n 2, 1) := by decide +kernel
theorem dX9_drawn_76 : decode cX9_drawn 76 = .ok (.i2l, 1) := by decide +kernel
theorem dX9_drawn_77 : decode cX9_drawn 77 = .ok (.lstore 7, 2) := by decide +kernel
theorem dX9_drawn_79 : decode cX9_drawn 79 = .ok (.iconst 0, 1) := by decide +kernel
theorem dX9_drawn_80 : decode cX9_drawn 80 = .ok (.istore 9, 2) := by decide +kernel
theorem dX9_drawn_82 : decode cX9_drawn 82 = .ok (.iload 9, 2) := by decide +kernel
theorem dX9_drawn_84 : decode cX9_drawn 84 = .ok (.iload_n 1, 1) := by decide +kernel
theorem dX9_drawn_85 : decode cX9_drawn 85 = .ok (.if_icmp .ge 112, 3) := by decide +kernel
theorem dX9_drawn_88 : decode cX9_drawn 88 = .ok (.lload 7, 2) := by decide +kernel
theorem dX9_drawn_90 : decode cX9_drawn 90 = .ok (.ldc2_w 283, 3) := by decide +kernel
theorem dX9_drawn_93 : decode cX9_drawn 93 = .ok (.lmul, 1) := by decide +kernel
theorem dX9_drawn_94 : decode cX9_drawn 94 = .ok (.ldc2_w 285, 3) := by decide +kernel
theorem dX9_drawn_97 : decode cX9_drawn 97 = .ok (.lrem, 1) := by decide +kernel
theorem dX9_drawn_98 : decode cX9_drawn 98 = .ok (.lstore 7, 2) := by decide +kernel
theorem dX9_drawn_100 : decode cX9_drawn 100 = .ok (.iload 4, 2) := by decide +kernel
theorem dX9_drawn_102 : decode cX9_drawn 102 = .ok (.ifCond .eq 42, 3) := by decide +kernel
theorem dX9_drawn_105 : decode cX9_drawn 105 = .ok (.aload_n 0, 1) := by decide +kernel
theorem dX9_drawn_106 : decode cX9_drawn 106 = .ok (.getfield 13, 3) := by decide +kernel
theorem dX9_drawn_109 : decode cX9_drawn 109 = .ok (.bipush 41, 2) := by decide +kernel
theorem dX9_drawn_111 : decode cX9_drawn 111 = .ok (.iconst 3, 1) := by decide +kernel
theorem dX9_drawn_112 : decode cX9_drawn 112 = .ok (.iload 4, 2) := by decide +kernel
theorem dX9_drawn_114 : decode cX9_drawn 114 = .ok (.lload 7, 2) := by decide +kernel
theorem dX9_drawn_116 : decode cX9_drawn 116 = .ok (.iload 4, 2) := by decide +kernel
theorem dX9_drawn_118 : decode cX9_drawn 118 = .ok (.invokestatic 90, 3) := by decide +kernel
theorem dX9_drawn_121 : decode cX9_drawn 121 = .ok (.i2l, 1) := by decide +kernel
theorem dX9_drawn_122 : decode cX9_drawn 122 = .ok (.lrem, 1) := by decide +kernel
theorem dX9_drawn_123 : decode cX9_drawn 123 = .ok (.invokestatic 287, 3) := by decide +kernel
theorem dX9_drawn_126 : decode cX9_drawn 126 = .ok (.imul, 1) := by decide +kernel
theorem dX9_drawn_127 : decode cX9_drawn 127 = .ok (.iadd, 1) := by decide +kernel
theorem dX9_drawn_128 : decode cX9_drawn 128 = .ok (.iconst 1, 1) := by decide +kernel
theorem dX9_drawn_129 : decode cX9_drawn 129 = .ok (.iadd, 1) := by decide +kernel
theorem dX9_drawn_130 : decode cX9_drawn 130 = .ok (.iconst 1, 1) := by decide +kernel
theorem dX9_drawn_131 : decode cX9_drawn 131 = .ok (.lload 7, 2) := by decide +kernel
theorem dX9_drawn_133 : decode cX9_drawn 133 = .ok (.ldc2_w 291, 3) := by decide +kernel
theorem dX9_drawn_136 : decode cX9_drawn 136 = .ok (.ldiv, 1) := by decide +kernel
theorem dX9_drawn_137 : decode cX9_drawn 137 = .ok (.ldc2_w 207, 3) := by decide +kernel
theorem dX9_drawn_140 : decode cX9_drawn 140 = .ok (.lrem, 1) := by decide +kernel
theorem dX9_drawn_141 : decode cX9_drawn 141 = .ok (.l2i, 1) := by decide +kernel
theorem dX9_drawn_142 : decode cX9_drawn 142 = .ok (.iadd, 1) := by decide +kernel
theorem dX9_drawn_143 : decode cX9_drawn 143 = .ok (.iastore, 1) := by decide +kernel
theorem dX9_drawn_144 : decode cX9_drawn 144 = .ok (.aload_n 0, 1) := by decide +kernel
theorem dX9_drawn_145 : decode cX9_drawn 145 = .ok (.aload_n 0, 1) := by decide +kernel
theorem dX9_drawn_146 : decode cX9_drawn 146 = .ok (.getfield 13, 3) := by decide +kernel
theorem dX9_drawn_149 : decode cX9_drawn 149 = .ok (.iconst 0, 1) := by decide +kernel
theorem dX9_drawn_150 : decode cX9_drawn 150 = .ok (.invokevirtual 251, 3) := by decide +kernel
theorem dX9_drawn_153 : decode cX9_drawn 153 = .ok (.istore 10, 2) := by decide +kernel
theorem dX9_drawn_155 : decode cX9_drawn 155 = .ok (.iload 5, 2) := by decide +kernel
theorem dX9_drawn_157 : decode cX9_drawn 157 = .ok (.iload 10, 2) := by decide +kernel
theorem dX9_drawn_159 : decode cX9_drawn 159 = .ok (.ifCond .eq 13, 3) := by decide +kernel
theorem dX9_drawn_162 : decode cX9_drawn 162 = .ok (.aload_n 0, 1) := by decide +kernel
theorem dX9_drawn_163 : decode cX9_drawn 163 = .ok (.getfield 29, 3) := by decide +kernel
theorem dX9_drawn_166 : decode cX9_drawn 166 = .ok (.iload 4, 2) := by decide +kernel
theorem dX9_drawn_168 : decode cX9_drawn 168 = .ok (.iaload, 1) := by decide +kernel
theorem dX9_drawn_169 : decode cX9_drawn 169 = .ok (.goto 4, 3) := by decide +kernel
theorem dX9_drawn_172 : decode cX9_drawn 172 = .ok (.iconst 0, 1) := by decide +kernel
theorem dX9_drawn_173 : decode cX9_drawn 173 = .ok (.iadd, 1) := by decide +kernel
theorem dX9_drawn_174 : decode cX9_drawn 174 = .ok (.istore 5, 2) := by decide +kernel
theorem dX9_drawn_176 : decode cX9_drawn 176 = .ok (.iload 6, 2) := by decide +kernel
theorem dX9_drawn_178 : decode cX9_drawn 178 = .ok (.iload 10, 2) := by decide +kernel
theorem dX9_drawn_180 : decode cX9_drawn 180 = .ok (.ifCond .eq 7, 3) := by decide +kernel
theorem dX9_drawn_183 : decode cX9_drawn 183 = .ok (.iconst 0, 1) := by decide +kernel
theorem dX9_drawn_184 : decode cX9_drawn 184 = .ok (.goto 4, 3) := by decide +kernel
theorem dX9_drawn_187 : decode cX9_drawn 187 = .ok (.iconst 1, 1) := by decide +kernel
theorem dX9_drawn_188 : decode cX9_drawn 188 = .ok (.iadd, 1) := by decide +kernel
theorem dX9_drawn_189 : decode cX9_drawn 189 = .ok (.istore 6, 2) := by decide +kernel
theorem dX9_drawn_191 : decode cX9_drawn 191 = .ok (.iinc 9 1, 3) := by decide +kernel
theorem dX9_drawn_194 : decode cX9_drawn 194 = .ok (.goto (-112), 3) := by decide +kernel
theorem dX9_drawn_197 : decode cX9_drawn 197 = .ok (.iload_n 3, 1) := by decide +kernel
theorem dX9_drawn_198 : decode cX9_drawn 198 = .ok (.ifCond .ne 8, 3) := by decide +kernel
theorem dX9_drawn_201 : decode cX9_drawn 201 = .ok (.iload 5, 2) := by decide +kernel
theorem dX9_drawn_203 : decode cX9_drawn 203 = .ok (.goto 5, 3) := by decide +kernel
theorem dX9_drawn_206 : decode cX9_drawn 206 = .ok (.iload 6, 2) := by decide +kernel
theorem dX9_drawn_208 : decode cX9_drawn 208 = .ok (.ireturn, 1) := by decide +kernel
theorem dX9_image_0 : decode cX9_image 0 = .ok (.iload_n 1, 1) := by decide +kernel
theorem dX9_image_1 : decode cX9_image 1 = .ok (.i2l, 1) := by decide +kernel
theorem dX9_image_2 : decode cX9_image 2 = .ok (.lconst 0, 1) := by decide +kernel
theorem dX9_image_3 : decode cX9_image 3 = .ok (.lconst 1, 1) := by decide +kernel
theorem dX9_image_4 : decode cX9_image 4 = .ok (.invokestatic 47, 3) := by decide +kernel
theorem dX9_image_7 : decode cX9_image 7 = .ok (.ifCond .ne 6, 3) := by decide +kernel
theorem dX9_image_10 : decode cX9_image 10 = .ok (.ldc 156, 2) := by decide +kernel
theorem dX9_image_12 : decode cX9_image 12 = .ok (.ireturn, 1) := by decide +kernel
theorem dX9_image_13 : decode cX9_image 13 = .ok (.aload_n 0, 1) := by decide +kernel
theorem dX9_image_14 : decode cX9_image 14 = .ok (.invokevirtual 200, 3) := by decide +kernel
theorem dX9_image_17 : decode cX9_image 17 = .ok (.ifCond .ne 6, 3) := by decide +kernel
theorem dX9_image_20 : decode cX9_image 20 = .ok (.ldc 182, 2) := by decide +kernel
theorem dX9_image_22 : decode cX9_image 22 = .ok (.ireturn, 1) := by decide +kernel
theorem dX9_image_23 : decode cX9_image 23 = .ok (.aload_n 0, 1) := by decide +kernel
theorem dX9_image_24 : decode cX9_image 24 = .ok (.getfield 7, 3) := by decide +kernel
theorem dX9_image_27 : decode cX9_image 27 = .ok (.iconst 0, 1) := by decide +kernel
theorem dX9_image_28 : decode cX9_image 28 = .ok (.aload_n 0, 1) := by decide +kernel
theorem dX9_image_29 : decode cX9_image 29 = .ok (.getfield 19, 3) := by decide +kernel
theorem dX9_image_32 : decode cX9_image 32 = .ok (.bipush 89, 2) := by decide +kernel
theorem dX9_image_34 : decode cX9_image 34 = .ok (.iload_n 1, 1) := by decide +kernel
theorem dX9_image_35 : decode cX9_image 35 = .ok (.imul, 1) := by decide +kernel
theorem dX9_image_36 : decode cX9_image 36 = .ok (.invokestatic 175, 3) := by decide +kernel
theorem dX9_image_39 : decode cX9_image 39 = .ok (.aload_n 0, 1) := by decide +kernel
theorem dX9_image_40 : decode cX9_image 40 = .ok (.getfield 22, 3) := by decide +kernel
theorem dX9_image_43 : decode cX9_image 43 = .ok (.iload_n 1, 1) := by decide +kernel
theorem dX9_image_44 : decode cX9_image 44 = .ok (.iconst 1, 1) := by decide +kernel
theorem dX9_image_45 : decode cX9_image 45 = .ok (.bastore, 1) := by decide +kernel
theorem dX9_image_46 : decode cX9_image 46 = .ok (.iconst 1, 1) := by decide +kernel
theorem dX9_image_47 : decode cX9_image 47 = .ok (.ireturn, 1) := by decide +kernel
theorem dX9_restore_0 : decode cX9_restore 0 = .ok (.iload_n 1, 1) := by decide +kernel
theorem dX9_restore_1 : decode cX9_restore 1 = .ok (.i2l, 1) := by decide +kernel
theorem dX9_restore_2 : decode cX9_restore 2 = .ok (.lconst 0, 1) := by decide +kernel
theorem dX9_restore_3 : decode cX9_restore 3 = .ok (.lconst 1, 1) := by decide +kernel
theorem dX9_restore_4 : decode cX9_restore 4 = .ok (.invokestatic 47, 3) := by decide +kernel
theorem dX9_restore_7 : decode cX9_restore 7 = .ok (.ifCond .ne 6, 3) := by decide +kernel
theorem dX9_restore_10 : decode cX9_restore 10 = .ok (.ldc 156, 2) := by decide +kernel
theorem dX9_restore_12 : decode cX9_restore 12 = .ok (.ireturn, 1) := by decide +kernel
theorem dX9_restore_13 : decode cX9_restore 13 = .ok (.aload_n 0, 1) := by decide +kernel
theorem dX9_restore_14 : decode cX9_restore 14 = .ok (.getfield 22, 3) := by decide +kernel
theorem dX9_restore_17 : decode cX9_restore 17 = .ok (.iload_n 1, 1) := by decide +kernel
theorem dX9_restore_18 : decode cX9_restore 18 = .ok (.baload, 1) := by decide +kernel
theorem dX9_restore_19 : decode cX9_restore 19 = .ok (.ifCond .ne 6, 3) := by decide +kernel
theorem dX9_restore_22 : decode cX9_restore 22 = .ok (.ldc 182, 2) := by decide +kernel
theorem dX9_restore_24 : decode cX9_restore 24 = .ok (.ireturn, 1) := by decide +kernel
theorem dX9_restore_25 : decode cX9_restore 25 = .ok (.aload_n 0, 1) := by decide +kernel
theorem dX9_restore_26 : decode cX9_restore 26 = .ok (.getfield 19, 3) := by decide +kernel
theorem dX9_restore_29 : decode cX9_restore 29 = .ok (.bipush 89, 2) := by decide +kernel
theorem dX9_restore_31 : decode cX9_restore 31 = .ok (.iload_n 1, 1) := by decide +kernel
theorem dX9_restore_32 : decode cX9_restore 32 = .ok (.imul, 1) := by decide +kernel
theorem dX9_restore_33 : decode cX9_restore 33 = .ok (.aload_n 0, 1) := by decide +kernel
theorem dX9_restore_34 : decode cX9_restore 34 = .ok (.getfield 7, 3) := by decide +kernel
theorem dX9_restore_37 : decode cX9_restore 37 = .ok (.iconst 0, 1) := by decide +kernel
theorem dX9_restore_38 : decode cX9_restore 38 = .ok (.invokestatic 175, 3) := by decide +kernel
theorem dX9_restore_41 : decode cX9_restore 41 = .ok (.aload_n 0, 1) := by decide +kernel
theorem dX9_restore_42 : decode cX9_restore 42 = .ok (.iconst 0, 1) := by decide +kernel
theorem dX9_restore_43 : decode cX9_restore 43 = .ok (.putfield 179, 3) := by decide +kernel
theorem dX9_restore_46 : decode cX9_restore 46 = .ok (.iconst 1, 1) := by decide +kernel
theorem dX9_restore_47 : decode cX9_restore 47 = .ok (.ireturn, 1) := by decide +kernel
theorem dX9_count_0 : decode cX9_count 0 = .ok (.iconst 0, 1) := by decide +kernel
theorem dX9_count_1 : decode cX9_count 1 = .ok (.istore_n 2, 1) := by decide +kernel
theorem dX9_count_2 : decode cX9_count 2 = .ok (.iconst 0, 1) := by decide +kernel
theorem dX9_count_3 : decode cX9_count 3 = .ok (.istore_n 3, 1) := by decide +kernel
theorem dX9_count_4 : decode cX9_count 4 = .ok (.iload_n 3, 1) := by decide +kernel
theorem dX9_count_5 : decode cX9_count 5 = .ok (.aload_n 0, 1) := by decide +kernel
theorem dX9_count_6 : decode cX9_count 6 = .ok (.getfield 7, 3) := by decide +kernel
theorem dX9_count_9 : decode cX9_count 9 = .ok (.iconst 4, 1) := by decide +kernel
theorem dX9_count_10 : decode cX9_count 10 = .ok (.iaload, 1) := by decide +kernel
theorem dX9_count_11 : decode cX9_count 11 = .ok (.if_icmp .ge 28, 3) := by decide +kernel
theorem dX9_count_14 : decode cX9_count 14 = .ok (.iload_n 2, 1) := by decide +kernel
theorem dX9_count_15 : decode cX9_count 15 = .ok (.aload_n 0, 1) := by decide +kernel
theorem dX9_count_16 : decode cX9_count 16 = .ok (.getfield 7, 3) := by decide +kernel
theorem dX9_count_19 : decode cX9_count 19 = .ok (.iload_n 3, 1) := by decide +kernel
theorem dX9_count_20 : decode cX9_count 20 = .ok (.invokestatic 238, 3) := by decide +kernel
theorem dX9_count_23 : decode cX9_count 23 = .ok (.ifCond .eq 7, 3) := by decide +kernel
theorem dX9_count_26 : decode cX9_count 26 = .ok (.iconst 1, 1) := by decide +kernel
theorem dX9_count_27 : decode cX9_count 27 = .ok (.goto 4, 3) := by decide +kernel
theorem dX9_count_30 : decode cX9_count 30 = .ok (.iconst 0, 1) := by decide +kernel
theorem dX9_count_31 : decode cX9_count 31 = .ok (.iadd, 1) := by decide +kernel
theorem dX9_count_32 : decode cX9_count 32 = .ok (.istore_n 2, 1) := by decide +kernel
theorem dX9_count_33 : decode cX9_count 33 = .ok (.iinc 3 1, 3) := by decide +kernel
theorem dX9_count_36 : decode cX9_count 36 = .ok (.goto (-32), 3) := by decide +kernel
theorem dX9_count_39 : decode cX9_count 39 = .ok (.iload_n 1, 1) := by decide +kernel
theorem dX9_count_40 : decode cX9_count 40 = .ok (.tableswitch 89 0 6 #[44, 51, 58, 69, 71, 79, 84], 44) := by decide +kernel
theorem dX9_count_84 : decode cX9_count 84 = .ok (.aload_n 0, 1) := by decide +kernel
theorem dX9_count_85 : decode cX9_count 85 = .ok (.getfield 7, 3) := by decide +kernel
theorem dX9_count_88 : decode cX9_count 88 = .ok (.iconst 4, 1) := by decide +kernel
theorem dX9_count_89 : decode cX9_count 89 = .ok (.iaload, 1) := by decide +kernel
theorem dX9_count_90 : decode cX9_count 90 = .ok (.ireturn, 1) := by decide +kernel
theorem dX9_count_91 : decode cX9_count 91 = .ok (.aload_n 0, 1) := by decide +kernel
theorem dX9_count_92 : decode cX9_count 92 = .ok (.getfield 7, 3) := by decide +kernel
theorem dX9_count_95 : decode cX9_count 95 = .ok (.iconst 5, 1) := by decide +kernel
theorem dX9_count_96 : decode cX9_count 96 = .ok (.iaload, 1) := by decide +kernel
theorem dX9_count_97 : decode cX9_count 97 = .ok (.ireturn, 1) := by decide +kernel
theorem dX9_count_98 : decode cX9_count 98 = .ok (.aload_n 0, 1) := by decide +kernel
theorem dX9_count_99 : decode cX9_count 99 = .ok (.getfield 7, 3) := by decide +kernel
theorem dX9_count_102 : decode cX9_count 102 = .ok (.invokestatic 234, 3) := by decide +kernel
theorem dX9_count_105 : decode cX9_count 105 = .ok (.invokestatic 90, 3) := by decide +kernel
theorem dX9_count_108 : decode cX9_count 108 = .ok (.ireturn, 1) := by decide +kernel
theorem dX9_count_109 : decode cX9_count 109 = .ok (.iload_n 2, 1) := by decide +kernel
theorem dX9_count_110 : decode cX9_count 110 = .ok (.ireturn, 1) := by decide +kernel
theorem dX9_count_111 : decode cX9_count 111 = .ok (.aload_n 0, 1) := by decide +kernel
theorem dX9_count_112 : decode cX9_count 112 = .ok (.getfield 7, 3) := by decide +kernel
theorem dX9_count_115 : decode cX9_count 115 = .ok (.bipush 6, 2) := by decide +kernel
theorem dX9_count_117 : decode cX9_count 117 = .ok (.iaload, 1) := by decide +kernel
theorem dX9_count_118 : decode cX9_count 118 = .ok (.ireturn, 1) := by decide +kernel
theorem dX9_count_119 : decode cX9_count 119 = .ok (.aload_n 0, 1) := by decide +kernel
theorem dX9_count_120 : decode cX9_count 120 = .ok (.getfield 179, 3) := by decide +kernel
theorem dX9_count_123 : decode cX9_count 123 = .ok (.ireturn, 1) := by decide +kernel
theorem dX9_count_124 : decode cX9_count 124 = .ok (.aload_n 0, 1) := by decide +kernel
theorem dX9_count_125 : decode cX9_count 125 = .ok (.getfield 97, 3) := by decide +kernel
theorem dX9_count_128 : decode cX9_count 128 = .ok (.ireturn, 1) := by decide +kernel
theorem dX9_count_129 : decode cX9_count 129 = .ok (.ldc 156, 2) := by decide +kernel
theorem dX9_count_131 : decode cX9_count 131 = .ok (.ireturn, 1) := by decide +kernel
theorem dJ6_bitCount_0f7a4_0 : decode cJ6_bitCount_0f7a4 0 = .ok (.iload_n 0, 1) := by decide +kernel
theorem dJ6_bitCount_0f7a4_1 : decode cJ6_bitCount_0f7a4 1 = .ok (.iload_n 0, 1) := by decide +kernel
theorem dJ6_bitCount_0f7a4_2 : decode cJ6_bitCount_0f7a4 2 = .ok (.iconst 1, 1) := by decide +kernel
theorem dJ6_bitCount_0f7a4_3 : decode cJ6_bitCount_0f7a4 3 = .ok (.iushr, 1) := by decide +kernel
theorem dJ6_bitCount_0f7a4_4 : decode cJ6_bitCount_0f7a4 4 = .ok (.ldc_w 265, 3) := by decide +kernel
theorem dJ6_bitCount_0f7a4_7 : decode cJ6_bitCount_0f7a4 7 = .ok (.iand, 1) := by decide +kernel
theorem dJ6_bitCount_0f7a4_8 : decode cJ6_bitCount_0f7a4 8 = .ok (.isub, 1) := by decide +kernel
theorem dJ6_bitCount_0f7a4_9 : decode cJ6_bitCount_0f7a4 9 = .ok (.istore_n 0, 1) := by decide +kernel
theorem dJ6_bitCount_0f7a4_10 : decode cJ6_bitCount_0f7a4 10 = .ok (.iload_n 0, 1) := by decide +kernel
theorem dJ6_bitCount_0f7a4_11 : decode cJ6_bitCount_0f7a4 11 = .ok (.ldc_w 266, 3) := by decide +kernel
theorem dJ6_bitCount_0f7a4_14 : decode cJ6_bitCount_0f7a4 14 = .ok (.iand, 1) := by decide +kernel
theorem dJ6_bitCount_0f7a4_15 : decode cJ6_bitCount_0f7a4 15 = .ok (.iload_n 0, 1) := by decide +kernel
theorem dJ6_bitCount_0f7a4_16 : decode cJ6_bitCount_0f7a4 16 = .ok (.iconst 2, 1) := by decide +kernel
theorem dJ6_bitCount_0f7a4_17 : decode cJ6_bitCount_0f7a4 17 = .ok (.iushr, 1) := by decide +kernel
theorem dJ6_bitCount_0f7a4_18 : decode cJ6_bitCount_0f7a4 18 = .ok (.ldc_w 266, 3) := by decide +kernel
theorem dJ6_bitCount_0f7a4_21 : decode cJ6_bitCount_0f7a4 21 = .ok (.iand, 1) := by decide +kernel
theorem dJ6_bitCount_0f7a4_22 : decode cJ6_bitCount_0f7a4 22 = .ok (.iadd, 1) := by decide +kernel
theorem dJ6_bitCount_0f7a4_23 : decode cJ6_bitCount_0f7a4 23 = .ok (.istore_n 0, 1) := by decide +kernel
theorem dJ6_bitCount_0f7a4_24 : decode cJ6_bitCount_0f7a4 24 = .ok (.iload_n 0, 1) := by decide +kernel
theorem dJ6_bitCount_0f7a4_25 : decode cJ6_bitCount_0f7a4 25 = .ok (.iload_n 0, 1) := by decide +kernel
theorem dJ6_bitCount_0f7a4_26 : decode cJ6_bitCount_0f7a4 26 = .ok (.iconst 4, 1) := by decide +kernel
theorem dJ6_bitCount_0f7a4_27 : decode cJ6_bitCount_0f7a4 27 = .ok (.iushr, 1) := by decide +kernel
theorem dJ6_bitCount_0f7a4_28 : decode cJ6_bitCount_0f7a4 28 = .ok (.iadd, 1) := by decide +kernel
theorem dJ6_bitCount_0f7a4_29 : decode cJ6_bitCount_0f7a4 29 = .ok (.ldc_w 267, 3) := by decide +kernel
theorem dJ6_bitCount_0f7a4_32 : decode cJ6_bitCount_0f7a4 32 = .ok (.iand, 1) := by decide +kernel
theorem dJ6_bitCount_0f7a4_33 : decode cJ6_bitCount_0f7a4 33 = .ok (.istore_n 0, 1) := by decide +kernel
theorem dJ6_bitCount_0f7a4_34 : decode cJ6_bitCount_0f7a4 34 = .ok (.iload_n 0, 1) := by decide +kernel
theorem dJ6_bitCount_0f7a4_35 : decode cJ6_bitCount_0f7a4 35 = .ok (.iload_n 0, 1) := by decide +kernel
theorem dJ6_bitCount_0f7a4_36 : decode cJ6_bitCount_0f7a4 36 = .ok (.bipush 8, 2) := by decide +kernel
theorem dJ6_bitCount_0f7a4_38 : decode cJ6_bitCount_0f7a4 38 = .ok (.iushr, 1) := by decide +kernel
theorem dJ6_bitCount_0f7a4_39 : decode cJ6_bitCount_0f7a4 39 = .ok (.iadd, 1) := by decide +kernel
theorem dJ6_bitCount_0f7a4_40 : decode cJ6_bitCount_0f7a4 40 = .ok (.istore_n 0, 1) := by decide +kernel
theorem dJ6_bitCount_0f7a4_41 : decode cJ6_bitCount_0f7a4 41 = .ok (.iload_n 0, 1) := by decide +kernel
theorem dJ6_bitCount_0f7a4_42 : decode cJ6_bitCount_0f7a4 42 = .ok (.iload_n 0, 1) := by decide +kernel
theorem dJ6_bitCount_0f7a4_43 : decode cJ6_bitCount_0f7a4 43 = .ok (.bipush 16, 2) := by decide +kernel
theorem dJ6_bitCount_0f7a4_45 : decode cJ6_bitCount_0f7a4 45 = .ok (.iushr, 1) := by decide +kernel
theorem dJ6_bitCount_0f7a4_46 : decode cJ6_bitCount_0f7a4 46 = .ok (.iadd, 1) := by decide +kernel
theorem dJ6_bitCount_0f7a4_47 : decode cJ6_bitCount_0f7a4 47 = .ok (.istore_n 0, 1) := by decide +kernel
theorem dJ6_bitCount_0f7a4_48 : decode cJ6_bitCount_0f7a4 48 = .ok (.iload_n 0, 1) := by decide +kernel
theorem dJ6_bitCount_0f7a4_49 : decode cJ6_bitCount_0f7a4 49 = .ok (.bipush 63, 2) := by decide +kernel
theorem dJ6_bitCount_0f7a4_51 : decode cJ6_bitCount_0f7a4 51 = .ok (.iand, 1) := by decide +kernel
theorem dJ6_bitCount_0f7a4_52 : decode cJ6_bitCount_0f7a4 52 = .ok (.ireturn, 1) := by decide +kernel
theorem dJ9_max_7cf53_0 : decode cJ9_max_7cf53 0 = .ok (.iload_n 0, 1) := by decide +kernel
theorem dJ9_max_7cf53_1 : decode cJ9_max_7cf53 1 = .ok (.iload_n 1, 1) := by decide +kernel
theorem dJ9_max_7cf53_2 : decode cJ9_max_7cf53 2 = .ok (.if_icmp .lt 7, 3) := by decide +kernel
theorem dJ9_max_7cf53_5 : decode cJ9_max_7cf53 5 = .ok (.iload_n 0, 1) := by decide +kernel
theorem dJ9_max_7cf53_6 : decode cJ9_max_7cf53 6 = .ok (.goto 4, 3) := by decide +kernel
theorem dJ9_max_7cf53_9 : decode cJ9_max_7cf53 9 = .ok (.iload_n 1, 1) := by decide +kernel
theorem dJ9_max_7cf53_10 : decode cJ9_max_7cf53 10 = .ok (.ireturn, 1) := by decide +kernel
theorem dJ9_min_7cf53_0 : decode cJ9_min_7cf53 0 = .ok (.iload_n 0, 1) := by decide +kernel
theorem dJ9_min_7cf53_1 : decode cJ9_min_7cf53 1 = .ok (.iload_n 1, 1) := by decide +kernel
theorem dJ9_min_7cf53_2 : decode cJ9_min_7cf53 2 = .ok (.if_icmp .gt 7, 3) := by decide +kernel
theorem dJ9_min_7cf53_5 : decode cJ9_min_7cf53 5 = .ok (.iload_n 0, 1) := by decide +kernel
theorem dJ9_min_7cf53_6 : decode cJ9_min_7cf53 6 = .ok (.goto 4, 3) := by decide +kernel
theorem dJ9_min_7cf53_9 : decode cJ9_min_7cf53 9 = .ok (.iload_n 1, 1) := by decide +kernel
theorem dJ9_min_7cf53_10 : decode cJ9_min_7cf53 10 = .ok (.ireturn, 1) := by decide +kernel
theorem dJ7_fill_53178_0 : decode cJ7_fill_53178 0 = .ok (.iconst 0, 1) := by decide +kernel
theorem dJ7_fill_53178_1 : decode cJ7_fill_53178 1 = .ok (.istore_n 2, 1) := by decide +kernel
theorem dJ7_fill_53178_2 : decode cJ7_fill_53178 2 = .ok (.aload_n 0, 1) := by decide +kernel
theorem dJ7_fill_53178_3 : decode cJ7_fill_53178 3 = .ok (.arraylength, 1) := by decide +kernel
theorem dJ7_fill_53178_4 : decode cJ7_fill_53178 4 = .ok (.istore_n 3, 1) := by decide +kernel
theorem dJ7_fill_53178_5 : decode cJ7_fill_53178 5 = .ok (.iload_n 2, 1) := by decide +kernel
theorem dJ7_fill_53178_6 : decode cJ7_fill_53178 6 = .ok (.iload_n 3, 1) := by decide +kernel
theorem dJ7_fill_53178_7 : decode cJ7_fill_53178 7 = .ok (.if_icmp .ge 13, 3) := by decide +kernel
theorem dJ7_fill_53178_10 : decode cJ7_fill_53178 10 = .ok (.aload_n 0, 1) := by decide +kernel
theorem dJ7_fill_53178_11 : decode cJ7_fill_53178 11 = .ok (.iload_n 2, 1) := by decide +kernel
theorem dJ7_fill_53178_12 : decode cJ7_fill_53178 12 = .ok (.iload_n 1, 1) := by decide +kernel
theorem dJ7_fill_53178_13 : decode cJ7_fill_53178 13 = .ok (.iastore, 1) := by decide +kernel
theorem dJ7_fill_53178_14 : decode cJ7_fill_53178 14 = .ok (.iinc 2 1, 3) := by decide +kernel
theorem dJ7_fill_53178_17 : decode cJ7_fill_53178 17 = .ok (.goto (-12), 3) := by decide +kernel
theorem dJ7_fill_53178_20 : decode cJ7_fill_53178 20 = .ok (.return_, 1) := by decide +kernel
theorem dL_law_0 : decode cL_law 0 = .ok (.new 7, 3) := by decide +kernel
theorem dL_law_3 : decode cL_law 3 = .ok (.dup, 1) := by decide +kernel
theorem dL_law_4 : decode cL_law 4 = .ok (.invokespecial 9, 3) := by decide +kernel
theorem dL_law_7 : decode cL_law 7 = .ok (.astore_n 1, 1) := by decide +kernel
theorem dL_law_8 : decode cL_law 8 = .ok (.new 10, 3) := by decide +kernel
theorem dL_law_11 : decode cL_law 11 = .ok (.dup, 1) := by decide +kernel
theorem dL_law_12 : decode cL_law 12 = .ok (.invokespecial 12, 3) := by decide +kernel
theorem dL_law_15 : decode cL_law 15 = .ok (.astore_n 2, 1) := by decide +kernel
theorem dL_law_16 : decode cL_law 16 = .ok (.iconst 0, 1) := by decide +kernel
theorem dL_law_17 : decode cL_law 17 = .ok (.istore_n 3, 1) := by decide +kernel
theorem dL_law_18 : decode cL_law 18 = .ok (.iload_n 3, 1) := by decide +kernel
theorem dL_law_19 : decode cL_law 19 = .ok (.aload_n 0, 1) := by decide +kernel
theorem dL_law_20 : decode cL_law 20 = .ok (.arraylength, 1) := by decide +kernel
theorem dL_law_21 : decode cL_law 21 = .ok (.iconst 4, 1) := by decide +kernel
theorem dL_law_22 : decode cL_law 22 = .ok (.isub, 1) := by decide +kernel
theorem dL_law_23 : decode cL_law 23 = .ok (.if_icmp .gt 1023, 3) := by decide +kernel
theorem dL_law_26 : decode cL_law 26 = .ok (.aload_n 0, 1) := by decide +kernel
theorem dL_law_27 : decode cL_law 27 = .ok (.iload_n 3, 1) := by decide +kernel
theorem dL_law_28 : decode cL_law 28 = .ok (.iaload, 1) := by decide +kernel
theorem dL_law_29 : decode cL_law 29 = .ok (.bipush 63, 2) := by decide +kernel
theorem dL_law_31 : decode cL_law 31 = .ok (.iand, 1) := by decide +kernel
theorem dL_law_32 : decode cL_law 32 = .ok (.tableswitch 1008 0 32 #[148, 171, 184, 197, 210, 233, 256, 269, 282, 305, 338, 371, 404, 447, 480, 513, 546, 579, 602, 625, 658, 691, 714, 737, 770, 803, 826, 849, 862, 896, 939, 962, 985], 148) := by decide +kernel
theorem dL_law_180 : decode cL_law 180 = .ok (.aload_n 1, 1) := by decide +kernel
theorem dL_law_181 : decode cL_law 181 = .ok (.aload_n 0, 1) := by decide +kernel
theorem dL_law_182 : decode cL_law 182 = .ok (.iload_n 3, 1) := by decide +kernel
theorem dL_law_183 : decode cL_law 183 = .ok (.iconst 1, 1) := by decide +kernel
theorem dL_law_184 : decode cL_law 184 = .ok (.iadd, 1) := by decide +kernel
theorem dL_law_185 : decode cL_law 185 = .ok (.iaload, 1) := by decide +kernel
theorem dL_law_186 : decode cL_law 186 = .ok (.invokevirtual 13, 3) := by decide +kernel
theorem dL_law_189 : decode cL_law 189 = .ok (.aload_n 2, 1) := by decide +kernel
theorem dL_law_190 : decode cL_law 190 = .ok (.aload_n 0, 1) := by decide +kernel
theorem dL_law_191 : decode cL_law 191 = .ok (.iload_n 3, 1) := by decide +kernel
theorem dL_law_192 : decode cL_law 192 = .ok (.iconst 1, 1) := by decide +kernel
theorem dL_law_193 : decode cL_law 193 = .ok (.iadd, 1) := by decide +kernel
theorem dL_law_194 : decode cL_law 194 = .ok (.iaload, 1) := by decide +kernel
theorem dL_law_195 : decode cL_law 195 = .ok (.invokevirtual 17, 3) := by decide +kernel
theorem dL_law_198 : decode cL_law 198 = .ok (.if_icmp .eq 842, 3) := by decide +kernel
theorem dL_law_201 : decode cL_law 201 = .ok (.iconst 0, 1) := by decide +kernel
theorem dL_law_202 : decode cL_law 202 = .ok (.ireturn, 1) := by decide +kernel
theorem dL_law_203 : decode cL_law 203 = .ok (.aload_n 1, 1) := by decide +kernel
theorem dL_law_204 : decode cL_law 204 = .ok (.invokevirtual 18, 3) := by decide +kernel
theorem dL_law_207 : decode cL_law 207 = .ok (.aload_n 2, 1) := by decide +kernel
theorem dL_law_208 : decode cL_law 208 = .ok (.invokevirtual 22, 3) := by decide +kernel
theorem dL_law_211 : decode cL_law 211 = .ok (.if_icmp .eq 829, 3) := by decide +kernel
theorem dL_law_214 : decode cL_law 214 = .ok (.iconst 0, 1) := by decide +kernel
theorem dL_law_215 : decode cL_law 215 = .ok (.ireturn, 1) := by decide +kernel
theorem dL_law_216 : decode cL_law 216 = .ok (.aload_n 1, 1) := by decide +kernel
theorem dL_law_217 : decode cL_law 217 = .ok (.invokevirtual 23, 3) := by decide +kernel
theorem dL_law_220 : decode cL_law 220 = .ok (.aload_n 2, 1) := by decide +kernel
theorem dL_law_221 : decode cL_law 221 = .ok (.invokevirtual 26, 3) := by decide +kernel
theorem dL_law_224 : decode cL_law 224 = .ok (.if_icmp .eq 816, 3) := by decide +kernel
theorem dL_law_227 : decode cL_law 227 = .ok (.iconst 0, 1) := by decide +kernel
theorem dL_law_228 : decode cL_law 228 = .ok (.ireturn, 1) := by decide +kernel
theorem dL_law_229 : decode cL_law 229 = .ok (.aload_n 1, 1) := by decide +kernel
theorem dL_law_230 : decode cL_law 230 = .ok (.invokevirtual 27, 3) := by decide +kernel
theorem dL_law_233 : decode cL_law 233 = .ok (.aload_n 2, 1) := by decide +kernel
theorem dL_law_234 : decode cL_law 234 = .ok (.invokevirtual 30, 3) := by decide +kernel
theorem dL_law_237 : decode cL_law 237 = .ok (.if_icmp .eq 803, 3) := by decide +kernel
theorem dL_law_240 : decode cL_law 240 = .ok (.iconst 0, 1) := by decide +kernel
theorem dL_law_241 : decode cL_law 241 = .ok (.ireturn, 1) := by decide +kernel
theorem dL_law_242 : decode cL_law 242 = .ok (.aload_n 1, 1) := by decide +kernel
theorem dL_law_243 : decode cL_law 243 = .ok (.aload_n 0, 1) := by decide +kernel
theorem dL_law_244 : decode cL_law 244 = .ok (.iload_n 3, 1) := by decide +kernel
theorem dL_law_245 : decode cL_law 245 = .ok (.iconst 1, 1) := by decide +kernel
theorem dL_law_246 : decode cL_law 246 = .ok (.iadd, 1) := by decide +kernel
theorem dL_law_247 : decode cL_law 247 = .ok (.iaload, 1) := by decide +kernel
theorem dL_law_248 : decode cL_law 248 = .ok (.invokevirtual 31, 3) := by decide +kernel
theorem dL_law_251 : decode cL_law 251 = .ok (.aload_n 2, 1) := by decide +kernel
theorem dL_law_252 : decode cL_law 252 = .ok (.aload_n 0, 1) := by decide +kernel
theorem dL_law_253 : decode cL_law 253 = .ok (.iload_n 3, 1) := by decide +kernel
theorem dL_law_254 : decode cL_law 254 = .ok (.iconst 1, 1) := by decide +kernel
theorem dL_law_255 : decode cL_law 255 = .ok (.iadd, 1) := by decide +kernel
theorem dL_law_256 : decode cL_law 256 = .ok (.iaload, 1) := by decide +kernel
theorem dL_law_257 : decode cL_law 257 = .ok (.invokevirtual 34, 3) := by decide +kernel
theorem dL_law_260 : decode cL_law 260 = .ok (.if_icmp .eq 780, 3) := by decide +kernel
theorem dL_law_263 : decode cL_law 263 = .ok (.iconst 0, 1) := by decide +kernel
theorem dL_law_264 : decode cL_law 264 = .ok (.ireturn, 1) := by decide +kernel
theorem dL_law_265 : decode cL_law 265 = .ok (.aload_n 1, 1) := by decide +kernel
theorem dL_law_266 : decode cL_law 266 = .ok (.aload_n 0, 1) := by decide +kernel
theorem dL_law_267 : decode cL_law 267 = .ok (.iload_n 3, 1) := by decide +kernel
theorem dL_law_268 : decode cL_law 268 = .ok (.iconst 1, 1) := by decide +kernel
theorem dL_law_269 : decode cL_law 269 = .ok (.iadd, 1) := by decide +kernel
theorem dL_law_270 : decode cL_law 270 = .ok (.iaload, 1) := by decide +kernel
theorem dL_law_271 : decode cL_law 271 = .ok (.invokevirtual 35, 3) := by decide +kernel
theorem dL_law_274 : decode cL_law 274 = .ok (.aload_n 2, 1) := by decide +kernel
theorem dL_law_275 : decode cL_law 275 = .ok (.aload_n 0, 1) := by decide +kernel
theorem dL_law_276 : decode cL_law 276 = .ok (.iload_n 3, 1) := by decide +kernel
theorem dL_law_277 : decode cL_law 277 = .ok (.iconst 1, 1) := by decide +kernel
theorem dL_law_278 : decode cL_law 278 = .ok (.iadd, 1) := by decide +kernel
theorem dL_law_279 : decode cL_law 279 = .ok (.iaload, 1) := by decide +kernel
theorem dL_law_280 : decode cL_law 280 = .ok (.invokevirtual 38, 3) := by decide +kernel
theorem dL_law_283 : decode cL_law 283 = .ok (.if_icmp .eq 757, 3) := by decide +kernel
theorem dL_law_286 : decode cL_law 286 = .ok (.iconst 0, 1) := by decide +kernel
theorem dL_law_287 : decode cL_law 287 = .ok (.ireturn, 1) := by decide +kernel
theorem dL_law_288 : decode cL_law 288 = .ok (.aload_n 1, 1) := by decide +kernel
theorem dL_law_289 : decode cL_law 289 = .ok (.invokevirtual 39, 3) := by decide +kernel
theorem dL_law_292 : decode cL_law 292 = .ok (.aload_n 2, 1) := by decide +kernel
theorem dL_law_293 : decode cL_law 293 = .ok (.invokevirtual 42, 3) := by decide +kernel
theorem dL_law_296 : decode cL_law 296 = .ok (.if_icmp .eq 744, 3) := by decide +kernel
theorem dL_law_299 : decode cL_law 299 = .ok (.iconst 0, 1) := by decide +kernel
theorem dL_law_300 : decode cL_law 300 = .ok (.ireturn, 1) := by decide +kernel
theorem dL_law_301 : decode cL_law 301 = .ok (.aload_n 1, 1) := by decide +kernel
theorem dL_law_302 : decode cL_law 302 = .ok (.invokevirtual 43, 3) := by decide +kernel
theorem dL_law_305 : decode cL_law 305 = .ok (.aload_n 2, 1) := by decide +kernel
theorem dL_law_306 : decode cL_law 306 = .ok (.invokevirtual 46, 3) := by decide +kernel
theorem dL_law_309 : decode cL_law 309 = .ok (.if_icmp .eq 731, 3) := by decide +kernel
theorem dL_law_312 : decode cL_law 312 = .ok (.iconst 0, 1) := by decide +kernel
theorem dL_law_313 : decode cL_law 313 = .ok (.ireturn, 1) := by decide +kernel
theorem dL_law_314 : decode cL_law 314 = .ok (.aload_n 1, 1) := by decide +kernel
theorem dL_law_315 : decode cL_law 315 = .ok (.aload_n 0, 1) := by decide +kernel
theorem dL_law_316 : decode cL_law 316 = .ok (.iload_n 3, 1) := by decide +kernel
theorem dL_law_317 : decode cL_law 317 = .ok (.iconst 1, 1) := by decide +kernel
theorem dL_law_318 : decode cL_law 318 = .ok (.iadd, 1) := by decide +kernel
theorem dL_law_319 : decode cL_law 319 = .ok (.iaload, 1) := by decide +kernel
theorem dL_law_320 : decode cL_law 320 = .ok (.invokevirtual 47, 3) := by decide +kernel
theorem dL_law_323 : decode cL_law 323 = .ok (.aload_n 2, 1) := by decide +kernel
theorem dL_law_324 : decode cL_law 324 = .ok (.aload_n 0, 1) := by decide +kernel
theorem dL_law_325 : decode cL_law 325 = .ok (.iload_n 3, 1) := by decide +kernel
theorem dL_law_326 : decode cL_law 326 = .ok (.iconst 1, 1) := by decide +kernel
theorem dL_law_327 : decode cL_law 327 = .ok (.iadd, 1) := by decide +kernel
theorem dL_law_328 : decode cL_law 328 = .ok (.iaload, 1) := by decide +kernel
theorem dL_law_329 : decode cL_law 329 = .ok (.invokevirtual 50, 3) := by decide +kernel
theorem dL_law_332 : decode cL_law 332 = .ok (.if_icmp .eq 708, 3) := by decide +kernel
theorem dL_law_335 : decode cL_law 335 = .ok (.iconst 0, 1) := by decide +kernel
theorem dL_law_336 : decode cL_law 336 = .ok (.ireturn, 1) := by decide +kernel
theorem dL_law_337 : decode cL_law 337 = .ok (.aload_n 1, 1) := by decide +kernel
theorem dL_law_338 : decode cL_law 338 = .ok (.aload_n 0, 1) := by decide +kernel
theorem dL_law_339 : decode cL_law 339 = .ok (.iload_n 3, 1) := by decide +kernel
theorem dL_law_340 : decode cL_law 340 = .ok (.iconst 1, 1) := by decide +kernel
theorem dL_law_341 : decode cL_law 341 = .ok (.iadd, 1) := by decide +kernel
theorem dL_law_342 : decode cL_law 342 = .ok (.iaload, 1) := by decide +kernel
theorem dL_law_343 : decode cL_law 343 = .ok (.aload_n 0, 1) := by decide +kernel
theorem dL_law_344 : decode cL_law 344 = .ok (.iload_n 3, 1) := by decide +kernel
theorem dL_law_345 : decode cL_law 345 = .ok (.iconst 2, 1) := by decide +kernel
theorem dL_law_346 : decode cL_law 346 = .ok (.iadd, 1) := by decide +kernel
theorem dL_law_347 : decode cL_law 347 = .ok (.iaload, 1) := by decide +kernel
theorem dL_law_348 : decode cL_law 348 = .ok (.invokevirtual 51, 3) := by decide +kernel
theorem dL_law_351 : decode cL_law 351 = .ok (.aload_n 2, 1) := by decide +kernel
theorem dL_law_352 : decode cL_law 352 = .ok (.aload_n 0, 1) := by decide +kernel
theorem dL_law_353 : decode cL_law 353 = .ok (.iload_n 3, 1) := by decide +kernel
theorem dL_law_354 : decode cL_law 354 = .ok (.iconst 1, 1) := by decide +kernel
theorem dL_law_355 : decode cL_law 355 = .ok (.iadd, 1) := by decide +kernel
theorem dL_law_356 : decode cL_law 356 = .ok (.iaload, 1) := by decide +kernel
theorem dL_law_357 : decode cL_law 357 = .ok (.aload_n 0, 1) := by decide +kernel
theorem dL_law_358 : decode cL_law 358 = .ok (.iload_n 3, 1) := by decide +kernel
theorem dL_law_359 : decode cL_law 359 = .ok (.iconst 2, 1) := by decide +kernel
theorem dL_law_360 : decode cL_law 360 = .ok (.iadd, 1) := by decide +kernel
theorem dL_law_361 : decode cL_law 361 = .ok (.iaload, 1) := by decide +kernel
theorem dL_law_362 : decode cL_law 362 = .ok (.invokevirtual 55, 3) := by decide +kernel
theorem dL_law_365 : decode cL_law 365 = .ok (.if_icmp .eq 675, 3) := by decide +kernel
theorem dL_law_368 : decode cL_law 368 = .ok (.iconst 0, 1) := by decide +kernel
theorem dL_law_369 : decode cL_law 369 = .ok (.ireturn, 1) := by decide +kernel
theorem dL_law_370 : decode cL_law 370 = .ok (.aload_n 1, 1) := by decide +kernel
theorem dL_law_371 : decode cL_law 371 = .ok (.aload_n 0, 1) := by decide +kernel
theorem dL_law_372 : decode cL_law 372 = .ok (.iload_n 3, 1) := by decide +kernel
theorem dL_law_373 : decode cL_law 373 = .ok (.iconst 1, 1) := by decide +kernel
theorem dL_law_374 : decode cL_law 374 = .ok (.iadd, 1) := by decide +kernel
theorem dL_law_375 : decode cL_law 375 = .ok (.iaload, 1) := by decide +kernel
theorem dL_law_376 : decode cL_law 376 = .ok (.aload_n 0, 1) := by decide +kernel
theorem dL_law_377 : decode cL_law 377 = .ok (.iload_n 3, 1) := by decide +kernel
theorem dL_law_378 : decode cL_law 378 = .ok (.iconst 2, 1) := by decide +kernel
theorem dL_law_379 : decode cL_law 379 = .ok (.iadd, 1) := by decide +kernel
theorem dL_law_380 : decode cL_law 380 = .ok (.iaload, 1) := by decide +kernel
theorem dL_law_381 : decode cL_law 381 = .ok (.invokevirtual 56, 3) := by decide +kernel
theorem dL_law_384 : decode cL_law 384 = .ok (.aload_n 2, 1) := by decide +kernel
theorem dL_law_385 : decode cL_law 385 = .ok (.aload_n 0, 1) := by decide +kernel
theorem dL_law_386 : decode cL_law 386 = .ok (.iload_n 3, 1) := by decide +kernel
theorem dL_law_387 : decode cL_law 387 = .ok (.iconst 1, 1) := by decide +kernel
theorem dL_law_388 : decode cL_law 388 = .ok (.iadd, 1) := by decide +kernel
theorem dL_law_389 : decode cL_law 389 = .ok (.iaload, 1) := by decide +kernel
theorem dL_law_390 : decode cL_law 390 = .ok (.aload_n 0, 1) := by decide +kernel
theorem dL_law_391 : decode cL_law 391 = .ok (.iload_n 3, 1) := by decide +kernel
theorem dL_law_392 : decode cL_law 392 = .ok (.iconst 2, 1) := by decide +kernel
theorem dL_law_393 : decode cL_law 393 = .ok (.iadd, 1) := by decide +kernel
theorem dL_law_394 : decode cL_law 394 = .ok (.iaload, 1) := by decide +kernel
theorem dL_law_395 : decode cL_law 395 = .ok (.invokevirtual 59, 3) := by decide +kernel
theorem dL_law_398 : decode cL_law 398 = .ok (.if_icmp .eq 642, 3) := by decide +kernel
theorem dL_law_401 : decode cL_law 401 = .ok (.iconst 0, 1) := by decide +kernel
theorem dL_law_402 : decode cL_law 402 = .ok (.ireturn, 1) := by decide +kernel
theorem dL_law_403 : decode cL_law 403 = .ok (.aload_n 1, 1) := by decide +kernel
theorem dL_law_404 : decode cL_law 404 = .ok (.aload_n 0, 1) := by decide +kernel
theorem dL_law_405 : decode cL_law 405 = .ok (.iload_n 3, 1) := by decide +kernel
theorem dL_law_406 : decode cL_law 406 = .ok (.iconst 1, 1) := by decide +kernel
theorem dL_law_407 : decode cL_law 407 = .ok (.iadd, 1) := by decide +kernel
theorem dL_law_408 : decode cL_law 408 = .ok (.iaload, 1) := by decide +kernel
theorem dL_law_409 : decode cL_law 409 = .ok (.aload_n 0, 1) := by decide +kernel
theorem dL_law_410 : decode cL_law 410 = .ok (.iload_n 3, 1) := by decide +kernel
theorem dL_law_411 : decode cL_law 411 = .ok (.iconst 2, 1) := by decide +kernel
theorem dL_law_412 : decode cL_law 412 = .ok (.iadd, 1) := by decide +kernel
theorem dL_law_413 : decode cL_law 413 = .ok (.iaload, 1) := by decide +kernel
theorem dL_law_414 : decode cL_law 414 = .ok (.invokevirtual 60, 3) := by decide +kernel
theorem dL_law_417 : decode cL_law 417 = .ok (.aload_n 2, 1) := by decide +kernel
theorem dL_law_418 : decode cL_law 418 = .ok (.aload_n 0, 1) := by decide +kernel
theorem dL_law_419 : decode cL_law 419 = .ok (.iload_n 3, 1) := by decide +kernel
theorem dL_law_420 : decode cL_law 420 = .ok (.iconst 1, 1) := by decide +kernel
theorem dL_law_421 : decode cL_law 421 = .ok (.iadd, 1) := by decide +kernel
theorem dL_law_422 : decode cL_law 422 = .ok (.iaload, 1) := by decide +kernel
theorem dL_law_423 : decode cL_law 423 = .ok (.aload_n 0, 1) := by decide +kernel
theorem dL_law_424 : decode cL_law 424 = .ok (.iload_n 3, 1) := by decide +kernel
theorem dL_law_425 : decode cL_law 425 = .ok (.iconst 2, 1) := by decide +kernel
theorem dL_law_426 : decode cL_law 426 = .ok (.iadd, 1) := by decide +kernel
theorem dL_law_427 : decode cL_law 427 = .ok (.iaload, 1) := by decide +kernel
theorem dL_law_428 : decode cL_law 428 = .ok (.invokevirtual 63, 3) := by decide +kernel
theorem dL_law_431 : decode cL_law 431 = .ok (.if_icmp .eq 609, 3) := by decide +kernel
theorem dL_law_434 : decode cL_law 434 = .ok (.iconst 0, 1) := by decide +kernel
theorem dL_law_435 : decode cL_law 435 = .ok (.ireturn, 1) := by decide +kernel
theorem dL_law_436 : decode cL_law 436 = .ok (.aload_n 1, 1) := by decide +kernel
theorem dL_law_437 : decode cL_law 437 = .ok (.aload_n 0, 1) := by decide +kernel
theorem dL_law_438 : decode cL_law 438 = .ok (.iload_n 3, 1) := by decide +kernel
theorem dL_law_439 : decode cL_law 439 = .ok (.iconst 1, 1) := by decide +kernel
theorem dL_law_440 : decode cL_law 440 = .ok (.iadd, 1) := by decide +kernel
theorem dL_law_441 : decode cL_law 441 = .ok (.iaload, 1) := by decide +kernel
theorem dL_law_442 : decode cL_law 442 = .ok (.aload_n 0, 1) := by decide +kernel
theorem dL_law_443 : decode cL_law 443 = .ok (.iload_n 3, 1) := by decide +kernel
theorem dL_law_444 : decode cL_law 444 = .ok (.iconst 2, 1) := by decide +kernel
theorem dL_law_445 : decode cL_law 445 = .ok (.iadd, 1) := by decide +kernel
theorem dL_law_446 : decode cL_law 446 = .ok (.iaload, 1) := by decide +kernel
theorem dL_law_447 : decode cL_law 447 = .ok (.aload_n 0, 1) := by decide +kernel
theorem dL_law_448 : decode cL_law 448 = .ok (.iload_n 3, 1) := by decide +kernel
theorem dL_law_449 : decode cL_law 449 = .ok (.iconst 3, 1) := by decide +kernel
theorem dL_law_450 : decode cL_law 450 = .ok (.iadd, 1) := by decide +kernel
theorem dL_law_451 : decode cL_law 451 = .ok (.iaload, 1) := by decide +kernel
theorem dL_law_452 : decode cL_law 452 = .ok (.invokevirtual 64, 3) := by decide +kernel
theorem dL_law_455 : decode cL_law 455 = .ok (.aload_n 2, 1) := by decide +kernel
theorem dL_law_456 : decode cL_law 456 = .ok (.aload_n 0, 1) := by decide +kernel
theorem dL_law_457 : decode cL_law 457 = .ok (.iload_n 3, 1) := by decide +kernel
theorem dL_law_458 : decode cL_law 458 = .ok (.iconst 1, 1) := by decide +kernel
theorem dL_law_459 : decode cL_law 459 = .ok (.iadd, 1) := by decide +kernel
theorem dL_law_460 : decode cL_law 460 = .ok (.iaload, 1) := by decide +kernel
theorem dL_law_461 : decode cL_law 461 = .ok (.aload_n 0, 1) := by decide +kernel
theorem dL_law_462 : decode cL_law 462 = .ok (.iload_n 3, 1) := by decide +kernel
theorem dL_law_463 : decode cL_law 463 = .ok (.iconst 2, 1) := by decide +kernel
theorem dL_law_464 : decode cL_law 464 = .ok (.iadd, 1) := by decide +kernel
theorem dL_law_465 : decode cL_law 465 = .ok (.iaload, 1) := by decide +kernel
theorem dL_law_466 : decode cL_law 466 = .ok (.aload_n 0, 1) := by decide +kernel
theorem dL_law_467 : decode cL_law 467 = .ok (.iload_n 3, 1) := by decide +kernel
theorem dL_law_468 : decode cL_law 468 = .ok (.iconst 3, 1) := by decide +kernel
theorem dL_law_469 : decode cL_law 469 = .ok (.iadd, 1) := by decide +kernel
theorem dL_law_470 : decode cL_law 470 = .ok (.iaload, 1) := by decide +kernel
theorem dL_law_471 : decode cL_law 471 = .ok (.invokevirtual 68, 3) := by decide +kernel
theorem dL_law_474 : decode cL_law 474 = .ok (.if_icmp .eq 566, 3) := by decide +kernel
theorem dL_law_477 : decode cL_law 477 = .ok (.iconst 0, 1) := by decide +kernel
theorem dL_law_478 : decode cL_law 478 = .ok (.ireturn, 1) := by decide +kernel
theorem dL_law_479 : decode cL_law 479 = .ok (.aload_n 1, 1) := by decide +kernel
theorem dL_law_480 : decode cL_law 480 = .ok (.aload_n 0, 1) := by decide +kernel
theorem dL_law_481 : decode cL_law 481 = .ok (.iload_n 3, 1) := by decide +kernel
theorem dL_law_482 : decode cL_law 482 = .ok (.iconst 1, 1) := by decide +kernel
theorem dL_law_483 : decode cL_law 483 = .ok (.iadd, 1) := by decide +kernel
theorem dL_law_484 : decode cL_law 484 = .ok (.iaload, 1) := by decide +kernel
theorem dL_law_485 : decode cL_law 485 = .ok (.aload_n 0, 1) := by decide +kernel
theorem dL_law_486 : decode cL_law 486 = .ok (.iload_n 3, 1) := by decide +kernel
theorem dL_law_487 : decode cL_law 487 = .ok (.iconst 2, 1) := by decide +kernel
theorem dL_law_488 : decode cL_law 488 = .ok (.iadd, 1) := by decide +kernel
theorem dL_law_489 : decode cL_law 489 = .ok (.iaload, 1) := by decide +kernel
theorem dL_law_490 : decode cL_law 490 = .ok (.invokevirtual 69, 3) := by decide +kernel
theorem dL_law_493 : decode cL_law 493 = .ok (.aload_n 2, 1) := by decide +kernel
theorem dL_law_494 : decode cL_law 494 = .ok (.aload_n 0, 1) := by decide +kernel
theorem dL_law_495 : decode cL_law 495 = .ok (.iload_n 3, 1) := by decide +kernel
theorem dL_law_496 : decode cL_law 496 = .ok (.iconst 1, 1) := by decide +kernel
theorem dL_law_497 : decode cL_law 497 = .ok (.iadd, 1) := by decide +kernel
theorem dL_law_498 : decode cL_law 498 = .ok (.iaload, 1) := by decide +kernel
theorem dL_law_499 : decode cL_law 499 = .ok (.aload_n 0, 1) := by decide +kernel
theorem dL_law_500 : decode cL_law 500 = .ok (.iload_n 3, 1) := by decide +kernel
theorem dL_law_501 : decode cL_law 501 = .ok (.iconst 2, 1) := by decide +kernel
theorem dL_law_502 : decode cL_law 502 = .ok (.iadd, 1) := by decide +kernel
theorem dL_law_503 : decode cL_law 503 = .ok (.iaload, 1) := by decide +kernel
theorem dL_law_504 : decode cL_law 504 = .ok (.invokevirtual 72, 3) := by decide +kernel
theorem dL_law_507 : decode cL_law 507 = .ok (.if_icmp .eq 533, 3) := by decide +kernel
theorem dL_law_510 : decode cL_law 510 = .ok (.iconst 0, 1) := by decide +kernel
theorem dL_law_511 : decode cL_law 511 = .ok (.ireturn, 1) := by decide +kernel
theorem dL_law_512 : decode cL_law 512 = .ok (.aload_n 1, 1) := by decide +kernel
theorem dL_law_513 : decode cL_law 513 = .ok (.aload_n 0, 1) := by decide +kernel
theorem dL_law_514 : decode cL_law 514 = .ok (.iload_n 3, 1) := by decide +kernel
theorem dL_law_515 : decode cL_law 515 = .ok (.iconst 1, 1) := by decide +kernel
theorem dL_law_516 : decode cL_law 516 = .ok (.iadd, 1) := by decide +kernel
theorem dL_law_517 : decode cL_law 517 = .ok (.iaload, 1) := by decide +kernel
theorem dL_law_518 : decode cL_law 518 = .ok (.aload_n 0, 1) := by decide +kernel
theorem dL_law_519 : decode cL_law 519 = .ok (.iload_n 3, 1) := by decide +kernel
theorem dL_law_520 : decode cL_law 520 = .ok (.iconst 2, 1) := by decide +kernel
theorem dL_law_521 : decode cL_law 521 = .ok (.iadd, 1) := by decide +kernel
theorem dL_law_522 : decode cL_law 522 = .ok (.iaload, 1) := by decide +kernel
theorem dL_law_523 : decode cL_law 523 = .ok (.invokevirtual 73, 3) := by decide +kernel
theorem dL_law_526 : decode cL_law 526 = .ok (.aload_n 2, 1) := by decide +kernel
theorem dL_law_527 : decode cL_law 527 = .ok (.aload_n 0, 1) := by decide +kernel
theorem dL_law_528 : decode cL_law 528 = .ok (.iload_n 3, 1) := by decide +kernel
theorem dL_law_529 : decode cL_law 529 = .ok (.iconst 1, 1) := by decide +kernel
theorem dL_law_530 : decode cL_law 530 = .ok (.iadd, 1) := by decide +kernel
theorem dL_law_531 : decode cL_law 531 = .ok (.iaload, 1) := by decide +kernel
theorem dL_law_532 : decode cL_law 532 = .ok (.aload_n 0, 1) := by decide +kernel
theorem dL_law_533 : decode cL_law 533 = .ok (.iload_n 3, 1) := by decide +kernel
theorem dL_law_534 : decode cL_law 534 = .ok (.iconst 2, 1) := by decide +kernel
theorem dL_law_535 : decode cL_law 535 = .ok (.iadd, 1) := by decide +kernel
theorem dL_law_536 : decode cL_law 536 = .ok (.iaload, 1) := by decide +kernel
theorem dL_law_537 : decode cL_law 537 = .ok (.invokevirtual 76, 3) := by decide +kernel
theorem dL_law_540 : decode cL_law 540 = .ok (.if_icmp .eq 500, 3) := by decide +kernel
theorem dL_law_543 : decode cL_law 543 = .ok (.iconst 0, 1) := by decide +kernel
theorem dL_law_544 : decode cL_law 544 = .ok (.ireturn, 1) := by decide +kernel
theorem dL_law_545 : decode cL_law 545 = .ok (.aload_n 1, 1) := by decide +kernel
theorem dL_law_546 : decode cL_law 546 = .ok (.aload_n 0, 1) := by decide +kernel
theorem dL_law_547 : decode cL_law 547 = .ok (.iload_n 3, 1) := by decide +kernel
theorem dL_law_548 : decode cL_law 548 = .ok (.iconst 1, 1) := by decide +kernel
theorem dL_law_549 : decode cL_law 549 = .ok (.iadd, 1) := by decide +kernel
theorem dL_law_550 : decode cL_law 550 = .ok (.iaload, 1) := by decide +kernel
theorem dL_law_551 : decode cL_law 551 = .ok (.aload_n 0, 1) := by decide +kernel
theorem dL_law_552 : decode cL_law 552 = .ok (.iload_n 3, 1) := by decide +kernel
theorem dL_law_553 : decode cL_law 553 = .ok (.iconst 2, 1) := by decide +kernel
theorem dL_law_554 : decode cL_law 554 = .ok (.iadd, 1) := by decide +kernel
theorem dL_law_555 : decode cL_law 555 = .ok (.iaload, 1) := by decide +kernel
theorem dL_law_556 : decode cL_law 556 = .ok (.invokevirtual 77, 3) := by decide +kernel
theorem dL_law_559 : decode cL_law 559 = .ok (.aload_n 2, 1) := by decide +kernel
theorem dL_law_560 : decode cL_law 560 = .ok (.aload_n 0, 1) := by decide +kernel
theorem dL_law_561 : decode cL_law 561 = .ok (.iload_n 3, 1) := by decide +kernel
theorem dL_law_562 : decode cL_law 562 = .ok (.iconst 1, 1) := by decide +kernel
theorem dL_law_563 : decode cL_law 563 = .ok (.iadd, 1) := by decide +kernel
theorem dL_law_564 : decode cL_law 564 = .ok (.iaload, 1) := by decide +kernel
theorem dL_law_565 : decode cL_law 565 = .ok (.aload_n 0, 1) := by decide +kernel
theorem dL_law_566 : decode cL_law 566 = .ok (.iload_n 3, 1) := by decide +kernel
theorem dL_law_567 : decode cL_law 567 = .ok (.iconst 2, 1) := by decide +kernel
theorem dL_law_568 : decode cL_law 568 = .ok (.iadd, 1) := by decide +kernel
theorem dL_law_569 : decode cL_law 569 = .ok (.iaload, 1) := by decide +kernel
theorem dL_law_570 : decode cL_law 570 = .ok (.invokevirtual 80, 3) := by decide +kernel
theorem dL_law_573 : decode cL_law 573 = .ok (.if_icmp .eq 467, 3) := by decide +kernel
theorem dL_law_576 : decode cL_law 576 = .ok (.iconst 0, 1) := by decide +kernel
theorem dL_law_577 : decode cL_law 577 = .ok (.ireturn, 1) := by decide +kernel
theorem dL_law_578 : decode cL_law 578 = .ok (.aload_n 1, 1) := by decide +kernel
theorem dL_law_579 : decode cL_law 579 = .ok (.aload_n 0, 1) := by decide +kernel
theorem dL_law_580 : decode cL_law 580 = .ok (.iload_n 3, 1) := by decide +kernel
theorem dL_law_581 : decode cL_law 581 = .ok (.iconst 1, 1) := by decide +kernel
theorem dL_law_582 : decode cL_law 582 = .ok (.iadd, 1) := by decide +kernel
theorem dL_law_583 : decode cL_law 583 = .ok (.iaload, 1) := by decide +kernel
theorem dL_law_584 : decode cL_law 584 = .ok (.aload_n 0, 1) := by decide +kernel
theorem dL_law_585 : decode cL_law 585 = .ok (.iload_n 3, 1) := by decide +kernel
theorem dL_law_586 : decode cL_law 586 = .ok (.iconst 2, 1) := by decide +kernel
theorem dL_law_587 : decode cL_law 587 = .ok (.iadd, 1) := by decide +kernel
theorem dL_law_588 : decode cL_law 588 = .ok (.iaload, 1) := by decide +kernel
theorem dL_law_589 : decode cL_law 589 = .ok (.invokevirtual 81, 3) := by decide +kernel
theorem dL_law_592 : decode cL_law 592 = .ok (.aload_n 2, 1) := by decide +kernel
theorem dL_law_593 : decode cL_law 593 = .ok (.aload_n 0, 1) := by decide +kernel
theorem dL_law_594 : decode cL_law 594 = .ok (.iload_n 3, 1) := by decide +kernel
theorem dL_law_595 : decode cL_law 595 = .ok (.iconst 1, 1) := by decide +kernel
theorem dL_law_596 : decode cL_law 596 = .ok (.iadd, 1) := by decide +kernel
theorem dL_law_597 : decode cL_law 597 = .ok (.iaload, 1) := by decide +kernel
theorem dL_law_598 : decode cL_law 598 = .ok (.aload_n 0, 1) := by decide +kernel
theorem dL_law_599 : decode cL_law 599 = .ok (.iload_n 3, 1) := by decide +kernel
theorem dL_law_600 : decode cL_law 600 = .ok (.iconst 2, 1) := by decide +kernel
theorem dL_law_601 : decode cL_law 601 = .ok (.iadd, 1) := by decide +kernel
theorem dL_law_602 : decode cL_law 602 = .ok (.iaload, 1) := by decide +kernel
theorem dL_law_603 : decode cL_law 603 = .ok (.invokevirtual 84, 3) := by decide +kernel
theorem dL_law_606 : decode cL_law 606 = .ok (.if_icmp .eq 434, 3) := by decide +kernel
theorem dL_law_609 : decode cL_law 609 = .ok (.iconst 0, 1) := by decide +kernel
theorem dL_law_610 : decode cL_law 610 = .ok (.ireturn, 1) := by decide +kernel
theorem dL_law_611 : decode cL_law 611 = .ok (.aload_n 1, 1) := by decide +kernel
theorem dL_law_612 : decode cL_law 612 = .ok (.aload_n 0, 1) := by decide +kernel
theorem dL_law_613 : decode cL_law 613 = .ok (.iload_n 3, 1) := by decide +kernel
theorem dL_law_614 : decode cL_law 614 = .ok (.iconst 1, 1) := by decide +kernel
theorem dL_law_615 : decode cL_law 615 = .ok (.iadd, 1) := by decide +kernel
theorem dL_law_616 : decode cL_law 616 = .ok (.iaload, 1) := by decide +kernel
theorem dL_law_617 : decode cL_law 617 = .ok (.invokevirtual 85, 3) := by decide +kernel
theorem dL_law_620 : decode cL_law 620 = .ok (.aload_n 2, 1) := by decide +kernel
theorem dL_law_621 : decode cL_law 621 = .ok (.aload_n 0, 1) := by decide +kernel
theorem dL_law_622 : decode cL_law 622 = .ok (.iload_n 3, 1) := by decide +kernel
theorem dL_law_623 : decode cL_law 623 = .ok (.iconst 1, 1) := by decide +kernel
theorem dL_law_624 : decode cL_law 624 = .ok (.iadd, 1) := by decide +kernel
theorem dL_law_625 : decode cL_law 625 = .ok (.iaload, 1) := by decide +kernel
theorem dL_law_626 : decode cL_law 626 = .ok (.invokevirtual 88, 3) := by decide +kernel
theorem dL_law_629 : decode cL_law 629 = .ok (.if_icmp .eq 411, 3) := by decide +kernel
theorem dL_law_632 : decode cL_law 632 = .ok (.iconst 0, 1) := by decide +kernel
theorem dL_law_633 : decode cL_law 633 = .ok (.ireturn, 1) := by decide +kernel
theorem dL_law_634 : decode cL_law 634 = .ok (.aload_n 1, 1) := by decide +kernel
theorem dL_law_635 : decode cL_law 635 = .ok (.aload_n 0, 1) := by decide +kernel
theorem dL_law_636 : decode cL_law 636 = .ok (.iload_n 3, 1) := by decide +kernel
theorem dL_law_637 : decode cL_law 637 = .ok (.iconst 1, 1) := by decide +kernel
theorem dL_law_638 : decode cL_law 638 = .ok (.iadd, 1) := by decide +kernel
theorem dL_law_639 : decode cL_law 639 = .ok (.iaload, 1) := by decide +kernel
theorem dL_law_640 : decode cL_law 640 = .ok (.invokevirtual 89, 3) := by decide +kernel
theorem dL_law_643 : decode cL_law 643 = .ok (.aload_n 2, 1) := by decide +kernel
theorem dL_law_644 : decode cL_law 644 = .ok (.aload_n 0, 1) := by decide +kernel
theorem dL_law_645 : decode cL_law 645 = .ok (.iload_n 3, 1) := by decide +kernel
theorem dL_law_646 : decode cL_law 646 = .ok (.iconst 1, 1) := by decide +kernel
theorem dL_law_647 : decode cL_law 647 = .ok (.iadd, 1) := by decide +kernel
theorem dL_law_648 : decode cL_law 648 = .ok (.iaload, 1) := by decide +kernel
theorem dL_law_649 : decode cL_law 649 = .ok (.invokevirtual 92, 3) := by decide +kernel
theorem dL_law_652 : decode cL_law 652 = .ok (.if_icmp .eq 388, 3) := by decide +kernel
theorem dL_law_655 : decode cL_law 655 = .ok (.iconst 0, 1) := by decide +kernel
theorem dL_law_656 : decode cL_law 656 = .ok (.ireturn, 1) := by decide +kernel
theorem dL_law_657 : decode cL_law 657 = .ok (.aload_n 1, 1) := by decide +kernel
theorem dL_law_658 : decode cL_law 658 = .ok (.aload_n 0, 1) := by decide +kernel
theorem dL_law_659 : decode cL_law 659 = .ok (.iload_n 3, 1) := by decide +kernel
theorem dL_law_660 : decode cL_law 660 = .ok (.iconst 1, 1) := by decide +kernel
theorem dL_law_661 : decode cL_law 661 = .ok (.iadd, 1) := by decide +kernel
theorem dL_law_662 : decode cL_law 662 = .ok (.iaload, 1) := by decide +kernel
theorem dL_law_663 : decode cL_law 663 = .ok (.aload_n 0, 1) := by decide +kernel
theorem dL_law_664 : decode cL_law 664 = .ok (.iload_n 3, 1) := by decide +kernel
theorem dL_law_665 : decode cL_law 665 = .ok (.iconst 2, 1) := by decide +kernel
theorem dL_law_666 : decode cL_law 666 = .ok (.iadd, 1) := by decide +kernel
theorem dL_law_667 : decode cL_law 667 = .ok (.iaload, 1) := by decide +kernel
theorem dL_law_668 : decode cL_law 668 = .ok (.invokevirtual 93, 3) := by decide +kernel
theorem dL_law_671 : decode cL_law 671 = .ok (.aload_n 2, 1) := by decide +kernel
theorem dL_law_672 : decode cL_law 672 = .ok (.aload_n 0, 1) := by decide +kernel
theorem dL_law_673 : decode cL_law 673 = .ok (.iload_n 3, 1) := by decide +kernel
theorem dL_law_674 : decode cL_law 674 = .ok (.iconst 1, 1) := by decide +kernel
theorem dL_law_675 : decode cL_law 675 = .ok (.iadd, 1) := by decide +kernel
theorem dL_law_676 : decode cL_law 676 = .ok (.iaload, 1) := by decide +kernel
theorem dL_law_677 : decode cL_law 677 = .ok (.aload_n 0, 1) := by decide +kernel
theorem dL_law_678 : decode cL_law 678 = .ok (.iload_n 3, 1) := by decide +kernel
theorem dL_law_679 : decode cL_law 679 = .ok (.iconst 2, 1) := by decide +kernel
theorem dL_law_680 : decode cL_law 680 = .ok (.iadd, 1) := by decide +kernel
theorem dL_law_681 : decode cL_law 681 = .ok (.iaload, 1) := by decide +kernel
theorem dL_law_682 : decode cL_law 682 = .ok (.invokevirtual 96, 3) := by decide +kernel
theorem dL_law_685 : decode cL_law 685 = .ok (.if_icmp .eq 355, 3) := by decide +kernel
theorem dL_law_688 : decode cL_law 688 = .ok (.iconst 0, 1) := by decide +kernel
theorem dL_law_689 : decode cL_law 689 = .ok (.ireturn, 1) := by decide +kernel
theorem dL_law_690 : decode cL_law 690 = .ok (.aload_n 1, 1) := by decide +kernel
theorem dL_law_691 : decode cL_law 691 = .ok (.aload_n 0, 1) := by decide +kernel
theorem dL_law_692 : decode cL_law 692 = .ok (.iload_n 3, 1) := by decide +kernel
theorem dL_law_693 : decode cL_law 693 = .ok (.iconst 1, 1) := by decide +kernel
theorem dL_law_694 : decode cL_law 694 = .ok (.iadd, 1) := by decide +kernel
theorem dL_law_695 : decode cL_law 695 = .ok (.iaload, 1) := by decide +kernel
theorem dL_law_696 : decode cL_law 696 = .ok (.aload_n 0, 1) := by decide +kernel
theorem dL_law_697 : decode cL_law 697 = .ok (.iload_n 3, 1) := by decide +kernel
theorem dL_law_698 : decode cL_law 698 = .ok (.iconst 2, 1) := by decide +kernel
theorem dL_law_699 : decode cL_law 699 = .ok (.iadd, 1) := by decide +kernel
theorem dL_law_700 : decode cL_law 700 = .ok (.iaload, 1) := by decide +kernel
theorem dL_law_701 : decode cL_law 701 = .ok (.invokevirtual 97, 3) := by decide +kernel
theorem dL_law_704 : decode cL_law 704 = .ok (.aload_n 2, 1) := by decide +kernel
theorem dL_law_705 : decode cL_law 705 = .ok (.aload_n 0, 1) := by decide +kernel
theorem dL_law_706 : decode cL_law 706 = .ok (.iload_n 3, 1) := by decide +kernel
theorem dL_law_707 : decode cL_law 707 = .ok (.iconst 1, 1) := by decide +kernel
theorem dL_law_708 : decode cL_law 708 = .ok (.iadd, 1) := by decide +kernel
theorem dL_law_709 : decode cL_law 709 = .ok (.iaload, 1) := by decide +kernel
theorem dL_law_710 : decode cL_law 710 = .ok (.aload_n 0, 1) := by decide +kernel
theorem dL_law_711 : decode cL_law 711 = .ok (.iload_n 3, 1) := by decide +kernel
theorem dL_law_712 : decode cL_law 712 = .ok (.iconst 2, 1) := by decide +kernel
theorem dL_law_713 : decode cL_law 713 = .ok (.iadd, 1) := by decide +kernel
theorem dL_law_714 : decode cL_law 714 = .ok (.iaload, 1) := by decide +kernel
theorem dL_law_715 : decode cL_law 715 = .ok (.invokevirtual 100, 3) := by decide +kernel
theorem dL_law_718 : decode cL_law 718 = .ok (.if_icmp .eq 322, 3) := by decide +kernel
theorem dL_law_721 : decode cL_law 721 = .ok (.iconst 0, 1) := by decide +kernel
theorem dL_law_722 : decode cL_law 722 = .ok (.ireturn, 1) := by decide +kernel
theorem dL_law_723 : decode cL_law 723 = .ok (.aload_n 1, 1) := by decide +kernel
theorem dL_law_724 : decode cL_law 724 = .ok (.aload_n 0, 1) := by decide +kernel
theorem dL_law_725 : decode cL_law 725 = .ok (.iload_n 3, 1) := by decide +kernel
theorem dL_law_726 : decode cL_law 726 = .ok (.iconst 1, 1) := by decide +kernel
theorem dL_law_727 : decode cL_law 727 = .ok (.iadd, 1) := by decide +kernel
theorem dL_law_728 : decode cL_law 728 = .ok (.iaload, 1) := by decide +kernel
theorem dL_law_729 : decode cL_law 729 = .ok (.invokevirtual 101, 3) := by decide +kernel
theorem dL_law_732 : decode cL_law 732 = .ok (.aload_n 2, 1) := by decide +kernel
theorem dL_law_733 : decode cL_law 733 = .ok (.aload_n 0, 1) := by decide +kernel
theorem dL_law_734 : decode cL_law 734 = .ok (.iload_n 3, 1) := by decide +kernel
theorem dL_law_735 : decode cL_law 735 = .ok (.iconst 1, 1) := by decide +kernel
theorem dL_law_736 : decode cL_law 736 = .ok (.iadd, 1) := by decide +kernel
theorem dL_law_737 : decode cL_law 737 = .ok (.iaload, 1) := by decide +kernel
theorem dL_law_738 : decode cL_law 738 = .ok (.invokevirtual 104, 3) := by decide +kernel
theorem dL_law_741 : decode cL_law 741 = .ok (.if_icmp .eq 299, 3) := by decide +kernel
theorem dL_law_744 : decode cL_law 744 = .ok (.iconst 0, 1) := by decide +kernel
theorem dL_law_745 : decode cL_law 745 = .ok (.ireturn, 1) := by decide +kernel
theorem dL_law_746 : decode cL_law 746 = .ok (.aload_n 1, 1) := by decide +kernel
theorem dL_law_747 : decode cL_law 747 = .ok (.aload_n 0, 1) := by decide +kernel
theorem dL_law_748 : decode cL_law 748 = .ok (.iload_n 3, 1) := by decide +kernel
theorem dL_law_749 : decode cL_law 749 = .ok (.iconst 1, 1) := by decide +kernel
theorem dL_law_750 : decode cL_law 750 = .ok (.iadd, 1) := by decide +kernel
theorem dL_law_751 : decode cL_law 751 = .ok (.iaload, 1) := by decide +kernel
theorem dL_law_752 : decode cL_law 752 = .ok (.invokevirtual 105, 3) := by decide +kernel
theorem dL_law_755 : decode cL_law 755 = .ok (.aload_n 2, 1) := by decide +kernel
theorem dL_law_756 : decode cL_law 756 = .ok (.aload_n 0, 1) := by decide +kernel
theorem dL_law_757 : decode cL_law 757 = .ok (.iload_n 3, 1) := by decide +kernel
theorem dL_law_758 : decode cL_law 758 = .ok (.iconst 1, 1) := by decide +kernel
theorem dL_law_759 : decode cL_law 759 = .ok (.iadd, 1) := by decide +kernel
theorem dL_law_760 : decode cL_law 760 = .ok (.iaload, 1) := by decide +kernel
theorem dL_law_761 : decode cL_law 761 = .ok (.invokevirtual 108, 3) := by decide +kernel
theorem dL_law_764 : decode cL_law 764 = .ok (.if_icmp .eq 276, 3) := by decide +kernel
theorem dL_law_767 : decode cL_law 767 = .ok (.iconst 0, 1) := by decide +kernel
theorem dL_law_768 : decode cL_law 768 = .ok (.ireturn, 1) := by decide +kernel
theorem dL_law_769 : decode cL_law 769 = .ok (.aload_n 1, 1) := by decide +kernel
theorem dL_law_770 : decode cL_law 770 = .ok (.aload_n 0, 1) := by decide +kernel
theorem dL_law_771 : decode cL_law 771 = .ok (.iload_n 3, 1) := by decide +kernel
theorem dL_law_772 : decode cL_law 772 = .ok (.iconst 1, 1) := by decide +kernel
theorem dL_law_773 : decode cL_law 773 = .ok (.iadd, 1) := by decide +kernel
theorem dL_law_774 : decode cL_law 774 = .ok (.iaload, 1) := by decide +kernel
theorem dL_law_775 : decode cL_law 775 = .ok (.aload_n 0, 1) := by decide +kernel
theorem dL_law_776 : decode cL_law 776 = .ok (.iload_n 3, 1) := by decide +kernel
theorem dL_law_777 : decode cL_law 777 = .ok (.iconst 2, 1) := by decide +kernel
theorem dL_law_778 : decode cL_law 778 = .ok (.iadd, 1) := by decide +kernel
theorem dL_law_779 : decode cL_law 779 = .ok (.iaload, 1) := by decide +kernel
theorem dL_law_780 : decode cL_law 780 = .ok (.invokevirtual 109, 3) := by decide +kernel
theorem dL_law_783 : decode cL_law 783 = .ok (.aload_n 2, 1) := by decide +kernel
theorem dL_law_784 : decode cL_law 784 = .ok (.aload_n 0, 1) := by decide +kernel
theorem dL_law_785 : decode cL_law 785 = .ok (.iload_n 3, 1) := by decide +kernel
theorem dL_law_786 : decode cL_law 786 = .ok (.iconst 1, 1) := by decide +kernel
theorem dL_law_787 : decode cL_law 787 = .ok (.iadd, 1) := by decide +kernel
theorem dL_law_788 : decode cL_law 788 = .ok (.iaload, 1) := by decide +kernel
theorem dL_law_789 : decode cL_law 789 = .ok (.aload_n 0, 1) := by decide +kernel
theorem dL_law_790 : decode cL_law 790 = .ok (.iload_n 3, 1) := by decide +kernel
theorem dL_law_791 : decode cL_law 791 = .ok (.iconst 2, 1) := by decide +kernel
theorem dL_law_792 : decode cL_law 792 = .ok (.iadd, 1) := by decide +kernel
theorem dL_law_793 : decode cL_law 793 = .ok (.iaload, 1) := by decide +kernel
theorem dL_law_794 : decode cL_law 794 = .ok (.invokevirtual 112, 3) := by decide +kernel
theorem dL_law_797 : decode cL_law 797 = .ok (.if_icmp .eq 243, 3) := by decide +kernel
theorem dL_law_800 : decode cL_law 800 = .ok (.iconst 0, 1) := by decide +kernel
theorem dL_law_801 : decode cL_law 801 = .ok (.ireturn, 1) := by decide +kernel
theorem dL_law_802 : decode cL_law 802 = .ok (.aload_n 1, 1) := by decide +kernel
theorem dL_law_803 : decode cL_law 803 = .ok (.aload_n 0, 1) := by decide +kernel
theorem dL_law_804 : decode cL_law 804 = .ok (.iload_n 3, 1) := by decide +kernel
theorem dL_law_805 : decode cL_law 805 = .ok (.iconst 1, 1) := by decide +kernel
theorem dL_law_806 : decode cL_law 806 = .ok (.iadd, 1) := by decide +kernel
theorem dL_law_807 : decode cL_law 807 = .ok (.iaload, 1) := by decide +kernel
theorem dL_law_808 : decode cL_law 808 = .ok (.aload_n 0, 1) := by decide +kernel
theorem dL_law_809 : decode cL_law 809 = .ok (.iload_n 3, 1) := by decide +kernel
theorem dL_law_810 : decode cL_law 810 = .ok (.iconst 2, 1) := by decide +kernel
theorem dL_law_811 : decode cL_law 811 = .ok (.iadd, 1) := by decide +kernel
theorem dL_law_812 : decode cL_law 812 = .ok (.iaload, 1) := by decide +kernel
theorem dL_law_813 : decode cL_law 813 = .ok (.invokevirtual 113, 3) := by decide +kernel
theorem dL_law_816 : decode cL_law 816 = .ok (.aload_n 2, 1) := by decide +kernel
theorem dL_law_817 : decode cL_law 817 = .ok (.aload_n 0, 1) := by decide +kernel
theorem dL_law_818 : decode cL_law 818 = .ok (.iload_n 3, 1) := by decide +kernel
theorem dL_law_819 : decode cL_law 819 = .ok (.iconst 1, 1) := by decide +kernel
theorem dL_law_820 : decode cL_law 820 = .ok (.iadd, 1) := by decide +kernel
theorem dL_law_821 : decode cL_law 821 = .ok (.iaload, 1) := by decide +kernel
theorem dL_law_822 : decode cL_law 822 = .ok (.aload_n 0, 1) := by decide +kernel
theorem dL_law_823 : decode cL_law 823 = .ok (.iload_n 3, 1) := by decide +kernel
theorem dL_law_824 : decode cL_law 824 = .ok (.iconst 2, 1) := by decide +kernel
theorem dL_law_825 : decode cL_law 825 = .ok (.iadd, 1) := by decide +kernel
theorem dL_law_826 : decode cL_law 826 = .ok (.iaload, 1) := by decide +kernel
theorem dL_law_827 : decode cL_law 827 = .ok (.invokevirtual 116, 3) := by decide +kernel
theorem dL_law_830 : decode cL_law 830 = .ok (.if_icmp .eq 210, 3) := by decide +kernel
theorem dL_law_833 : decode cL_law 833 = .ok (.iconst 0, 1) := by decide +kernel
theorem dL_law_834 : decode cL_law 834 = .ok (.ireturn, 1) := by decide +kernel
theorem dL_law_835 : decode cL_law 835 = .ok (.aload_n 1, 1) := by decide +kernel
theorem dL_law_836 : decode cL_law 836 = .ok (.aload_n 0, 1) := by decide +kernel
theorem dL_law_837 : decode cL_law 837 = .ok (.iload_n 3, 1) := by decide +kernel
theorem dL_law_838 : decode cL_law 838 = .ok (.iconst 1, 1) := by decide +kernel
theorem dL_law_839 : decode cL_law 839 = .ok (.iadd, 1) := by decide +kernel
theorem dL_law_840 : decode cL_law 840 = .ok (.iaload, 1) := by decide +kernel
theorem dL_law_841 : decode cL_law 841 = .ok (.invokevirtual 117, 3) := by decide +kernel
theorem dL_law_844 : decode cL_law 844 = .ok (.aload_n 2, 1) := by decide +kernel
theorem dL_law_845 : decode cL_law 845 = .ok (.aload_n 0, 1) := by decide +kernel
theorem dL_law_846 : decode cL_law 846 = .ok (.iload_n 3, 1) := by decide +kernel
theorem dL_law_847 : decode cL_law 847 = .ok (.iconst 1, 1) := by decide +kernel
theorem dL_law_848 : decode cL_law 848 = .ok (.iadd, 1) := by decide +kernel
theorem dL_law_849 : decode cL_law 849 = .ok (.iaload, 1) := by decide +kernel
theorem dL_law_850 : decode cL_law 850 = .ok (.invokevirtual 120, 3) := by decide +kernel
theorem dL_law_853 : decode cL_law 853 = .ok (.if_icmp .eq 187, 3) := by decide +kernel
theorem dL_law_856 : decode cL_law 856 = .ok (.iconst 0, 1) := by decide +kernel
theorem dL_law_857 : decode cL_law 857 = .ok (.ireturn, 1) := by decide +kernel
theorem dL_law_858 : decode cL_law 858 = .ok (.aload_n 1, 1) := by decide +kernel
theorem dL_law_859 : decode cL_law 859 = .ok (.aload_n 0, 1) := by decide +kernel
theorem dL_law_860 : decode cL_law 860 = .ok (.iload_n 3, 1) := by decide +kernel
theorem dL_law_861 : decode cL_law 861 = .ok (.iconst 1, 1) := by decide +kernel
theorem dL_law_862 : decode cL_law 862 = .ok (.iadd, 1) := by decide +kernel
theorem dL_law_863 : decode cL_law 863 = .ok (.iaload, 1) := by decide +kernel
theorem dL_law_864 : decode cL_law 864 = .ok (.invokevirtual 121, 3) := by decide +kernel
theorem dL_law_867 : decode cL_law 867 = .ok (.aload_n 2, 1) := by decide +kernel
theorem dL_law_868 : decode cL_law 868 = .ok (.aload_n 0, 1) := by decide +kernel
theorem dL_law_869 : decode cL_law 869 = .ok (.iload_n 3, 1) := by decide +kernel
theorem dL_law_870 : decode cL_law 870 = .ok (.iconst 1, 1) := by decide +kernel
theorem dL_law_871 : decode cL_law 871 = .ok (.iadd, 1) := by decide +kernel
theorem dL_law_872 : decode cL_law 872 = .ok (.iaload, 1) := by decide +kernel
theorem dL_law_873 : decode cL_law 873 = .ok (.invokevirtual 124, 3) := by decide +kernel
theorem dL_law_876 : decode cL_law 876 = .ok (.if_icmp .eq 164, 3) := by decide +kernel
theorem dL_law_879 : decode cL_law 879 = .ok (.iconst 0, 1) := by decide +kernel
theorem dL_law_880 : decode cL_law 880 = .ok (.ireturn, 1) := by decide +kernel
theorem dL_law_881 : decode cL_law 881 = .ok (.aload_n 1, 1) := by decide +kernel
theorem dL_law_882 : decode cL_law 882 = .ok (.invokevirtual 125, 3) := by decide +kernel
theorem dL_law_885 : decode cL_law 885 = .ok (.aload_n 2, 1) := by decide +kernel
theorem dL_law_886 : decode cL_law 886 = .ok (.invokevirtual 128, 3) := by decide +kernel
theorem dL_law_889 : decode cL_law 889 = .ok (.if_icmp .eq 151, 3) := by decide +kernel
theorem dL_law_892 : decode cL_law 892 = .ok (.iconst 0, 1) := by decide +kernel
theorem dL_law_893 : decode cL_law 893 = .ok (.ireturn, 1) := by decide +kernel
theorem dL_law_894 : decode cL_law 894 = .ok (.aload_n 1, 1) := by decide +kernel
theorem dL_law_895 : decode cL_law 895 = .ok (.aload_n 0, 1) := by decide +kernel
theorem dL_law_896 : decode cL_law 896 = .ok (.iload_n 3, 1) := by decide +kernel
theorem dL_law_897 : decode cL_law 897 = .ok (.iconst 1, 1) := by decide +kernel
theorem dL_law_898 : decode cL_law 898 = .ok (.iadd, 1) := by decide +kernel
theorem dL_law_899 : decode cL_law 899 = .ok (.iaload, 1) := by decide +kernel
theorem dL_law_900 : decode cL_law 900 = .ok (.aload_n 0, 1) := by decide +kernel
theorem dL_law_901 : decode cL_law 901 = .ok (.iload_n 3, 1) := by decide +kernel
theorem dL_law_902 : decode cL_law 902 = .ok (.iconst 2, 1) := by decide +kernel
theorem dL_law_903 : decode cL_law 903 = .ok (.iadd, 1) := by decide +kernel
theorem dL_law_904 : decode cL_law 904 = .ok (.iaload, 1) := by decide +kernel
theorem dL_law_905 : decode cL_law 905 = .ok (.invokevirtual 129, 3) := by decide +kernel
theorem dL_law_908 : decode cL_law 908 = .ok (.aload_n 2, 1) := by decide +kernel
theorem dL_law_909 : decode cL_law 909 = .ok (.aload_n 0, 1) := by decide +kernel
theorem dL_law_910 : decode cL_law 910 = .ok (.iload_n 3, 1) := by decide +kernel
theorem dL_law_911 : decode cL_law 911 = .ok (.iconst 1, 1) := by decide +kernel
theorem dL_law_912 : decode cL_law 912 = .ok (.iadd, 1) := by decide +kernel
theorem dL_law_913 : decode cL_law 913 = .ok (.iaload, 1) := by decide +kernel
theorem dL_law_914 : decode cL_law 914 = .ok (.aload_n 0, 1) := by decide +kernel
theorem dL_law_915 : decode cL_law 915 = .ok (.iload_n 3, 1) := by decide +kernel
theorem dL_law_916 : decode cL_law 916 = .ok (.iconst 2, 1) := by decide +kernel
theorem dL_law_917 : decode cL_law 917 = .ok (.iadd, 1) := by decide +kernel
theorem dL_law_918 : decode cL_law 918 = .ok (.iaload, 1) := by decide +kernel
theorem dL_law_919 : decode cL_law 919 = .ok (.invokevirtual 133, 3) := by decide +kernel
theorem dL_law_922 : decode cL_law 922 = .ok (.lcmp, 1) := by decide +kernel
theorem dL_law_923 : decode cL_law 923 = .ok (.ifCond .eq 117, 3) := by decide +kernel
theorem dL_law_926 : decode cL_law 926 = .ok (.iconst 0, 1) := by decide +kernel
theorem dL_law_927 : decode cL_law 927 = .ok (.ireturn, 1) := by decide +kernel
theorem dL_law_928 : decode cL_law 928 = .ok (.aload_n 1, 1) := by decide +kernel
theorem dL_law_929 : decode cL_law 929 = .ok (.aload_n 0, 1) := by decide +kernel
theorem dL_law_930 : decode cL_law 930 = .ok (.iload_n 3, 1) := by decide +kernel
theorem dL_law_931 : decode cL_law 931 = .ok (.iconst 1, 1) := by decide +kernel
theorem dL_law_932 : decode cL_law 932 = .ok (.iadd, 1) := by decide +kernel
theorem dL_law_933 : decode cL_law 933 = .ok (.iaload, 1) := by decide +kernel
theorem dL_law_934 : decode cL_law 934 = .ok (.aload_n 0, 1) := by decide +kernel
theorem dL_law_935 : decode cL_law 935 = .ok (.iload_n 3, 1) := by decide +kernel
theorem dL_law_936 : decode cL_law 936 = .ok (.iconst 2, 1) := by decide +kernel
theorem dL_law_937 : decode cL_law 937 = .ok (.iadd, 1) := by decide +kernel
theorem dL_law_938 : decode cL_law 938 = .ok (.iaload, 1) := by decide +kernel
theorem dL_law_939 : decode cL_law 939 = .ok (.aload_n 0, 1) := by decide +kernel
theorem dL_law_940 : decode cL_law 940 = .ok (.iload_n 3, 1) := by decide +kernel
theorem dL_law_941 : decode cL_law 941 = .ok (.iconst 3, 1) := by decide +kernel
theorem dL_law_942 : decode cL_law 942 = .ok (.iadd, 1) := by decide +kernel
theorem dL_law_943 : decode cL_law 943 = .ok (.iaload, 1) := by decide +kernel
theorem dL_law_944 : decode cL_law 944 = .ok (.invokevirtual 134, 3) := by decide +kernel
theorem dL_law_947 : decode cL_law 947 = .ok (.aload_n 2, 1) := by decide +kernel
theorem dL_law_948 : decode cL_law 948 = .ok (.aload_n 0, 1) := by decide +kernel
theorem dL_law_949 : decode cL_law 949 = .ok (.iload_n 3, 1) := by decide +kernel
theorem dL_law_950 : decode cL_law 950 = .ok (.iconst 1, 1) := by decide +kernel
theorem dL_law_951 : decode cL_law 951 = .ok (.iadd, 1) := by decide +kernel
theorem dL_law_952 : decode cL_law 952 = .ok (.iaload, 1) := by decide +kernel
theorem dL_law_953 : decode cL_law 953 = .ok (.aload_n 0, 1) := by decide +kernel
theorem dL_law_954 : decode cL_law 954 = .ok (.iload_n 3, 1) := by decide +kernel
theorem dL_law_955 : decode cL_law 955 = .ok (.iconst 2, 1) := by decide +kernel
theorem dL_law_956 : decode cL_law 956 = .ok (.iadd, 1) := by decide +kernel
theorem dL_law_957 : decode cL_law 957 = .ok (.iaload, 1) := by decide +kernel
theorem dL_law_958 : decode cL_law 958 = .ok (.aload_n 0, 1) := by decide +kernel
theorem dL_law_959 : decode cL_law 959 = .ok (.iload_n 3, 1) := by decide +kernel
theorem dL_law_960 : decode cL_law 960 = .ok (.iconst 3, 1) := by decide +kernel
theorem dL_law_961 : decode cL_law 961 = .ok (.iadd, 1) := by decide +kernel
theorem dL_law_962 : decode cL_law 962 = .ok (.iaload, 1) := by decide +kernel
theorem dL_law_963 : decode cL_law 963 = .ok (.invokevirtual 137, 3) := by decide +kernel
theorem dL_law_966 : decode cL_law 966 = .ok (.if_icmp .eq 74, 3) := by decide +kernel
theorem dL_law_969 : decode cL_law 969 = .ok (.iconst 0, 1) := by decide +kernel
theorem dL_law_970 : decode cL_law 970 = .ok (.ireturn, 1) := by decide +kernel
theorem dL_law_971 : decode cL_law 971 = .ok (.aload_n 1, 1) := by decide +kernel
theorem dL_law_972 : decode cL_law 972 = .ok (.aload_n 0, 1) := by decide +kernel
theorem dL_law_973 : decode cL_law 973 = .ok (.iload_n 3, 1) := by decide +kernel
theorem dL_law_974 : decode cL_law 974 = .ok (.iconst 1, 1) := by decide +kernel
theorem dL_law_975 : decode cL_law 975 = .ok (.iadd, 1) := by decide +kernel
theorem dL_law_976 : decode cL_law 976 = .ok (.iaload, 1) := by decide +kernel
theorem dL_law_977 : decode cL_law 977 = .ok (.invokevirtual 138, 3) := by decide +kernel
theorem dL_law_980 : decode cL_law 980 = .ok (.aload_n 2, 1) := by decide +kernel
theorem dL_law_981 : decode cL_law 981 = .ok (.aload_n 0, 1) := by decide +kernel
theorem dL_law_982 : decode cL_law 982 = .ok (.iload_n 3, 1) := by decide +kernel
theorem dL_law_983 : decode cL_law 983 = .ok (.iconst 1, 1) := by decide +kernel
theorem dL_law_984 : decode cL_law 984 = .ok (.iadd, 1) := by decide +kernel
theorem dL_law_985 : decode cL_law 985 = .ok (.iaload, 1) := by decide +kernel
theorem dL_law_986 : decode cL_law 986 = .ok (.invokevirtual 141, 3) := by decide +kernel
theorem dL_law_989 : decode cL_law 989 = .ok (.if_icmp .eq 51, 3) := by decide +kernel
theorem dL_law_992 : decode cL_law 992 = .ok (.iconst 0, 1) := by decide +kernel
theorem dL_law_993 : decode cL_law 993 = .ok (.ireturn, 1) := by decide +kernel
theorem dL_law_994 : decode cL_law 994 = .ok (.aload_n 1, 1) := by decide +kernel
theorem dL_law_995 : decode cL_law 995 = .ok (.aload_n 0, 1) := by decide +kernel
theorem dL_law_996 : decode cL_law 996 = .ok (.iload_n 3, 1) := by decide +kernel
theorem dL_law_997 : decode cL_law 997 = .ok (.iconst 1, 1) := by decide +kernel
theorem dL_law_998 : decode cL_law 998 = .ok (.iadd, 1) := by decide +kernel
theorem dL_law_999 : decode cL_law 999 = .ok (.iaload, 1) := by decide +kernel
theorem dL_law_1000 : decode cL_law 1000 = .ok (.invokevirtual 142, 3) := by decide +kernel
theorem dL_law_1003 : decode cL_law 1003 = .ok (.aload_n 2, 1) := by decide +kernel
theorem dL_law_1004 : decode cL_law 1004 = .ok (.aload_n 0, 1) := by decide +kernel
theorem dL_law_1005 : decode cL_law 1005 = .ok (.iload_n 3, 1) := by decide +kernel
theorem dL_law_1006 : decode cL_law 1006 = .ok (.iconst 1, 1) := by decide +kernel
theorem dL_law_1007 : decode cL_law 1007 = .ok (.iadd, 1) := by decide +kernel
theorem dL_law_1008 : decode cL_law 1008 = .ok (.iaload, 1) := by decide +kernel
theorem dL_law_1009 : decode cL_law 1009 = .ok (.invokevirtual 145, 3) := by decide +kernel
theorem dL_law_1012 : decode cL_law 1012 = .ok (.if_icmp .eq 28, 3) := by decide +kernel
theorem dL_law_1015 : decode cL_law 1015 = .ok (.iconst 0, 1) := by decide +kernel
theorem dL_law_1016 : decode cL_law 1016 = .ok (.ireturn, 1) := by decide +kernel
theorem dL_law_1017 : decode cL_law 1017 = .ok (.aload_n 1, 1) := by decide +kernel
theorem dL_law_1018 : decode cL_law 1018 = .ok (.aload_n 0, 1) := by decide +kernel
theorem dL_law_1019 : decode cL_law 1019 = .ok (.iload_n 3, 1) := by decide +kernel
theorem dL_law_1020 : decode cL_law 1020 = .ok (.iconst 1, 1) := by decide +kernel
theorem dL_law_1021 : decode cL_law 1021 = .ok (.iadd, 1) := by decide +kernel
theorem dL_law_1022 : decode cL_law 1022 = .ok (.iaload, 1) := by decide +kernel
theorem dL_law_1023 : decode cL_law 1023 = .ok (.invokevirtual 146, 3) := by decide +kernel
theorem dL_law_1026 : decode cL_law 1026 = .ok (.aload_n 2, 1) := by decide +kernel
theorem dL_law_1027 : decode cL_law 1027 = .ok (.aload_n 0, 1) := by decide +kernel
theorem dL_law_1028 : decode cL_law 1028 = .ok (.iload_n 3, 1) := by decide +kernel
theorem dL_law_1029 : decode cL_law 1029 = .ok (.iconst 1, 1) := by decide +kernel
theorem dL_law_1030 : decode cL_law 1030 = .ok (.iadd, 1) := by decide +kernel
theorem dL_law_1031 : decode cL_law 1031 = .ok (.iaload, 1) := by decide +kernel
theorem dL_law_1032 : decode cL_law 1032 = .ok (.invokevirtual 149, 3) := by decide +kernel
theorem dL_law_1035 : decode cL_law 1035 = .ok (.if_icmp .eq 5, 3) := by decide +kernel
theorem dL_law_1038 : decode cL_law 1038 = .ok (.iconst 0, 1) := by decide +kernel
theorem dL_law_1039 : decode cL_law 1039 = .ok (.ireturn, 1) := by decide +kernel
theorem dL_law_1040 : decode cL_law 1040 = .ok (.iinc 3 4, 3) := by decide +kernel
theorem dL_law_1043 : decode cL_law 1043 = .ok (.goto (-1025), 3) := by decide +kernel
theorem dL_law_1046 : decode cL_law 1046 = .ok (.iconst 1, 1) := by decide +kernel
theorem dL_law_1047 : decode cL_law 1047 = .ok (.ireturn, 1) := by decide +kernel
end
section
/-! the world: every cell that the law makes, by its number in the order of making; ints and longs by cell and place -/
abbrev Mem : Type := (Nat → Nat → Int32) × (Nat → Nat → Int64)
def gi (M : Mem) (k i : Nat) : Int32 := M.1 k i
def gl (M : Mem) (k i : Nat) : Int64 := M.2 k i
def uI (M : Mem) (k i : Nat) (v : Int32) : Mem := (fun a j => if a = k ∧ j = i then v else M.1 a j, M.2)
def uL (M : Mem) (k i : Nat) (v : Int64) : Mem := (M.1, fun a j => if a = k ∧ j = i then v else M.2 a j)
def cpI (M : Mem) (a0 sp a dp n : Nat) : Mem := (fun b j => if b = a then va_cpy (M.1 a0) (M.1 a) sp dp n j else M.1 b j, M.2)
def kdT : List Nat := [7, 6, 9, 1, 9, 9, 9, 9, 9, 9, 9, 9, 9, 9, 9, 1, 9, 9, 9, 9, 9, 9, 9, 9, 9, 9, 9, 2, 12, 1, 9, 9, 9, 9, 9, 9, 9, 9, 9, 9, 9, 1, 9, 9, 9, 9, 9, 9, 9, 9, 9, 9, 9, 1, 9, 9, 9, 9, 9, 9, 9, 9, 9, 9, 9, 1, 9, 9, 9, 9, 9, 9, 9, 9, 9, 9, 9, 1, 9, 9, 9, 9, 9, 9, 9, 9, 9, 9, 9, 1, 9, 9, 9, 9, 9, 9, 9, 9, 9, 9, 9, 1, 9, 9, 9, 9, 9, 9, 9, 9, 9, 9, 9, 1, 9, 9, 9, 9, 9, 9, 9, 9, 9, 9, 9, 1, 9, 9, 9, 9, 9, 9, 9, 9, 9, 9, 9, 1, 9, 9, 9, 9, 9, 9, 9, 9, 9, 9, 9, 1, 9, 9, 9, 9, 9, 9, 9, 9, 9, 9, 9, 1, 9, 9, 9, 9, 9, 9, 9, 9, 9, 9, 9, 1, 9, 9, 9, 9, 9, 9, 9, 9, 9, 9, 9, 1, 9, 9, 9, 9, 9, 9, 9, 9, 9, 9, 9, 1, 9, 9, 9, 9, 9, 9, 9, 9, 9, 9, 9, 1, 9, 9, 9, 9, 9, 9, 9, 9, 9, 9, 9, 1, 9, 9, 9, 9, 9, 9, 9, 9, 9, 9, 9, 1, 9, 9, 9, 9, 9, 9, 9, 9, 9, 9, 9, 1, 9, 9, 9, 9, 9, 9, 9, 9, 9, 9, 9, 1, 9, 9, 9, 9, 9, 9, 9, 9, 9, 9, 9, 12, 1, 9, 9, 9, 9, 9, 9, 9, 9, 9, 9, 9, 1, 9, 9, 9, 9, 9, 9, 9, 9, 9, 9, 9, 3, 9, 9, 9, 9, 5, 9, 9, 9, 9, 9, 9, 9, 13, 9, 9, 9, 9, 9, 9, 9, 0, 13, 9, 9, 9, 9, 9, 9, 4, 10, 9, 8, 9, 9, 9, 9, 11, 9, 9, 9, 9, 9, 9, 9]
def lnT : List Nat := [0, 0, 110, 0, 4, 6, 6, 6, 6, 8, 8, 8, 8, 8, 8, 0, 4, 6, 6, 6, 6, 8, 8, 8, 8, 8, 8, 0, 20, 0, 4, 6, 6, 6, 6, 8, 8, 8, 8, 8, 8, 0, 4, 6, 6, 6, 6, 8, 8, 8, 8, 8, 8, 0, 4, 6, 6, 6, 6, 8, 8, 8, 8, 8, 8, 0, 4, 6, 6, 6, 6, 8, 8, 8, 8, 8, 8, 0, 4, 6, 6, 6, 6, 8, 8, 8, 8, 8, 8, 0, 4, 6, 6, 6, 6, 8, 8, 8, 8, 8, 8, 0, 4, 6, 6, 6, 6, 8, 8, 8, 8, 8, 8, 0, 4, 6, 6, 6, 6, 8, 8, 8, 8, 8, 8, 0, 4, 6, 6, 6, 6, 8, 8, 8, 8, 8, 8, 0, 4, 6, 6, 6, 6, 8, 8, 8, 8, 8, 8, 0, 4, 6, 6, 6, 6, 8, 8, 8, 8, 8, 8, 0, 4, 6, 6, 6, 6, 8, 8, 8, 8, 8, 8, 0, 4, 6, 6, 6, 6, 8, 8, 8, 8, 8, 8, 0, 4, 6, 6, 6, 6, 8, 8, 8, 8, 8, 8, 0, 4, 6, 6, 6, 6, 8, 8, 8, 8, 8, 8, 0, 4, 6, 6, 6, 6, 8, 8, 8, 8, 8, 8, 0, 4, 6, 6, 6, 6, 8, 8, 8, 8, 8, 8, 0, 4, 6, 6, 6, 6, 8, 8, 8, 8, 8, 8, 0, 4, 6, 6, 6, 6, 8, 8, 8, 8, 8, 8, 0, 4, 6, 6, 6, 6, 8, 8, 8, 8, 8, 8, 2, 0, 4, 6, 6, 6, 6, 8, 8, 8, 8, 8, 8, 0, 4, 6, 6, 6, 6, 8, 8, 8, 8, 8, 8, 0, 8, 8, 256, 256, 0, 6, 6, 6, 6, 6, 8, 256, 6, 256, 256, 256, 256, 256, 256, 6, 0, 6, 256, 256, 256, 256, 256, 256, 0, 256, 256, 0, 89, 89, 1780, 178, 2, 110, 2048, 2048, 7, 8, 8, 256]
def rfT : List (List Nat) := [[1, 3, 15, 27, 269, 294, 299, 315, 323], [2, 0, 0, 0], [], [0, 0, 0, 0, 0, 0, 0, 0, 0, 4, 5, 6, 7, 8, 9, 10, 11, 12, 13, 14], [], [], [], [], [], [], [], [], [], [], [], [0, 0, 0, 0, 0, 0, 0, 0, 0, 16, 17, 18, 19, 20, 21, 22, 23, 24, 25, 26], [], [], [], [], [], [], [], [], [], [], [], [28, 0, 0], [29, 41, 53, 65, 77, 89, 101, 113, 125, 137, 149, 161, 173, 185, 197, 209, 221, 233, 245, 257], [0, 0, 0, 0, 0, 0, 0, 0, 0, 30, 31, 32, 33, 34, 35, 36, 37, 38, 39, 40], [], [], [], [], [], [], [], [], [], [], [], [0, 0, 0, 0, 0, 0, 0, 0, 0, 42, 43, 44, 45, 46, 47, 48, 49, 50, 51, 52], [], [], [], [], [], [], [], [], [], [], [], [0, 0, 0, 0, 0, 0, 0, 0, 0, 54, 55, 56, 57, 58, 59, 60, 61, 62, 63, 64], [], [], [], [], [], [], [], [], [], [], [], [0, 0, 0, 0, 0, 0, 0, 0, 0, 66, 67, 68, 69, 70, 71, 72, 73, 74, 75, 76], [], [], [], [], [], [], [], [], [], [], [], [0, 0, 0, 0, 0, 0, 0, 0, 0, 78, 79, 80, 81, 82, 83, 84, 85, 86, 87, 88], [], [], [], [], [], [], [], [], [], [], [], [0, 0, 0, 0, 0, 0, 0, 0, 0, 90, 91, 92, 93, 94, 95, 96, 97, 98, 99, 100], [], [], [], [], [], [], [], [], [], [], [], [0, 0, 0, 0, 0, 0, 0, 0, 0, 102, 103, 104, 105, 106, 107, 108, 109, 110, 111, 112], [], [], [], [], [], [], [], [], [], [], [], [0, 0, 0, 0, 0, 0, 0, 0, 0, 114, 115, 116, 117, 118, 119, 120, 121, 122, 123, 124], [], [], [], [], [], [], [], [], [], [], [], [0, 0, 0, 0, 0, 0, 0, 0, 0, 126, 127, 128, 129, 130, 131, 132, 133, 134, 135, 136], [], [], [], [], [], [], [], [], [], [], [], [0, 0, 0, 0, 0, 0, 0, 0, 0, 138, 139, 140, 141, 142, 143, 144, 145, 146, 147, 148], [], [], [], [], [], [], [], [], [], [], [], [0, 0, 0, 0, 0, 0, 0, 0, 0, 150, 151, 152, 153, 154, 155, 156, 157, 158, 159, 160], [], [], [], [], [], [], [], [], [], [], [], [0, 0, 0, 0, 0, 0, 0, 0, 0, 162, 163, 164, 165, 166, 167, 168, 169, 170, 171, 172], [], [], [], [], [], [], [], [], [], [], [], [0, 0, 0, 0, 0, 0, 0, 0, 0, 174, 175, 176, 177, 178, 179, 180, 181, 182, 183, 184], [], [], [], [], [], [], [], [], [], [], [], [0, 0, 0, 0, 0, 0, 0, 0, 0, 186, 187, 188, 189, 190, 191, 192, 193, 194, 195, 196], [], [], [], [], [], [], [], [], [], [], [], [0, 0, 0, 0, 0, 0, 0, 0, 0, 198, 199, 200, 201, 202, 203, 204, 205, 206, 207, 208], [], [], [], [], [], [], [], [], [], [], [], [0, 0, 0, 0, 0, 0, 0, 0, 0, 210, 211, 212, 213, 214, 215, 216, 217, 218, 219, 220], [], [], [], [], [], [], [], [], [], [], [], [0, 0, 0, 0, 0, 0, 0, 0, 0, 222, 223, 224, 225, 226, 227, 228, 229, 230, 231, 232], [], [], [], [], [], [], [], [], [], [], [], [0, 0, 0, 0, 0, 0, 0, 0, 0, 234, 235, 236, 237, 238, 239, 240, 241, 242, 243, 244], [], [], [], [], [], [], [], [], [], [], [], [0, 0, 0, 0, 0, 0, 0, 0, 0, 246, 247, 248, 249, 250, 251, 252, 253, 254, 255, 256], [], [], [], [], [], [], [], [], [], [], [], [0, 0, 0, 0, 0, 0, 0, 0, 0, 258, 259, 260, 261, 262, 263, 264, 265, 266, 267, 268], [], [], [], [], [], [], [], [], [], [], [], [270, 282], [0, 0, 0, 0, 0, 0, 0, 0, 0, 271, 272, 273, 274, 275, 276, 277, 278, 279, 280, 281], [], [], [], [], [], [], [], [], [], [], [], [0, 0, 0, 0, 0, 0, 0, 0, 0, 283, 284, 285, 286, 287, 288, 289, 290, 291, 292, 293], [], [], [], [], [], [], [], [], [], [], [], [295, 296, 297, 298], [], [], [], [], [0, 0, 300, 301, 302, 303, 304, 305, 306, 307, 314], [], [], [], [], [], [], [], [308, 309, 310, 311, 312, 313], [], [], [], [], [], [], [], [316], [317, 318, 319, 320, 321, 322], [], [], [], [], [], [], [324, 325], [], [], [327, 328, 329, 0, 330, 331, 332, 0, 0, 0, 0, 0, 0, 0, 0, 333, 334, 335, 336, 337, 338], [], [], [], [], [], [], [], [], [], [], [], []]
def kd (k : Nat) : Nat := kdT.getD k 99
def ln (k : Nat) : Nat := lnT.getD k 0
def rf (k f : Nat) : Nat := (rfT.getD k []).getD f 0
def nflT : List Nat := [1, 20, 3, 4, 2, 11, 4, 9, 21]
def fintT : List (List Bool) := [[false], [true, true, true, true, true, true, true, true, true, false, false, false, false, false, false, false, false, false, false, false], [false, true, true], [false, false, false, false], [false, false], [true, true, false, false, false, false, false, false, false, false, false], [false, true, true, true], [false, false, false, false, false, false, false, false, false], [false, false, false, true, false, false, false, true, true, true, true, true, true, true, true, false, false, false, false, false, false]]
def nfl (c : Nat) : Nat := nflT.getD c 0
def fint (c f : Nat) : Bool := (fintT.getD c []).getD f false
def NN : Nat := 339
abbrev En : Type := va_G × Nat × (Nat → ClassId) × (Nat → Nat)
def ad (E : En) (k : Nat) : Nat := E.2.1 + k
def AE (E : En) : Nat → Prop := fun q => E.2.1 ≤ q
def cel (E : En) (P : Nat → Nat → Option Nat) (M : Mem) (k : Nat) : va_E :=
  if kd k = 9 then .inl (E.2.2.1 0, ln k, .inl (M.1 k))
  else if kd k = 10 then .inl (E.2.2.1 1, ln k, .inr (.inl (M.2 k)))
  else if kd k = 11 then .inl (E.2.2.1 2, ln k, .inl (M.1 k))
  else if kd k = 12 then .inl (E.2.2.1 3, ln k, .inr (.inr (.inr (.inr (fun j => (P k j).map (ad E))))))
  else if kd k = 13 then .inl (E.2.2.1 4, ln k, .inr (.inr (.inr (.inr (fun j => (P k j).map (ad E))))))
  else .inr (kd k, (List.range (nfl (kd k))).map (fun f => if fint (kd k) f = true then .int (M.1 k f) else va_rf ((P k f).map (ad E))))
def wl (E : En) (n : Nat) (P : Nat → Nat → Option Nat) (M : Mem) : va_W := (List.range n).map (fun k => (ad E k, cel E P M k))
def PF (k f : Nat) : Option Nat := some (rf k f)
def tysE (E : En) : List (ClassId × FieldType) := [(E.2.2.1 0, .int), (E.2.2.1 1, .long), (E.2.2.1 2, .boolean), (E.2.2.1 3, .object "FilmCans$Day"), (E.2.2.1 4, .array .int)]
theorem wl_get {E : En} {n : Nat} {P : Nat → Nat → Option Nat} {M : Mem} {k : Nat} (h : k < n) : (wl E n P M)[k]? = some (ad E k, cel E P M k) := by
  simp [wl, h]
theorem wl_len {E : En} {n : Nat} {P : Nat → Nat → Option Nat} {M : Mem} : (wl E n P M).length = n := by simp [wl]
theorem wl_D {E : En} {n : Nat} {P : Nat → Nat → Option Nat} {M : Mem} : va_D (AE E) (wl E n P M) := by
  refine ⟨fun i j p q hi hj he => ?_, fun k q hk => ?_⟩
  · have h1 : i < n := by have := (List.getElem?_eq_some_iff.mp hi).1; rwa [wl_len] at this
    have h2 : j < n := by have := (List.getElem?_eq_some_iff.mp hj).1; rwa [wl_len] at this
    rw [wl_get h1] at hi
    rw [wl_get h2] at hj
    cases hi; cases hj
    simp only [ad] at he
    omega
  · have h1 : k < n := by have := (List.getElem?_eq_some_iff.mp hk).1; rwa [wl_len] at this
    rw [wl_get h1] at hk
    cases hk
    show E.2.1 ≤ E.2.1 + k
    omega
theorem wl_set {E : En} {n : Nat} {P P' : Nat → Nat → Option Nat} {M M' : Mem} {k : Nat} {e : va_E} (ho : ∀ j, j ≠ k → cel E P' M' j = cel E P M j) (he : cel E P' M' k = e) : (wl E n P M).set k (ad E k, e) = wl E n P' M' := by
  apply List.ext_getElem?
  intro j
  rw [List.getElem?_set]
  by_cases hj : k = j
  · subst hj
    by_cases hk : k < n
    · rw [if_pos rfl, wl_len, if_pos hk, wl_get hk, he]
    · simp [wl_len, hk, wl]
  · rw [if_neg hj]
    by_cases hk : j < n
    · rw [wl_get hk, wl_get hk, ho j (fun q => hj q.symm)]
    · simp [wl, hk]
section
variable {E : En} {P : Nat → Nat → Option Nat} {M : Mem} {k : Nat}
theorem cel_I (h : kd k = 9) : cel E P M k = .inl (E.2.2.1 0, ln k, .inl (M.1 k)) := by simp [cel, h]
theorem cel_J (h : kd k = 10) : cel E P M k = .inl (E.2.2.1 1, ln k, .inr (.inl (M.2 k))) := by simp [cel, h]
theorem cel_Z (h : kd k = 11) : cel E P M k = .inl (E.2.2.1 2, ln k, .inl (M.1 k)) := by simp [cel, h]
theorem cel_Y (h : kd k = 12) : cel E P M k = .inl (E.2.2.1 3, ln k, .inr (.inr (.inr (.inr (fun j => (P k j).map (ad E)))))) := by simp [cel, h]
theorem cel_A (h : kd k = 13) : cel E P M k = .inl (E.2.2.1 4, ln k, .inr (.inr (.inr (.inr (fun j => (P k j).map (ad E)))))) := by simp [cel, h]
theorem cel_O {c : Nat} (h : kd k = c) (hc : c < 9) : cel E P M k = .inr (c, (List.range (nfl c)).map (fun f => if fint c f = true then .int (M.1 k f) else va_rf ((P k f).map (ad E)))) := by
  subst h
  simp only [cel]
  rw [if_neg (by omega), if_neg (by omega), if_neg (by omega), if_neg (by omega), if_neg (by omega)]
theorem cel_ne {M' : Mem} {j : Nat} (h1 : M'.1 j = M.1 j) (h2 : M'.2 j = M.2 j) : cel E P M' j = cel E P M j := by
  simp only [cel, h1, h2]
theorem uI_ne {i j : Nat} {v : Int32} (h : j ≠ k) : (uI M k i v).1 j = M.1 j := by
  funext q
  simp [uI, h]
theorem uI_eq {i : Nat} {v : Int32} : (uI M k i v).1 k = upd (M.1 k) i v := by
  funext q
  simp [uI, upd]
theorem uL_ne {i j : Nat} {v : Int64} (h : j ≠ k) : (uL M k i v).2 j = M.2 j := by
  funext q
  simp [uL, h]
theorem uL_eq {i : Nat} {v : Int64} : (uL M k i v).2 k = vp_updL (M.2 k) i v := by
  funext q
  simp [uL, vp_updL]
theorem wl_uI {n i : Nat} {v : Int32} {e : va_E} (he : cel E P (uI M k i v) k = e) : (wl E n P M).set k (ad E k, e) = wl E n P (uI M k i v) := wl_set (fun _ hj => cel_ne (uI_ne hj) rfl) he
theorem wl_uL {n i : Nat} {v : Int64} {e : va_E} (he : cel E P (uL M k i v) k = e) : (wl E n P M).set k (ad E k, e) = wl E n P (uL M k i v) := wl_set (fun _ hj => cel_ne rfl (uL_ne hj)) he
theorem wl_cp {n a0 sp dp q : Nat} {e : va_E} (he : cel E P (cpI M a0 sp k dp q) k = e) : (wl E n P M).set k (ad E k, e) = wl E n P (cpI M a0 sp k dp q) := wl_set (fun _ hj => cel_ne (by funext z; simp [cpI, hj]) rfl) he
end
theorem cel_putI {E : En} {P : Nat → Nat → Option Nat} {M : Mem} {k c f : Nat} {v : Int32} (h : kd k = c) (hc : c < 9) (hf : f < nfl c) (hi : fint c f = true) : cel E P (uI M k f v) k = .inr (c, ((List.range (nfl c)).map (fun f => if fint c f = true then Value.int (M.1 k f) else va_rf ((P k f).map (ad E)))).set f (.int v)) := by
  rw [cel_O h hc]
  congr 2
  apply List.ext_getElem?
  intro j
  rw [List.getElem?_set]
  by_cases hj : f = j
  · subst hj
    simp [hf, hi, uI]
  · rw [if_neg hj]
    by_cases hk : j < nfl c
    · simp [hk, uI, Ne.symm hj]
    · simp [hk]
/-! the four static rows -/
def cLL : Nat → Int32 := fun j => ([0, 1, 10, 0] : List Int32).getD j 0
def cLM : Nat → Int32 := fun j => ([9, 40, 99, 20] : List Int32).getD j 0
def cIS : Nat → Int32 := fun j => ([1, 3, 7, 11, 17, 49] : List Int32).getD j 0
def cWO : Nat → Int64 := fun j => ([0x5555555555555555, 0x3333333333333333, 0x0f0f0f0f0f0f0f0f, 0x00ff00ff00ff00ff, 0x0000ffff0000ffff, 0x00000000ffffffff] : List Int64).getD j 0
/-! what holds of the machine around the world -/
def nmL : List (String × Nat × MethodName × String) := [("FilmCans", 9, ⟨"FilmCans$Tape", "<init>", "()V"⟩, "FilmCans"), ("FilmCans", 18, ⟨"FilmCans$Day", "<init>", "()V"⟩, "FilmCans"), ("FilmCans$History", 17, ⟨"FilmCans$Day", "<init>", "()V"⟩, "FilmCans"), ("FilmCans", 39, ⟨"FilmCans$Laboratory", "<init>", "()V"⟩, "FilmCans"), ("FilmCans", 46, ⟨"FilmCans$Rooms", "<init>", "()V"⟩, "FilmCans"), ("FilmCans", 53, ⟨"FilmCans$Best", "<init>", "()V"⟩, "FilmCans"), ("FilmCans", 60, ⟨"FilmCans$Reach", "<init>", "()V"⟩, "FilmCans"), ("FilmCans$Reach", 62, ⟨"FilmCans", "power", "(II)J"⟩, "FilmCans")]
def nfL : List (String × Nat × String × String × String × String) := [("FilmCans$Tape", 41, "FilmCans", "LAW_LEAST", "[I", "FilmCans"), ("FilmCans$Tape", 44, "FilmCans", "LAW_MOST", "[I", "FilmCans")]
def VS (E : En) (U : State) (H : Heap) : Prop :=
  va_K E.1 vwCl (tysE E) U ∧ (∀ q ∈ nmL, va_Nw (.methodLinkNest q.1 q.2.1 q.2.2.1 q.2.2.2) U) ∧ (∀ q ∈ nfL, va_Nw (.fieldLinkNest q.1 q.2.1 q.2.2.1 q.2.2.2.1 q.2.2.2.2.1 q.2.2.2.2.2) U) ∧
  (va_Z "FilmCans" "LAW_LEAST" "[I" (.ref (E.2.2.2 0)) (AE E) U H ∧ va_T .int (E.2.2.2 0) 4 (fun j => .int (cLL j)) (AE E) U H) ∧
  (va_Z "FilmCans" "LAW_MOST" "[I" (.ref (E.2.2.2 1)) (AE E) U H ∧ va_T .int (E.2.2.2 1) 4 (fun j => .int (cLM j)) (AE E) U H) ∧
  (va_Z "FilmCans$Kinds" "IS" "[I" (.ref (E.2.2.2 2)) (AE E) U H ∧ va_T .int (E.2.2.2 2) 6 (fun j => .int (cIS j)) (AE E) U H) ∧
  (va_Z "FilmCans$Reach" "WITHOUT" "[J" (.ref (E.2.2.2 3)) (AE E) U H ∧ va_T .long (E.2.2.2 3) 6 (fun j => .long (cWO j)) (AE E) U H)
theorem VS.warm {E : En} {s U : State} {H : Heap} (hW : s.WarmedH U.vm) (h : VS E s H) : VS E U H := by
  obtain ⟨h1, h2, h3, ⟨a1, a2⟩, ⟨b1, b2⟩, ⟨c1, c2⟩, ⟨d1, d2⟩⟩ := h
  exact ⟨h1.moved hW.alike, fun q hq => va_Nw.warmM hW (h2 q hq), fun q hq => va_Nw.warmF hW (h3 q hq), ⟨va_Z.moved hW.alike a1, va_T.moved hW.alike a2⟩, ⟨va_Z.moved hW.alike b1, va_T.moved hW.alike b2⟩, ⟨va_Z.moved hW.alike c1, va_T.moved hW.alike c2⟩, ⟨va_Z.moved hW.alike d1, va_T.moved hW.alike d2⟩⟩
theorem VS.kept {E : En} {U : State} {H H1 : Heap} (hq : ∀ a : Nat, a < H.size → ¬ AE E a → H1[a]? = H[a]?) (h : VS E U H) : VS E U H1 := by
  obtain ⟨h1, h2, h3, ⟨a1, a2⟩, ⟨b1, b2⟩, ⟨c1, c2⟩, ⟨d1, d2⟩⟩ := h
  exact ⟨h1, h2, h3, ⟨a1.kept hq, a2.kept hq⟩, ⟨b1.kept hq, b2.kept hq⟩, ⟨c1.kept hq, c2.kept hq⟩, ⟨d1.kept hq, d2.kept hq⟩⟩
theorem VS.same {E : En} {u U : State} {H : Heap} (hv : u.vm = U.vm) (h : VS E u H) : VS E U H := by
  have ha : u.vm.Alike U.vm := by rw [hv]; exact Vm.Alike.refl _
  obtain ⟨h1, h2, h3, ⟨a1, a2⟩, ⟨b1, b2⟩, ⟨c1, c2⟩, ⟨d1, d2⟩⟩ := h
  exact ⟨h1.moved ha, fun q hq => va_Nw.same rfl hv (h2 q hq), fun q hq => va_Nw.same rfl hv (h3 q hq), ⟨va_Z.moved ha a1, va_T.moved ha a2⟩, ⟨va_Z.moved ha b1, va_T.moved ha b2⟩, ⟨va_Z.moved ha c1, va_T.moved ha c2⟩, ⟨va_Z.moved ha d1, va_T.moved ha d2⟩⟩
def WS (E : En) (M : Mem) (U : State) : Prop := va_P E.1 vwCl (wl E NN PF M) U.heap ∧ VS E U U.heap
def wAll : List Cond := lw_tbl.filter goodWord
theorem wAll_of {w : Cond} (h : w ∈ lw_tbl) (hg : goodWord w = true) : w ∈ wAll := List.mem_filter.mpr ⟨h, hg⟩
theorem wAll_good {ws : List Cond} (h : ∀ w ∈ ws, w ∈ wAll) : GoodIn wAll ws := fun w hw => ⟨h w hw, good_of_word (List.mem_filter.mp (h w hw)).2⟩
theorem wAll_code {y : MethodName} {bytes : ByteArray} {n : Nat} {rt : Option FieldType} (h : Cond.code y bytes n rt ∈ wAll) : GoodIn wAll (Cond.code y bytes n rt :: wAll) := wAll_good fun w hw => (List.mem_cons.mp hw).elim (fun e => e ▸ h) (fun h => h)
/-! the walk's context and judgement -/
abbrev ZT : Type := Program × Launch × Env × Room × State × MethodId × Array Value × List Frame × Method × Code
abbrev zp (Z : ZT) : Program := Z.1
abbrev zl (Z : ZT) : Launch := Z.2.1
abbrev ze (Z : ZT) : Env := Z.2.2.1
abbrev zR (Z : ZT) : Room := Z.2.2.2.1
abbrev zs (Z : ZT) : State := Z.2.2.2.2.1
abbrev zm (Z : ZT) : MethodId := Z.2.2.2.2.2.1
abbrev za (Z : ZT) : Array Value := Z.2.2.2.2.2.2.1
abbrev zb (Z : ZT) : List Frame := Z.2.2.2.2.2.2.2.1
abbrev zt (Z : ZT) : Method := Z.2.2.2.2.2.2.2.2.1
abbrev zc (Z : ZT) : Code := Z.2.2.2.2.2.2.2.2.2
def Cx (Z : ZT) (E : En) (nL : Nat) (cc : ByteArray) (own : String) (rt : Option FieldType) (fr lo : Nat) : Prop :=
  (zp Z).tables.exec = Jvm.exec ∧ (zc Z).code = cc ∧ (zc Z).maxLocals = nL ∧ (zs Z).vm.findClass own = some (zm Z).cls ∧ (∀ w ∈ wAll, w.before (za Z) (zs Z) = true) ∧ VS E (zs Z) (zs Z).heap ∧ (zt Z).locks = false ∧ (zt Z).sig.returnType = rt ∧ fr ≤ (zR Z).frames ∧ lo ≤ (zR Z).locals
def Kj {ρ : Type} (Z : ZT) (E : En) (nL : Nat) (Qf : ρ → Mem → State → Prop) (o : Option (ρ × Mem)) (M : Mem) (pc : Nat) (lv : List (Nat × Value)) (st : List Value) : Prop :=
  ∀ (r : ρ) (M' : Mem), o = some (r, M') → ∀ (H : Heap) (locs : List Loc) (ls : Array Slot), va_P E.1 vwCl (wl E NN PF M) H → va_S (AE E) (zs Z).heap H locs → lv_has ls nL lv → W (zp Z) (zl Z) (ze Z) (zR Z) (zs Z) (zm Z) (za Z) (zb Z) (zt Z) (zc Z) H locs 0 0 (Qf r M') (F0 (zm Z) pc ls st)
def CI (E : En) (r : Int32) (M' : Mem) : Array Value → State → Outcome → State → Prop := va_Qi (fun (r' : Int32) (u : Mem) => r' = r ∧ u = M') (fun u t => WS E u t) (AE E)
def CL (E : En) (r : Int64) (M' : Mem) : Array Value → State → Outcome → State → Prop := va_Ql (fun (r' : Int64) (u : Mem) => r' = r ∧ u = M') (fun u t => WS E u t) (AE E)
def CV (E : En) (M' : Mem) : Array Value → State → Outcome → State → Prop := va_Qv (fun (u : Mem) => u = M') (fun u t => WS E u t) (AE E)
def QI (Z : ZT) (E : En) : Int32 → Mem → State → Prop := fun r M' => MQ (zb Z) (CI E r M') (za Z) (zs Z) 0 0 (AE E)
def QL (Z : ZT) (E : En) : Int64 → Mem → State → Prop := fun r M' => MQ (zb Z) (CL E r M') (za Z) (zs Z) 0 0 (AE E)
def QV (Z : ZT) (E : En) : Unit → Mem → State → Prop := fun _ M' => MQ (zb Z) (CV E M') (za Z) (zs Z) 0 0 (AE E)
abbrev rmO (fr lo : Nat) : Room := { frames := fr, cells := 0, slots := 0, locals := lo }
def MI (l : Launch) (E : En) (y : MethodName) (bytes : ByteArray) (n : Nat) (rt : Option FieldType) (fr lo : Nat) (vs : List Value) (M : Mem) (o : Option (Int32 × Mem)) : Prop := ∀ (r : Int32) (M' : Mem), o = some (r, M') → Met l y (Cond.code y bytes n rt :: wAll) (rmO fr lo) (va_Pc vs (WS E M)) (CI E r M') 0 0 (AE E)
def ML (l : Launch) (E : En) (y : MethodName) (bytes : ByteArray) (n : Nat) (rt : Option FieldType) (fr lo : Nat) (vs : List Value) (M : Mem) (o : Option (Int64 × Mem)) : Prop := ∀ (r : Int64) (M' : Mem), o = some (r, M') → Met l y (Cond.code y bytes n rt :: wAll) (rmO fr lo) (va_Pc vs (WS E M)) (CL E r M') 0 0 (AE E)
def MV (l : Launch) (E : En) (y : MethodName) (bytes : ByteArray) (n : Nat) (rt : Option FieldType) (fr lo : Nat) (vs : List Value) (M : Mem) (o : Option (Unit × Mem)) : Prop := ∀ (r : Unit) (M' : Mem), o = some (r, M') → Met l y (Cond.code y bytes n rt :: wAll) (rmO fr lo) (va_Pc vs (WS E M)) (CV E M') 0 0 (AE E)
def inb (i : Int32) (n : Nat) : Bool := decide (0 ≤ i.toInt) && decide (i.toInt < (n : Int))
def ix (i : Int32) : Nat := i.toNatClampNeg
def gd {α : Type} (b : Bool) (o : Option α) : Option α := if b = true then o else none
def bd {ρ σ : Type} (o : Option (ρ × Mem)) (f : ρ → Mem → Option (σ × Mem)) : Option (σ × Mem) := match o with
  | none => none
  | some (r, M) => f r M
theorem inb_in {i : Int32} {n : Nat} (h : inb i n = true) : vp_in i n := by
  simp only [inb, Bool.and_eq_true, decide_eq_true_eq] at h
  exact vp_in_iff.mpr h
theorem AE_new {E : En} {Z : ZT} {H : Heap} {M : Mem} (h : va_P E.1 vwCl (wl E NN PF M) H) : E.2.1 + NN ≤ H.size := by
  have h1 := h (NN - 1) _ (wl_get (by decide))
  have h2 := va_at.lt h1
  simp only [ad] at h2
  have : NN = 339 := rfl
  omega
end
section
theorem k_iconst {Z : ZT} {E : En} {nL : Nat} {cc : ByteArray} {own : String} {rt : Option FieldType} {fr lo : Nat} {ρ : Type} {Qf : ρ → Mem → State → Prop} {o : Option (ρ × Mem)} {M : Mem} {pc : Nat} {lv : List (Nat × Value)} {rest : List Value} (X : Cx Z E nL cc own rt fr lo) {n : Int} {v : Int32} (d : decode cc pc = .ok (.iconst n, 1)) (hv : Int32.ofInt n = v) (k : Kj Z E nL Qf o M (pc + 1) lv (.int v :: rest)) : Kj Z E nL Qf o M pc lv rest :=
  fun r M' h H locs ls hP hS hl => lv_iconst X.1 X.2.1 d hv (k r M' h H locs ls hP hS hl)
theorem k_bipush {Z : ZT} {E : En} {nL : Nat} {cc : ByteArray} {own : String} {rt : Option FieldType} {fr lo : Nat} {ρ : Type} {Qf : ρ → Mem → State → Prop} {o : Option (ρ × Mem)} {M : Mem} {pc : Nat} {lv : List (Nat × Value)} {rest : List Value} (X : Cx Z E nL cc own rt fr lo) {n : Int} {v : Int32} (d : decode cc pc = .ok (.bipush n, 2)) (hv : (Int8.ofInt n).toInt32 = v) (k : Kj Z E nL Qf o M (pc + 2) lv (.int v :: rest)) : Kj Z E nL Qf o M pc lv rest :=
  fun r M' h H locs ls hP hS hl => lv_bipush X.1 X.2.1 d hv (k r M' h H locs ls hP hS hl)
theorem k_sipush {Z : ZT} {E : En} {nL : Nat} {cc : ByteArray} {own : String} {rt : Option FieldType} {fr lo : Nat} {ρ : Type} {Qf : ρ → Mem → State → Prop} {o : Option (ρ × Mem)} {M : Mem} {pc : Nat} {lv : List (Nat × Value)} {rest : List Value} (X : Cx Z E nL cc own rt fr lo) {n : Int} {v : Int32} (d : decode cc pc = .ok (.sipush n, 3)) (hv : (Int16.ofInt n).toInt32 = v) (k : Kj Z E nL Qf o M (pc + 3) lv (.int v :: rest)) : Kj Z E nL Qf o M pc lv rest :=
  fun r M' h H locs ls hP hS hl => lv_sipush X.1 X.2.1 d hv (k r M' h H locs ls hP hS hl)
theorem k_lconst {Z : ZT} {E : En} {nL : Nat} {cc : ByteArray} {own : String} {rt : Option FieldType} {fr lo : Nat} {ρ : Type} {Qf : ρ → Mem → State → Prop} {o : Option (ρ × Mem)} {M : Mem} {pc : Nat} {lv : List (Nat × Value)} {rest : List Value} (X : Cx Z E nL cc own rt fr lo) {n : Fin 2} {v : Int64} (d : decode cc pc = .ok (.lconst n, 1)) (hv : Int64.ofNat (n : Nat) = v) (k : Kj Z E nL Qf o M (pc + 1) lv (.long v :: rest)) : Kj Z E nL Qf o M pc lv rest :=
  fun r M' h H locs ls hP hS hl => lv_lconst X.1 X.2.1 d hv (k r M' h H locs ls hP hS hl)
theorem k_iload_n {Z : ZT} {E : En} {nL : Nat} {cc : ByteArray} {own : String} {rt : Option FieldType} {fr lo : Nat} {ρ : Type} {Qf : ρ → Mem → State → Prop} {o : Option (ρ × Mem)} {M : Mem} {pc : Nat} {lv : List (Nat × Value)} {rest : List Value} (X : Cx Z E nL cc own rt fr lo) {k : Fin 4} {i : Nat} {x : Int32} (q : Nat) (d : decode cc pc = .ok (.iload_n k, 1)) (hi : (k : Nat) = i) (hq : lv[q]? = some (i, .int x)) (k : Kj Z E nL Qf o M (pc + 1) lv (.int x :: rest)) : Kj Z E nL Qf o M pc lv rest :=
  fun r M' h H locs ls hP hS hl => lv_iload_n X.1 X.2.1 d hi (lv_at hl q hq) (k r M' h H locs ls hP hS hl)
theorem k_iload {Z : ZT} {E : En} {nL : Nat} {cc : ByteArray} {own : String} {rt : Option FieldType} {fr lo : Nat} {ρ : Type} {Qf : ρ → Mem → State → Prop} {o : Option (ρ × Mem)} {M : Mem} {pc : Nat} {lv : List (Nat × Value)} {rest : List Value} (X : Cx Z E nL cc own rt fr lo) {i : Nat} {x : Int32} (q : Nat) (d : decode cc pc = .ok (.iload i, 2)) (hq : lv[q]? = some (i, .int x)) (k : Kj Z E nL Qf o M (pc + 2) lv (.int x :: rest)) : Kj Z E nL Qf o M pc lv rest :=
  fun r M' h H locs ls hP hS hl => lv_iload X.1 X.2.1 d (lv_at hl q hq) (k r M' h H locs ls hP hS hl)
theorem k_istore_n {Z : ZT} {E : En} {nL : Nat} {cc : ByteArray} {own : String} {rt : Option FieldType} {fr lo : Nat} {ρ : Type} {Qf : ρ → Mem → State → Prop} {o : Option (ρ × Mem)} {M : Mem} {pc : Nat} {lv : List (Nat × Value)} {rest : List Value} (X : Cx Z E nL cc own rt fr lo) {k : Fin 4} {i : Nat} {x : Int32} (lv' : List (Nat × Value)) (d : decode cc pc = .ok (.istore_n k, 1)) (hi : (k : Nat) = i) (hn : i < nL) (hf : (i, Value.int x) :: lv.filter (fun q => !(q.1 == i) && !(q.1 + 1 == i && q.2.category == 2)) = lv') (k : Kj Z E nL Qf o M (pc + 1) lv' rest) : Kj Z E nL Qf o M pc lv (.int x :: rest) :=
  fun r M' h H locs ls hP hS hl => lv_istore_n X.1 X.2.1 d hi hl hn hf (fun ls hl => k r M' h H locs ls hP hS hl)
theorem k_istore {Z : ZT} {E : En} {nL : Nat} {cc : ByteArray} {own : String} {rt : Option FieldType} {fr lo : Nat} {ρ : Type} {Qf : ρ → Mem → State → Prop} {o : Option (ρ × Mem)} {M : Mem} {pc : Nat} {lv : List (Nat × Value)} {rest : List Value} (X : Cx Z E nL cc own rt fr lo) {i : Nat} {x : Int32} (lv' : List (Nat × Value)) (d : decode cc pc = .ok (.istore i, 2))  (hn : i < nL) (hf : (i, Value.int x) :: lv.filter (fun q => !(q.1 == i) && !(q.1 + 1 == i && q.2.category == 2)) = lv') (k : Kj Z E nL Qf o M (pc + 2) lv' rest) : Kj Z E nL Qf o M pc lv (.int x :: rest) :=
  fun r M' h H locs ls hP hS hl => lv_istore X.1 X.2.1 d hl hn hf (fun ls hl => k r M' h H locs ls hP hS hl)
theorem k_lload_n {Z : ZT} {E : En} {nL : Nat} {cc : ByteArray} {own : String} {rt : Option FieldType} {fr lo : Nat} {ρ : Type} {Qf : ρ → Mem → State → Prop} {o : Option (ρ × Mem)} {M : Mem} {pc : Nat} {lv : List (Nat × Value)} {rest : List Value} (X : Cx Z E nL cc own rt fr lo) {k : Fin 4} {i : Nat} {x : Int64} (q : Nat) (d : decode cc pc = .ok (.lload_n k, 1)) (hi : (k : Nat) = i) (hq : lv[q]? = some (i, .long x)) (k : Kj Z E nL Qf o M (pc + 1) lv (.long x :: rest)) : Kj Z E nL Qf o M pc lv rest :=
  fun r M' h H locs ls hP hS hl => lv_lload_n X.1 X.2.1 d hi (lv_at hl q hq) (k r M' h H locs ls hP hS hl)
theorem k_lload {Z : ZT} {E : En} {nL : Nat} {cc : ByteArray} {own : String} {rt : Option FieldType} {fr lo : Nat} {ρ : Type} {Qf : ρ → Mem → State → Prop} {o : Option (ρ × Mem)} {M : Mem} {pc : Nat} {lv : List (Nat × Value)} {rest : List Value} (X : Cx Z E nL cc own rt fr lo) {i : Nat} {x : Int64} (q : Nat) (d : decode cc pc = .ok (.lload i, 2)) (hq : lv[q]? = some (i, .long x)) (k : Kj Z E nL Qf o M (pc + 2) lv (.long x :: rest)) : Kj Z E nL Qf o M pc lv rest :=
  fun r M' h H locs ls hP hS hl => lv_lload X.1 X.2.1 d (lv_at hl q hq) (k r M' h H locs ls hP hS hl)
theorem k_lstore_n {Z : ZT} {E : En} {nL : Nat} {cc : ByteArray} {own : String} {rt : Option FieldType} {fr lo : Nat} {ρ : Type} {Qf : ρ → Mem → State → Prop} {o : Option (ρ × Mem)} {M : Mem} {pc : Nat} {lv : List (Nat × Value)} {rest : List Value} (X : Cx Z E nL cc own rt fr lo) {k : Fin 4} {i : Nat} {x : Int64} (lv' : List (Nat × Value)) (d : decode cc pc = .ok (.lstore_n k, 1)) (hi : (k : Nat) = i) (hn : i + 1 < nL) (hf : (i, Value.long x) :: lv.filter (fun q => !(q.1 == i) && (!(q.1 == i + 1) && !(q.1 + 1 == i && q.2.category == 2))) = lv') (k : Kj Z E nL Qf o M (pc + 1) lv' rest) : Kj Z E nL Qf o M pc lv (.long x :: rest) :=
  fun r M' h H locs ls hP hS hl => lv_lstore_n X.1 X.2.1 d hi hl hn hf (fun ls hl => k r M' h H locs ls hP hS hl)
theorem k_lstore {Z : ZT} {E : En} {nL : Nat} {cc : ByteArray} {own : String} {rt : Option FieldType} {fr lo : Nat} {ρ : Type} {Qf : ρ → Mem → State → Prop} {o : Option (ρ × Mem)} {M : Mem} {pc : Nat} {lv : List (Nat × Value)} {rest : List Value} (X : Cx Z E nL cc own rt fr lo) {i : Nat} {x : Int64} (lv' : List (Nat × Value)) (d : decode cc pc = .ok (.lstore i, 2))  (hn : i + 1 < nL) (hf : (i, Value.long x) :: lv.filter (fun q => !(q.1 == i) && (!(q.1 == i + 1) && !(q.1 + 1 == i && q.2.category == 2))) = lv') (k : Kj Z E nL Qf o M (pc + 2) lv' rest) : Kj Z E nL Qf o M pc lv (.long x :: rest) :=
  fun r M' h H locs ls hP hS hl => lv_lstore X.1 X.2.1 d hl hn hf (fun ls hl => k r M' h H locs ls hP hS hl)
theorem k_aload_n {Z : ZT} {E : En} {nL : Nat} {cc : ByteArray} {own : String} {rt : Option FieldType} {fr lo : Nat} {ρ : Type} {Qf : ρ → Mem → State → Prop} {o : Option (ρ × Mem)} {M : Mem} {pc : Nat} {lv : List (Nat × Value)} {rest : List Value} (X : Cx Z E nL cc own rt fr lo) {k : Fin 4} {i : Nat} {x : Nat} (q : Nat) (d : decode cc pc = .ok (.aload_n k, 1)) (hi : (k : Nat) = i) (hq : lv[q]? = some (i, .ref x)) (k : Kj Z E nL Qf o M (pc + 1) lv (.ref x :: rest)) : Kj Z E nL Qf o M pc lv rest :=
  fun r M' h H locs ls hP hS hl => lv_aload_n X.1 X.2.1 d hi (lv_at hl q hq) (k r M' h H locs ls hP hS hl)
theorem k_aload {Z : ZT} {E : En} {nL : Nat} {cc : ByteArray} {own : String} {rt : Option FieldType} {fr lo : Nat} {ρ : Type} {Qf : ρ → Mem → State → Prop} {o : Option (ρ × Mem)} {M : Mem} {pc : Nat} {lv : List (Nat × Value)} {rest : List Value} (X : Cx Z E nL cc own rt fr lo) {i : Nat} {x : Nat} (q : Nat) (d : decode cc pc = .ok (.aload i, 2)) (hq : lv[q]? = some (i, .ref x)) (k : Kj Z E nL Qf o M (pc + 2) lv (.ref x :: rest)) : Kj Z E nL Qf o M pc lv rest :=
  fun r M' h H locs ls hP hS hl => lv_aload X.1 X.2.1 d (lv_at hl q hq) (k r M' h H locs ls hP hS hl)
theorem k_astore_n {Z : ZT} {E : En} {nL : Nat} {cc : ByteArray} {own : String} {rt : Option FieldType} {fr lo : Nat} {ρ : Type} {Qf : ρ → Mem → State → Prop} {o : Option (ρ × Mem)} {M : Mem} {pc : Nat} {lv : List (Nat × Value)} {rest : List Value} (X : Cx Z E nL cc own rt fr lo) {k : Fin 4} {i : Nat} {x : Nat} (lv' : List (Nat × Value)) (d : decode cc pc = .ok (.astore_n k, 1)) (hi : (k : Nat) = i) (hn : i < nL) (hf : (i, Value.ref x) :: lv.filter (fun q => !(q.1 == i) && !(q.1 + 1 == i && q.2.category == 2)) = lv') (k : Kj Z E nL Qf o M (pc + 1) lv' rest) : Kj Z E nL Qf o M pc lv (.ref x :: rest) :=
  fun r M' h H locs ls hP hS hl => lv_astore_n X.1 X.2.1 d hi hl hn hf (fun ls hl => k r M' h H locs ls hP hS hl)
theorem k_astore {Z : ZT} {E : En} {nL : Nat} {cc : ByteArray} {own : String} {rt : Option FieldType} {fr lo : Nat} {ρ : Type} {Qf : ρ → Mem → State → Prop} {o : Option (ρ × Mem)} {M : Mem} {pc : Nat} {lv : List (Nat × Value)} {rest : List Value} (X : Cx Z E nL cc own rt fr lo) {i : Nat} {x : Nat} (lv' : List (Nat × Value)) (d : decode cc pc = .ok (.astore i, 2))  (hn : i < nL) (hf : (i, Value.ref x) :: lv.filter (fun q => !(q.1 == i) && !(q.1 + 1 == i && q.2.category == 2)) = lv') (k : Kj Z E nL Qf o M (pc + 2) lv' rest) : Kj Z E nL Qf o M pc lv (.ref x :: rest) :=
  fun r M' h H locs ls hP hS hl => lv_astore X.1 X.2.1 d hl hn hf (fun ls hl => k r M' h H locs ls hP hS hl)
theorem k_iinc {Z : ZT} {E : En} {nL : Nat} {cc : ByteArray} {own : String} {rt : Option FieldType} {fr lo : Nat} {ρ : Type} {Qf : ρ → Mem → State → Prop} {o : Option (ρ × Mem)} {M : Mem} {pc : Nat} {lv : List (Nat × Value)} {rest : List Value} (X : Cx Z E nL cc own rt fr lo) {i : Nat} {n : Int} {x v : Int32} (q : Nat) (lv' : List (Nat × Value)) (d : decode cc pc = .ok (.iinc i n, 3)) (hq : lv[q]? = some (i, .int x)) (hv : x + Int32.ofInt n = v) (hn : i < nL) (hf : (i, Value.int v) :: lv.filter (fun q => !(q.1 == i) && !(q.1 + 1 == i && q.2.category == 2)) = lv') (k : Kj Z E nL Qf o M (pc + 3) lv' rest) : Kj Z E nL Qf o M pc lv rest :=
  fun r M' h H locs ls hP hS hl => lv_iinc X.1 X.2.1 d hl hq hv hn hf (fun ls hl => k r M' h H locs ls hP hS hl)
theorem k_iadd {Z : ZT} {E : En} {nL : Nat} {cc : ByteArray} {own : String} {rt : Option FieldType} {fr lo : Nat} {ρ : Type} {Qf : ρ → Mem → State → Prop} {o : Option (ρ × Mem)} {M : Mem} {pc : Nat} {lv : List (Nat × Value)} {rest : List Value} (X : Cx Z E nL cc own rt fr lo) {x y : Int32} (d : decode cc pc = .ok (.iadd, 1))  (k : Kj Z E nL Qf o M (pc + 1) lv (.int (x + y) :: rest)) : Kj Z E nL Qf o M pc lv (.int y :: .int x :: rest) :=
  fun r M' h H locs ls hP hS hl => lv_iadd X.1 X.2.1 d  (k r M' h H locs ls hP hS hl)
theorem k_isub {Z : ZT} {E : En} {nL : Nat} {cc : ByteArray} {own : String} {rt : Option FieldType} {fr lo : Nat} {ρ : Type} {Qf : ρ → Mem → State → Prop} {o : Option (ρ × Mem)} {M : Mem} {pc : Nat} {lv : List (Nat × Value)} {rest : List Value} (X : Cx Z E nL cc own rt fr lo) {x y : Int32} (d : decode cc pc = .ok (.isub, 1))  (k : Kj Z E nL Qf o M (pc + 1) lv (.int (x - y) :: rest)) : Kj Z E nL Qf o M pc lv (.int y :: .int x :: rest) :=
  fun r M' h H locs ls hP hS hl => lv_isub X.1 X.2.1 d  (k r M' h H locs ls hP hS hl)
theorem k_imul {Z : ZT} {E : En} {nL : Nat} {cc : ByteArray} {own : String} {rt : Option FieldType} {fr lo : Nat} {ρ : Type} {Qf : ρ → Mem → State → Prop} {o : Option (ρ × Mem)} {M : Mem} {pc : Nat} {lv : List (Nat × Value)} {rest : List Value} (X : Cx Z E nL cc own rt fr lo) {x y : Int32} (d : decode cc pc = .ok (.imul, 1))  (k : Kj Z E nL Qf o M (pc + 1) lv (.int (x * y) :: rest)) : Kj Z E nL Qf o M pc lv (.int y :: .int x :: rest) :=
  fun r M' h H locs ls hP hS hl => lv_imul X.1 X.2.1 d  (k r M' h H locs ls hP hS hl)
theorem k_iand {Z : ZT} {E : En} {nL : Nat} {cc : ByteArray} {own : String} {rt : Option FieldType} {fr lo : Nat} {ρ : Type} {Qf : ρ → Mem → State → Prop} {o : Option (ρ × Mem)} {M : Mem} {pc : Nat} {lv : List (Nat × Value)} {rest : List Value} (X : Cx Z E nL cc own rt fr lo) {x y : Int32} (d : decode cc pc = .ok (.iand, 1))  (k : Kj Z E nL Qf o M (pc + 1) lv (.int (x &&& y) :: rest)) : Kj Z E nL Qf o M pc lv (.int y :: .int x :: rest) :=
  fun r M' h H locs ls hP hS hl => lv_iand X.1 X.2.1 d  (k r M' h H locs ls hP hS hl)
theorem k_ior {Z : ZT} {E : En} {nL : Nat} {cc : ByteArray} {own : String} {rt : Option FieldType} {fr lo : Nat} {ρ : Type} {Qf : ρ → Mem → State → Prop} {o : Option (ρ × Mem)} {M : Mem} {pc : Nat} {lv : List (Nat × Value)} {rest : List Value} (X : Cx Z E nL cc own rt fr lo) {x y : Int32} (d : decode cc pc = .ok (.ior, 1))  (k : Kj Z E nL Qf o M (pc + 1) lv (.int (x ||| y) :: rest)) : Kj Z E nL Qf o M pc lv (.int y :: .int x :: rest) :=
  fun r M' h H locs ls hP hS hl => lv_ior X.1 X.2.1 d  (k r M' h H locs ls hP hS hl)
theorem k_ixor {Z : ZT} {E : En} {nL : Nat} {cc : ByteArray} {own : String} {rt : Option FieldType} {fr lo : Nat} {ρ : Type} {Qf : ρ → Mem → State → Prop} {o : Option (ρ × Mem)} {M : Mem} {pc : Nat} {lv : List (Nat × Value)} {rest : List Value} (X : Cx Z E nL cc own rt fr lo) {x y : Int32} (d : decode cc pc = .ok (.ixor, 1))  (k : Kj Z E nL Qf o M (pc + 1) lv (.int (x ^^^ y) :: rest)) : Kj Z E nL Qf o M pc lv (.int y :: .int x :: rest) :=
  fun r M' h H locs ls hP hS hl => lv_ixor X.1 X.2.1 d  (k r M' h H locs ls hP hS hl)
theorem k_ishl {Z : ZT} {E : En} {nL : Nat} {cc : ByteArray} {own : String} {rt : Option FieldType} {fr lo : Nat} {ρ : Type} {Qf : ρ → Mem → State → Prop} {o : Option (ρ × Mem)} {M : Mem} {pc : Nat} {lv : List (Nat × Value)} {rest : List Value} (X : Cx Z E nL cc own rt fr lo) {x y : Int32} (d : decode cc pc = .ok (.ishl, 1))  (k : Kj Z E nL Qf o M (pc + 1) lv (.int (x <<< (y &&& 31)) :: rest)) : Kj Z E nL Qf o M pc lv (.int y :: .int x :: rest) :=
  fun r M' h H locs ls hP hS hl => lv_ishl X.1 X.2.1 d  (k r M' h H locs ls hP hS hl)
theorem k_ishr {Z : ZT} {E : En} {nL : Nat} {cc : ByteArray} {own : String} {rt : Option FieldType} {fr lo : Nat} {ρ : Type} {Qf : ρ → Mem → State → Prop} {o : Option (ρ × Mem)} {M : Mem} {pc : Nat} {lv : List (Nat × Value)} {rest : List Value} (X : Cx Z E nL cc own rt fr lo) {x y : Int32} (d : decode cc pc = .ok (.ishr, 1))  (k : Kj Z E nL Qf o M (pc + 1) lv (.int (x >>> (y &&& 31)) :: rest)) : Kj Z E nL Qf o M pc lv (.int y :: .int x :: rest) :=
  fun r M' h H locs ls hP hS hl => lv_ishr X.1 X.2.1 d  (k r M' h H locs ls hP hS hl)
theorem k_ladd {Z : ZT} {E : En} {nL : Nat} {cc : ByteArray} {own : String} {rt : Option FieldType} {fr lo : Nat} {ρ : Type} {Qf : ρ → Mem → State → Prop} {o : Option (ρ × Mem)} {M : Mem} {pc : Nat} {lv : List (Nat × Value)} {rest : List Value} (X : Cx Z E nL cc own rt fr lo) {x y : Int64} (d : decode cc pc = .ok (.ladd, 1))  (k : Kj Z E nL Qf o M (pc + 1) lv (.long (x + y) :: rest)) : Kj Z E nL Qf o M pc lv (.long y :: .long x :: rest) :=
  fun r M' h H locs ls hP hS hl => lv_ladd X.1 X.2.1 d  (k r M' h H locs ls hP hS hl)
theorem k_lsub {Z : ZT} {E : En} {nL : Nat} {cc : ByteArray} {own : String} {rt : Option FieldType} {fr lo : Nat} {ρ : Type} {Qf : ρ → Mem → State → Prop} {o : Option (ρ × Mem)} {M : Mem} {pc : Nat} {lv : List (Nat × Value)} {rest : List Value} (X : Cx Z E nL cc own rt fr lo) {x y : Int64} (d : decode cc pc = .ok (.lsub, 1))  (k : Kj Z E nL Qf o M (pc + 1) lv (.long (x - y) :: rest)) : Kj Z E nL Qf o M pc lv (.long y :: .long x :: rest) :=
  fun r M' h H locs ls hP hS hl => lv_lsub X.1 X.2.1 d  (k r M' h H locs ls hP hS hl)
theorem k_lmul {Z : ZT} {E : En} {nL : Nat} {cc : ByteArray} {own : String} {rt : Option FieldType} {fr lo : Nat} {ρ : Type} {Qf : ρ → Mem → State → Prop} {o : Option (ρ × Mem)} {M : Mem} {pc : Nat} {lv : List (Nat × Value)} {rest : List Value} (X : Cx Z E nL cc own rt fr lo) {x y : Int64} (d : decode cc pc = .ok (.lmul, 1))  (k : Kj Z E nL Qf o M (pc + 1) lv (.long (x * y) :: rest)) : Kj Z E nL Qf o M pc lv (.long y :: .long x :: rest) :=
  fun r M' h H locs ls hP hS hl => lv_lmul X.1 X.2.1 d  (k r M' h H locs ls hP hS hl)
theorem k_land {Z : ZT} {E : En} {nL : Nat} {cc : ByteArray} {own : String} {rt : Option FieldType} {fr lo : Nat} {ρ : Type} {Qf : ρ → Mem → State → Prop} {o : Option (ρ × Mem)} {M : Mem} {pc : Nat} {lv : List (Nat × Value)} {rest : List Value} (X : Cx Z E nL cc own rt fr lo) {x y : Int64} (d : decode cc pc = .ok (.land, 1))  (k : Kj Z E nL Qf o M (pc + 1) lv (.long (x &&& y) :: rest)) : Kj Z E nL Qf o M pc lv (.long y :: .long x :: rest) :=
  fun r M' h H locs ls hP hS hl => lv_land X.1 X.2.1 d  (k r M' h H locs ls hP hS hl)
theorem k_lor {Z : ZT} {E : En} {nL : Nat} {cc : ByteArray} {own : String} {rt : Option FieldType} {fr lo : Nat} {ρ : Type} {Qf : ρ → Mem → State → Prop} {o : Option (ρ × Mem)} {M : Mem} {pc : Nat} {lv : List (Nat × Value)} {rest : List Value} (X : Cx Z E nL cc own rt fr lo) {x y : Int64} (d : decode cc pc = .ok (.lor, 1))  (k : Kj Z E nL Qf o M (pc + 1) lv (.long (x ||| y) :: rest)) : Kj Z E nL Qf o M pc lv (.long y :: .long x :: rest) :=
  fun r M' h H locs ls hP hS hl => lv_lor X.1 X.2.1 d  (k r M' h H locs ls hP hS hl)
theorem k_ineg {Z : ZT} {E : En} {nL : Nat} {cc : ByteArray} {own : String} {rt : Option FieldType} {fr lo : Nat} {ρ : Type} {Qf : ρ → Mem → State → Prop} {o : Option (ρ × Mem)} {M : Mem} {pc : Nat} {lv : List (Nat × Value)} {rest : List Value} (X : Cx Z E nL cc own rt fr lo) {x : Int32} (d : decode cc pc = .ok (.ineg, 1))  (k : Kj Z E nL Qf o M (pc + 1) lv (.int (-x) :: rest)) : Kj Z E nL Qf o M pc lv (.int x :: rest) :=
  fun r M' h H locs ls hP hS hl => lv_ineg X.1 X.2.1 d  (k r M' h H locs ls hP hS hl)
theorem k_i2l {Z : ZT} {E : En} {nL : Nat} {cc : ByteArray} {own : String} {rt : Option FieldType} {fr lo : Nat} {ρ : Type} {Qf : ρ → Mem → State → Prop} {o : Option (ρ × Mem)} {M : Mem} {pc : Nat} {lv : List (Nat × Value)} {rest : List Value} (X : Cx Z E nL cc own rt fr lo) {x : Int32} (d : decode cc pc = .ok (.i2l, 1))  (k : Kj Z E nL Qf o M (pc + 1) lv (.long x.toInt64 :: rest)) : Kj Z E nL Qf o M pc lv (.int x :: rest) :=
  fun r M' h H locs ls hP hS hl => lv_i2l X.1 X.2.1 d rfl (k r M' h H locs ls hP hS hl)
theorem k_l2i {Z : ZT} {E : En} {nL : Nat} {cc : ByteArray} {own : String} {rt : Option FieldType} {fr lo : Nat} {ρ : Type} {Qf : ρ → Mem → State → Prop} {o : Option (ρ × Mem)} {M : Mem} {pc : Nat} {lv : List (Nat × Value)} {rest : List Value} (X : Cx Z E nL cc own rt fr lo) {x : Int64} (d : decode cc pc = .ok (.l2i, 1))  (k : Kj Z E nL Qf o M (pc + 1) lv (.int x.toInt32 :: rest)) : Kj Z E nL Qf o M pc lv (.long x :: rest) :=
  fun r M' h H locs ls hP hS hl => lv_l2i X.1 X.2.1 d rfl (k r M' h H locs ls hP hS hl)
theorem k_iushr {Z : ZT} {E : En} {nL : Nat} {cc : ByteArray} {own : String} {rt : Option FieldType} {fr lo : Nat} {ρ : Type} {Qf : ρ → Mem → State → Prop} {o : Option (ρ × Mem)} {M : Mem} {pc : Nat} {lv : List (Nat × Value)} {rest : List Value} (X : Cx Z E nL cc own rt fr lo) {x y : Int32} (d : decode cc pc = .ok (.iushr, 1))  (k : Kj Z E nL Qf o M (pc + 1) lv (.int (x.toUInt32 >>> (y.toUInt32 &&& Int32.toUInt32 31)).toInt32 :: rest)) : Kj Z E nL Qf o M pc lv (.int y :: .int x :: rest) :=
  fun r M' h H locs ls hP hS hl => lv_iushr X.1 X.2.1 d rfl (k r M' h H locs ls hP hS hl)
theorem k_lushr {Z : ZT} {E : En} {nL : Nat} {cc : ByteArray} {own : String} {rt : Option FieldType} {fr lo : Nat} {ρ : Type} {Qf : ρ → Mem → State → Prop} {o : Option (ρ × Mem)} {M : Mem} {pc : Nat} {lv : List (Nat × Value)} {rest : List Value} (X : Cx Z E nL cc own rt fr lo) {x : Int64} {y : Int32} (d : decode cc pc = .ok (.lushr, 1))  (k : Kj Z E nL Qf o M (pc + 1) lv (.long (x.toUInt64 >>> (y.toInt64.toUInt64 &&& Int64.toUInt64 63)).toInt64 :: rest)) : Kj Z E nL Qf o M pc lv (.int y :: .long x :: rest) :=
  fun r M' h H locs ls hP hS hl => lv_lushr X.1 X.2.1 d rfl (k r M' h H locs ls hP hS hl)
theorem k_lshl {Z : ZT} {E : En} {nL : Nat} {cc : ByteArray} {own : String} {rt : Option FieldType} {fr lo : Nat} {ρ : Type} {Qf : ρ → Mem → State → Prop} {o : Option (ρ × Mem)} {M : Mem} {pc : Nat} {lv : List (Nat × Value)} {rest : List Value} (X : Cx Z E nL cc own rt fr lo) {x : Int64} {y : Int32} (d : decode cc pc = .ok (.lshl, 1))  (k : Kj Z E nL Qf o M (pc + 1) lv (.long (x <<< (y.toInt64 &&& 63)) :: rest)) : Kj Z E nL Qf o M pc lv (.int y :: .long x :: rest) :=
  fun r M' h H locs ls hP hS hl => lv_lshl X.1 X.2.1 d rfl (k r M' h H locs ls hP hS hl)
theorem k_dup {Z : ZT} {E : En} {nL : Nat} {cc : ByteArray} {own : String} {rt : Option FieldType} {fr lo : Nat} {ρ : Type} {Qf : ρ → Mem → State → Prop} {o : Option (ρ × Mem)} {M : Mem} {pc : Nat} {lv : List (Nat × Value)} {rest : List Value} (X : Cx Z E nL cc own rt fr lo) {va : Value} (d : decode cc pc = .ok (.dup, 1)) (hva : va.category = 1) (k : Kj Z E nL Qf o M (pc + 1) lv (va :: va :: rest)) : Kj Z E nL Qf o M pc lv (va :: rest) :=
  fun r M' h H locs ls hP hS hl => lv_dup X.1 X.2.1 d hva (k r M' h H locs ls hP hS hl)
theorem k_pop {Z : ZT} {E : En} {nL : Nat} {cc : ByteArray} {own : String} {rt : Option FieldType} {fr lo : Nat} {ρ : Type} {Qf : ρ → Mem → State → Prop} {o : Option (ρ × Mem)} {M : Mem} {pc : Nat} {lv : List (Nat × Value)} {rest : List Value} (X : Cx Z E nL cc own rt fr lo) {va : Value} (d : decode cc pc = .ok (.pop, 1)) (hva : va.category = 1) (k : Kj Z E nL Qf o M (pc + 1) lv rest) : Kj Z E nL Qf o M pc lv (va :: rest) :=
  fun r M' h H locs ls hP hS hl => lv_pop X.1 X.2.1 d hva (k r M' h H locs ls hP hS hl)
theorem k_dup2 {Z : ZT} {E : En} {nL : Nat} {cc : ByteArray} {own : String} {rt : Option FieldType} {fr lo : Nat} {ρ : Type} {Qf : ρ → Mem → State → Prop} {o : Option (ρ × Mem)} {M : Mem} {pc : Nat} {lv : List (Nat × Value)} {rest : List Value} (X : Cx Z E nL cc own rt fr lo) {va vb : Value} (d : decode cc pc = .ok (.dup2, 1)) (hva : va.category = 1) (hvb : vb.category = 1) (k : Kj Z E nL Qf o M (pc + 1) lv (va :: vb :: va :: vb :: rest)) : Kj Z E nL Qf o M pc lv (va :: vb :: rest) :=
  fun r M' h H locs ls hP hS hl => lv_dup2_11 X.1 X.2.1 d hva hvb (k r M' h H locs ls hP hS hl)
theorem k_dup_x1 {Z : ZT} {E : En} {nL : Nat} {cc : ByteArray} {own : String} {rt : Option FieldType} {fr lo : Nat} {ρ : Type} {Qf : ρ → Mem → State → Prop} {o : Option (ρ × Mem)} {M : Mem} {pc : Nat} {lv : List (Nat × Value)} {rest : List Value} (X : Cx Z E nL cc own rt fr lo) {va vb : Value} (d : decode cc pc = .ok (.dup_x1, 1)) (hva : va.category = 1) (hvb : vb.category = 1) (k : Kj Z E nL Qf o M (pc + 1) lv (va :: vb :: va :: rest)) : Kj Z E nL Qf o M pc lv (va :: vb :: rest) :=
  fun r M' h H locs ls hP hS hl => lv_dup_x1 X.1 X.2.1 d hva hvb (k r M' h H locs ls hP hS hl)
theorem k_dup_x2 {Z : ZT} {E : En} {nL : Nat} {cc : ByteArray} {own : String} {rt : Option FieldType} {fr lo : Nat} {ρ : Type} {Qf : ρ → Mem → State → Prop} {o : Option (ρ × Mem)} {M : Mem} {pc : Nat} {lv : List (Nat × Value)} {rest : List Value} (X : Cx Z E nL cc own rt fr lo) {va vb vd : Value} (d : decode cc pc = .ok (.dup_x2, 1)) (hva : va.category = 1) (hvb : vb.category = 1) (hvd : vd.category = 1) (k : Kj Z E nL Qf o M (pc + 1) lv (va :: vb :: vd :: va :: rest)) : Kj Z E nL Qf o M pc lv (va :: vb :: vd :: rest) :=
  fun r M' h H locs ls hP hS hl => lv_dup_x2 X.1 X.2.1 d hva hvb hvd (k r M' h H locs ls hP hS hl)
theorem k_idiv {Z : ZT} {E : En} {nL : Nat} {cc : ByteArray} {own : String} {rt : Option FieldType} {fr lo : Nat} {ρ : Type} {Qf : ρ → Mem → State → Prop} {o : Option (ρ × Mem)} {M : Mem} {pc : Nat} {lv : List (Nat × Value)} {rest : List Value} (X : Cx Z E nL cc own rt fr lo) {x y : Int32} (d : decode cc pc = .ok (.idiv, 1)) (hne : ¬ y = 0) (k : Kj Z E nL Qf o M (pc + 1) lv (.int (x / y) :: rest)) : Kj Z E nL Qf o M pc lv (.int y :: .int x :: rest) :=
  fun r M' h H locs ls hP hS hl => lv_idiv X.1 X.2.1 d hne (k r M' h H locs ls hP hS hl)
theorem k_ldiv {Z : ZT} {E : En} {nL : Nat} {cc : ByteArray} {own : String} {rt : Option FieldType} {fr lo : Nat} {ρ : Type} {Qf : ρ → Mem → State → Prop} {o : Option (ρ × Mem)} {M : Mem} {pc : Nat} {lv : List (Nat × Value)} {rest : List Value} (X : Cx Z E nL cc own rt fr lo) {x y : Int64} (d : decode cc pc = .ok (.ldiv, 1)) (hne : ¬ y = 0) (k : Kj Z E nL Qf o M (pc + 1) lv (.long (x / y) :: rest)) : Kj Z E nL Qf o M pc lv (.long y :: .long x :: rest) :=
  fun r M' h H locs ls hP hS hl => lv_ldiv X.1 X.2.1 d hne (k r M' h H locs ls hP hS hl)
theorem k_lrem {Z : ZT} {E : En} {nL : Nat} {cc : ByteArray} {own : String} {rt : Option FieldType} {fr lo : Nat} {ρ : Type} {Qf : ρ → Mem → State → Prop} {o : Option (ρ × Mem)} {M : Mem} {pc : Nat} {lv : List (Nat × Value)} {rest : List Value} (X : Cx Z E nL cc own rt fr lo) {x y : Int64} (d : decode cc pc = .ok (.lrem, 1)) (hne : ¬ y = 0) (k : Kj Z E nL Qf o M (pc + 1) lv (.long (x - x / y * y) :: rest)) : Kj Z E nL Qf o M pc lv (.long y :: .long x :: rest) :=
  fun r M' h H locs ls hP hS hl => lv_lrem X.1 X.2.1 d hne (k r M' h H locs ls hP hS hl)
theorem k_ldivG {Z : ZT} {E : En} {nL : Nat} {cc : ByteArray} {own : String} {rt : Option FieldType} {fr lo : Nat} {ρ : Type} {Qf : ρ → Mem → State → Prop} {o : Option (ρ × Mem)} {M : Mem} {pc : Nat} {lv : List (Nat × Value)} {rest : List Value} (X : Cx Z E nL cc own rt fr lo) {x y : Int64} (d : decode cc pc = .ok (.ldiv, 1)) (k : Kj Z E nL Qf o M (pc + 1) lv (.long (x / y) :: rest)) : Kj Z E nL Qf (if y = 0 then none else o) M pc lv (.long y :: .long x :: rest) := by
  intro r M' h H locs ls hP hS hl
  by_cases hy : y = 0
  · rw [if_pos hy] at h; cases h
  · rw [if_neg hy] at h
    exact lv_ldiv X.1 X.2.1 d hy (k r M' h H locs ls hP hS hl)
theorem k_lremG {Z : ZT} {E : En} {nL : Nat} {cc : ByteArray} {own : String} {rt : Option FieldType} {fr lo : Nat} {ρ : Type} {Qf : ρ → Mem → State → Prop} {o : Option (ρ × Mem)} {M : Mem} {pc : Nat} {lv : List (Nat × Value)} {rest : List Value} (X : Cx Z E nL cc own rt fr lo) {x y : Int64} (d : decode cc pc = .ok (.lrem, 1)) (k : Kj Z E nL Qf o M (pc + 1) lv (.long (x - x / y * y) :: rest)) : Kj Z E nL Qf (if y = 0 then none else o) M pc lv (.long y :: .long x :: rest) := by
  intro r M' h H locs ls hP hS hl
  by_cases hy : y = 0
  · rw [if_pos hy] at h; cases h
  · rw [if_neg hy] at h
    exact lv_lrem X.1 X.2.1 d hy (k r M' h H locs ls hP hS hl)
theorem k_ldc {Z : ZT} {E : En} {nL : Nat} {cc : ByteArray} {own : String} {rt : Option FieldType} {fr lo : Nat} {ρ : Type} {Qf : ρ → Mem → State → Prop} {o : Option (ρ × Mem)} {M : Mem} {pc : Nat} {lv : List (Nat × Value)} {rest : List Value} (X : Cx Z E nL cc own rt fr lo) {idx : Nat} {v : Int32} (hw : Cond.constant own idx v ∈ wAll) (d : decode cc pc = .ok (.ldc idx, 2)) (k : Kj Z E nL Qf o M (pc + 2) lv (.int v :: rest)) : Kj Z E nL Qf o M pc lv rest :=
  fun r M' h H locs ls hP hS hl => lv_ldc X.1 X.2.1 X.2.2.2.1 (X.2.2.2.2.1 _ hw) d (k r M' h H locs ls hP hS hl)
theorem k_ldcw {Z : ZT} {E : En} {nL : Nat} {cc : ByteArray} {own : String} {rt : Option FieldType} {fr lo : Nat} {ρ : Type} {Qf : ρ → Mem → State → Prop} {o : Option (ρ × Mem)} {M : Mem} {pc : Nat} {lv : List (Nat × Value)} {rest : List Value} (X : Cx Z E nL cc own rt fr lo) {idx : Nat} {v : Int32} (hw : Cond.constant own idx v ∈ wAll) (d : decode cc pc = .ok (.ldc_w idx, 3)) (k : Kj Z E nL Qf o M (pc + 3) lv (.int v :: rest)) : Kj Z E nL Qf o M pc lv rest :=
  fun r M' h H locs ls hP hS hl => lv_ldcw X.1 X.2.1 X.2.2.2.1 (X.2.2.2.2.1 _ hw) d (k r M' h H locs ls hP hS hl)
theorem k_ldc2 {Z : ZT} {E : En} {nL : Nat} {cc : ByteArray} {own : String} {rt : Option FieldType} {fr lo : Nat} {ρ : Type} {Qf : ρ → Mem → State → Prop} {o : Option (ρ × Mem)} {M : Mem} {pc : Nat} {lv : List (Nat × Value)} {rest : List Value} (X : Cx Z E nL cc own rt fr lo) {idx : Nat} {v : Int64} (hw : Cond.constantLong own idx v ∈ wAll) (d : decode cc pc = .ok (.ldc2_w idx, 3)) (k : Kj Z E nL Qf o M (pc + 3) lv (.long v :: rest)) : Kj Z E nL Qf o M pc lv rest :=
  fun r M' h H locs ls hP hS hl => lv_ldc2 X.1 X.2.1 X.2.2.2.1 (X.2.2.2.2.1 _ hw) d (k r M' h H locs ls hP hS hl)
theorem k_goto {Z : ZT} {E : En} {nL : Nat} {cc : ByteArray} {own : String} {rt : Option FieldType} {fr lo : Nat} {ρ : Type} {Qf : ρ → Mem → State → Prop} {o : Option (ρ × Mem)} {M : Mem} {pc : Nat} {lv : List (Nat × Value)} {rest : List Value} (X : Cx Z E nL cc own rt fr lo) {off : Int} (tgt : Nat) (d : decode cc pc = .ok (.goto off, 3)) (ht : (pc : Int) + off = (tgt : Int)) (k : Kj Z E nL Qf o M tgt lv rest) : Kj Z E nL Qf o M pc lv rest :=
  fun r M' h H locs ls hP hS hl => lv_goto X.1 X.2.1 d ht (k r M' h H locs ls hP hS hl)
theorem k_icmp_eq {Z : ZT} {E : En} {nL : Nat} {cc : ByteArray} {own : String} {rt : Option FieldType} {fr lo : Nat} {ρ : Type} {Qf : ρ → Mem → State → Prop} {oj of : Option (ρ × Mem)} {M : Mem} {pc : Nat} {lv : List (Nat × Value)} {rest : List Value} (X : Cx Z E nL cc own rt fr lo) {x y : Int32} {off : Int} (tgt : Nat) (d : decode cc pc = .ok (.if_icmp .eq off, 3)) (ht : (pc : Int) + off = (tgt : Int)) (kj : Kj Z E nL Qf oj M tgt lv rest) (kf : Kj Z E nL Qf of M (pc + 3) lv rest) : Kj Z E nL Qf (if x = y then oj else of) M pc lv (.int y :: .int x :: rest) :=
  fun r M' h H locs ls hP hS hl => lv_icmp_eq X.1 X.2.1 d ht (fun q => kj r M' (by rw [if_pos q] at h; exact h) H locs ls hP hS hl) (fun q => kf r M' (by rw [if_neg q] at h; exact h) H locs ls hP hS hl)
theorem k_icmp_ne {Z : ZT} {E : En} {nL : Nat} {cc : ByteArray} {own : String} {rt : Option FieldType} {fr lo : Nat} {ρ : Type} {Qf : ρ → Mem → State → Prop} {oj of : Option (ρ × Mem)} {M : Mem} {pc : Nat} {lv : List (Nat × Value)} {rest : List Value} (X : Cx Z E nL cc own rt fr lo) {x y : Int32} {off : Int} (tgt : Nat) (d : decode cc pc = .ok (.if_icmp .ne off, 3)) (ht : (pc : Int) + off = (tgt : Int)) (kj : Kj Z E nL Qf oj M tgt lv rest) (kf : Kj Z E nL Qf of M (pc + 3) lv rest) : Kj Z E nL Qf (if x = y then of else oj) M pc lv (.int y :: .int x :: rest) :=
  fun r M' h H locs ls hP hS hl => lv_icmp_ne X.1 X.2.1 d ht (fun q => kj r M' (by rw [if_neg q] at h; exact h) H locs ls hP hS hl) (fun q => kf r M' (by rw [if_pos q] at h; exact h) H locs ls hP hS hl)
theorem k_icmp_lt {Z : ZT} {E : En} {nL : Nat} {cc : ByteArray} {own : String} {rt : Option FieldType} {fr lo : Nat} {ρ : Type} {Qf : ρ → Mem → State → Prop} {oj of : Option (ρ × Mem)} {M : Mem} {pc : Nat} {lv : List (Nat × Value)} {rest : List Value} (X : Cx Z E nL cc own rt fr lo) {x y : Int32} {off : Int} (tgt : Nat) (d : decode cc pc = .ok (.if_icmp .lt off, 3)) (ht : (pc : Int) + off = (tgt : Int)) (kj : Kj Z E nL Qf oj M tgt lv rest) (kf : Kj Z E nL Qf of M (pc + 3) lv rest) : Kj Z E nL Qf (if x < y then oj else of) M pc lv (.int y :: .int x :: rest) :=
  fun r M' h H locs ls hP hS hl => lv_icmp_lt X.1 X.2.1 d ht (fun q => kj r M' (by rw [if_pos q] at h; exact h) H locs ls hP hS hl) (fun q => kf r M' (by rw [if_neg q] at h; exact h) H locs ls hP hS hl)
theorem k_icmp_ge {Z : ZT} {E : En} {nL : Nat} {cc : ByteArray} {own : String} {rt : Option FieldType} {fr lo : Nat} {ρ : Type} {Qf : ρ → Mem → State → Prop} {oj of : Option (ρ × Mem)} {M : Mem} {pc : Nat} {lv : List (Nat × Value)} {rest : List Value} (X : Cx Z E nL cc own rt fr lo) {x y : Int32} {off : Int} (tgt : Nat) (d : decode cc pc = .ok (.if_icmp .ge off, 3)) (ht : (pc : Int) + off = (tgt : Int)) (kj : Kj Z E nL Qf oj M tgt lv rest) (kf : Kj Z E nL Qf of M (pc + 3) lv rest) : Kj Z E nL Qf (if x < y then of else oj) M pc lv (.int y :: .int x :: rest) :=
  fun r M' h H locs ls hP hS hl => lv_icmp_ge X.1 X.2.1 d ht (fun q => kj r M' (by rw [if_neg (Int32.not_lt.mpr q)] at h; exact h) H locs ls hP hS hl) (fun q => kf r M' (by rw [if_pos (Int32.not_le.mp q)] at h; exact h) H locs ls hP hS hl)
theorem k_icmp_gt {Z : ZT} {E : En} {nL : Nat} {cc : ByteArray} {own : String} {rt : Option FieldType} {fr lo : Nat} {ρ : Type} {Qf : ρ → Mem → State → Prop} {oj of : Option (ρ × Mem)} {M : Mem} {pc : Nat} {lv : List (Nat × Value)} {rest : List Value} (X : Cx Z E nL cc own rt fr lo) {x y : Int32} {off : Int} (tgt : Nat) (d : decode cc pc = .ok (.if_icmp .gt off, 3)) (ht : (pc : Int) + off = (tgt : Int)) (kj : Kj Z E nL Qf oj M tgt lv rest) (kf : Kj Z E nL Qf of M (pc + 3) lv rest) : Kj Z E nL Qf (if y < x then oj else of) M pc lv (.int y :: .int x :: rest) :=
  fun r M' h H locs ls hP hS hl => lv_icmp_gt X.1 X.2.1 d ht (fun q => kj r M' (by rw [if_pos q] at h; exact h) H locs ls hP hS hl) (fun q => kf r M' (by rw [if_neg q] at h; exact h) H locs ls hP hS hl)
theorem k_icmp_le {Z : ZT} {E : En} {nL : Nat} {cc : ByteArray} {own : String} {rt : Option FieldType} {fr lo : Nat} {ρ : Type} {Qf : ρ → Mem → State → Prop} {oj of : Option (ρ × Mem)} {M : Mem} {pc : Nat} {lv : List (Nat × Value)} {rest : List Value} (X : Cx Z E nL cc own rt fr lo) {x y : Int32} {off : Int} (tgt : Nat) (d : decode cc pc = .ok (.if_icmp .le off, 3)) (ht : (pc : Int) + off = (tgt : Int)) (kj : Kj Z E nL Qf oj M tgt lv rest) (kf : Kj Z E nL Qf of M (pc + 3) lv rest) : Kj Z E nL Qf (if y < x then of else oj) M pc lv (.int y :: .int x :: rest) :=
  fun r M' h H locs ls hP hS hl => lv_icmp_le X.1 X.2.1 d ht (fun q => kj r M' (by rw [if_neg (Int32.not_lt.mpr q)] at h; exact h) H locs ls hP hS hl) (fun q => kf r M' (by rw [if_pos (Int32.not_le.mp q)] at h; exact h) H locs ls hP hS hl)
theorem k_if_eq {Z : ZT} {E : En} {nL : Nat} {cc : ByteArray} {own : String} {rt : Option FieldType} {fr lo : Nat} {ρ : Type} {Qf : ρ → Mem → State → Prop} {oj of : Option (ρ × Mem)} {M : Mem} {pc : Nat} {lv : List (Nat × Value)} {rest : List Value} (X : Cx Z E nL cc own rt fr lo) {x : Int32} {off : Int} (tgt : Nat) (d : decode cc pc = .ok (.ifCond .eq off, 3)) (ht : (pc : Int) + off = (tgt : Int)) (kj : Kj Z E nL Qf oj M tgt lv rest) (kf : Kj Z E nL Qf of M (pc + 3) lv rest) : Kj Z E nL Qf (if x = 0 then oj else of) M pc lv (.int x :: rest) :=
  fun r M' h H locs ls hP hS hl => lv_if_eq X.1 X.2.1 d ht (fun q => kj r M' (by rw [if_pos q] at h; exact h) H locs ls hP hS hl) (fun q => kf r M' (by rw [if_neg q] at h; exact h) H locs ls hP hS hl)
theorem k_if_ne {Z : ZT} {E : En} {nL : Nat} {cc : ByteArray} {own : String} {rt : Option FieldType} {fr lo : Nat} {ρ : Type} {Qf : ρ → Mem → State → Prop} {oj of : Option (ρ × Mem)} {M : Mem} {pc : Nat} {lv : List (Nat × Value)} {rest : List Value} (X : Cx Z E nL cc own rt fr lo) {x : Int32} {off : Int} (tgt : Nat) (d : decode cc pc = .ok (.ifCond .ne off, 3)) (ht : (pc : Int) + off = (tgt : Int)) (kj : Kj Z E nL Qf oj M tgt lv rest) (kf : Kj Z E nL Qf of M (pc + 3) lv rest) : Kj Z E nL Qf (if x = 0 then of else oj) M pc lv (.int x :: rest) :=
  fun r M' h H locs ls hP hS hl => lv_if_ne X.1 X.2.1 d ht (fun q => kj r M' (by rw [if_neg q] at h; exact h) H locs ls hP hS hl) (fun q => kf r M' (by rw [if_pos q] at h; exact h) H locs ls hP hS hl)
theorem k_if_lt {Z : ZT} {E : En} {nL : Nat} {cc : ByteArray} {own : String} {rt : Option FieldType} {fr lo : Nat} {ρ : Type} {Qf : ρ → Mem → State → Prop} {oj of : Option (ρ × Mem)} {M : Mem} {pc : Nat} {lv : List (Nat × Value)} {rest : List Value} (X : Cx Z E nL cc own rt fr lo) {x : Int32} {off : Int} (tgt : Nat) (d : decode cc pc = .ok (.ifCond .lt off, 3)) (ht : (pc : Int) + off = (tgt : Int)) (kj : Kj Z E nL Qf oj M tgt lv rest) (kf : Kj Z E nL Qf of M (pc + 3) lv rest) : Kj Z E nL Qf (if x < 0 then oj else of) M pc lv (.int x :: rest) :=
  fun r M' h H locs ls hP hS hl => lv_if_lt X.1 X.2.1 d ht (fun q => kj r M' (by rw [if_pos q] at h; exact h) H locs ls hP hS hl) (fun q => kf r M' (by rw [if_neg q] at h; exact h) H locs ls hP hS hl)
theorem k_if_ge {Z : ZT} {E : En} {nL : Nat} {cc : ByteArray} {own : String} {rt : Option FieldType} {fr lo : Nat} {ρ : Type} {Qf : ρ → Mem → State → Prop} {oj of : Option (ρ × Mem)} {M : Mem} {pc : Nat} {lv : List (Nat × Value)} {rest : List Value} (X : Cx Z E nL cc own rt fr lo) {x : Int32} {off : Int} (tgt : Nat) (d : decode cc pc = .ok (.ifCond .ge off, 3)) (ht : (pc : Int) + off = (tgt : Int)) (kj : Kj Z E nL Qf oj M tgt lv rest) (kf : Kj Z E nL Qf of M (pc + 3) lv rest) : Kj Z E nL Qf (if x < 0 then of else oj) M pc lv (.int x :: rest) :=
  fun r M' h H locs ls hP hS hl => lv_if_ge X.1 X.2.1 d ht (fun q => kj r M' (by rw [if_neg (Int32.not_lt.mpr q)] at h; exact h) H locs ls hP hS hl) (fun q => kf r M' (by rw [if_pos (Int32.not_le.mp q)] at h; exact h) H locs ls hP hS hl)
theorem k_if_gt {Z : ZT} {E : En} {nL : Nat} {cc : ByteArray} {own : String} {rt : Option FieldType} {fr lo : Nat} {ρ : Type} {Qf : ρ → Mem → State → Prop} {oj of : Option (ρ × Mem)} {M : Mem} {pc : Nat} {lv : List (Nat × Value)} {rest : List Value} (X : Cx Z E nL cc own rt fr lo) {x : Int32} {off : Int} (tgt : Nat) (d : decode cc pc = .ok (.ifCond .gt off, 3)) (ht : (pc : Int) + off = (tgt : Int)) (kj : Kj Z E nL Qf oj M tgt lv rest) (kf : Kj Z E nL Qf of M (pc + 3) lv rest) : Kj Z E nL Qf (if 0 < x then oj else of) M pc lv (.int x :: rest) :=
  fun r M' h H locs ls hP hS hl => lv_if_gt X.1 X.2.1 d ht (fun q => kj r M' (by rw [if_pos q] at h; exact h) H locs ls hP hS hl) (fun q => kf r M' (by rw [if_neg q] at h; exact h) H locs ls hP hS hl)
theorem k_if_le {Z : ZT} {E : En} {nL : Nat} {cc : ByteArray} {own : String} {rt : Option FieldType} {fr lo : Nat} {ρ : Type} {Qf : ρ → Mem → State → Prop} {oj of : Option (ρ × Mem)} {M : Mem} {pc : Nat} {lv : List (Nat × Value)} {rest : List Value} (X : Cx Z E nL cc own rt fr lo) {x : Int32} {off : Int} (tgt : Nat) (d : decode cc pc = .ok (.ifCond .le off, 3)) (ht : (pc : Int) + off = (tgt : Int)) (kj : Kj Z E nL Qf oj M tgt lv rest) (kf : Kj Z E nL Qf of M (pc + 3) lv rest) : Kj Z E nL Qf (if 0 < x then of else oj) M pc lv (.int x :: rest) :=
  fun r M' h H locs ls hP hS hl => lv_if_le X.1 X.2.1 d ht (fun q => kj r M' (by rw [if_neg (Int32.not_lt.mpr q)] at h; exact h) H locs ls hP hS hl) (fun q => kf r M' (by rw [if_pos (Int32.not_le.mp q)] at h; exact h) H locs ls hP hS hl)
theorem k_if_eqJ {Z : ZT} {E : En} {nL : Nat} {cc : ByteArray} {own : String} {rt : Option FieldType} {fr lo : Nat} {ρ : Type} {Qf : ρ → Mem → State → Prop} {o : Option (ρ × Mem)} {M : Mem} {pc : Nat} {lv : List (Nat × Value)} {rest : List Value} (X : Cx Z E nL cc own rt fr lo) {x : Int32} {off : Int} (tgt : Nat) (d : decode cc pc = .ok (.ifCond .eq off, 3)) (ht : (pc : Int) + off = (tgt : Int)) (hc : x = 0) (k : Kj Z E nL Qf o M tgt lv rest) : Kj Z E nL Qf o M pc lv (.int x :: rest) :=
  fun r M' h H locs ls hP hS hl => lv_if_eq X.1 X.2.1 d ht (fun q => k r M' h H locs ls hP hS hl) (fun q => absurd hc q)
theorem k_if_eqF {Z : ZT} {E : En} {nL : Nat} {cc : ByteArray} {own : String} {rt : Option FieldType} {fr lo : Nat} {ρ : Type} {Qf : ρ → Mem → State → Prop} {o : Option (ρ × Mem)} {M : Mem} {pc : Nat} {lv : List (Nat × Value)} {rest : List Value} (X : Cx Z E nL cc own rt fr lo) {x : Int32} {off : Int} (tgt : Nat) (d : decode cc pc = .ok (.ifCond .eq off, 3)) (ht : (pc : Int) + off = (tgt : Int)) (hc : ¬ x = 0) (k : Kj Z E nL Qf o M (pc + 3) lv rest) : Kj Z E nL Qf o M pc lv (.int x :: rest) :=
  fun r M' h H locs ls hP hS hl => lv_if_eq X.1 X.2.1 d ht (fun q => absurd q hc) (fun q => k r M' h H locs ls hP hS hl)
theorem k_leq {Z : ZT} {E : En} {nL : Nat} {cc : ByteArray} {own : String} {rt : Option FieldType} {fr lo : Nat} {ρ : Type} {Qf : ρ → Mem → State → Prop} {oj of : Option (ρ × Mem)} {M : Mem} {pc : Nat} {lv : List (Nat × Value)} {rest : List Value} (X : Cx Z E nL cc own rt fr lo) {x y : Int64} {off : Int} (tgt : Nat) (d0 : decode cc pc = .ok (.lcmp, 1)) (d : decode cc (pc + 1) = .ok (.ifCond .eq off, 3)) (ht : ((pc + 1 : Nat) : Int) + off = (tgt : Int)) (kj : Kj Z E nL Qf oj M tgt lv rest) (kf : Kj Z E nL Qf of M (pc + 4) lv rest) : Kj Z E nL Qf (if x = y then oj else of) M pc lv (.long y :: .long x :: rest) :=
  fun r M' h H locs ls hP hS hl => W.lcmp X.1 X.2.1 d0 (lv_if_eq X.1 X.2.1 d ht (fun q => kj r M' (by rw [if_pos ((lg_cmp_eq x y).mp q)] at h; exact h) H locs ls hP hS hl) (fun q => kf r M' (by rw [if_neg (fun e => q ((lg_cmp_eq x y).mpr e))] at h; exact h) H locs ls hP hS hl))
theorem k_lne {Z : ZT} {E : En} {nL : Nat} {cc : ByteArray} {own : String} {rt : Option FieldType} {fr lo : Nat} {ρ : Type} {Qf : ρ → Mem → State → Prop} {oj of : Option (ρ × Mem)} {M : Mem} {pc : Nat} {lv : List (Nat × Value)} {rest : List Value} (X : Cx Z E nL cc own rt fr lo) {x y : Int64} {off : Int} (tgt : Nat) (d0 : decode cc pc = .ok (.lcmp, 1)) (d : decode cc (pc + 1) = .ok (.ifCond .ne off, 3)) (ht : ((pc + 1 : Nat) : Int) + off = (tgt : Int)) (kj : Kj Z E nL Qf oj M tgt lv rest) (kf : Kj Z E nL Qf of M (pc + 4) lv rest) : Kj Z E nL Qf (if x = y then of else oj) M pc lv (.long y :: .long x :: rest) :=
  fun r M' h H locs ls hP hS hl => W.lcmp X.1 X.2.1 d0 (lv_if_ne X.1 X.2.1 d ht (fun q => kj r M' (by rw [if_neg (fun e => q ((lg_cmp_eq x y).mpr e))] at h; exact h) H locs ls hP hS hl) (fun q => kf r M' (by rw [if_pos ((lg_cmp_eq x y).mp q)] at h; exact h) H locs ls hP hS hl))
theorem k_llt {Z : ZT} {E : En} {nL : Nat} {cc : ByteArray} {own : String} {rt : Option FieldType} {fr lo : Nat} {ρ : Type} {Qf : ρ → Mem → State → Prop} {oj of : Option (ρ × Mem)} {M : Mem} {pc : Nat} {lv : List (Nat × Value)} {rest : List Value} (X : Cx Z E nL cc own rt fr lo) {x y : Int64} {off : Int} (tgt : Nat) (d0 : decode cc pc = .ok (.lcmp, 1)) (d : decode cc (pc + 1) = .ok (.ifCond .lt off, 3)) (ht : ((pc + 1 : Nat) : Int) + off = (tgt : Int)) (kj : Kj Z E nL Qf oj M tgt lv rest) (kf : Kj Z E nL Qf of M (pc + 4) lv rest) : Kj Z E nL Qf (if x < y then oj else of) M pc lv (.long y :: .long x :: rest) :=
  fun r M' h H locs ls hP hS hl => W.lcmp X.1 X.2.1 d0 (lv_if_lt X.1 X.2.1 d ht (fun q => kj r M' (by rw [if_pos ((lg_cmp_lt x y).mp q)] at h; exact h) H locs ls hP hS hl) (fun q => kf r M' (by rw [if_neg (fun e => q ((lg_cmp_lt x y).mpr e))] at h; exact h) H locs ls hP hS hl))
theorem k_lge {Z : ZT} {E : En} {nL : Nat} {cc : ByteArray} {own : String} {rt : Option FieldType} {fr lo : Nat} {ρ : Type} {Qf : ρ → Mem → State → Prop} {oj of : Option (ρ × Mem)} {M : Mem} {pc : Nat} {lv : List (Nat × Value)} {rest : List Value} (X : Cx Z E nL cc own rt fr lo) {x y : Int64} {off : Int} (tgt : Nat) (d0 : decode cc pc = .ok (.lcmp, 1)) (d : decode cc (pc + 1) = .ok (.ifCond .ge off, 3)) (ht : ((pc + 1 : Nat) : Int) + off = (tgt : Int)) (kj : Kj Z E nL Qf oj M tgt lv rest) (kf : Kj Z E nL Qf of M (pc + 4) lv rest) : Kj Z E nL Qf (if x < y then of else oj) M pc lv (.long y :: .long x :: rest) :=
  fun r M' h H locs ls hP hS hl => W.lcmp X.1 X.2.1 d0 (lv_if_ge X.1 X.2.1 d ht (fun q => kj r M' (by rw [if_neg (Int64.not_lt.mpr ((lg_cmp_ge x y).mp q))] at h; exact h) H locs ls hP hS hl) (fun q => kf r M' (by rw [if_pos (Int64.not_le.mp (fun e => q ((lg_cmp_ge x y).mpr e)))] at h; exact h) H locs ls hP hS hl))
theorem k_lgt {Z : ZT} {E : En} {nL : Nat} {cc : ByteArray} {own : String} {rt : Option FieldType} {fr lo : Nat} {ρ : Type} {Qf : ρ → Mem → State → Prop} {oj of : Option (ρ × Mem)} {M : Mem} {pc : Nat} {lv : List (Nat × Value)} {rest : List Value} (X : Cx Z E nL cc own rt fr lo) {x y : Int64} {off : Int} (tgt : Nat) (d0 : decode cc pc = .ok (.lcmp, 1)) (d : decode cc (pc + 1) = .ok (.ifCond .gt off, 3)) (ht : ((pc + 1 : Nat) : Int) + off = (tgt : Int)) (kj : Kj Z E nL Qf oj M tgt lv rest) (kf : Kj Z E nL Qf of M (pc + 4) lv rest) : Kj Z E nL Qf (if y < x then oj else of) M pc lv (.long y :: .long x :: rest) :=
  fun r M' h H locs ls hP hS hl => W.lcmp X.1 X.2.1 d0 (lv_if_gt X.1 X.2.1 d ht (fun q => kj r M' (by rw [if_pos ((lg_cmp_gt x y).mp q)] at h; exact h) H locs ls hP hS hl) (fun q => kf r M' (by rw [if_neg (fun e => q ((lg_cmp_gt x y).mpr e))] at h; exact h) H locs ls hP hS hl))
theorem k_lle {Z : ZT} {E : En} {nL : Nat} {cc : ByteArray} {own : String} {rt : Option FieldType} {fr lo : Nat} {ρ : Type} {Qf : ρ → Mem → State → Prop} {oj of : Option (ρ × Mem)} {M : Mem} {pc : Nat} {lv : List (Nat × Value)} {rest : List Value} (X : Cx Z E nL cc own rt fr lo) {x y : Int64} {off : Int} (tgt : Nat) (d0 : decode cc pc = .ok (.lcmp, 1)) (d : decode cc (pc + 1) = .ok (.ifCond .le off, 3)) (ht : ((pc + 1 : Nat) : Int) + off = (tgt : Int)) (kj : Kj Z E nL Qf oj M tgt lv rest) (kf : Kj Z E nL Qf of M (pc + 4) lv rest) : Kj Z E nL Qf (if y < x then of else oj) M pc lv (.long y :: .long x :: rest) :=
  fun r M' h H locs ls hP hS hl => W.lcmp X.1 X.2.1 d0 (lv_if_le X.1 X.2.1 d ht (fun q => kj r M' (by rw [if_neg (Int64.not_lt.mpr ((lg_cmp_le x y).mp q))] at h; exact h) H locs ls hP hS hl) (fun q => kf r M' (by rw [if_pos (Int64.not_le.mp (fun e => q ((lg_cmp_le x y).mpr e)))] at h; exact h) H locs ls hP hS hl))
theorem k_lt_in {Z : ZT} {E : En} {nL : Nat} {cc : ByteArray} {own : String} {rt : Option FieldType} {fr lo : Nat} {ρ : Type} {Qf : ρ → Mem → State → Prop} {o : Option (ρ × Mem)} {M : Mem} {pc : Nat} {lv : List (Nat × Value)} {rest : List Value} (X : Cx Z E nL cc own rt fr lo) {dflt lo hi : Int} {offs : Array Int} {len : Nat} {x : Int32} (v : Int32) {off : Int} (tgt : Nat) (d : decode cc pc = .ok (.tableswitch dflt lo hi offs, len)) (hx : x = v) (h1 : ¬ v.toInt < lo) (h2 : ¬ hi < v.toInt) (ho : offs[(v.toInt - lo).toNat]? = some off) (ht : (pc : Int) + off = (tgt : Int)) (k : Kj Z E nL Qf o M tgt lv rest) : Kj Z E nL Qf o M pc lv (.int x :: rest) :=
  fun r M' h H locs ls hP hS hl => by subst hx; exact lv_tableIn X.1 X.2.1 d h1 h2 ho ht (k r M' h H locs ls hP hS hl)
theorem k_lt_out {Z : ZT} {E : En} {nL : Nat} {cc : ByteArray} {own : String} {rt : Option FieldType} {fr lo : Nat} {ρ : Type} {Qf : ρ → Mem → State → Prop} {o : Option (ρ × Mem)} {M : Mem} {pc : Nat} {lv : List (Nat × Value)} {rest : List Value} (X : Cx Z E nL cc own rt fr lo) {dflt lo hi : Int} {offs : Array Int} {len : Nat} {x : Int32} (tgt : Nat) (d : decode cc pc = .ok (.tableswitch dflt lo hi offs, len)) (h : x.toInt < lo ∨ hi < x.toInt) (ht : (pc : Int) + dflt = (tgt : Int)) (k : Kj Z E nL Qf o M tgt lv rest) : Kj Z E nL Qf o M pc lv (.int x :: rest) :=
  fun r M' h0 H locs ls hP hS hl => lv_tableOut X.1 X.2.1 d h ht (k r M' h0 H locs ls hP hS hl)
theorem k_lookup {Z : ZT} {E : En} {nL : Nat} {cc : ByteArray} {own : String} {rt : Option FieldType} {fr lo : Nat} {ρ : Type} {Qf : ρ → Mem → State → Prop} {o : Option (ρ × Mem)} {M : Mem} {pc : Nat} {lv : List (Nat × Value)} {rest : List Value} (X : Cx Z E nL cc own rt fr lo) {dflt : Int} {ps : Array (Int × Int)} {len : Nat} {x : Int32} {off : Int} (tgt : Nat) (d : decode cc pc = .ok (.lookupswitch dflt ps, len)) (hp : (ps.toList.zip (ps.toList.drop 1)).all (fun (a, next) => a.1 < next.1) = true) (ho : Op.lookupswitch.offset ps.toList dflt x.toInt = off) (ht : (pc : Int) + off = (tgt : Int)) (k : Kj Z E nL Qf o M tgt lv rest) : Kj Z E nL Qf o M pc lv (.int x :: rest) :=
  fun r M' h H locs ls hP hS hl => lv_lookup X.1 X.2.1 d hp ho ht (k r M' h H locs ls hP hS hl)
theorem k_if {Z : ZT} {E : En} {nL : Nat} {ρ : Type} {Qf : ρ → Mem → State → Prop} {oa ob : Option (ρ × Mem)} {M : Mem} {pc : Nat} {lv : List (Nat × Value)} {st : List Value} {q : Prop} [Decidable q] (ha : q → Kj Z E nL Qf oa M pc lv st) (hb : ¬ q → Kj Z E nL Qf ob M pc lv st) : Kj Z E nL Qf (if q then oa else ob) M pc lv st := by
  by_cases hq : q
  · rw [if_pos hq]; exact ha hq
  · rw [if_neg hq]; exact hb hq
theorem k_none {Z : ZT} {E : En} {nL : Nat} {ρ : Type} {Qf : ρ → Mem → State → Prop} {M : Mem} {pc : Nat} {lv : List (Nat × Value)} {st : List Value} : Kj Z E nL Qf none M pc lv st := fun _ _ h => by cases h
theorem k_lv {Z : ZT} {E : En} {nL : Nat} {ρ : Type} {Qf : ρ → Mem → State → Prop} {o : Option (ρ × Mem)} {M : Mem} {pc : Nat} {lv lv' : List (Nat × Value)} {st : List Value} (ks : List Nat) (hq : lv_pick lv ks = lv') (k : Kj Z E nL Qf o M pc lv' st) : Kj Z E nL Qf o M pc lv st := fun r M' h H locs ls hP hS hl => k r M' h H locs ls hP hS (lv_sub hl ks hq)
/-! fields: class c's field f by the pool entry idx of own -/
def FlI (own : String) (idx c f : Nat) : Prop := ∃ (C : String) (T : u_T) (N : Nat) (ty0 : Nat → FieldType), vwCl[c]? = some (C, T, N) ∧ (∀ w ∈ u_ws C T N, w ∈ wAll) ∧ (∀ k, k < N → parseFieldDescriptor (T k).2.2.1 = some (ty0 k)) ∧ (∀ a, a < N → ∀ b, b < N → a ≠ b → (T a).2.1 ≠ (T b).2.1) ∧ f < N ∧ nfl c = N ∧ fint c f = true ∧ Cond.fieldLink own idx (T f).1 (T f).2.1 (T f).2.2.1 ∈ wAll ∧ (T f).2.2.2 = false ∧ parseFieldDescriptor (T f).2.2.1 = some .int ∧ c < 9
def FlR (own : String) (idx c f : Nat) : Prop := ∃ (C : String) (T : u_T) (N : Nat), vwCl[c]? = some (C, T, N) ∧ (∀ w ∈ u_ws C T N, w ∈ wAll) ∧ f < N ∧ nfl c = N ∧ fint c f = false ∧ Cond.fieldLink own idx (T f).1 (T f).2.1 (T f).2.2.1 ∈ wAll ∧ c < 9
def isC (k c : Nat) : Prop := k < NN ∧ kd k = c
theorem k_getI {Z : ZT} {E : En} {nL : Nat} {cc : ByteArray} {own : String} {rt : Option FieldType} {fr lo : Nat} {ρ : Type} {Qf : ρ → Mem → State → Prop} {o : Option (ρ × Mem)} {M : Mem} {pc : Nat} {lv : List (Nat × Value)} {rest : List Value} (X : Cx Z E nL cc own rt fr lo) {k c f idx : Nat} (hk : isC k c) (fl : FlI own idx c f) (d : decode cc pc = .ok (.getfield idx, 3)) (kk : Kj Z E nL Qf o M (pc + 3) lv (.int (gi M k f) :: rest)) : Kj Z E nL Qf o M pc lv (.ref (ad E k) :: rest) := by
  intro r M' h H locs ls hP hS hl
  obtain ⟨C, T, N, ty0, h1, h2, h3, h4, h5, h6, h7, h8, h9, h10, h11⟩ := fl
  refine va_get (D := E.1) (ci := c) (v := .int (gi M k f)) X.1 X.2.1 X.2.2.2.2.1 h2 X.2.2.2.1 X.2.2.2.2.2.1.1 hP k (by rw [wl_get hk.1, cel_O hk.2 h11]) h1 f h5 (X.2.2.2.2.1 _ h8) (fun _ q => q) ?_ d (kk r M' h H locs ls hP hS hl)
  simp [h6, h5, h7, gi]
theorem k_getR {Z : ZT} {E : En} {nL : Nat} {cc : ByteArray} {own : String} {rt : Option FieldType} {fr lo : Nat} {ρ : Type} {Qf : ρ → Mem → State → Prop} {o : Option (ρ × Mem)} {M : Mem} {pc : Nat} {lv : List (Nat × Value)} {rest : List Value} (X : Cx Z E nL cc own rt fr lo) {k c f idx t : Nat} (hk : isC k c) (fl : FlR own idx c f) (hr : rf k f = t) (d : decode cc pc = .ok (.getfield idx, 3)) (kk : Kj Z E nL Qf o M (pc + 3) lv (.ref (ad E t) :: rest)) : Kj Z E nL Qf o M pc lv (.ref (ad E k) :: rest) := by
  intro r M' h H locs ls hP hS hl
  obtain ⟨C, T, N, h1, h2, h5, h6, h7, h8, h11⟩ := fl
  refine va_get (D := E.1) (ci := c) (v := .ref (ad E t)) X.1 X.2.1 X.2.2.2.2.1 h2 X.2.2.2.1 X.2.2.2.2.2.1.1 hP k (by rw [wl_get hk.1, cel_O hk.2 h11]) h1 f h5 (X.2.2.2.2.1 _ h8) (fun _ q => q) ?_ d (kk r M' h H locs ls hP hS hl)
  simp [h6, h5, h7, PF, hr, va_rf]
theorem k_putI {Z : ZT} {E : En} {nL : Nat} {cc : ByteArray} {own : String} {rt : Option FieldType} {fr lo : Nat} {ρ : Type} {Qf : ρ → Mem → State → Prop} {o : Option (ρ × Mem)} {M : Mem} {pc : Nat} {lv : List (Nat × Value)} {rest : List Value} (X : Cx Z E nL cc own rt fr lo) {k c f idx : Nat} {v : Int32} (hk : isC k c) (fl : FlI own idx c f) (d : decode cc pc = .ok (.putfield idx, 3)) (kk : Kj Z E nL Qf o (uI M k f v) (pc + 3) lv rest) : Kj Z E nL Qf o M pc lv (.int v :: .ref (ad E k) :: rest) := by
  intro r M' h H locs ls hP hS hl
  obtain ⟨C, T, N, ty0, h1, h2, h3, h4, h5, h6, h7, h8, h9, h10, h11⟩ := fl
  refine va_put (D := E.1) (ci := c) (v := .int v) (ty := .int) X.1 X.2.1 X.2.2.2.2.1 h2 ty0 h3 h4 X.2.2.2.1 X.2.2.2.2.2.1.1 hP wl_D hS k (by rw [wl_get hk.1, cel_O hk.2 h11]) h1 f h5 (X.2.2.2.2.1 _ h8) (fun _ q => q) h9 h10 rfl rfl (by simp [h6, h5]) d (fun H1 locs1 hP1 _ hS1 => ?_)
  rw [wl_uI (cel_putI hk.2 h11 (by rw [h6]; exact h5) h7)] at hP1
  exact kk r M' h H1 locs1 ls hP1 hS1 hl
theorem k_iald {Z : ZT} {E : En} {nL : Nat} {cc : ByteArray} {own : String} {rt : Option FieldType} {fr lo : Nat} {ρ : Type} {Qf : ρ → Mem → State → Prop} {o : Option (ρ × Mem)} {M : Mem} {pc : Nat} {lv : List (Nat × Value)} {rest : List Value} (X : Cx Z E nL cc own rt fr lo) {k n : Nat} {i : Int32} (hk : isC k 9) (hn : ln k = n) (d : decode cc pc = .ok (.iaload, 1)) (kk : inb i n = true → Kj Z E nL Qf o M (pc + 1) lv (.int (gi M k (ix i)) :: rest)) : Kj Z E nL Qf (gd (inb i n) o) M pc lv (.int i :: .ref (ad E k) :: rest) := by
  intro r M' h H locs ls hP hS hl
  by_cases hi : inb i n = true
  · simp only [gd, hi, if_true] at h
    subst hn
    exact va_iald (D := E.1) (f := M.1 k) X.1 X.2.1 X.2.2.2.2.2.1.1 hP k 0 (by rw [wl_get hk.1, cel_I hk.2]) rfl (inb_in hi) d (kk hi r M' h H locs ls hP hS hl)
  · simp only [gd, hi] at h; cases h
theorem k_ialdC {Z : ZT} {E : En} {nL : Nat} {cc : ByteArray} {own : String} {rt : Option FieldType} {fr lo : Nat} {ρ : Type} {Qf : ρ → Mem → State → Prop} {o : Option (ρ × Mem)} {M : Mem} {pc : Nat} {lv : List (Nat × Value)} {rest : List Value} (X : Cx Z E nL cc own rt fr lo) {k n : Nat} {i : Int32} (j : Nat) (hk : isC k 9) (hn : ln k = n) (hi : inb i n = true) (hj : ix i = j) (d : decode cc pc = .ok (.iaload, 1)) (kk : Kj Z E nL Qf o M (pc + 1) lv (.int (gi M k j) :: rest)) : Kj Z E nL Qf o M pc lv (.int i :: .ref (ad E k) :: rest) := by
  intro r M' h H locs ls hP hS hl
  subst hn
  subst hj
  exact va_iald (D := E.1) (f := M.1 k) X.1 X.2.1 X.2.2.2.2.2.1.1 hP k 0 (by rw [wl_get hk.1, cel_I hk.2]) rfl (inb_in hi) d (kk r M' h H locs ls hP hS hl)
theorem k_iast {Z : ZT} {E : En} {nL : Nat} {cc : ByteArray} {own : String} {rt : Option FieldType} {fr lo : Nat} {ρ : Type} {Qf : ρ → Mem → State → Prop} {o : Option (ρ × Mem)} {M : Mem} {pc : Nat} {lv : List (Nat × Value)} {rest : List Value} (X : Cx Z E nL cc own rt fr lo) {k n : Nat} {i v : Int32} (hk : isC k 9) (hn : ln k = n) (d : decode cc pc = .ok (.iastore, 1)) (kk : inb i n = true → Kj Z E nL Qf o (uI M k (ix i) v) (pc + 1) lv rest) : Kj Z E nL Qf (gd (inb i n) o) M pc lv (.int v :: .int i :: .ref (ad E k) :: rest) := by
  intro r M' h H locs ls hP hS hl
  by_cases hi : inb i n = true
  · simp only [gd, hi, if_true] at h
    subst hn
    refine va_iast (D := E.1) X.1 X.2.1 X.2.2.2.2.2.1.1 hP wl_D hS k 0 (by rw [wl_get hk.1, cel_I hk.2]) rfl (inb_in hi) d (fun H1 locs1 hP1 _ hS1 => ?_)
    rw [wl_uI (i := ix i) (v := v) (by rw [cel_I hk.2, uI_eq]; rfl)] at hP1
    exact kk hi r M' h H1 locs1 ls hP1 hS1 hl
  · simp only [gd, hi] at h; cases h
theorem k_iastC {Z : ZT} {E : En} {nL : Nat} {cc : ByteArray} {own : String} {rt : Option FieldType} {fr lo : Nat} {ρ : Type} {Qf : ρ → Mem → State → Prop} {o : Option (ρ × Mem)} {M : Mem} {pc : Nat} {lv : List (Nat × Value)} {rest : List Value} (X : Cx Z E nL cc own rt fr lo) {k n : Nat} {i v : Int32} (j : Nat) (hk : isC k 9) (hn : ln k = n) (hi : inb i n = true) (hj : ix i = j) (d : decode cc pc = .ok (.iastore, 1)) (kk : Kj Z E nL Qf o (uI M k j v) (pc + 1) lv rest) : Kj Z E nL Qf o M pc lv (.int v :: .int i :: .ref (ad E k) :: rest) := by
  intro r M' h H locs ls hP hS hl
  subst hn
  subst hj
  refine va_iast (D := E.1) X.1 X.2.1 X.2.2.2.2.2.1.1 hP wl_D hS k 0 (by rw [wl_get hk.1, cel_I hk.2]) rfl (inb_in hi) d (fun H1 locs1 hP1 _ hS1 => ?_)
  rw [wl_uI (i := ix i) (v := v) (by rw [cel_I hk.2, uI_eq]; rfl)] at hP1
  exact kk r M' h H1 locs1 ls hP1 hS1 hl
theorem k_lald {Z : ZT} {E : En} {nL : Nat} {cc : ByteArray} {own : String} {rt : Option FieldType} {fr lo : Nat} {ρ : Type} {Qf : ρ → Mem → State → Prop} {o : Option (ρ × Mem)} {M : Mem} {pc : Nat} {lv : List (Nat × Value)} {rest : List Value} (X : Cx Z E nL cc own rt fr lo) {k n : Nat} {i : Int32} (hk : isC k 10) (hn : ln k = n) (d : decode cc pc = .ok (.laload, 1)) (kk : inb i n = true → Kj Z E nL Qf o M (pc + 1) lv (.long (gl M k (ix i)) :: rest)) : Kj Z E nL Qf (gd (inb i n) o) M pc lv (.int i :: .ref (ad E k) :: rest) := by
  intro r M' h H locs ls hP hS hl
  by_cases hi : inb i n = true
  · simp only [gd, hi, if_true] at h
    subst hn
    exact va_lald (D := E.1) (f := M.2 k) X.1 X.2.1 X.2.2.2.2.2.1.1 hP k 1 (by rw [wl_get hk.1, cel_J hk.2]) rfl (inb_in hi) d (kk hi r M' h H locs ls hP hS hl)
  · simp only [gd, hi] at h; cases h
theorem k_last {Z : ZT} {E : En} {nL : Nat} {cc : ByteArray} {own : String} {rt : Option FieldType} {fr lo : Nat} {ρ : Type} {Qf : ρ → Mem → State → Prop} {o : Option (ρ × Mem)} {M : Mem} {pc : Nat} {lv : List (Nat × Value)} {rest : List Value} (X : Cx Z E nL cc own rt fr lo) {k n : Nat} {i : Int32} {v : Int64} (hk : isC k 10) (hn : ln k = n) (d : decode cc pc = .ok (.lastore, 1)) (kk : inb i n = true → Kj Z E nL Qf o (uL M k (ix i) v) (pc + 1) lv rest) : Kj Z E nL Qf (gd (inb i n) o) M pc lv (.long v :: .int i :: .ref (ad E k) :: rest) := by
  intro r M' h H locs ls hP hS hl
  by_cases hi : inb i n = true
  · simp only [gd, hi, if_true] at h
    subst hn
    refine va_last (D := E.1) X.1 X.2.1 X.2.2.2.2.2.1.1 hP wl_D hS k 1 (by rw [wl_get hk.1, cel_J hk.2]) rfl (inb_in hi) d (fun H1 locs1 hP1 _ hS1 => ?_)
    rw [wl_uL (i := ix i) (v := v) (by rw [cel_J hk.2, uL_eq]; rfl)] at hP1
    exact kk hi r M' h H1 locs1 ls hP1 hS1 hl
  · simp only [gd, hi] at h; cases h
theorem k_zald {Z : ZT} {E : En} {nL : Nat} {cc : ByteArray} {own : String} {rt : Option FieldType} {fr lo : Nat} {ρ : Type} {Qf : ρ → Mem → State → Prop} {o : Option (ρ × Mem)} {M : Mem} {pc : Nat} {lv : List (Nat × Value)} {rest : List Value} (X : Cx Z E nL cc own rt fr lo) {k n : Nat} {i : Int32} (hk : isC k 11) (hn : ln k = n) (d : decode cc pc = .ok (.baload, 1)) (kk : inb i n = true → Kj Z E nL Qf o M (pc + 1) lv (.int (gi M k (ix i)) :: rest)) : Kj Z E nL Qf (gd (inb i n) o) M pc lv (.int i :: .ref (ad E k) :: rest) := by
  intro r M' h H locs ls hP hS hl
  by_cases hi : inb i n = true
  · simp only [gd, hi, if_true] at h
    subst hn
    exact va_zald (D := E.1) (f := M.1 k) X.1 X.2.1 X.2.2.2.2.2.1.1 hP k 2 (by rw [wl_get hk.1, cel_Z hk.2]) rfl (inb_in hi) d (kk hi r M' h H locs ls hP hS hl)
  · simp only [gd, hi] at h; cases h
theorem k_zast {Z : ZT} {E : En} {nL : Nat} {cc : ByteArray} {own : String} {rt : Option FieldType} {fr lo : Nat} {ρ : Type} {Qf : ρ → Mem → State → Prop} {o : Option (ρ × Mem)} {M : Mem} {pc : Nat} {lv : List (Nat × Value)} {rest : List Value} (X : Cx Z E nL cc own rt fr lo) {k n : Nat} {i v : Int32} (hk : isC k 11) (hn : ln k = n) (hv : vp_nar .boolean v = v) (d : decode cc pc = .ok (.bastore, 1)) (kk : inb i n = true → Kj Z E nL Qf o (uI M k (ix i) v) (pc + 1) lv rest) : Kj Z E nL Qf (gd (inb i n) o) M pc lv (.int v :: .int i :: .ref (ad E k) :: rest) := by
  intro r M' h H locs ls hP hS hl
  by_cases hi : inb i n = true
  · simp only [gd, hi, if_true] at h
    subst hn
    refine va_zast (D := E.1) X.1 X.2.1 X.2.2.2.2.2.1.1 hP wl_D hS k 2 (by rw [wl_get hk.1, cel_Z hk.2]) rfl (inb_in hi) d (fun H1 locs1 hP1 _ hS1 => ?_)
    rw [wl_uI (i := ix i) (v := v) (by rw [cel_Z hk.2, uI_eq]; first | rfl | rw [hv]; rfl)] at hP1
    exact kk hi r M' h H1 locs1 ls hP1 hS1 hl
  · simp only [gd, hi] at h; cases h
theorem k_aaldY {Z : ZT} {E : En} {nL : Nat} {cc : ByteArray} {own : String} {rt : Option FieldType} {fr lo : Nat} {ρ : Type} {Qf : ρ → Mem → State → Prop} {o : Option (ρ × Mem)} {M : Mem} {pc : Nat} {lv : List (Nat × Value)} {rest : List Value} (X : Cx Z E nL cc own rt fr lo) {k n : Nat} {i : Int32} {f : Nat → Nat} (hk : isC k 12) (hn : ln k = n) (hf : ∀ j, j < n → rf k j = f j) (d : decode cc pc = .ok (.aaload, 1)) (kk : inb i n = true → Kj Z E nL Qf o M (pc + 1) lv (.ref (ad E (f (ix i))) :: rest)) : Kj Z E nL Qf (gd (inb i n) o) M pc lv (.int i :: .ref (ad E k) :: rest) := by
  intro r M' h H locs ls hP hS hl
  by_cases hi : inb i n = true
  · simp only [gd, hi, if_true] at h
    subst hn
    have hin := inb_in hi
    have hlt : ix i < ln k := Nat.not_le.mp fun q => hin (Or.inr q)
    refine va_aldq (D := E.1) X.1 X.2.1 X.2.2.2.2.2.1.1 hP k 3 (by rw [wl_get hk.1, cel_Y hk.2]) rfl hin d ?_
    have := kk hi r M' h H locs ls hP hS hl
    rw [← hf _ hlt] at this
    exact this
  · simp only [gd, hi] at h; cases h
theorem k_aaldA {Z : ZT} {E : En} {nL : Nat} {cc : ByteArray} {own : String} {rt : Option FieldType} {fr lo : Nat} {ρ : Type} {Qf : ρ → Mem → State → Prop} {o : Option (ρ × Mem)} {M : Mem} {pc : Nat} {lv : List (Nat × Value)} {rest : List Value} (X : Cx Z E nL cc own rt fr lo) {k n : Nat} {i : Int32} {f : Nat → Nat} (hk : isC k 13) (hn : ln k = n) (hf : ∀ j, j < n → rf k j = f j) (d : decode cc pc = .ok (.aaload, 1)) (kk : inb i n = true → Kj Z E nL Qf o M (pc + 1) lv (.ref (ad E (f (ix i))) :: rest)) : Kj Z E nL Qf (gd (inb i n) o) M pc lv (.int i :: .ref (ad E k) :: rest) := by
  intro r M' h H locs ls hP hS hl
  by_cases hi : inb i n = true
  · simp only [gd, hi, if_true] at h
    subst hn
    have hin := inb_in hi
    have hlt : ix i < ln k := Nat.not_le.mp fun q => hin (Or.inr q)
    have hc := hP k _ (wl_get hk.1)
    rw [cel_A hk.2] at hc
    have hK := (X.2.2.2.2.2.1.1.2 4 (E.2.2.1 4, .array .int) rfl).1
    refine W.aald (v := .ref (ad E (f (ix i)))) (ty := .array .int) X.1 X.2.1 hc (hK (ln k) (fun j => va_rf ((PF k j).map (ad E)))) rfl (fun q => by cases q) (by show ¬ (i < 0 ∨ (arrV _ _ _).slots.size ≤ _); rw [arrV_size]; exact hin) ?_ rfl rfl d (kk hi r M' h H locs ls hP hS hl)
    show (arrV (E.2.2.1 4) (ln k) (fun j => va_rf ((PF k j).map (ad E)))).slots[ix i]? = _
    rw [arrV_read _ _ hlt]
    show some (va_rf ((PF k (ix i)).map (ad E))) = _
    simp [PF, va_rf, hf _ hlt]
  · simp only [gd, hi] at h; cases h
theorem k_alen {Z : ZT} {E : En} {nL : Nat} {cc : ByteArray} {own : String} {rt : Option FieldType} {fr lo : Nat} {ρ : Type} {Qf : ρ → Mem → State → Prop} {o : Option (ρ × Mem)} {M : Mem} {pc : Nat} {lv : List (Nat × Value)} {rest : List Value} (X : Cx Z E nL cc own rt fr lo) {k n : Nat} {v : Int32} (hk : isC k 9) (hn : ln k = n) (hv : Int32.ofNat n = v) (d : decode cc pc = .ok (.arraylength, 1)) (kk : Kj Z E nL Qf o M (pc + 1) lv (.int v :: rest)) : Kj Z E nL Qf o M pc lv (.ref (ad E k) :: rest) := by
  intro r M' h H locs ls hP hS hl
  subst hn
  exact va_alen (D := E.1) (ty := .int) X.1 X.2.1 X.2.2.2.2.2.1.1 hP k 0 (by rw [wl_get hk.1, cel_I hk.2]) rfl hv d (kk r M' h H locs ls hP hS hl)
end
section
theorem WS_of {Z : ZT} {E : En} {nL : Nat} {cc : ByteArray} {own : String} {rt : Option FieldType} {fr lo : Nat} {M : Mem} {H : Heap} {locs : List Loc} (X : Cx Z E nL cc own rt fr lo) (hP : va_P E.1 vwCl (wl E NN PF M) H) (hS : va_S (AE E) (zs Z).heap H locs) {t : State} (ht : t.heap = H) (hW : (zs Z).WarmedH t.vm) : WS E M t := by
  refine ⟨by rw [ht]; exact hP, ?_⟩
  have h1 : VS E t (zs Z).heap := VS.warm hW X.2.2.2.2.2.1
  exact VS.kept (fun a h1 h2 => by rw [ht]; exact hS.2.1 a h1 h2) h1
theorem k_iret {Z : ZT} {E : En} {nL : Nat} {cc : ByteArray} {own : String} {fr lo : Nat} {M : Mem} {pc : Nat} {lv : List (Nat × Value)} {v : Int32} (X : Cx Z E nL cc own (some .int) fr lo) (d : decode cc pc = .ok (.ireturn, 1)) : Kj Z E nL (QI Z E) (some (v, M)) M pc lv [.int v] := by
  intro r M' h H locs ls hP hS hl
  cases h
  exact W.iret (v := v) X.1 X.2.1 X.2.2.2.2.2.2.2.1 (fun t ht hW => ⟨⟨v, M, rfl, ⟨rfl, rfl⟩, WS_of X hP hS ht hW⟩, hS.F ht⟩) hS.2.2 d X.2.2.2.2.2.2.1
theorem k_zret {Z : ZT} {E : En} {nL : Nat} {cc : ByteArray} {own : String} {fr lo : Nat} {M : Mem} {pc : Nat} {lv : List (Nat × Value)} {v : Int32} (X : Cx Z E nL cc own (some .boolean) fr lo) (hn : v &&& 1 = v) (d : decode cc pc = .ok (.ireturn, 1)) : Kj Z E nL (QI Z E) (some (v, M)) M pc lv [.int v] := by
  intro r M' h H locs ls hP hS hl
  cases h
  exact W.zret (v := v) X.1 X.2.1 X.2.2.2.2.2.2.2.1 (by show Value.int (v &&& 1) = _; rw [hn]) (fun t ht hW => ⟨⟨v, M, rfl, ⟨rfl, rfl⟩, WS_of X hP hS ht hW⟩, hS.F ht⟩) hS.2.2 d X.2.2.2.2.2.2.1
def isB (v : Int32) : Bool := decide (v = 0) || decide (v = 1)
theorem k_zretG {Z : ZT} {E : En} {nL : Nat} {cc : ByteArray} {own : String} {fr lo : Nat} {M : Mem} {pc : Nat} {lv : List (Nat × Value)} {v : Int32} (X : Cx Z E nL cc own (some .boolean) fr lo) (d : decode cc pc = .ok (.ireturn, 1)) : Kj Z E nL (QI Z E) (gd (isB v) (some (v, M))) M pc lv [.int v] := by
  intro r M' h
  by_cases hv : isB v = true
  · simp only [gd, hv, if_true] at h
    refine k_zret X ?_ d r M' h
    simp only [isB, Bool.or_eq_true, decide_eq_true_eq] at hv
    rcases hv with q | q <;> subst q <;> decide
  · simp only [gd, hv] at h; cases h
theorem k_lret {Z : ZT} {E : En} {nL : Nat} {cc : ByteArray} {own : String} {fr lo : Nat} {M : Mem} {pc : Nat} {lv : List (Nat × Value)} {v : Int64} (X : Cx Z E nL cc own (some .long) fr lo) (d : decode cc pc = .ok (.lreturn, 1)) : Kj Z E nL (QL Z E) (some (v, M)) M pc lv [.long v] := by
  intro r M' h H locs ls hP hS hl
  cases h
  exact W.lret (v := v) X.1 X.2.1 X.2.2.2.2.2.2.2.1 (fun t ht hW => ⟨⟨v, M, rfl, ⟨rfl, rfl⟩, WS_of X hP hS ht hW⟩, hS.F ht⟩) hS.2.2 d X.2.2.2.2.2.2.1
theorem k_vret {Z : ZT} {E : En} {nL : Nat} {cc : ByteArray} {own : String} {fr lo : Nat} {M : Mem} {pc : Nat} {lv : List (Nat × Value)} (X : Cx Z E nL cc own none fr lo) (d : decode cc pc = .ok (.return_, 1)) : Kj Z E nL (QV Z E) (some ((), M)) M pc lv [] := by
  intro r M' h H locs ls hP hS hl
  cases h
  exact W.vret X.1 X.2.1 X.2.2.2.2.2.2.2.1 (fun t ht hW => ⟨⟨M, rfl, rfl, WS_of X hP hS ht hW⟩, hS.F ht⟩) hS.2.2 d X.2.2.2.2.2.2.1
theorem WS_blind {E : En} {M : Mem} {vs : List Value} : FrameBlind (va_Pc vs (WS E M)) := fun a U g mk q => ⟨q.1, q.2.1, VS.same (u := U) (U := U.calling g mk a) rfl q.2.2⟩
/-! a method's contract out of its walk -/
theorem MI_of {l : Launch} {E : En} {y : MethodName} {bytes : ByteArray} {n : Nat} {rt : Option FieldType} {fr lo : Nat} {vs : List Value} {M : Mem} {o : Option (Int32 × Mem)} (hy : plainName y.cls = true) (hvs : (lg_sl vs).length ≤ n) (k : ∀ Z : ZT, zl Z = l → Cx Z E n bytes y.cls rt fr lo → Kj Z E n (QI Z E) o M 0 (lv_args 0 vs) []) : MI l E y bytes n rt fr lo vs M o := by
  intro r M' h
  refine Met.ofW (cc := bytes) (maxL := n) (ret := rt) hy rfl ?_
  intro p e s m args below meth c s₁ B hml hv
  obtain ⟨rfl, hP, hV⟩ := hv
  have hts := atoms_spec (ws := Cond.code y bytes n rt :: wAll) B.pre
  have X : Cx (p, l, e, rmO fr lo, s, m, vs.toArray, below, meth, c) E n bytes y.cls rt fr lo := ⟨B.exec, B.bytes, hml, findClass_of_methodNamed B.named, fun w hw => hts w (List.mem_cons_of_mem _ hw), hV, B.notSynchronized, B.returns, Nat.le_refl _, Nat.le_refl _⟩
  have hl := lv_entry vs (n := n) hvs
  rw [lg_entry_eq]
  exact k _ rfl X r M' h s.heap [] _ hP va_S.rf hl
theorem ML_of {l : Launch} {E : En} {y : MethodName} {bytes : ByteArray} {n : Nat} {rt : Option FieldType} {fr lo : Nat} {vs : List Value} {M : Mem} {o : Option (Int64 × Mem)} (hy : plainName y.cls = true) (hvs : (lg_sl vs).length ≤ n) (k : ∀ Z : ZT, zl Z = l → Cx Z E n bytes y.cls rt fr lo → Kj Z E n (QL Z E) o M 0 (lv_args 0 vs) []) : ML l E y bytes n rt fr lo vs M o := by
  intro r M' h
  refine Met.ofW (cc := bytes) (maxL := n) (ret := rt) hy rfl ?_
  intro p e s m args below meth c s₁ B hml hv
  obtain ⟨rfl, hP, hV⟩ := hv
  have hts := atoms_spec (ws := Cond.code y bytes n rt :: wAll) B.pre
  have X : Cx (p, l, e, rmO fr lo, s, m, vs.toArray, below, meth, c) E n bytes y.cls rt fr lo := ⟨B.exec, B.bytes, hml, findClass_of_methodNamed B.named, fun w hw => hts w (List.mem_cons_of_mem _ hw), hV, B.notSynchronized, B.returns, Nat.le_refl _, Nat.le_refl _⟩
  have hl := lv_entry vs (n := n) hvs
  rw [lg_entry_eq]
  exact k _ rfl X r M' h s.heap [] _ hP va_S.rf hl
theorem MV_of {l : Launch} {E : En} {y : MethodName} {bytes : ByteArray} {n : Nat} {rt : Option FieldType} {fr lo : Nat} {vs : List Value} {M : Mem} {o : Option (Unit × Mem)} (hy : plainName y.cls = true) (hvs : (lg_sl vs).length ≤ n) (k : ∀ Z : ZT, zl Z = l → Cx Z E n bytes y.cls rt fr lo → Kj Z E n (QV Z E) o M 0 (lv_args 0 vs) []) : MV l E y bytes n rt fr lo vs M o := by
  intro r M' h
  refine Met.ofW (cc := bytes) (maxL := n) (ret := rt) hy rfl ?_
  intro p e s m args below meth c s₁ B hml hv
  obtain ⟨rfl, hP, hV⟩ := hv
  have hts := atoms_spec (ws := Cond.code y bytes n rt :: wAll) B.pre
  have X : Cx (p, l, e, rmO fr lo, s, m, vs.toArray, below, meth, c) E n bytes y.cls rt fr lo := ⟨B.exec, B.bytes, hml, findClass_of_methodNamed B.named, fun w hw => hts w (List.mem_cons_of_mem _ hw), hV, B.notSynchronized, B.returns, Nat.le_refl _, Nat.le_refl _⟩
  have hl := lv_entry vs (n := n) hvs
  rw [lg_entry_eq]
  exact k _ rfl X r M' h s.heap [] _ hP va_S.rf hl
/-! calls -/
def ClV (own : String) (idx : Nat) (y : MethodName) (bytes : ByteArray) (n : Nat) (rt : Option FieldType) (np : Nat) : Prop := Cond.methodLink own idx y ∈ wAll ∧ Cond.instanceMethod y ∈ wAll ∧ Cond.selects y.cls y y ∈ wAll ∧ Cond.initialized y.cls ∈ wAll ∧ Cond.code y bytes n rt ∈ wAll ∧ (y.cls ≠ "java/lang/invoke/MethodHandle" ∧ y.cls ≠ "java/lang/invoke/VarHandle" ∧ (parseMethodDescriptor y.desc).map (fun d => d.parameters.length) = some np)
def ClS (own : String) (idx : Nat) (y : MethodName) (bytes : ByteArray) (n : Nat) (rt : Option FieldType) (np : Nat) : Prop := Cond.methodLink own idx y ∈ wAll ∧ Cond.static y ∈ wAll ∧ Cond.initialized y.cls ∈ wAll ∧ Cond.code y bytes n rt ∈ wAll ∧ (y.cls ≠ "java/lang/invoke/MethodHandle" ∧ y.cls ≠ "java/lang/invoke/VarHandle" ∧ (parseMethodDescriptor y.desc).map (fun d => d.parameters.length) = some np)
def ClN (own : String) (idx : Nat) (y : MethodName) (host : String) (bytes : ByteArray) (n : Nat) (rt : Option FieldType) (np : Nat) : Prop := (own, idx, y, host) ∈ nmL ∧ Cond.static y ∈ wAll ∧ Cond.initialized y.cls ∈ wAll ∧ Cond.code y bytes n rt ∈ wAll ∧ (y.cls ≠ "java/lang/invoke/MethodHandle" ∧ y.cls ≠ "java/lang/invoke/VarHandle" ∧ (parseMethodDescriptor y.desc).map (fun d => d.parameters.length) = some np)
theorem goodV {own : String} {idx : Nat} {y : MethodName} {bytes : ByteArray} {n : Nat} {rt : Option FieldType} {np : Nat} (h : ClV own idx y bytes n rt np) : GoodIn wAll (wsV own idx y.cls y (Cond.code y bytes n rt :: wAll)) := by
  obtain ⟨h1, h2, h3, h4, h5, -⟩ := h
  refine wAll_good fun w hw => ?_
  simp only [wsV, List.mem_append, List.mem_cons, List.not_mem_nil, or_false] at hw
  rcases hw with (rfl | rfl | rfl | rfl) | (rfl | hw) <;> assumption
theorem goodS {own : String} {idx : Nat} {y : MethodName} {bytes : ByteArray} {n : Nat} {rt : Option FieldType} {np : Nat} (h : ClS own idx y bytes n rt np) : GoodIn wAll (va_wsS own idx y (Cond.code y bytes n rt :: wAll)) := by
  obtain ⟨h1, h2, h3, h4, -⟩ := h
  refine wAll_good fun w hw => ?_
  simp only [va_wsS, List.mem_append, List.mem_cons, List.not_mem_nil, or_false] at hw
  rcases hw with (rfl | rfl | rfl) | (rfl | hw) <;> assumption
theorem k_callVI {Z : ZT} {E : En} {nL : Nat} {cc : ByteArray} {own : String} {rt : Option FieldType} {fr lo : Nat} {ρ : Type} {Qf : ρ → Mem → State → Prop} {M : Mem} {pc : Nat} {lv : List (Nat × Value)} (X : Cx Z E nL cc own rt fr lo) {idx : Nat} {y : MethodName} {bytes : ByteArray} {n np : Nat} {rt1 : Option FieldType} {fr1 lo1 : Nat} {oc : Option (Int32 × Mem)} {f : Int32 → Mem → Option (ρ × Mem)} {st : List Value} (As rest : List Value) {k c : Nat} {C : String} {T : u_T} {N : Nat} (hk : isC k c) (hc : vwCl[c]? = some (C, T, N)) (hc9 : c < 9) (hC : y.cls = C) (hM : MI (zl Z) E y bytes n rt1 fr1 lo1 (.ref (ad E k) :: As) M oc) (cl : ClV own idx y bytes n rt1 np) (hR : fr1 + 1 ≤ fr ∧ 8 + (n + 11) + lo1 ≤ lo) (hn : As.length = np) (hst : st = As.reverse ++ (.ref (ad E k) :: rest)) (hcat : (rest.map fun v => v.category).sum ≤ 8) (d : decode cc pc = .ok (.invokevirtual idx, 3)) (kk : ∀ (r : Int32) (M1 : Mem), Kj Z E nL Qf (f r M1) M1 (pc + 3) lv (.int r :: rest)) : Kj Z E nL Qf (bd oc f) M pc lv st := by
  intro r' M' h H locs ls hP hS hl
  cases oc with
  | none => cases h
  | some q =>
    obtain ⟨r1, M1⟩ := q
    have h : f r1 M1 = some (r', M') := h
    subst hst
    subst hC
    have hrc := va_recv X.2.2.2.2.2.1.1 hP hc (a := ad E k) (q0 := k) (by rw [wl_get hk.1, cel_O hk.2 hc9])
    refine va_calli (va_runV (As := As) (rest := rest) ⟨X.1, X.2.1, X.2.2.1, X.2.2.2.1, X.2.2.2.2.1⟩ (hM r1 M1 rfl) (cwV np X.2.2.2.2.1 (goodV cl) rfl rfl rfl ⟨rfl, cl.2.2.2.2.2⟩ ⟨Nat.le_trans hR.1 X.2.2.2.2.2.2.2.2.1, Nat.le_trans hR.2 X.2.2.2.2.2.2.2.2.2⟩) ⟨WS_blind, hrc, fun U hU hW => ⟨rfl, WS_of X hP hS hU hW⟩⟩ rfl hn hl.1 rfl (lv_room hcat) d ⟨Nat.zero_le _, Nat.zero_le _⟩) hS (fun q _ h => h) (fun q h => h) (fun r u t H1 locs1 ht hvm hw hB hz hkp hS1 => ?_)
    obtain ⟨rfl, rfl⟩ := hw
    exact kk r u r' M' h H1 locs1 ls (by rw [← ht]; exact hB.1) hS1 hl
theorem k_callSI {Z : ZT} {E : En} {nL : Nat} {cc : ByteArray} {own : String} {rt : Option FieldType} {fr lo : Nat} {ρ : Type} {Qf : ρ → Mem → State → Prop} {M : Mem} {pc : Nat} {lv : List (Nat × Value)} (X : Cx Z E nL cc own rt fr lo) {idx : Nat} {y : MethodName} {bytes : ByteArray} {n np : Nat} {rt1 : Option FieldType} {fr1 lo1 : Nat} {oc : Option (Int32 × Mem)} {f : Int32 → Mem → Option (ρ × Mem)} {st : List Value} (As rest : List Value) (hM : MI (zl Z) E y bytes n rt1 fr1 lo1 (As) M oc) (cl : ClS own idx y bytes n rt1 np) (hR : fr1 + 1 ≤ fr ∧ 8 + (n + 11) + lo1 ≤ lo) (hn : As.length = np) (hst : st = As.reverse ++ (rest)) (hcat : (rest.map fun v => v.category).sum ≤ 8) (d : decode cc pc = .ok (.invokestatic idx, 3)) (kk : ∀ (r : Int32) (M1 : Mem), Kj Z E nL Qf (f r M1) M1 (pc + 3) lv (.int r :: rest)) : Kj Z E nL Qf (bd oc f) M pc lv st := by
  intro r' M' h H locs ls hP hS hl
  cases oc with
  | none => cases h
  | some q =>
    obtain ⟨r1, M1⟩ := q
    have h : f r1 M1 = some (r', M') := h
    subst hst
    refine va_calli (va_runS (As := As) (rest := rest) ⟨X.1, X.2.1, X.2.2.1, X.2.2.2.1, X.2.2.2.2.1⟩ (hM r1 M1 rfl) (va_cwS np X.2.2.2.2.1 (goodS cl) rfl rfl rfl cl.2.2.2.2 ⟨Nat.le_trans hR.1 X.2.2.2.2.2.2.2.2.1, Nat.le_trans hR.2 X.2.2.2.2.2.2.2.2.2⟩) ⟨WS_blind, fun U hU hW => ⟨rfl, WS_of X hP hS hU hW⟩⟩ rfl hn hl.1 rfl (lv_room hcat) d ⟨Nat.zero_le _, Nat.zero_le _⟩) hS (fun q _ h => h) (fun q h => h) (fun r u t H1 locs1 ht hvm hw hB hz hkp hS1 => ?_)
    obtain ⟨rfl, rfl⟩ := hw
    exact kk r u r' M' h H1 locs1 ls (by rw [← ht]; exact hB.1) hS1 hl
theorem k_callNI {Z : ZT} {E : En} {nL : Nat} {cc : ByteArray} {own : String} {rt : Option FieldType} {fr lo : Nat} {ρ : Type} {Qf : ρ → Mem → State → Prop} {M : Mem} {pc : Nat} {lv : List (Nat × Value)} (X : Cx Z E nL cc own rt fr lo) {idx : Nat} {y : MethodName} {bytes : ByteArray} {n np : Nat} {rt1 : Option FieldType} {fr1 lo1 : Nat} {oc : Option (Int32 × Mem)} {f : Int32 → Mem → Option (ρ × Mem)} {st : List Value} (As rest : List Value) (hM : MI (zl Z) E y bytes n rt1 fr1 lo1 (As) M oc) {host : String} (cl : ClN own idx y host bytes n rt1 np) (hR : fr1 + 1 ≤ fr ∧ 8 + (n + 11) + lo1 ≤ lo) (hn : As.length = np) (hst : st = As.reverse ++ (rest)) (hcat : (rest.map fun v => v.category).sum ≤ 8) (d : decode cc pc = .ok (.invokestatic idx, 3)) (kk : ∀ (r : Int32) (M1 : Mem), Kj Z E nL Qf (f r M1) M1 (pc + 3) lv (.int r :: rest)) : Kj Z E nL Qf (bd oc f) M pc lv st := by
  intro r' M' h H locs ls hP hS hl
  cases oc with
  | none => cases h
  | some q =>
    obtain ⟨r1, M1⟩ := q
    have h : f r1 M1 = some (r', M') := h
    subst hst
    refine va_calli (va_runSN (As := As) (rest := rest) ⟨X.1, X.2.1, X.2.2.1, X.2.2.2.1, X.2.2.2.2.1⟩ (hM r1 M1 rfl) ⟨va_cnB np X.2.2.2.2.1 (wAll_code cl.2.2.2.1) rfl rfl rfl (X.2.2.2.2.2.1.2.1 _ cl.1) (X.2.2.2.2.1 _ cl.2.2.1) cl.2.2.2.2 ⟨Nat.le_trans hR.1 X.2.2.2.2.2.2.2.2.1, Nat.le_trans hR.2 X.2.2.2.2.2.2.2.2.2⟩, X.2.2.2.2.1 _ cl.2.1, trivial⟩ ⟨WS_blind, fun U hU hW => ⟨rfl, WS_of X hP hS hU hW⟩⟩ rfl hn hl.1 rfl (lv_room hcat) d ⟨Nat.zero_le _, Nat.zero_le _⟩) hS (fun q _ h => h) (fun q h => h) (fun r u t H1 locs1 ht hvm hw hB hz hkp hS1 => ?_)
    obtain ⟨rfl, rfl⟩ := hw
    exact kk r u r' M' h H1 locs1 ls (by rw [← ht]; exact hB.1) hS1 hl
theorem k_callVL {Z : ZT} {E : En} {nL : Nat} {cc : ByteArray} {own : String} {rt : Option FieldType} {fr lo : Nat} {ρ : Type} {Qf : ρ → Mem → State → Prop} {M : Mem} {pc : Nat} {lv : List (Nat × Value)} (X : Cx Z E nL cc own rt fr lo) {idx : Nat} {y : MethodName} {bytes : ByteArray} {n np : Nat} {rt1 : Option FieldType} {fr1 lo1 : Nat} {oc : Option (Int64 × Mem)} {f : Int64 → Mem → Option (ρ × Mem)} {st : List Value} (As rest : List Value) {k c : Nat} {C : String} {T : u_T} {N : Nat} (hk : isC k c) (hc : vwCl[c]? = some (C, T, N)) (hc9 : c < 9) (hC : y.cls = C) (hM : ML (zl Z) E y bytes n rt1 fr1 lo1 (.ref (ad E k) :: As) M oc) (cl : ClV own idx y bytes n rt1 np) (hR : fr1 + 1 ≤ fr ∧ 8 + (n + 11) + lo1 ≤ lo) (hn : As.length = np) (hst : st = As.reverse ++ (.ref (ad E k) :: rest)) (hcat : (rest.map fun v => v.category).sum ≤ 8) (d : decode cc pc = .ok (.invokevirtual idx, 3)) (kk : ∀ (r : Int64) (M1 : Mem), Kj Z E nL Qf (f r M1) M1 (pc + 3) lv (.long r :: rest)) : Kj Z E nL Qf (bd oc f) M pc lv st := by
  intro r' M' h H locs ls hP hS hl
  cases oc with
  | none => cases h
  | some q =>
    obtain ⟨r1, M1⟩ := q
    have h : f r1 M1 = some (r', M') := h
    subst hst
    subst hC
    have hrc := va_recv X.2.2.2.2.2.1.1 hP hc (a := ad E k) (q0 := k) (by rw [wl_get hk.1, cel_O hk.2 hc9])
    refine va_calll (va_runV (As := As) (rest := rest) ⟨X.1, X.2.1, X.2.2.1, X.2.2.2.1, X.2.2.2.2.1⟩ (hM r1 M1 rfl) (cwV np X.2.2.2.2.1 (goodV cl) rfl rfl rfl ⟨rfl, cl.2.2.2.2.2⟩ ⟨Nat.le_trans hR.1 X.2.2.2.2.2.2.2.2.1, Nat.le_trans hR.2 X.2.2.2.2.2.2.2.2.2⟩) ⟨WS_blind, hrc, fun U hU hW => ⟨rfl, WS_of X hP hS hU hW⟩⟩ rfl hn hl.1 rfl (lv_room hcat) d ⟨Nat.zero_le _, Nat.zero_le _⟩) hS (fun q _ h => h) (fun q h => h) (fun r u t H1 locs1 ht hvm hw hB hz hkp hS1 => ?_)
    obtain ⟨rfl, rfl⟩ := hw
    exact kk r u r' M' h H1 locs1 ls (by rw [← ht]; exact hB.1) hS1 hl
theorem k_callSL {Z : ZT} {E : En} {nL : Nat} {cc : ByteArray} {own : String} {rt : Option FieldType} {fr lo : Nat} {ρ : Type} {Qf : ρ → Mem → State → Prop} {M : Mem} {pc : Nat} {lv : List (Nat × Value)} (X : Cx Z E nL cc own rt fr lo) {idx : Nat} {y : MethodName} {bytes : ByteArray} {n np : Nat} {rt1 : Option FieldType} {fr1 lo1 : Nat} {oc : Option (Int64 × Mem)} {f : Int64 → Mem → Option (ρ × Mem)} {st : List Value} (As rest : List Value) (hM : ML (zl Z) E y bytes n rt1 fr1 lo1 (As) M oc) (cl : ClS own idx y bytes n rt1 np) (hR : fr1 + 1 ≤ fr ∧ 8 + (n + 11) + lo1 ≤ lo) (hn : As.length = np) (hst : st = As.reverse ++ (rest)) (hcat : (rest.map fun v => v.category).sum ≤ 8) (d : decode cc pc = .ok (.invokestatic idx, 3)) (kk : ∀ (r : Int64) (M1 : Mem), Kj Z E nL Qf (f r M1) M1 (pc + 3) lv (.long r :: rest)) : Kj Z E nL Qf (bd oc f) M pc lv st := by
  intro r' M' h H locs ls hP hS hl
  cases oc with
  | none => cases h
  | some q =>
    obtain ⟨r1, M1⟩ := q
    have h : f r1 M1 = some (r', M') := h
    subst hst
    refine va_calll (va_runS (As := As) (rest := rest) ⟨X.1, X.2.1, X.2.2.1, X.2.2.2.1, X.2.2.2.2.1⟩ (hM r1 M1 rfl) (va_cwS np X.2.2.2.2.1 (goodS cl) rfl rfl rfl cl.2.2.2.2 ⟨Nat.le_trans hR.1 X.2.2.2.2.2.2.2.2.1, Nat.le_trans hR.2 X.2.2.2.2.2.2.2.2.2⟩) ⟨WS_blind, fun U hU hW => ⟨rfl, WS_of X hP hS hU hW⟩⟩ rfl hn hl.1 rfl (lv_room hcat) d ⟨Nat.zero_le _, Nat.zero_le _⟩) hS (fun q _ h => h) (fun q h => h) (fun r u t H1 locs1 ht hvm hw hB hz hkp hS1 => ?_)
    obtain ⟨rfl, rfl⟩ := hw
    exact kk r u r' M' h H1 locs1 ls (by rw [← ht]; exact hB.1) hS1 hl
theorem k_callNL {Z : ZT} {E : En} {nL : Nat} {cc : ByteArray} {own : String} {rt : Option FieldType} {fr lo : Nat} {ρ : Type} {Qf : ρ → Mem → State → Prop} {M : Mem} {pc : Nat} {lv : List (Nat × Value)} (X : Cx Z E nL cc own rt fr lo) {idx : Nat} {y : MethodName} {bytes : ByteArray} {n np : Nat} {rt1 : Option FieldType} {fr1 lo1 : Nat} {oc : Option (Int64 × Mem)} {f : Int64 → Mem → Option (ρ × Mem)} {st : List Value} (As rest : List Value) (hM : ML (zl Z) E y bytes n rt1 fr1 lo1 (As) M oc) {host : String} (cl : ClN own idx y host bytes n rt1 np) (hR : fr1 + 1 ≤ fr ∧ 8 + (n + 11) + lo1 ≤ lo) (hn : As.length = np) (hst : st = As.reverse ++ (rest)) (hcat : (rest.map fun v => v.category).sum ≤ 8) (d : decode cc pc = .ok (.invokestatic idx, 3)) (kk : ∀ (r : Int64) (M1 : Mem), Kj Z E nL Qf (f r M1) M1 (pc + 3) lv (.long r :: rest)) : Kj Z E nL Qf (bd oc f) M pc lv st := by
  intro r' M' h H locs ls hP hS hl
  cases oc with
  | none => cases h
  | some q =>
    obtain ⟨r1, M1⟩ := q
    have h : f r1 M1 = some (r', M') := h
    subst hst
    refine va_calll (va_runSN (As := As) (rest := rest) ⟨X.1, X.2.1, X.2.2.1, X.2.2.2.1, X.2.2.2.2.1⟩ (hM r1 M1 rfl) ⟨va_cnB np X.2.2.2.2.1 (wAll_code cl.2.2.2.1) rfl rfl rfl (X.2.2.2.2.2.1.2.1 _ cl.1) (X.2.2.2.2.1 _ cl.2.2.1) cl.2.2.2.2 ⟨Nat.le_trans hR.1 X.2.2.2.2.2.2.2.2.1, Nat.le_trans hR.2 X.2.2.2.2.2.2.2.2.2⟩, X.2.2.2.2.1 _ cl.2.1, trivial⟩ ⟨WS_blind, fun U hU hW => ⟨rfl, WS_of X hP hS hU hW⟩⟩ rfl hn hl.1 rfl (lv_room hcat) d ⟨Nat.zero_le _, Nat.zero_le _⟩) hS (fun q _ h => h) (fun q h => h) (fun r u t H1 locs1 ht hvm hw hB hz hkp hS1 => ?_)
    obtain ⟨rfl, rfl⟩ := hw
    exact kk r u r' M' h H1 locs1 ls (by rw [← ht]; exact hB.1) hS1 hl
theorem k_callVV {Z : ZT} {E : En} {nL : Nat} {cc : ByteArray} {own : String} {rt : Option FieldType} {fr lo : Nat} {ρ : Type} {Qf : ρ → Mem → State → Prop} {M : Mem} {pc : Nat} {lv : List (Nat × Value)} (X : Cx Z E nL cc own rt fr lo) {idx : Nat} {y : MethodName} {bytes : ByteArray} {n np : Nat} {rt1 : Option FieldType} {fr1 lo1 : Nat} {oc : Option (Unit × Mem)} {f : Unit → Mem → Option (ρ × Mem)} {st : List Value} (As rest : List Value) {k c : Nat} {C : String} {T : u_T} {N : Nat} (hk : isC k c) (hc : vwCl[c]? = some (C, T, N)) (hc9 : c < 9) (hC : y.cls = C) (hM : MV (zl Z) E y bytes n rt1 fr1 lo1 (.ref (ad E k) :: As) M oc) (cl : ClV own idx y bytes n rt1 np) (hR : fr1 + 1 ≤ fr ∧ 8 + (n + 11) + lo1 ≤ lo) (hn : As.length = np) (hst : st = As.reverse ++ (.ref (ad E k) :: rest)) (hcat : (rest.map fun v => v.category).sum ≤ 8) (d : decode cc pc = .ok (.invokevirtual idx, 3)) (kk : ∀ (r : Unit) (M1 : Mem), Kj Z E nL Qf (f r M1) M1 (pc + 3) lv (rest)) : Kj Z E nL Qf (bd oc f) M pc lv st := by
  intro r' M' h H locs ls hP hS hl
  cases oc with
  | none => cases h
  | some q =>
    obtain ⟨r1, M1⟩ := q
    have h : f r1 M1 = some (r', M') := h
    subst hst
    subst hC
    have hrc := va_recv X.2.2.2.2.2.1.1 hP hc (a := ad E k) (q0 := k) (by rw [wl_get hk.1, cel_O hk.2 hc9])
    refine va_callv (va_runV (As := As) (rest := rest) ⟨X.1, X.2.1, X.2.2.1, X.2.2.2.1, X.2.2.2.2.1⟩ (hM r1 M1 rfl) (cwV np X.2.2.2.2.1 (goodV cl) rfl rfl rfl ⟨rfl, cl.2.2.2.2.2⟩ ⟨Nat.le_trans hR.1 X.2.2.2.2.2.2.2.2.1, Nat.le_trans hR.2 X.2.2.2.2.2.2.2.2.2⟩) ⟨WS_blind, hrc, fun U hU hW => ⟨rfl, WS_of X hP hS hU hW⟩⟩ rfl hn hl.1 rfl (lv_room hcat) d ⟨Nat.zero_le _, Nat.zero_le _⟩) hS (fun q _ h => h) (fun q h => h) (fun u t H1 locs1 ht hvm hw hB hz hkp hS1 => ?_)
    subst hw
    exact kk r1 u r' M' h H1 locs1 ls (by rw [← ht]; exact hB.1) hS1 hl
theorem k_callSV {Z : ZT} {E : En} {nL : Nat} {cc : ByteArray} {own : String} {rt : Option FieldType} {fr lo : Nat} {ρ : Type} {Qf : ρ → Mem → State → Prop} {M : Mem} {pc : Nat} {lv : List (Nat × Value)} (X : Cx Z E nL cc own rt fr lo) {idx : Nat} {y : MethodName} {bytes : ByteArray} {n np : Nat} {rt1 : Option FieldType} {fr1 lo1 : Nat} {oc : Option (Unit × Mem)} {f : Unit → Mem → Option (ρ × Mem)} {st : List Value} (As rest : List Value) (hM : MV (zl Z) E y bytes n rt1 fr1 lo1 (As) M oc) (cl : ClS own idx y bytes n rt1 np) (hR : fr1 + 1 ≤ fr ∧ 8 + (n + 11) + lo1 ≤ lo) (hn : As.length = np) (hst : st = As.reverse ++ (rest)) (hcat : (rest.map fun v => v.category).sum ≤ 8) (d : decode cc pc = .ok (.invokestatic idx, 3)) (kk : ∀ (r : Unit) (M1 : Mem), Kj Z E nL Qf (f r M1) M1 (pc + 3) lv (rest)) : Kj Z E nL Qf (bd oc f) M pc lv st := by
  intro r' M' h H locs ls hP hS hl
  cases oc with
  | none => cases h
  | some q =>
    obtain ⟨r1, M1⟩ := q
    have h : f r1 M1 = some (r', M') := h
    subst hst
    refine va_callv (va_runS (As := As) (rest := rest) ⟨X.1, X.2.1, X.2.2.1, X.2.2.2.1, X.2.2.2.2.1⟩ (hM r1 M1 rfl) (va_cwS np X.2.2.2.2.1 (goodS cl) rfl rfl rfl cl.2.2.2.2 ⟨Nat.le_trans hR.1 X.2.2.2.2.2.2.2.2.1, Nat.le_trans hR.2 X.2.2.2.2.2.2.2.2.2⟩) ⟨WS_blind, fun U hU hW => ⟨rfl, WS_of X hP hS hU hW⟩⟩ rfl hn hl.1 rfl (lv_room hcat) d ⟨Nat.zero_le _, Nat.zero_le _⟩) hS (fun q _ h => h) (fun q h => h) (fun u t H1 locs1 ht hvm hw hB hz hkp hS1 => ?_)
    subst hw
    exact kk r1 u r' M' h H1 locs1 ls (by rw [← ht]; exact hB.1) hS1 hl
theorem k_callNV {Z : ZT} {E : En} {nL : Nat} {cc : ByteArray} {own : String} {rt : Option FieldType} {fr lo : Nat} {ρ : Type} {Qf : ρ → Mem → State → Prop} {M : Mem} {pc : Nat} {lv : List (Nat × Value)} (X : Cx Z E nL cc own rt fr lo) {idx : Nat} {y : MethodName} {bytes : ByteArray} {n np : Nat} {rt1 : Option FieldType} {fr1 lo1 : Nat} {oc : Option (Unit × Mem)} {f : Unit → Mem → Option (ρ × Mem)} {st : List Value} (As rest : List Value) (hM : MV (zl Z) E y bytes n rt1 fr1 lo1 (As) M oc) {host : String} (cl : ClN own idx y host bytes n rt1 np) (hR : fr1 + 1 ≤ fr ∧ 8 + (n + 11) + lo1 ≤ lo) (hn : As.length = np) (hst : st = As.reverse ++ (rest)) (hcat : (rest.map fun v => v.category).sum ≤ 8) (d : decode cc pc = .ok (.invokestatic idx, 3)) (kk : ∀ (r : Unit) (M1 : Mem), Kj Z E nL Qf (f r M1) M1 (pc + 3) lv (rest)) : Kj Z E nL Qf (bd oc f) M pc lv st := by
  intro r' M' h H locs ls hP hS hl
  cases oc with
  | none => cases h
  | some q =>
    obtain ⟨r1, M1⟩ := q
    have h : f r1 M1 = some (r', M') := h
    subst hst
    refine va_callv (va_runSN (As := As) (rest := rest) ⟨X.1, X.2.1, X.2.2.1, X.2.2.2.1, X.2.2.2.2.1⟩ (hM r1 M1 rfl) ⟨va_cnB np X.2.2.2.2.1 (wAll_code cl.2.2.2.1) rfl rfl rfl (X.2.2.2.2.2.1.2.1 _ cl.1) (X.2.2.2.2.1 _ cl.2.2.1) cl.2.2.2.2 ⟨Nat.le_trans hR.1 X.2.2.2.2.2.2.2.2.1, Nat.le_trans hR.2 X.2.2.2.2.2.2.2.2.2⟩, X.2.2.2.2.1 _ cl.2.1, trivial⟩ ⟨WS_blind, fun U hU hW => ⟨rfl, WS_of X hP hS hU hW⟩⟩ rfl hn hl.1 rfl (lv_room hcat) d ⟨Nat.zero_le _, Nat.zero_le _⟩) hS (fun q _ h => h) (fun q h => h) (fun u t H1 locs1 ht hvm hw hB hz hkp hS1 => ?_)
    subst hw
    exact kk r1 u r' M' h H1 locs1 ls (by rw [← ht]; exact hB.1) hS1 hl
/-! the static rows; System.arraycopy -/
theorem k_gets0 {Z : ZT} {E : En} {nL : Nat} {cc : ByteArray} {own : String} {rt : Option FieldType} {fr lo : Nat} {ρ : Type} {Qf : ρ → Mem → State → Prop} {o : Option (ρ × Mem)} {M : Mem} {pc : Nat} {lv : List (Nat × Value)} {rest : List Value} (X : Cx Z E nL cc own rt fr lo) {idx : Nat} (hw : Cond.fieldLink own idx "FilmCans" "LAW_LEAST" "[I" ∈ wAll) (d : decode cc pc = .ok (.getstatic idx, 3)) (k : Kj Z E nL Qf o M (pc + 3) lv (.ref (E.2.2.2 0) :: rest)) : Kj Z E nL Qf o M pc lv rest :=
  fun r M' h H locs ls hP hS hl => va_gets X.1 X.2.1 X.2.2.2.2.2.1.2.2.2.1.1 hS X.2.2.2.1 (X.2.2.2.2.1 _ hw) (fun _ q => q) d (k r M' h H locs ls hP hS hl)
theorem k_getsN0 {Z : ZT} {E : En} {nL : Nat} {cc : ByteArray} {own : String} {rt : Option FieldType} {fr lo : Nat} {ρ : Type} {Qf : ρ → Mem → State → Prop} {o : Option (ρ × Mem)} {M : Mem} {pc : Nat} {lv : List (Nat × Value)} {rest : List Value} (X : Cx Z E nL cc own rt fr lo) {idx : Nat} {host : String} (hw : (own, idx, "FilmCans", "LAW_LEAST", "[I", host) ∈ nfL) (d : decode cc pc = .ok (.getstatic idx, 3)) (k : Kj Z E nL Qf o M (pc + 3) lv (.ref (E.2.2.2 0) :: rest)) : Kj Z E nL Qf o M pc lv rest :=
  fun r M' h H locs ls hP hS hl => va_getsN X.1 X.2.1 X.2.2.2.2.2.1.2.2.2.1.1 hS X.2.2.2.1 (va_Nw.use rfl (X.2.2.2.2.2.1.2.2.1 _ hw)) (fun _ q => q) d (k r M' h H locs ls hP hS hl)
theorem k_st0 {Z : ZT} {E : En} {nL : Nat} {cc : ByteArray} {own : String} {rt : Option FieldType} {fr lo : Nat} {ρ : Type} {Qf : ρ → Mem → State → Prop} {o : Option (ρ × Mem)} {M : Mem} {pc : Nat} {lv : List (Nat × Value)} {rest : List Value} (X : Cx Z E nL cc own rt fr lo) {i : Int32} (d : decode cc pc = .ok (.iaload, 1)) (k : inb i 4 = true → Kj Z E nL Qf o M (pc + 1) lv (.int (cLL (ix i)) :: rest)) : Kj Z E nL Qf (gd (inb i 4) o) M pc lv (.int i :: .ref (E.2.2.2 0) :: rest) := by
  intro r M' h H locs ls hP hS hl
  by_cases hi : inb i 4 = true
  · simp only [gd, hi, if_true] at h
    exact va_ti X.1 X.2.1 X.2.2.2.2.2.1.2.2.2.1.2 hS (inb_in hi) rfl d (k hi r M' h H locs ls hP hS hl)
  · simp only [gd, hi] at h; cases h
theorem k_gets1 {Z : ZT} {E : En} {nL : Nat} {cc : ByteArray} {own : String} {rt : Option FieldType} {fr lo : Nat} {ρ : Type} {Qf : ρ → Mem → State → Prop} {o : Option (ρ × Mem)} {M : Mem} {pc : Nat} {lv : List (Nat × Value)} {rest : List Value} (X : Cx Z E nL cc own rt fr lo) {idx : Nat} (hw : Cond.fieldLink own idx "FilmCans" "LAW_MOST" "[I" ∈ wAll) (d : decode cc pc = .ok (.getstatic idx, 3)) (k : Kj Z E nL Qf o M (pc + 3) lv (.ref (E.2.2.2 1) :: rest)) : Kj Z E nL Qf o M pc lv rest :=
  fun r M' h H locs ls hP hS hl => va_gets X.1 X.2.1 X.2.2.2.2.2.1.2.2.2.2.1.1 hS X.2.2.2.1 (X.2.2.2.2.1 _ hw) (fun _ q => q) d (k r M' h H locs ls hP hS hl)
theorem k_getsN1 {Z : ZT} {E : En} {nL : Nat} {cc : ByteArray} {own : String} {rt : Option FieldType} {fr lo : Nat} {ρ : Type} {Qf : ρ → Mem → State → Prop} {o : Option (ρ × Mem)} {M : Mem} {pc : Nat} {lv : List (Nat × Value)} {rest : List Value} (X : Cx Z E nL cc own rt fr lo) {idx : Nat} {host : String} (hw : (own, idx, "FilmCans", "LAW_MOST", "[I", host) ∈ nfL) (d : decode cc pc = .ok (.getstatic idx, 3)) (k : Kj Z E nL Qf o M (pc + 3) lv (.ref (E.2.2.2 1) :: rest)) : Kj Z E nL Qf o M pc lv rest :=
  fun r M' h H locs ls hP hS hl => va_getsN X.1 X.2.1 X.2.2.2.2.2.1.2.2.2.2.1.1 hS X.2.2.2.1 (va_Nw.use rfl (X.2.2.2.2.2.1.2.2.1 _ hw)) (fun _ q => q) d (k r M' h H locs ls hP hS hl)
theorem k_st1 {Z : ZT} {E : En} {nL : Nat} {cc : ByteArray} {own : String} {rt : Option FieldType} {fr lo : Nat} {ρ : Type} {Qf : ρ → Mem → State → Prop} {o : Option (ρ × Mem)} {M : Mem} {pc : Nat} {lv : List (Nat × Value)} {rest : List Value} (X : Cx Z E nL cc own rt fr lo) {i : Int32} (d : decode cc pc = .ok (.iaload, 1)) (k : inb i 4 = true → Kj Z E nL Qf o M (pc + 1) lv (.int (cLM (ix i)) :: rest)) : Kj Z E nL Qf (gd (inb i 4) o) M pc lv (.int i :: .ref (E.2.2.2 1) :: rest) := by
  intro r M' h H locs ls hP hS hl
  by_cases hi : inb i 4 = true
  · simp only [gd, hi, if_true] at h
    exact va_ti X.1 X.2.1 X.2.2.2.2.2.1.2.2.2.2.1.2 hS (inb_in hi) rfl d (k hi r M' h H locs ls hP hS hl)
  · simp only [gd, hi] at h; cases h
theorem k_gets2 {Z : ZT} {E : En} {nL : Nat} {cc : ByteArray} {own : String} {rt : Option FieldType} {fr lo : Nat} {ρ : Type} {Qf : ρ → Mem → State → Prop} {o : Option (ρ × Mem)} {M : Mem} {pc : Nat} {lv : List (Nat × Value)} {rest : List Value} (X : Cx Z E nL cc own rt fr lo) {idx : Nat} (hw : Cond.fieldLink own idx "FilmCans$Kinds" "IS" "[I" ∈ wAll) (d : decode cc pc = .ok (.getstatic idx, 3)) (k : Kj Z E nL Qf o M (pc + 3) lv (.ref (E.2.2.2 2) :: rest)) : Kj Z E nL Qf o M pc lv rest :=
  fun r M' h H locs ls hP hS hl => va_gets X.1 X.2.1 X.2.2.2.2.2.1.2.2.2.2.2.1.1 hS X.2.2.2.1 (X.2.2.2.2.1 _ hw) (fun _ q => q) d (k r M' h H locs ls hP hS hl)
theorem k_st2 {Z : ZT} {E : En} {nL : Nat} {cc : ByteArray} {own : String} {rt : Option FieldType} {fr lo : Nat} {ρ : Type} {Qf : ρ → Mem → State → Prop} {o : Option (ρ × Mem)} {M : Mem} {pc : Nat} {lv : List (Nat × Value)} {rest : List Value} (X : Cx Z E nL cc own rt fr lo) {i : Int32} (d : decode cc pc = .ok (.iaload, 1)) (k : inb i 6 = true → Kj Z E nL Qf o M (pc + 1) lv (.int (cIS (ix i)) :: rest)) : Kj Z E nL Qf (gd (inb i 6) o) M pc lv (.int i :: .ref (E.2.2.2 2) :: rest) := by
  intro r M' h H locs ls hP hS hl
  by_cases hi : inb i 6 = true
  · simp only [gd, hi, if_true] at h
    exact va_ti X.1 X.2.1 X.2.2.2.2.2.1.2.2.2.2.2.1.2 hS (inb_in hi) rfl d (k hi r M' h H locs ls hP hS hl)
  · simp only [gd, hi] at h; cases h
theorem k_stlen2 {Z : ZT} {E : En} {nL : Nat} {cc : ByteArray} {own : String} {rt : Option FieldType} {fr lo : Nat} {ρ : Type} {Qf : ρ → Mem → State → Prop} {o : Option (ρ × Mem)} {M : Mem} {pc : Nat} {lv : List (Nat × Value)} {rest : List Value} (X : Cx Z E nL cc own rt fr lo) (d : decode cc pc = .ok (.arraylength, 1)) (k : Kj Z E nL Qf o M (pc + 1) lv (.int 6 :: rest)) : Kj Z E nL Qf o M pc lv (.ref (E.2.2.2 2) :: rest) :=
  fun r M' h H locs ls hP hS hl => va_tlen X.1 X.2.1 X.2.2.2.2.2.1.2.2.2.2.2.1.2 hS rfl d (k r M' h H locs ls hP hS hl)
theorem k_gets3 {Z : ZT} {E : En} {nL : Nat} {cc : ByteArray} {own : String} {rt : Option FieldType} {fr lo : Nat} {ρ : Type} {Qf : ρ → Mem → State → Prop} {o : Option (ρ × Mem)} {M : Mem} {pc : Nat} {lv : List (Nat × Value)} {rest : List Value} (X : Cx Z E nL cc own rt fr lo) {idx : Nat} (hw : Cond.fieldLink own idx "FilmCans$Reach" "WITHOUT" "[J" ∈ wAll) (d : decode cc pc = .ok (.getstatic idx, 3)) (k : Kj Z E nL Qf o M (pc + 3) lv (.ref (E.2.2.2 3) :: rest)) : Kj Z E nL Qf o M pc lv rest :=
  fun r M' h H locs ls hP hS hl => va_gets X.1 X.2.1 X.2.2.2.2.2.1.2.2.2.2.2.2.1 hS X.2.2.2.1 (X.2.2.2.2.1 _ hw) (fun _ q => q) d (k r M' h H locs ls hP hS hl)
theorem k_st3 {Z : ZT} {E : En} {nL : Nat} {cc : ByteArray} {own : String} {rt : Option FieldType} {fr lo : Nat} {ρ : Type} {Qf : ρ → Mem → State → Prop} {o : Option (ρ × Mem)} {M : Mem} {pc : Nat} {lv : List (Nat × Value)} {rest : List Value} (X : Cx Z E nL cc own rt fr lo) {i : Int32} (d : decode cc pc = .ok (.laload, 1)) (k : inb i 6 = true → Kj Z E nL Qf o M (pc + 1) lv (.long (cWO (ix i)) :: rest)) : Kj Z E nL Qf (gd (inb i 6) o) M pc lv (.int i :: .ref (E.2.2.2 3) :: rest) := by
  intro r M' h H locs ls hP hS hl
  by_cases hi : inb i 6 = true
  · simp only [gd, hi, if_true] at h
    exact va_tl X.1 X.2.1 X.2.2.2.2.2.1.2.2.2.2.2.2.2 hS (inb_in hi) rfl d (k hi r M' h H locs ls hP hS hl)
  · simp only [gd, hi] at h; cases h
theorem k_copy {Z : ZT} {E : En} {nL : Nat} {cc : ByteArray} {own : String} {rt : Option FieldType} {fr lo : Nat} {ρ : Type} {Qf : ρ → Mem → State → Prop} {o : Option (ρ × Mem)} {M : Mem} {pc : Nat} {lv : List (Nat × Value)} {rest : List Value} (X : Cx Z E nL cc own rt fr lo) {idx a0 a n0 n1 : Nat} {sp dp n : Int32} (sn dn nn : Nat) (hw : Cond.methodLink own idx arraycopyName ∈ wAll) (hw1 : Cond.native arraycopyName ∈ wAll) (hw2 : Cond.static arraycopyName ∈ wAll) (hw3 : Cond.initialized "java/lang/System" ∈ wAll) (hk0 : isC a0 9) (hk : isC a 9) (hn0 : ln a0 = n0) (hn1 : ln a = n1) (h1 : ¬ sp < 0) (h2 : ¬ dp < 0) (h3 : ¬ n < 0) (e1 : sp.toNatClampNeg = sn) (e2 : dp.toNatClampNeg = dn) (e3 : n.toNatClampNeg = nn) (h4 : sn + nn ≤ n0) (h5 : dn + nn ≤ n1) (hfr : 1 ≤ fr) (hlo : (rest.map fun v => v.category).sum + 18 ≤ lo) (d : decode cc pc = .ok (.invokestatic idx, 3)) (k : Kj Z E nL Qf o (cpI M a0 sn a dn nn) (pc + 3) lv rest) : Kj Z E nL Qf o M pc lv (.int n :: .int dp :: .ref (ad E a) :: .int sp :: .ref (ad E a0) :: rest) := by
  intro r M' h H locs ls hP hS hl
  subst e1; subst e2; subst e3; subst hn0; subst hn1
  refine va_copyi (D := E.1) (f := M.1 a0) (g := M.1 a) (ty := .int) X.1 X.2.1 (X.2.2.1.trans hl.1.symm) X.2.2.2.1 (X.2.2.2.2.1 _ hw) (X.2.2.2.2.1 _ hw1) (X.2.2.2.2.1 _ hw2) (X.2.2.2.2.1 _ hw3) X.2.2.2.2.2.1.1 hP wl_D hS a0 a 0 0 (by rw [wl_get hk0.1, cel_I hk0.2]) (by rw [wl_get hk.1, cel_I hk.2]) rfl rfl rfl h1 h2 h3 h4 h5 (fun _ _ => rfl) (Nat.le_trans hfr X.2.2.2.2.2.2.2.2.1) (Nat.le_trans hlo X.2.2.2.2.2.2.2.2.2) d (fun H1 locs1 hP1 _ hS1 => ?_)
  rw [wl_cp (a0 := a0) (sp := sp.toNatClampNeg) (dp := dp.toNatClampNeg) (q := n.toNatClampNeg) (by rw [cel_I hk.2]; congr 4; funext z; simp [cpI])] at hP1
  exact k r M' h H1 locs1 ls hP1 hS1 hl
end
section
def lq {α β : Type} (a : α) (f : α → Option β) : Option β := f a
def sq {β : Type} (M : Mem) (f : Mem → Option β) : Option β := f M
def FU : Nat := 4294967296
theorem k_sq {Z : ZT} {E : En} {nL : Nat} {ρ : Type} {Qf : ρ → Mem → State → Prop} {M : Mem} {pc : Nat} {lv : List (Nat × Value)} {st : List Value} {f : Mem → Option (ρ × Mem)} (k : ∀ M1 : Mem, Kj Z E nL Qf (f M1) M1 pc lv st) : Kj Z E nL Qf (sq M f) M pc lv st := k M
theorem x_istore_n {Z : ZT} {E : En} {nL : Nat} {cc : ByteArray} {own : String} {rt : Option FieldType} {fr lo : Nat} {ρ : Type} {Qf : ρ → Mem → State → Prop} {M : Mem} {pc : Nat} {lv : List (Nat × Value)} {rest : List Value} (X : Cx Z E nL cc own rt fr lo) {k : Fin 4} {i : Nat} {x : Int32} {f : Int32 → Option (ρ × Mem)} (lv' : List (Nat × Value)) (d : decode cc pc = .ok (.istore_n k, 1)) (hi : (k : Nat) = i) (hn : i < nL) (hf : lv.filter (fun q => !(q.1 == i) && !(q.1 + 1 == i && q.2.category == 2)) = lv') (k : ∀ z : Int32, Kj Z E nL Qf (f z) M (pc + 1) ((i, .int z) :: lv') rest) : Kj Z E nL Qf (lq x f) M pc lv (.int x :: rest) :=
  fun r M' h H locs ls hP hS hl => lv_istore_n X.1 X.2.1 d hi hl hn (by rw [hf]) (fun ls hl => k x r M' h H locs ls hP hS hl)
theorem x_istore {Z : ZT} {E : En} {nL : Nat} {cc : ByteArray} {own : String} {rt : Option FieldType} {fr lo : Nat} {ρ : Type} {Qf : ρ → Mem → State → Prop} {M : Mem} {pc : Nat} {lv : List (Nat × Value)} {rest : List Value} (X : Cx Z E nL cc own rt fr lo) {i : Nat} {x : Int32} {f : Int32 → Option (ρ × Mem)} (lv' : List (Nat × Value)) (d : decode cc pc = .ok (.istore i, 2))  (hn : i < nL) (hf : lv.filter (fun q => !(q.1 == i) && !(q.1 + 1 == i && q.2.category == 2)) = lv') (k : ∀ z : Int32, Kj Z E nL Qf (f z) M (pc + 2) ((i, .int z) :: lv') rest) : Kj Z E nL Qf (lq x f) M pc lv (.int x :: rest) :=
  fun r M' h H locs ls hP hS hl => lv_istore X.1 X.2.1 d hl hn (by rw [hf]) (fun ls hl => k x r M' h H locs ls hP hS hl)
theorem x_lstore_n {Z : ZT} {E : En} {nL : Nat} {cc : ByteArray} {own : String} {rt : Option FieldType} {fr lo : Nat} {ρ : Type} {Qf : ρ → Mem → State → Prop} {M : Mem} {pc : Nat} {lv : List (Nat × Value)} {rest : List Value} (X : Cx Z E nL cc own rt fr lo) {k : Fin 4} {i : Nat} {x : Int64} {f : Int64 → Option (ρ × Mem)} (lv' : List (Nat × Value)) (d : decode cc pc = .ok (.lstore_n k, 1)) (hi : (k : Nat) = i) (hn : i + 1 < nL) (hf : lv.filter (fun q => !(q.1 == i) && (!(q.1 == i + 1) && !(q.1 + 1 == i && q.2.category == 2))) = lv') (k : ∀ z : Int64, Kj Z E nL Qf (f z) M (pc + 1) ((i, .long z) :: lv') rest) : Kj Z E nL Qf (lq x f) M pc lv (.long x :: rest) :=
  fun r M' h H locs ls hP hS hl => lv_lstore_n X.1 X.2.1 d hi hl hn (by rw [hf]) (fun ls hl => k x r M' h H locs ls hP hS hl)
theorem x_lstore {Z : ZT} {E : En} {nL : Nat} {cc : ByteArray} {own : String} {rt : Option FieldType} {fr lo : Nat} {ρ : Type} {Qf : ρ → Mem → State → Prop} {M : Mem} {pc : Nat} {lv : List (Nat × Value)} {rest : List Value} (X : Cx Z E nL cc own rt fr lo) {i : Nat} {x : Int64} {f : Int64 → Option (ρ × Mem)} (lv' : List (Nat × Value)) (d : decode cc pc = .ok (.lstore i, 2))  (hn : i + 1 < nL) (hf : lv.filter (fun q => !(q.1 == i) && (!(q.1 == i + 1) && !(q.1 + 1 == i && q.2.category == 2))) = lv') (k : ∀ z : Int64, Kj Z E nL Qf (f z) M (pc + 2) ((i, .long z) :: lv') rest) : Kj Z E nL Qf (lq x f) M pc lv (.long x :: rest) :=
  fun r M' h H locs ls hP hS hl => lv_lstore X.1 X.2.1 d hl hn (by rw [hf]) (fun ls hl => k x r M' h H locs ls hP hS hl)
theorem x_iinc {Z : ZT} {E : En} {nL : Nat} {cc : ByteArray} {own : String} {rt : Option FieldType} {fr lo : Nat} {ρ : Type} {Qf : ρ → Mem → State → Prop} {M : Mem} {pc : Nat} {lv : List (Nat × Value)} {rest : List Value} (X : Cx Z E nL cc own rt fr lo) {i : Nat} {n : Int} {x : Int32} {f : Int32 → Option (ρ × Mem)} (w : Int32) (q : Nat) (lv' : List (Nat × Value)) (d : decode cc pc = .ok (.iinc i n, 3)) (hq : lv[q]? = some (i, .int x)) (hw : Int32.ofInt n = w) (hn : i < nL) (hf : lv.filter (fun q => !(q.1 == i) && !(q.1 + 1 == i && q.2.category == 2)) = lv') (k : ∀ z : Int32, Kj Z E nL Qf (f z) M (pc + 3) ((i, .int z) :: lv') rest) : Kj Z E nL Qf (lq (x + w) f) M pc lv rest :=
  fun r M' h H locs ls hP hS hl => lv_iinc X.1 X.2.1 d hl hq (v := x + w) (by rw [hw]) hn (by rw [hf]) (fun ls hl => k (x + w) r M' h H locs ls hP hS hl)
theorem tsw_out {x : Int32} (n : Nat) (hn : n < 2 ^ 31) (h : ∀ k, k < n → ¬ x = Int32.ofNat k) : x.toInt < 0 ∨ ((n : Int) - 1) < x.toInt := by
  by_cases q : x.toInt < 0
  · exact Or.inl q
  · right
    by_cases z : ((n : Int) - 1) < x.toInt
    · exact z
    · exfalso
      refine h x.toInt.toNat (by omega) ?_
      apply Int32.toInt_inj.mp
      rw [show Int32.ofNat x.toInt.toNat = nI x.toInt.toNat from rfl, nI_toInt (by omega)]
      omega
def dayL : List Nat := [3, 15, 29, 41, 53, 65, 77, 89, 101, 113, 125, 137, 149, 161, 173, 185, 197, 209, 221, 233, 245, 257, 270, 282]
def isDay (d : Nat) : Prop := d ∈ dayL
theorem day_C {d : Nat} (h : isDay d) : isC d 1 := (by decide +kernel : ∀ d ∈ dayL, d < NN ∧ kd d = 1) d h
theorem day_A1 {d : Nat} (h : isDay d) : isC (d + 1) 9 := (by decide +kernel : ∀ d ∈ dayL, d + 1 < NN ∧ kd (d + 1) = 9) d h
theorem day_L1 {d : Nat} (h : isDay d) : ln (d + 1) = 4 := (by decide +kernel : ∀ d ∈ dayL, ln (d + 1) = 4) d h
theorem day_R1 {d : Nat} (h : isDay d) : rf d 9 = d + 1 := (by decide +kernel : ∀ d ∈ dayL, rf d 9 = d + 1) d h
theorem day_A2 {d : Nat} (h : isDay d) : isC (d + 2) 9 := (by decide +kernel : ∀ d ∈ dayL, d + 2 < NN ∧ kd (d + 2) = 9) d h
theorem day_L2 {d : Nat} (h : isDay d) : ln (d + 2) = 6 := (by decide +kernel : ∀ d ∈ dayL, ln (d + 2) = 6) d h
theorem day_R2 {d : Nat} (h : isDay d) : rf d 10 = d + 2 := (by decide +kernel : ∀ d ∈ dayL, rf d 10 = d + 2) d h
theorem day_A3 {d : Nat} (h : isDay d) : isC (d + 3) 9 := (by decide +kernel : ∀ d ∈ dayL, d + 3 < NN ∧ kd (d + 3) = 9) d h
theorem day_L3 {d : Nat} (h : isDay d) : ln (d + 3) = 6 := (by decide +kernel : ∀ d ∈ dayL, ln (d + 3) = 6) d h
theorem day_R3 {d : Nat} (h : isDay d) : rf d 11 = d + 3 := (by decide +kernel : ∀ d ∈ dayL, rf d 11 = d + 3) d h
theorem day_A4 {d : Nat} (h : isDay d) : isC (d + 4) 9 := (by decide +kernel : ∀ d ∈ dayL, d + 4 < NN ∧ kd (d + 4) = 9) d h
theorem day_L4 {d : Nat} (h : isDay d) : ln (d + 4) = 6 := (by decide +kernel : ∀ d ∈ dayL, ln (d + 4) = 6) d h
theorem day_R4 {d : Nat} (h : isDay d) : rf d 12 = d + 4 := (by decide +kernel : ∀ d ∈ dayL, rf d 12 = d + 4) d h
theorem day_A5 {d : Nat} (h : isDay d) : isC (d + 5) 9 := (by decide +kernel : ∀ d ∈ dayL, d + 5 < NN ∧ kd (d + 5) = 9) d h
theorem day_L5 {d : Nat} (h : isDay d) : ln (d + 5) = 6 := (by decide +kernel : ∀ d ∈ dayL, ln (d + 5) = 6) d h
theorem day_R5 {d : Nat} (h : isDay d) : rf d 13 = d + 5 := (by decide +kernel : ∀ d ∈ dayL, rf d 13 = d + 5) d h
theorem day_A6 {d : Nat} (h : isDay d) : isC (d + 6) 9 := (by decide +kernel : ∀ d ∈ dayL, d + 6 < NN ∧ kd (d + 6) = 9) d h
theorem day_L6 {d : Nat} (h : isDay d) : ln (d + 6) = 8 := (by decide +kernel : ∀ d ∈ dayL, ln (d + 6) = 8) d h
theorem day_R6 {d : Nat} (h : isDay d) : rf d 14 = d + 6 := (by decide +kernel : ∀ d ∈ dayL, rf d 14 = d + 6) d h
theorem day_A7 {d : Nat} (h : isDay d) : isC (d + 7) 9 := (by decide +kernel : ∀ d ∈ dayL, d + 7 < NN ∧ kd (d + 7) = 9) d h
theorem day_L7 {d : Nat} (h : isDay d) : ln (d + 7) = 8 := (by decide +kernel : ∀ d ∈ dayL, ln (d + 7) = 8) d h
theorem day_R7 {d : Nat} (h : isDay d) : rf d 15 = d + 7 := (by decide +kernel : ∀ d ∈ dayL, rf d 15 = d + 7) d h
theorem day_A8 {d : Nat} (h : isDay d) : isC (d + 8) 9 := (by decide +kernel : ∀ d ∈ dayL, d + 8 < NN ∧ kd (d + 8) = 9) d h
theorem day_L8 {d : Nat} (h : isDay d) : ln (d + 8) = 8 := (by decide +kernel : ∀ d ∈ dayL, ln (d + 8) = 8) d h
theorem day_R8 {d : Nat} (h : isDay d) : rf d 16 = d + 8 := (by decide +kernel : ∀ d ∈ dayL, rf d 16 = d + 8) d h
theorem day_A9 {d : Nat} (h : isDay d) : isC (d + 9) 9 := (by decide +kernel : ∀ d ∈ dayL, d + 9 < NN ∧ kd (d + 9) = 9) d h
theorem day_L9 {d : Nat} (h : isDay d) : ln (d + 9) = 8 := (by decide +kernel : ∀ d ∈ dayL, ln (d + 9) = 8) d h
theorem day_R9 {d : Nat} (h : isDay d) : rf d 17 = d + 9 := (by decide +kernel : ∀ d ∈ dayL, rf d 17 = d + 9) d h
theorem day_A10 {d : Nat} (h : isDay d) : isC (d + 10) 9 := (by decide +kernel : ∀ d ∈ dayL, d + 10 < NN ∧ kd (d + 10) = 9) d h
theorem day_L10 {d : Nat} (h : isDay d) : ln (d + 10) = 8 := (by decide +kernel : ∀ d ∈ dayL, ln (d + 10) = 8) d h
theorem day_R10 {d : Nat} (h : isDay d) : rf d 18 = d + 10 := (by decide +kernel : ∀ d ∈ dayL, rf d 18 = d + 10) d h
theorem day_A11 {d : Nat} (h : isDay d) : isC (d + 11) 9 := (by decide +kernel : ∀ d ∈ dayL, d + 11 < NN ∧ kd (d + 11) = 9) d h
theorem day_L11 {d : Nat} (h : isDay d) : ln (d + 11) = 8 := (by decide +kernel : ∀ d ∈ dayL, ln (d + 11) = 8) d h
theorem day_R11 {d : Nat} (h : isDay d) : rf d 19 = d + 11 := (by decide +kernel : ∀ d ∈ dayL, rf d 19 = d + 11) d h
theorem day_3 : isDay 3 := (by decide +kernel : 3 ∈ dayL)
theorem day_15 : isDay 15 := (by decide +kernel : 15 ∈ dayL)
theorem ix_lt {i : Int32} {n : Nat} (h : inb i n = true) : ix i < n := Nat.not_le.mp fun q => inb_in h (Or.inr q)
theorem ring_rf : ∀ j, j < 20 → rf 28 j = 29 + 12 * j := by decide +kernel
theorem ring_day {i : Int32} (h : inb i 20 = true) : isDay (29 + 12 * ix i) := (by decide +kernel : ∀ j, j < 20 → (29 + 12 * j) ∈ dayL) _ (ix_lt h)
theorem img_rf : ∀ j, j < 2 → rf 269 j = 270 + 12 * j := by decide +kernel
theorem img_day {i : Int32} (h : inb i 2 = true) : isDay (270 + 12 * ix i) := (by decide +kernel : ∀ j, j < 2 → (270 + 12 * j) ∈ dayL) _ (ix_lt h)
theorem ends_rf : ∀ j, j < 6 → rf 307 j = 308 + j := by decide +kernel
theorem ends_C {i : Int32} (h : inb i 6 = true) : isC (308 + ix i) 9 := (by decide +kernel : ∀ j, j < 6 → (308 + j < NN ∧ kd (308 + j) = 9)) _ (ix_lt h)
theorem ends_L {i : Int32} (h : inb i 6 = true) : ln (308 + ix i) = 256 := (by decide +kernel : ∀ j, j < 6 → ln (308 + j) = 256) _ (ix_lt h)
theorem behind_rf : ∀ j, j < 6 → rf 316 j = 317 + j := by decide +kernel
theorem behind_C {i : Int32} (h : inb i 6 = true) : isC (317 + ix i) 9 := (by decide +kernel : ∀ j, j < 6 → (317 + j < NN ∧ kd (317 + j) = 9)) _ (ix_lt h)
theorem behind_L {i : Int32} (h : inb i 6 = true) : ln (317 + ix i) = 256 := (by decide +kernel : ∀ j, j < 6 → ln (317 + j) = 256) _ (ix_lt h)
theorem c_0 : isC 0 7 := (by decide +kernel : 0 < NN ∧ kd 0 = 7)
theorem c_1 : isC 1 6 := (by decide +kernel : 1 < NN ∧ kd 1 = 6)
theorem c_2 : isC 2 9 := (by decide +kernel : 2 < NN ∧ kd 2 = 9)
theorem c_3 : isC 3 1 := (by decide +kernel : 3 < NN ∧ kd 3 = 1)
theorem c_4 : isC 4 9 := (by decide +kernel : 4 < NN ∧ kd 4 = 9)
theorem c_5 : isC 5 9 := (by decide +kernel : 5 < NN ∧ kd 5 = 9)
theorem c_6 : isC 6 9 := (by decide +kernel : 6 < NN ∧ kd 6 = 9)
theorem c_7 : isC 7 9 := (by decide +kernel : 7 < NN ∧ kd 7 = 9)
theorem c_8 : isC 8 9 := (by decide +kernel : 8 < NN ∧ kd 8 = 9)
theorem c_9 : isC 9 9 := (by decide +kernel : 9 < NN ∧ kd 9 = 9)
theorem c_10 : isC 10 9 := (by decide +kernel : 10 < NN ∧ kd 10 = 9)
theorem c_11 : isC 11 9 := (by decide +kernel : 11 < NN ∧ kd 11 = 9)
theorem c_12 : isC 12 9 := (by decide +kernel : 12 < NN ∧ kd 12 = 9)
theorem c_13 : isC 13 9 := (by decide +kernel : 13 < NN ∧ kd 13 = 9)
theorem c_14 : isC 14 9 := (by decide +kernel : 14 < NN ∧ kd 14 = 9)
theorem c_15 : isC 15 1 := (by decide +kernel : 15 < NN ∧ kd 15 = 1)
theorem c_16 : isC 16 9 := (by decide +kernel : 16 < NN ∧ kd 16 = 9)
theorem c_17 : isC 17 9 := (by decide +kernel : 17 < NN ∧ kd 17 = 9)
theorem c_18 : isC 18 9 := (by decide +kernel : 18 < NN ∧ kd 18 = 9)
theorem c_19 : isC 19 9 := (by decide +kernel : 19 < NN ∧ kd 19 = 9)
theorem c_20 : isC 20 9 := (by decide +kernel : 20 < NN ∧ kd 20 = 9)
theorem c_21 : isC 21 9 := (by decide +kernel : 21 < NN ∧ kd 21 = 9)
theorem c_22 : isC 22 9 := (by decide +kernel : 22 < NN ∧ kd 22 = 9)
theorem c_23 : isC 23 9 := (by decide +kernel : 23 < NN ∧ kd 23 = 9)
theorem c_24 : isC 24 9 := (by decide +kernel : 24 < NN ∧ kd 24 = 9)
theorem c_25 : isC 25 9 := (by decide +kernel : 25 < NN ∧ kd 25 = 9)
theorem c_26 : isC 26 9 := (by decide +kernel : 26 < NN ∧ kd 26 = 9)
theorem c_27 : isC 27 2 := (by decide +kernel : 27 < NN ∧ kd 27 = 2)
theorem c_28 : isC 28 12 := (by decide +kernel : 28 < NN ∧ kd 28 = 12)
theorem c_269 : isC 269 12 := (by decide +kernel : 269 < NN ∧ kd 269 = 12)
theorem c_294 : isC 294 3 := (by decide +kernel : 294 < NN ∧ kd 294 = 3)
theorem c_295 : isC 295 9 := (by decide +kernel : 295 < NN ∧ kd 295 = 9)
theorem c_296 : isC 296 9 := (by decide +kernel : 296 < NN ∧ kd 296 = 9)
theorem c_297 : isC 297 9 := (by decide +kernel : 297 < NN ∧ kd 297 = 9)
theorem c_298 : isC 298 9 := (by decide +kernel : 298 < NN ∧ kd 298 = 9)
theorem c_299 : isC 299 5 := (by decide +kernel : 299 < NN ∧ kd 299 = 5)
theorem c_300 : isC 300 9 := (by decide +kernel : 300 < NN ∧ kd 300 = 9)
theorem c_301 : isC 301 9 := (by decide +kernel : 301 < NN ∧ kd 301 = 9)
theorem c_302 : isC 302 9 := (by decide +kernel : 302 < NN ∧ kd 302 = 9)
theorem c_303 : isC 303 9 := (by decide +kernel : 303 < NN ∧ kd 303 = 9)
theorem c_304 : isC 304 9 := (by decide +kernel : 304 < NN ∧ kd 304 = 9)
theorem c_305 : isC 305 9 := (by decide +kernel : 305 < NN ∧ kd 305 = 9)
theorem c_306 : isC 306 9 := (by decide +kernel : 306 < NN ∧ kd 306 = 9)
theorem c_307 : isC 307 13 := (by decide +kernel : 307 < NN ∧ kd 307 = 13)
theorem c_308 : isC 308 9 := (by decide +kernel : 308 < NN ∧ kd 308 = 9)
theorem c_309 : isC 309 9 := (by decide +kernel : 309 < NN ∧ kd 309 = 9)
theorem c_310 : isC 310 9 := (by decide +kernel : 310 < NN ∧ kd 310 = 9)
theorem c_311 : isC 311 9 := (by decide +kernel : 311 < NN ∧ kd 311 = 9)
theorem c_312 : isC 312 9 := (by decide +kernel : 312 < NN ∧ kd 312 = 9)
theorem c_313 : isC 313 9 := (by decide +kernel : 313 < NN ∧ kd 313 = 9)
theorem c_314 : isC 314 9 := (by decide +kernel : 314 < NN ∧ kd 314 = 9)
theorem c_315 : isC 315 0 := (by decide +kernel : 315 < NN ∧ kd 315 = 0)
theorem c_316 : isC 316 13 := (by decide +kernel : 316 < NN ∧ kd 316 = 13)
theorem c_317 : isC 317 9 := (by decide +kernel : 317 < NN ∧ kd 317 = 9)
theorem c_318 : isC 318 9 := (by decide +kernel : 318 < NN ∧ kd 318 = 9)
theorem c_319 : isC 319 9 := (by decide +kernel : 319 < NN ∧ kd 319 = 9)
theorem c_320 : isC 320 9 := (by decide +kernel : 320 < NN ∧ kd 320 = 9)
theorem c_321 : isC 321 9 := (by decide +kernel : 321 < NN ∧ kd 321 = 9)
theorem c_322 : isC 322 9 := (by decide +kernel : 322 < NN ∧ kd 322 = 9)
theorem c_323 : isC 323 4 := (by decide +kernel : 323 < NN ∧ kd 323 = 4)
theorem c_324 : isC 324 10 := (by decide +kernel : 324 < NN ∧ kd 324 = 10)
theorem c_325 : isC 325 9 := (by decide +kernel : 325 < NN ∧ kd 325 = 9)
theorem c_326 : isC 326 8 := (by decide +kernel : 326 < NN ∧ kd 326 = 8)
theorem c_327 : isC 327 9 := (by decide +kernel : 327 < NN ∧ kd 327 = 9)
theorem c_328 : isC 328 9 := (by decide +kernel : 328 < NN ∧ kd 328 = 9)
theorem c_329 : isC 329 9 := (by decide +kernel : 329 < NN ∧ kd 329 = 9)
theorem c_330 : isC 330 9 := (by decide +kernel : 330 < NN ∧ kd 330 = 9)
theorem c_331 : isC 331 11 := (by decide +kernel : 331 < NN ∧ kd 331 = 11)
theorem c_332 : isC 332 9 := (by decide +kernel : 332 < NN ∧ kd 332 = 9)
theorem c_333 : isC 333 9 := (by decide +kernel : 333 < NN ∧ kd 333 = 9)
theorem c_334 : isC 334 9 := (by decide +kernel : 334 < NN ∧ kd 334 = 9)
theorem c_335 : isC 335 9 := (by decide +kernel : 335 < NN ∧ kd 335 = 9)
theorem c_336 : isC 336 9 := (by decide +kernel : 336 < NN ∧ kd 336 = 9)
theorem c_337 : isC 337 9 := (by decide +kernel : 337 < NN ∧ kd 337 = 9)
theorem c_338 : isC 338 9 := (by decide +kernel : 338 < NN ∧ kd 338 = 9)
end
