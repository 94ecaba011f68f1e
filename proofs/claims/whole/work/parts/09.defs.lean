-- FilmCans$Tape.append
def j_Tape_append (x1 : Int32) (M : Mem) : Option (Int32 × Mem) := (if (gi M 1 1) < 110 then gd (inb (gi M 1 1) 110) (sq (uI M 2 (ix (gi M 1 1)) x1) (fun M2 => sq (uI M2 1 1 ((gi M2 1 1) + 1)) (fun M3 => (some (1, M3))))) else (some (0, M)))
-- FilmCans.feed
def j_Fc_feed (x1 : Int32) (M : Mem) : Option (Int32 × Mem) := (if x1 < 0 then (some ((-1000001), M)) else (if (255 : Int32) < x1 then (some ((-1000001), M)) else bd (j_Tape_append x1 M) (fun r1 M2 => (if r1 = 0 then (some ((-1000003), M2)) else (some ((gi M2 1 1), M2))))))
-- FilmCans$Day.clear
def j_Day_clear (d0 : Nat) (M : Mem) : Option (Unit × Mem) := sq (uI M d0 0 0) (fun M1 => sq (uI M1 d0 1 0) (fun M2 => sq (uI M2 d0 2 0) (fun M3 => sq (uI M3 d0 3 (-1000000)) (fun M4 => sq (uI M4 d0 4 0) (fun M5 => sq (uI M5 d0 5 0) (fun M6 => sq (uI M6 d0 6 0) (fun M7 => sq (uI M7 d0 7 0) (fun M8 => sq (uI M8 d0 8 0) (fun M9 => (some ((), M9)))))))))))
-- FilmCans$Tape.byteAt
def j_Tape_byteAt (x1 : Int32) (M : Mem) : Option (Int32 × Mem) := (if x1 < 0 then (some ((-1000000), M)) else (if x1 < (gi M 1 1) then gd (inb x1 110) ((some ((gi M 2 (ix x1)), M))) else (some ((-1000000), M))))
-- FilmCans$Tape.next
def j_Tape_next (M : Mem) : Option (Int32 × Mem) := bd (j_Tape_byteAt (gi M 1 2) M) (fun r1 M2 => (some (r1, M2)))
-- FilmCans$Tape.refuse
def j_Tape_refuse (x1 : Int32) (M : Mem) : Option (Int32 × Mem) := sq (uI M 1 3 x1) (fun M1 => (some (0, M1)))
-- FilmCans$Tape.pass
def j_Tape_pass (x1 : Int32) (M : Mem) : Option (Int32 × Mem) := bd (j_Tape_next M) (fun r1 M2 => (if r1 = x1 then sq (uI M2 1 2 ((gi M2 1 2) + 1)) (fun M3 => (some (1, M3))) else bd (j_Tape_refuse 1 M2) (fun r4 M5 => (gd (isB r4) (some (r4, M5))))))
-- FilmCans$Tape.figuresFrom
def Tape_figuresFrom_h2  : Nat → Int32 → Int32 → Mem → Option (Int32 × Mem)
  | 0, _, _, _ => none
  | n + 1, x1, x2, M => (if x2 < (gi M 1 1) then bd (j_Tape_byteAt x2 M) (fun r1 M2 => (if r1 < 48 then (some ((x2 - x1), M2)) else bd (j_Tape_byteAt x2 M2) (fun r3 M4 => (if (57 : Int32) < r3 then (some ((x2 - x1), M4)) else lq (x2 + 1) (fun x5_ => (Tape_figuresFrom_h2  n x1 x5_ M4)))))) else (some ((x2 - x1), M)))
def j_Tape_figuresFrom (x1 : Int32) (M : Mem) : Option (Int32 × Mem) := (Tape_figuresFrom_h2  FU x1 x1 M)
-- FilmCans$Tape.readNumber
def Tape_readNumber_b19 (M : Mem) : Option (Int32 × Mem) := bd (j_Tape_refuse 1 M) (fun r3 M4 => (some ((-1000000), M4)))
def Tape_readNumber_b80 (M : Mem) : Option (Int32 × Mem) := bd (j_Tape_refuse 2 M) (fun r7 M8 => (some ((-1000000), M8)))
def Tape_readNumber_h34  : Nat → Int32 → Int32 → Int32 → Int32 → Int32 → Mem → Option (Int32 × Mem)
  | 0, _, _, _, _, _, _ => none
  | n + 1, x1, x2, x3, x4, x5, M => (if x5 < x3 then bd (j_Tape_byteAt ((gi M 1 2) + x5) M) (fun r10 M11 => lq (((x4 * 10) + r10) - 48) (fun x12_ => lq (x5 + 1) (fun x13_ => (Tape_readNumber_h34  n x1 x2 x3 x12_ x13_ M11)))) else (if x4 < x1 then (Tape_readNumber_b80  M) else (if x2 < x4 then (Tape_readNumber_b80  M) else sq (uI M 1 2 ((gi M 1 2) + x3)) (fun M9 => (some (x4, M9))))))
def j_Tape_readNumber (x1 : Int32) (x2 : Int32) (M : Mem) : Option (Int32 × Mem) := bd (j_Tape_figuresFrom (gi M 1 2) M) (fun r1 M2 => (if r1 < 1 then (Tape_readNumber_b19  M2) else (if (2 : Int32) < r1 then (Tape_readNumber_b19  M2) else lq (0 : Int32) (fun x5_ => lq (0 : Int32) (fun x6_ => (Tape_readNumber_h34  FU x1 x2 r1 x5_ x6_ M2))))))
-- FilmCans$Tape.readLaws
def Tape_readLaws_b52 (k13 : Nat → Int32 → Mem → Option (Int32 × Mem)) (d1 : Nat) (x2 : Int32) (x3 : Int32) (xs0 : Int32) (M : Mem) : Option (Int32 × Mem) := bd (j_Tape_pass xs0 M) (fun r8 M9 => (if r8 = 0 then (some (0, M9)) else gd (inb x2 4) (sq (uI M9 (d1 + 1) (ix x2) x3) (fun M11 => lq (x2 + 1) (fun x12_ => (k13 d1 x12_ M11))))))
def Tape_readLaws_h13  : Nat → Nat → Int32 → Mem → Option (Int32 × Mem)
  | 0, _, _, _ => none
  | n + 1, d1, x2, M => (if x2 < 4 then gd (inb x2 4) (gd (inb x2 4) (bd (j_Tape_readNumber (cLL (ix x2)) (cLM (ix x2)) M) (fun r6 M7 => (if r6 = (-1000000) then (some (0, M7)) else (if x2 < 3 then (Tape_readLaws_b52 (fun d1 x2 M => Tape_readLaws_h13 n d1 x2 M) d1 x2 r6 44 M7) else (Tape_readLaws_b52 (fun d1 x2 M => Tape_readLaws_h13 n d1 x2 M) d1 x2 r6 59 M7)))))) else (some (1, M)))
def j_Tape_readLaws (d1 : Nat) (M : Mem) : Option (Int32 × Mem) := bd (j_Tape_pass 104 M) (fun r1 M2 => (if r1 = 0 then (some (0, M2)) else lq (0 : Int32) (fun x3_ => (Tape_readLaws_h13  FU d1 x3_ M2))))
-- FilmCans$Kinds.ofLetter
def j_Kinds_ofLetter (x0 : Int32) (M : Mem) : Option (Int32 × Mem) := (if x0 = 102 then (some (2, M)) else (if x0 = 103 then (some (3, M)) else (if x0 = 104 then (some ((-1000000), M)) else (if x0 = 105 then (some ((-1000000), M)) else (if x0 = 106 then (some ((-1000000), M)) else (if x0 = 107 then (some ((-1000000), M)) else (if x0 = 108 then (some ((-1000000), M)) else (if x0 = 109 then (some ((-1000000), M)) else (if x0 = 110 then (some (1, M)) else (if x0 = 111 then (some ((-1000000), M)) else (if x0 = 112 then (some ((-1000000), M)) else (if x0 = 113 then (some ((-1000000), M)) else (if x0 = 114 then (some (4, M)) else (if x0 = 115 then (some (5, M)) else (some ((-1000000), M))))))))))))))))
-- FilmCans$Day.addCan
def j_Day_addCan (d0 : Nat) (x1 : Int32) (x2 : Int32) (M : Mem) : Option (Int32 × Mem) := (if (gi M d0 0) < 6 then lq (gi M d0 0) (fun x1_ => gd (inb x1_ 6) (sq (uI M (d0 + 2) (ix x1_) x1) (fun M3 => gd (inb x1_ 6) (sq (uI M3 (d0 + 3) (ix x1_) x2) (fun M5 => gd (inb x1_ 6) (sq (uI M5 (d0 + 4) (ix x1_) 0) (fun M7 => gd (inb x1_ 6) (sq (uI M7 (d0 + 5) (ix x1_) 0) (fun M9 => sq (uI M9 d0 5 ((gi M9 d0 5) + x2)) (fun M10 => sq (uI M10 d0 0 ((gi M10 d0 0) + 1)) (fun M11 => (some (x1_, M11))))))))))))) else (some ((-1000000), M)))
-- FilmCans$Tape.readCan
def j_Tape_readCan (d1 : Nat) (M : Mem) : Option (Int32 × Mem) := (if (gi M d1 0) < 6 then bd (j_Tape_next M) (fun r1 M2 => bd (j_Kinds_ofLetter r1 M2) (fun r3 M4 => sq (uI M4 1 2 ((gi M4 1 2) + 1)) (fun M5 => bd (j_Tape_readNumber 1 99 M5) (fun r6 M7 => (if r6 = (-1000000) then (some (0, M7)) else bd (j_Tape_pass 59 M7) (fun r8 M9 => (if r8 = 0 then (some (0, M9)) else bd (j_Day_addCan d1 r3 r6 M9) (fun r10 M11 => (some (1, M11)))))))))) else bd (j_Tape_refuse 3 M) (fun r12 M13 => (gd (isB r12) (some (r12, M13)))))
-- FilmCans$Tape.readCans
def Tape_readCans_b51 (M : Mem) : Option (Int32 × Mem) := (some (1, M))
def Tape_readCans_b36 (d1 : Nat) (M : Mem) : Option (Int32 × Mem) := (if (0 : Int32) < (gi M d1 0) then (Tape_readCans_b51  M) else bd (j_Tape_refuse 1 M) (fun r2 M3 => (if r2 = 0 then (some (0, M3)) else (Tape_readCans_b51  M3))))
def Tape_readCans_h2  : Nat → Nat → Int32 → Mem → Option (Int32 × Mem)
  | 0, _, _, _ => none
  | n + 1, d1, x2, M => (if (6 : Int32) < x2 then (Tape_readCans_b36  d1 M) else bd (j_Tape_next M) (fun r4 M5 => bd (j_Kinds_ofLetter r4 M5) (fun r6 M7 => (if r6 = (-1000000) then (Tape_readCans_b36  d1 M7) else bd (j_Tape_readCan d1 M7) (fun r8 M9 => (if r8 = 0 then (some (0, M9)) else lq (x2 + 1) (fun x10_ => (Tape_readCans_h2  n d1 x10_ M9))))))))
def j_Tape_readCans (d1 : Nat) (M : Mem) : Option (Int32 × Mem) := lq (0 : Int32) (fun x1_ => (Tape_readCans_h2  FU d1 x1_ M))
-- FilmCans$Day.addTake
def j_Day_addTake (d0 : Nat) (x1 : Int32) (x2 : Int32) (M : Mem) : Option (Int32 × Mem) := (if (gi M d0 1) < 8 then lq (gi M d0 1) (fun x1_ => gd (inb x1_ 8) (sq (uI M (d0 + 6) (ix x1_) x1) (fun M3 => gd (inb x1_ 8) (sq (uI M3 (d0 + 7) (ix x1_) x2) (fun M5 => gd (inb x1_ 8) (sq (uI M5 (d0 + 8) (ix x1_) (-1000000)) (fun M7 => sq (uI M7 d0 1 ((gi M7 d0 1) + 1)) (fun M8 => (some (x1_, M8)))))))))) else (some ((-1000000), M)))
-- FilmCans$Tape.readTake
def j_Tape_readTake (d1 : Nat) (M : Mem) : Option (Int32 × Mem) := (if (gi M d1 1) < 8 then sq (uI M 1 2 ((gi M 1 2) + 1)) (fun M1 => bd (j_Tape_readNumber 0 5 M1) (fun r2 M3 => (if r2 = (-1000000) then (some (0, M3)) else bd (j_Tape_pass 44 M3) (fun r4 M5 => (if r4 = 0 then (some (0, M5)) else bd (j_Tape_readNumber 1 60 M5) (fun r6 M7 => (if r6 = (-1000000) then (some (0, M7)) else bd (j_Tape_pass 59 M7) (fun r8 M9 => (if r8 = 0 then (some (0, M9)) else bd (j_Day_addTake d1 r2 r6 M9) (fun r10 M11 => (some (1, M11)))))))))))) else bd (j_Tape_refuse 3 M) (fun r12 M13 => (gd (isB r12) (some (r12, M13)))))
-- FilmCans$Tape.readTakes
def Tape_readTakes_b52 (M : Mem) : Option (Int32 × Mem) := (some (1, M))
def Tape_readTakes_b33 (M : Mem) : Option (Int32 × Mem) := (if (gi M 1 2) = (gi M 1 1) then (Tape_readTakes_b52  M) else bd (j_Tape_refuse 1 M) (fun r2 M3 => (if r2 = 0 then (some (0, M3)) else (Tape_readTakes_b52  M3))))
def Tape_readTakes_h2  : Nat → Nat → Int32 → Mem → Option (Int32 × Mem)
  | 0, _, _, _ => none
  | n + 1, d1, x2, M => (if (8 : Int32) < x2 then (Tape_readTakes_b33  M) else bd (j_Tape_next M) (fun r4 M5 => (if r4 = 116 then bd (j_Tape_readTake d1 M5) (fun r6 M7 => (if r6 = 0 then (some (0, M7)) else lq (x2 + 1) (fun x8_ => (Tape_readTakes_h2  n d1 x8_ M7)))) else (Tape_readTakes_b33  M5))))
def j_Tape_readTakes (d1 : Nat) (M : Mem) : Option (Int32 × Mem) := lq (0 : Int32) (fun x1_ => (Tape_readTakes_h2  FU d1 x1_ M))
-- FilmCans$Tape.readInto
def Tape_readInto_b37 (M : Mem) : Option (Int32 × Mem) := lq (0 : Int32) (fun x6_ => sq (uI M 1 1 0) (fun M7 => (gd (isB x6_) (some (x6_, M7)))))
def j_Tape_readInto (d1 : Nat) (M : Mem) : Option (Int32 × Mem) := sq (uI M 1 2 0) (fun M1 => bd (j_Day_clear d1 M1) (fun _ M3 => bd (j_Tape_readLaws d1 M3) (fun r4 M5 => (if r4 = 0 then (Tape_readInto_b37  M5) else bd (j_Tape_readCans d1 M5) (fun r8 M9 => (if r8 = 0 then (Tape_readInto_b37  M9) else bd (j_Tape_readTakes d1 M9) (fun r10 M11 => (if r10 = 0 then (Tape_readInto_b37  M11) else lq (1 : Int32) (fun x12_ => sq (uI M11 1 1 0) (fun M13 => (gd (isB x12_) (some (x12_, M13)))))))))))))
-- FilmCans$Day.copyFrom
def j_Day_copyFrom (d0 : Nat) (d1 : Nat) (M : Mem) : Option (Unit × Mem) := sq (uI M d0 0 (gi M d1 0)) (fun M1 => sq (uI M1 d0 1 (gi M1 d1 1)) (fun M2 => sq (uI M2 d0 2 (gi M2 d1 2)) (fun M3 => sq (uI M3 d0 3 (gi M3 d1 3)) (fun M4 => sq (uI M4 d0 4 (gi M4 d1 4)) (fun M5 => sq (uI M5 d0 5 (gi M5 d1 5)) (fun M6 => sq (uI M6 d0 6 (gi M6 d1 6)) (fun M7 => sq (uI M7 d0 7 (gi M7 d1 7)) (fun M8 => sq (uI M8 d0 8 (gi M8 d1 8)) (fun M9 => sq (cpI M9 (d1 + 1) 0 (d0 + 1) 0 4) (fun M10 => sq (cpI M10 (d1 + 2) 0 (d0 + 2) 0 6) (fun M11 => sq (cpI M11 (d1 + 3) 0 (d0 + 3) 0 6) (fun M12 => sq (cpI M12 (d1 + 4) 0 (d0 + 4) 0 6) (fun M13 => sq (cpI M13 (d1 + 5) 0 (d0 + 5) 0 6) (fun M14 => sq (cpI M14 (d1 + 6) 0 (d0 + 6) 0 8) (fun M15 => sq (cpI M15 (d1 + 7) 0 (d0 + 7) 0 8) (fun M16 => sq (cpI M16 (d1 + 8) 0 (d0 + 8) 0 8) (fun M17 => sq (cpI M17 (d1 + 9) 0 (d0 + 9) 0 8) (fun M18 => sq (cpI M18 (d1 + 10) 0 (d0 + 10) 0 8) (fun M19 => sq (cpI M19 (d1 + 11) 0 (d0 + 11) 0 8) (fun M20 => (some ((), M20))))))))))))))))))))))
-- FilmCans$History.forget
def j_Hist_forget (M : Mem) : Option (Unit × Mem) := sq (uI M 27 2 0) (fun M1 => (some ((), M1)))
-- FilmCans.book
def j_Fc_book (M : Mem) : Option (Int32 × Mem) := bd (j_Tape_readInto 15 M) (fun r1 M2 => (if r1 = 0 then (some ((((-1000100) : Int32) - (gi M2 1 2)), M2)) else bd (j_Day_copyFrom 3 15 M2) (fun _ M4 => bd (j_Hist_forget M4) (fun _ M6 => (some ((gi M6 3 0), M6))))))
-- FilmCans.fault
def j_Fc_fault (M : Mem) : Option (Int32 × Mem) := (some ((gi M 1 3), M))
-- FilmCans$History.stepBack
def Hist_stepBack_b28 (d1 : Nat) (xs0 : Int32) (M : Mem) : Option (Int32 × Mem) := sq (uI M 27 1 xs0) (fun M1 => sq (uI M1 27 2 ((gi M1 27 2) - 1)) (fun M2 => gd (inb (gi M2 27 1) 20) (bd (j_Day_copyFrom d1 (29 + 12 * ix (gi M2 27 1)) M2) (fun _ M5 => (some (1, M5))))))
def j_Hist_stepBack (d1 : Nat) (M : Mem) : Option (Int32 × Mem) := (if (gi M 27 2) = 0 then (some (0, M)) else (if (0 : Int32) < (gi M 27 1) then (Hist_stepBack_b28  d1 ((gi M 27 1) - 1) M) else (Hist_stepBack_b28  d1 19 M)))
-- FilmCans.undo
def j_Fc_undo (M : Mem) : Option (Int32 × Mem) := bd (j_Hist_stepBack 3 M) (fun r1 M2 => (if r1 = 0 then (some ((-1000002), M2)) else (some ((gi M2 27 2), M2))))
-- FilmCans$Day.hasCan
def j_Day_hasCan (d0 : Nat) (x1 : Int32) (M : Mem) : Option (Int32 × Mem) := (if x1 < 0 then (some (0, M)) else (if x1 < (gi M d0 0) then (some (1, M)) else (some (0, M))))
-- FilmCans$Kinds.isKind
def j_Kinds_isKind (x0 : Int32) (M : Mem) : Option (Int32 × Mem) := (if x0 < 0 then (some (0, M)) else (if x0 < 6 then (some (1, M)) else (some (0, M))))
-- FilmCans$Kinds.isOf
def j_Kinds_isOf (x0 : Int32) (x1 : Int32) (M : Mem) : Option (Int32 × Mem) := bd (j_Kinds_isKind x0 M) (fun r1 M2 => (if r1 = 0 then (some (0, M2)) else bd (j_Kinds_isKind x1 M2) (fun r3 M4 => (if r3 = 0 then (some (0, M4)) else gd (inb x0 6) ((if (((cIS (ix x0)) >>> (x1 &&& 31)) &&& 1) = 1 then (some (1, M4)) else (some (0, M4))))))))
-- FilmCans$Kinds.leadOf
def j_Kinds_leadOf (x0 : Int32) (x1 : Int32) (M : Mem) : Option (Int32 × Mem) := bd (j_Kinds_isOf x0 4 M) (fun r1 M2 => (if r1 = 0 then (some (x1, M2)) else (some (((2 : Int32) * x1), M2))))
-- FilmCans$Day.leadOf
def j_Day_leadOf (d0 : Nat) (x1 : Int32) (M : Mem) : Option (Int32 × Mem) := gd (inb x1 6) (bd (j_Kinds_leadOf (gi M (d0 + 2) (ix x1)) (gi M (d0 + 1) 0) M) (fun r3 M4 => (some (r3, M4))))
-- FilmCans$History.keep
def Hist_keep_b35 (xs0 : Int32) (M : Mem) : Option (Unit × Mem) := sq (uI M 27 1 xs0) (fun M4 => sq (uI M4 27 2 (mn ((gi M4 27 2) + 1) 20)) (fun M5 => (some ((), M5))))
def j_Hist_keep (d1 : Nat) (M : Mem) : Option (Unit × Mem) := gd (inb (gi M 27 1) 20) (bd (j_Day_copyFrom (29 + 12 * ix (gi M 27 1)) d1 M) (fun _ M3 => (if ((gi M3 27 1) + 1) < 20 then (Hist_keep_b35  ((gi M3 27 1) + 1) M3) else (Hist_keep_b35  0 M3))))
-- FilmCans$Day.thread
def j_Day_thread (d0 : Nat) (x1 : Int32) (M : Mem) : Option (Unit × Mem) := bd (j_Day_leadOf d0 x1 M) (fun r1 M2 => gd (inb x1 6) (sq (uI M2 (d0 + 4) (ix x1) 1) (fun M4 => gd (inb x1 6) (gd (inb x1 6) (sq (uI M4 (d0 + 3) (ix x1) ((gi M4 (d0 + 3) (ix x1)) - r1)) (fun M7 => sq (uI M7 d0 7 ((gi M7 d0 7) + r1)) (fun M8 => sq (uI M8 d0 3 x1) (fun M9 => sq (uI M9 d0 4 0) (fun M10 => (some ((), M10)))))))))))
-- FilmCans.load
def j_Fc_load (x1 : Int32) (M : Mem) : Option (Int32 × Mem) := bd (j_Day_hasCan 3 x1 M) (fun r1 M2 => (if r1 = 0 then (some ((-1000001), M2)) else (if (gi M2 3 3) = (-1000000) then gd (inb x1 6) ((if (gi M2 7 (ix x1)) = 0 then gd (inb x1 6) (bd (j_Day_leadOf 3 x1 M2) (fun r5 M6 => (if (gi M2 6 (ix x1)) < r5 then (some ((-1000002), M6)) else bd (j_Hist_keep 3 M6) (fun _ M8 => bd (j_Day_thread 3 x1 M8) (fun _ M10 => gd (inb x1 6) ((some ((gi M10 6 (ix x1)), M10)))))))) else (some ((-1000002), M2)))) else (some ((-1000002), M2)))))
-- FilmCans$Day.hasTake
def j_Day_hasTake (d0 : Nat) (x1 : Int32) (M : Mem) : Option (Int32 × Mem) := (if x1 < 0 then (some (0, M)) else (if x1 < (gi M d0 1) then (some (1, M)) else (some (0, M))))
-- FilmCans$Day.isOpen
def j_Day_isOpen (d0 : Nat) (x1 : Int32) (M : Mem) : Option (Int32 × Mem) := gd (inb x1 8) ((if (gi M (d0 + 8) (ix x1)) = (-1000000) then (some (1, M)) else (some (0, M))))
-- FilmCans$Day.serves
def j_Day_serves (d0 : Nat) (x1 : Int32) (x2 : Int32) (M : Mem) : Option (Int32 × Mem) := gd (inb x1 6) (gd (inb x2 8) (bd (j_Kinds_isOf (gi M (d0 + 2) (ix x1)) (gi M (d0 + 6) (ix x2)) M) (fun r3 M4 => (gd (isB r3) (some (r3, M4))))))
-- FilmCans$Kinds.slateOf
def j_Kinds_slateOf (x0 : Int32) (M : Mem) : Option (Int32 × Mem) := bd (j_Kinds_isOf x0 3 M) (fun r1 M2 => (if r1 = 0 then (some (0, M2)) else (some (1, M2))))
-- FilmCans$Day.expose
def j_Day_expose (d0 : Nat) (x1 : Int32) (x2 : Int32) (M : Mem) : Option (Unit × Mem) := gd (inb x2 8) (lq (gi M (d0 + 7) (ix x2)) (fun x2_ => gd (inb x1 6) (bd (j_Kinds_slateOf (gi M (d0 + 2) (ix x1)) M) (fun r4 M5 => gd (inb x1 6) (gd (inb x1 6) (sq (uI M5 (d0 + 3) (ix x1) ((gi M5 (d0 + 3) (ix x1)) - (x2_ + r4))) (fun M8 => sq (uI M8 d0 6 ((gi M8 d0 6) + x2_)) (fun M9 => sq (uI M9 d0 7 ((gi M9 d0 7) + r4)) (fun M10 => sq (uI M10 d0 4 ((gi M10 d0 4) + x2_)) (fun M11 => gd (inb x2 8) (sq (uI M11 (d0 + 8) (ix x2) x1) (fun M13 => (some ((), M13))))))))))))))
-- FilmCans.shoot
def j_Fc_shoot (x1 : Int32) (M : Mem) : Option (Int32 × Mem) := bd (j_Day_hasTake 3 x1 M) (fun r1 M2 => (if r1 = 0 then (some ((-1000001), M2)) else lq (gi M2 3 3) (fun x3_ => bd (j_Day_hasCan 3 x3_ M2) (fun r4 M5 => (if r4 = 0 then (some ((-1000002), M5)) else bd (j_Day_isOpen 3 x1 M5) (fun r6 M7 => (if r6 = 0 then (some ((-1000002), M7)) else bd (j_Day_serves 3 x3_ x1 M7) (fun r8 M9 => (if r8 = 0 then (some ((-1000002), M9)) else gd (inb x3_ 6) (gd (inb x1 8) (gd (inb x3_ 6) (bd (j_Kinds_slateOf (gi M9 5 (ix x3_)) M9) (fun r13 M14 => (if (gi M9 6 (ix x3_)) < ((gi M9 10 (ix x1)) + r13) then (some ((-1000003), M14)) else bd (j_Hist_keep 3 M14) (fun _ M16 => bd (j_Day_expose 3 x3_ x1 M16) (fun _ M18 => gd (inb x3_ 6) ((some ((gi M18 6 (ix x3_)), M18)))))))))))))))))))
-- FilmCans$Kinds.familyOf
def j_Kinds_familyOf (x0 : Int32) (M : Mem) : Option (Int32 × Mem) := bd (j_Kinds_isOf x0 4 M) (fun r1 M2 => (if r1 = 0 then (some (0, M2)) else (some (1, M2))))
-- FilmCans$Kinds.leastKept
def Kinds_leastKept_b27 (xs0 : Int32) (xs1 : Int32) (M : Mem) : Option (Int32 × Mem) := (some ((mx xs1 xs0), M))
def j_Kinds_leastKept (x0 : Int32) (x1 : Int32) (M : Mem) : Option (Int32 × Mem) := bd (j_Kinds_isOf x0 5 M) (fun r1 M2 => (if r1 = 0 then bd (j_Kinds_isOf x0 2 M2) (fun r3 M4 => (if r3 = 0 then (Kinds_leastKept_b27  x1 1 M4) else (Kinds_leastKept_b27  (x1 / 2) 1 M4))) else (some ((-1000000), M2))))
-- FilmCans$Day.leastKeptOf
def j_Day_leastKeptOf (d0 : Nat) (x1 : Int32) (M : Mem) : Option (Int32 × Mem) := gd (inb x1 6) (bd (j_Kinds_leastKept (gi M (d0 + 2) (ix x1)) (gi M (d0 + 1) 1) M) (fun r3 M4 => (some (r3, M4))))
-- FilmCans$Kinds.isKept
def j_Kinds_isKept (x0 : Int32) (x1 : Int32) (M : Mem) : Option (Int32 × Mem) := (if x1 = (-1000000) then (some (0, M)) else (if x0 < x1 then (some (0, M)) else (some (1, M))))
-- FilmCans$Day.takeOut
def Day_takeOut_b67 (d0 : Nat) (x1 : Int32) (M : Mem) : Option (Unit × Mem) := sq (uI M d0 4 0) (fun M1 => sq (uI M1 d0 3 (-1000000)) (fun M2 => gd (inb x1 6) (bd (j_Day_leastKeptOf d0 x1 M2) (fun r4 M5 => bd (j_Kinds_isKept (gi M2 (d0 + 3) (ix x1)) r4 M5) (fun r6 M7 => (if r6 = 0 then gd (inb x1 6) (sq (uI M7 d0 7 ((gi M7 d0 7) + (gi M7 (d0 + 3) (ix x1)))) (fun M9 => gd (inb x1 6) (sq (uI M9 (d0 + 3) (ix x1) 0) (fun M11 => gd (inb x1 6) (sq (uI M11 (d0 + 4) (ix x1) 2) (fun M13 => (some ((), M13)))))))) else gd (inb x1 6) (sq (uI M7 (d0 + 4) (ix x1) 0) (fun M15 => gd (inb x1 6) (sq (uI M15 (d0 + 5) (ix x1) 1) (fun M17 => (some ((), M17))))))))))))
def j_Day_takeOut (d0 : Nat) (x1 : Int32) (M : Mem) : Option (Unit × Mem) := (if (0 : Int32) < (gi M d0 4) then (if (gi M d0 2) < 8 then gd (inb (gi M d0 2) 8) (sq (uI M (d0 + 9) (ix (gi M d0 2)) x1) (fun M19 => gd (inb (gi M19 d0 2) 8) (sq (uI M19 (d0 + 10) (ix (gi M19 d0 2)) (gi M19 d0 4)) (fun M21 => gd (inb x1 6) (bd (j_Kinds_familyOf (gi M21 (d0 + 2) (ix x1)) M21) (fun r23 M24 => gd (inb (gi M21 d0 2) 8) (sq (uI M24 (d0 + 11) (ix (gi M21 d0 2)) r23) (fun M26 => sq (uI M26 d0 2 ((gi M26 d0 2) + 1)) (fun M27 => (Day_takeOut_b67  d0 x1 M27)))))))))) else (Day_takeOut_b67  d0 x1 M)) else (Day_takeOut_b67  d0 x1 M))
-- FilmCans.unload
def Fc_unload_b47 (x1 : Int32) (M : Mem) : Option (Int32 × Mem) := bd (j_Hist_keep 3 M) (fun _ M5 => bd (j_Day_takeOut 3 x1 M5) (fun _ M7 => gd (inb x1 6) ((some ((gi M7 6 (ix x1)), M7)))))
def j_Fc_unload (M : Mem) : Option (Int32 × Mem) := lq (gi M 3 3) (fun x1_ => bd (j_Day_hasCan 3 x1_ M) (fun r2 M3 => (if r2 = 0 then (some ((-1000002), M3)) else (if (0 : Int32) < (gi M3 3 4) then (if (gi M3 3 2) < 8 then (Fc_unload_b47  x1_ M3) else (some ((-1000003), M3))) else (Fc_unload_b47  x1_ M3)))))
-- FilmCans$Laboratory.firstWithRoom
def Lab_firstWithRoom_b51 (k3 : Nat → Int32 → Int32 → Int32 → Mem → Option (Int32 × Mem)) (d1 : Nat) (x2 : Int32) (x3 : Int32) (x4 : Int32) (M : Mem) : Option (Int32 × Mem) := lq (x4 + 1) (fun x4_ => (k3 d1 x2 x3 x4_ M))
def Lab_firstWithRoom_h3  : Nat → Nat → Int32 → Int32 → Int32 → Mem → Option (Int32 × Mem)
  | 0, _, _, _, _, _ => none
  | n + 1, d1, x2, x3, x4, M => (if x4 < x3 then gd (inb x4 8) (gd (inb x2 8) ((if (gi M 296 (ix x4)) = (gi M (d1 + 11) (ix x2)) then gd (inb x4 8) (gd (inb x2 8) ((if (gi M (d1 + 1) 2) < ((gi M 295 (ix x4)) + (gi M (d1 + 10) (ix x2))) then (Lab_firstWithRoom_b51 (fun d1 x2 x3 x4 M => Lab_firstWithRoom_h3 n d1 x2 x3 x4 M) d1 x2 x3 x4 M) else (some (x4, M))))) else (Lab_firstWithRoom_b51 (fun d1 x2 x3 x4 M => Lab_firstWithRoom_h3 n d1 x2 x3 x4 M) d1 x2 x3 x4 M)))) else (some (x3, M)))
def j_Lab_firstWithRoom (d1 : Nat) (x2 : Int32) (x3 : Int32) (M : Mem) : Option (Int32 × Mem) := lq (0 : Int32) (fun x1_ => (Lab_firstWithRoom_h3  FU d1 x2 x3 x1_ M))
-- FilmCans$Laboratory.byLab
def Lab_byLab_b51 (k4 : Nat → Int32 → Int32 → Mem → Option (Int32 × Mem)) (d1 : Nat) (x2 : Int32) (x3 : Int32) (x4 : Int32) (M : Mem) : Option (Int32 × Mem) := gd (inb x4 8) (gd (inb x3 8) (gd (inb x4 8) (sq (uI M 295 (ix x4) ((gi M 295 (ix x4)) + (gi M (d1 + 10) (ix x3)))) (fun M8 => lq (x3 + 1) (fun x9_ => (k4 d1 x2 x9_ M8))))))
def Lab_byLab_h4  : Nat → Nat → Int32 → Int32 → Mem → Option (Int32 × Mem)
  | 0, _, _, _, _ => none
  | n + 1, d1, x2, x3, M => (if x3 < (gi M d1 2) then bd (j_Lab_firstWithRoom d1 x3 x2 M) (fun r3 M4 => (if r3 = x2 then gd (inb r3 8) (sq (uI M4 295 (ix r3) 0) (fun M11 => gd (inb x3 8) (gd (inb r3 8) (sq (uI M11 296 (ix r3) (gi M11 (d1 + 11) (ix x3))) (fun M14 => lq (x2 + 1) (fun x15_ => (Lab_byLab_b51 (fun d1 x2 x3 M => Lab_byLab_h4 n d1 x2 x3 M) d1 x15_ x3 r3 M14))))))) else (Lab_byLab_b51 (fun d1 x2 x3 M => Lab_byLab_h4 n d1 x2 x3 M) d1 x2 x3 r3 M4))) else (some (x2, M)))
def j_Lab_byLab (d1 : Nat) (M : Mem) : Option (Int32 × Mem) := lq (0 : Int32) (fun x1_ => lq (0 : Int32) (fun x2_ => (Lab_byLab_h4  FU d1 x1_ x2_ M)))
-- FilmCans$Day.feetThatWait
def Day_feetThatWait_h4  : Nat → Nat → Int32 → Int32 → Mem → Option (Int32 × Mem)
  | 0, _, _, _, _ => none
  | n + 1, d0, x1, x2, M => (if x2 < (gi M d0 2) then gd (inb x2 8) (lq (x1 + (gi M (d0 + 10) (ix x2))) (fun x4_ => lq (x2 + 1) (fun x5_ => (Day_feetThatWait_h4  n d0 x4_ x5_ M)))) else (some (x1, M)))
def j_Day_feetThatWait (d0 : Nat) (M : Mem) : Option (Int32 × Mem) := lq (0 : Int32) (fun x1_ => lq (0 : Int32) (fun x2_ => (Day_feetThatWait_h4  FU d0 x1_ x2_ M)))
-- FilmCans$Day.develop
def j_Day_develop (d0 : Nat) (x1 : Int32) (M : Mem) : Option (Unit × Mem) := bd (j_Day_feetThatWait d0 M) (fun r2 M3 => sq (uI M3 d0 8 ((gi M d0 8) + (((gi M (d0 + 1) 3) * x1) + r2))) (fun M4 => sq (uI M4 d0 2 0) (fun M5 => (some ((), M5)))))
-- FilmCans.lab
def j_Fc_lab (M : Mem) : Option (Int32 × Mem) := (if (gi M 3 2) = 0 then (some ((-1000002), M)) else bd (j_Hist_keep 3 M) (fun _ M2 => bd (j_Lab_byLab 3 M2) (fun r3 M4 => bd (j_Day_develop 3 r3 M4) (fun _ M6 => (some (r3, M6))))))
-- FilmCans$Day.reopen
def j_Day_reopen (d0 : Nat) (x1 : Int32) (M : Mem) : Option (Unit × Mem) := gd (inb x1 8) (sq (uI M d0 6 ((gi M d0 6) - (gi M (d0 + 7) (ix x1)))) (fun M2 => gd (inb x1 8) (sq (uI M2 d0 7 ((gi M2 d0 7) + (gi M2 (d0 + 7) (ix x1)))) (fun M4 => gd (inb x1 8) (sq (uI M4 (d0 + 8) (ix x1) (-1000000)) (fun M6 => (some ((), M6))))))))
-- FilmCans.again
def j_Fc_again (x1 : Int32) (M : Mem) : Option (Int32 × Mem) := bd (j_Day_hasTake 3 x1 M) (fun r1 M2 => (if r1 = 0 then (some ((-1000001), M2)) else bd (j_Day_isOpen 3 x1 M2) (fun r3 M4 => (if r3 = 0 then bd (j_Hist_keep 3 M4) (fun _ M6 => gd (inb x1 8) (lq (gi M6 11 (ix x1)) (fun x8_ => bd (j_Day_reopen 3 x1 M6) (fun _ M10 => (some (x8_, M10)))))) else (some ((-1000002), M4))))))
-- FilmCans$Day.isEmpty
def j_Day_isEmpty (d0 : Nat) (M : Mem) : Option (Int32 × Mem) := (if (gi M d0 0) = 0 then (some (1, M)) else (some (0, M)))
-- FilmCans.hasNoBook
def j_Fc_hasNoBook (M : Mem) : Option (Int32 × Mem) := bd (j_Day_isEmpty 3 M) (fun r1 M2 => (gd (isB r1) (some (r1, M2))))
-- FilmCans.isCanKind
def j_Fc_isCanKind (x0 : Int32) (M : Mem) : Option (Int32 × Mem) := (if x0 = 0 then (some (0, M)) else bd (j_Kinds_isKind x0 M) (fun r1 M2 => (if r1 = 0 then (some (0, M2)) else (some (1, M2)))))
-- FilmCans.isCanFeet
def j_Fc_isCanFeet (x0 : Int32) (M : Mem) : Option (Int32 × Mem) := (if x0 < 1 then (some (0, M)) else (if (99 : Int32) < x0 then (some (0, M)) else (some (1, M))))
-- FilmCans.buy
def j_Fc_buy (x1 : Int32) (x2 : Int32) (M : Mem) : Option (Int32 × Mem) := bd (j_Fc_hasNoBook M) (fun r1 M2 => (if r1 = 0 then bd (j_Fc_isCanKind x1 M2) (fun r3 M4 => (if r3 = 0 then (some ((-1000001), M4)) else bd (j_Fc_isCanFeet x2 M4) (fun r5 M6 => (if r5 = 0 then (some ((-1000001), M6)) else (if (gi M6 3 0) < 6 then bd (j_Hist_keep 3 M6) (fun _ M8 => bd (j_Day_addCan 3 x1 x2 M8) (fun r9 M10 => (some (r9, M10)))) else (some ((-1000003), M6))))))) else (some ((-1000002), M2))))
-- FilmCans.isTakeFeet
def j_Fc_isTakeFeet (x0 : Int32) (M : Mem) : Option (Int32 × Mem) := (if x0 < 1 then (some (0, M)) else (if (60 : Int32) < x0 then (some (0, M)) else (some (1, M))))
-- FilmCans.ask
def j_Fc_ask (x1 : Int32) (x2 : Int32) (M : Mem) : Option (Int32 × Mem) := bd (j_Fc_hasNoBook M) (fun r1 M2 => (if r1 = 0 then bd (j_Kinds_isKind x1 M2) (fun r3 M4 => (if r3 = 0 then (some ((-1000001), M4)) else bd (j_Fc_isTakeFeet x2 M4) (fun r5 M6 => (if r5 = 0 then (some ((-1000001), M6)) else (if (gi M6 3 1) < 8 then bd (j_Hist_keep 3 M6) (fun _ M8 => bd (j_Day_addTake 3 x1 x2 M8) (fun r9 M10 => (some (r9, M10)))) else (some ((-1000003), M6))))))) else (some ((-1000002), M2))))
-- FilmCans.become
def j_Fc_become (x1 : Int32) (x2 : Int32) (M : Mem) : Option (Int32 × Mem) := bd (j_Day_hasCan 3 x1 M) (fun r1 M2 => (if r1 = 0 then (some ((-1000001), M2)) else bd (j_Fc_isCanKind x2 M2) (fun r3 M4 => (if r3 = 0 then (some ((-1000001), M4)) else gd (inb x1 6) (lq (gi M4 5 (ix x1)) (fun x6_ => (if x6_ = x2 then (some ((-1000002), M4)) else gd (inb x1 6) ((if (gi M4 7 (ix x1)) = 0 then bd (j_Hist_keep 3 M4) (fun _ M9 => gd (inb x1 6) (sq (uI M9 5 (ix x1) x2) (fun M11 => (some (x6_, M11))))) else (some ((-1000002), M4)))))))))))
-- FilmCans.demand
def j_Fc_demand (x1 : Int32) (x2 : Int32) (x3 : Int32) (M : Mem) : Option (Int32 × Mem) := bd (j_Day_hasTake 3 x1 M) (fun r1 M2 => (if r1 = 0 then (some ((-1000001), M2)) else bd (j_Kinds_isKind x2 M2) (fun r3 M4 => (if r3 = 0 then (some ((-1000001), M4)) else bd (j_Fc_isTakeFeet x3 M4) (fun r5 M6 => (if r5 = 0 then (some ((-1000001), M6)) else bd (j_Day_isOpen 3 x1 M6) (fun r7 M8 => (if r7 = 0 then (some ((-1000002), M8)) else bd (j_Hist_keep 3 M8) (fun _ M10 => gd (inb x1 8) (lq (gi M10 10 (ix x1)) (fun x12_ => gd (inb x1 8) (sq (uI M10 9 (ix x1) x2) (fun M14 => gd (inb x1 8) (sq (uI M14 10 (ix x1) x3) (fun M16 => (some (x12_, M16)))))))))))))))))
-- FilmCans.law
def j_Fc_law (x1 : Int32) (x2 : Int32) (M : Mem) : Option (Int32 × Mem) := bd (j_Fc_hasNoBook M) (fun r1 M2 => (if r1 = 0 then (if x1 < 0 then (some ((-1000001), M2)) else (if x1 < 4 then gd (inb x1 4) ((if x2 < (cLL (ix x1)) then (some ((-1000001), M2)) else gd (inb x1 4) ((if (cLM (ix x1)) < x2 then (some ((-1000001), M2)) else bd (j_Hist_keep 3 M2) (fun _ M6 => gd (inb x1 4) (lq (gi M6 4 (ix x1)) (fun x8_ => gd (inb x1 4) (sq (uI M6 4 (ix x1) x2) (fun M10 => (some (x8_, M10))))))))))) else (some ((-1000001), M2)))) else (some ((-1000002), M2))))
-- FilmCans$Day.takesShotOn
def Day_takesShotOn_b28 (k4 : Nat → Int32 → Int32 → Int32 → Mem → Option (Int32 × Mem)) (d0 : Nat) (x1 : Int32) (x2 : Int32) (x3 : Int32) (M : Mem) : Option (Int32 × Mem) := lq (x3 + 1) (fun x4_ => (k4 d0 x1 x2 x4_ M))
def Day_takesShotOn_h4  : Nat → Nat → Int32 → Int32 → Int32 → Mem → Option (Int32 × Mem)
  | 0, _, _, _, _, _ => none
  | n + 1, d0, x1, x2, x3, M => (if x3 < (gi M d0 1) then gd (inb x3 8) ((if (gi M (d0 + 8) (ix x3)) = x1 then lq (x2 ||| ((1 : Int32) <<< (x3 &&& 31))) (fun x5_ => (Day_takesShotOn_b28 (fun d0 x1 x2 x3 M => Day_takesShotOn_h4 n d0 x1 x2 x3 M) d0 x1 x5_ x3 M)) else (Day_takesShotOn_b28 (fun d0 x1 x2 x3 M => Day_takesShotOn_h4 n d0 x1 x2 x3 M) d0 x1 x2 x3 M))) else (some (x2, M)))
def j_Day_takesShotOn (d0 : Nat) (x1 : Int32) (M : Mem) : Option (Int32 × Mem) := lq (0 : Int32) (fun x1_ => lq (0 : Int32) (fun x2_ => (Day_takesShotOn_h4  FU d0 x1 x1_ x2_ M)))
-- FilmCans.can
def j_Fc_can (x1 : Int32) (x2 : Int32) (M : Mem) : Option (Int32 × Mem) := bd (j_Day_hasCan 3 x1 M) (fun r1 M2 => (if r1 = 0 then (some ((-1000001), M2)) else (if x2 = 0 then gd (inb x1 6) ((some ((gi M2 5 (ix x1)), M2))) else (if x2 = 1 then gd (inb x1 6) ((some ((gi M2 6 (ix x1)), M2))) else (if x2 = 2 then gd (inb x1 6) ((some ((gi M2 7 (ix x1)), M2))) else (if x2 = 3 then gd (inb x1 6) ((some ((gi M2 8 (ix x1)), M2))) else (if x2 = 4 then bd (j_Day_takesShotOn 3 x1 M2) (fun r7 M8 => (some (r7, M8))) else (if x2 = 5 then bd (j_Day_leadOf 3 x1 M2) (fun r9 M10 => (some (r9, M10))) else (if x2 = 6 then gd (inb x1 6) (bd (j_Kinds_slateOf (gi M2 5 (ix x1)) M2) (fun r12 M13 => (some (r12, M13)))) else (if x2 = 7 then bd (j_Day_leastKeptOf 3 x1 M2) (fun r14 M15 => (some (r14, M15))) else (some ((-1000001), M2))))))))))))
-- FilmCans$Day.cansThatServe
def Day_cansThatServe_b27 (k4 : Nat → Int32 → Int32 → Int32 → Mem → Option (Int32 × Mem)) (d0 : Nat) (x1 : Int32) (x2 : Int32) (x3 : Int32) (M : Mem) : Option (Int32 × Mem) := lq (x3 + 1) (fun x5_ => (k4 d0 x1 x2 x5_ M))
def Day_cansThatServe_h4  : Nat → Nat → Int32 → Int32 → Int32 → Mem → Option (Int32 × Mem)
  | 0, _, _, _, _, _ => none
  | n + 1, d0, x1, x2, x3, M => (if x3 < (gi M d0 0) then bd (j_Day_serves d0 x3 x1 M) (fun r3 M4 => (if r3 = 0 then (Day_cansThatServe_b27 (fun d0 x1 x2 x3 M => Day_cansThatServe_h4 n d0 x1 x2 x3 M) d0 x1 x2 x3 M4) else lq (x2 ||| ((1 : Int32) <<< (x3 &&& 31))) (fun x6_ => (Day_cansThatServe_b27 (fun d0 x1 x2 x3 M => Day_cansThatServe_h4 n d0 x1 x2 x3 M) d0 x1 x6_ x3 M4)))) else (some (x2, M)))
def j_Day_cansThatServe (d0 : Nat) (x1 : Int32) (M : Mem) : Option (Int32 × Mem) := lq (0 : Int32) (fun x1_ => lq (0 : Int32) (fun x2_ => (Day_cansThatServe_h4  FU d0 x1 x1_ x2_ M)))
-- FilmCans.take
def j_Fc_take (x1 : Int32) (x2 : Int32) (M : Mem) : Option (Int32 × Mem) := bd (j_Day_hasTake 3 x1 M) (fun r1 M2 => (if r1 = 0 then (some ((-1000001), M2)) else (if x2 = 0 then gd (inb x1 8) ((some ((gi M2 9 (ix x1)), M2))) else (if x2 = 1 then gd (inb x1 8) ((some ((gi M2 10 (ix x1)), M2))) else (if x2 = 2 then gd (inb x1 8) ((some ((gi M2 11 (ix x1)), M2))) else (if x2 = 3 then bd (j_Day_cansThatServe 3 x1 M2) (fun r6 M7 => (some (r6, M7))) else (some ((-1000001), M2))))))))
-- FilmCans.roll
def j_Fc_roll (x1 : Int32) (x2 : Int32) (M : Mem) : Option (Int32 × Mem) := (if x1 < 0 then (some ((-1000001), M)) else (if x1 < (gi M 3 2) then (if x2 = 0 then gd (inb x1 8) ((some ((gi M 12 (ix x1)), M))) else (if x2 = 1 then gd (inb x1 8) ((some ((gi M 13 (ix x1)), M))) else (if x2 = 2 then gd (inb x1 8) ((some ((gi M 14 (ix x1)), M))) else (some ((-1000001), M))))) else (some ((-1000001), M))))
-- FilmCans$Day.feetOnShelf
def Day_feetOnShelf_b30 (k4 : Nat → Int32 → Int32 → Mem → Option (Int32 × Mem)) (d0 : Nat) (x1 : Int32) (x2 : Int32) (M : Mem) : Option (Int32 × Mem) := lq (x2 + 1) (fun x4_ => (k4 d0 x1 x4_ M))
def Day_feetOnShelf_h4  : Nat → Nat → Int32 → Int32 → Mem → Option (Int32 × Mem)
  | 0, _, _, _, _ => none
  | n + 1, d0, x1, x2, M => (if x2 < (gi M d0 0) then gd (inb x2 6) ((if (gi M (d0 + 4) (ix x2)) = 0 then gd (inb x2 6) (lq (x1 + (gi M (d0 + 3) (ix x2))) (fun x6_ => (Day_feetOnShelf_b30 (fun d0 x1 x2 M => Day_feetOnShelf_h4 n d0 x1 x2 M) d0 x6_ x2 M))) else (Day_feetOnShelf_b30 (fun d0 x1 x2 M => Day_feetOnShelf_h4 n d0 x1 x2 M) d0 x1 x2 M))) else (some (x1, M)))
def j_Day_feetOnShelf (d0 : Nat) (M : Mem) : Option (Int32 × Mem) := lq (0 : Int32) (fun x1_ => lq (0 : Int32) (fun x2_ => (Day_feetOnShelf_h4  FU d0 x1_ x2_ M)))
-- FilmCans.sums
def j_Fc_sums (x1 : Int32) (M : Mem) : Option (Int32 × Mem) := (if x1 = 0 then (some ((gi M 3 5), M)) else (if x1 = 1 then bd (j_Day_feetOnShelf 3 M) (fun r1 M2 => (some (r1, M2))) else (if x1 = 2 then bd (j_Day_hasCan 3 (gi M 3 3) M) (fun r3 M4 => (if r3 = 0 then (some (0, M4)) else gd (inb (gi M4 3 3) 6) ((some ((gi M4 6 (ix (gi M4 3 3))), M4))))) else (if x1 = 3 then (some ((gi M 3 6), M)) else (if x1 = 4 then (some ((gi M 3 7), M)) else (if x1 = 5 then bd (j_Day_feetThatWait 3 M) (fun r6 M7 => (some (r6, M7))) else (if x1 = 6 then (some ((gi M 3 8), M)) else (if x1 = 7 then (some ((gi M 3 4), M)) else (some ((-1000001), M))))))))))
-- FilmCans$Laboratory.sumUp
def Lab_sumUp_h24 (k9 : Nat → Int32 → Mem → Option (Unit × Mem)) : Nat → Nat → Int32 → Int32 → Int32 → Mem → Option (Unit × Mem)
  | 0, _, _, _, _, _ => none
  | n + 1, d1, x2, x3, x4, M => (if x4 < x3 then gd (inb x4 256) (gd (inb x2 8) (gd (inb (x4 ||| x3) 256) (sq (uI M 297 (ix (x4 ||| x3)) ((gi M 297 (ix x4)) + (gi M (d1 + 10) (ix x2)))) (fun M10 => lq (x4 + 1) (fun x11_ => (Lab_sumUp_h24 k9 n d1 x2 x3 x11_ M10)))))) else lq (x2 + 1) (fun x6_ => (k9 d1 x6_ M)))
def Lab_sumUp_h9  : Nat → Nat → Int32 → Mem → Option (Unit × Mem)
  | 0, _, _, _ => none
  | n + 1, d1, x2, M => (if x2 < (gi M d1 2) then lq ((1 : Int32) <<< (x2 &&& 31)) (fun x4_ => lq (0 : Int32) (fun x5_ => (Lab_sumUp_h24 (fun d1 x2 M => Lab_sumUp_h9 n d1 x2 M) FU d1 x2 x4_ x5_ M))) else (some ((), M)))
def j_Lab_sumUp (d1 : Nat) (M : Mem) : Option (Unit × Mem) := sq (uI M 297 0 0) (fun M2 => lq (0 : Int32) (fun x3_ => (Lab_sumUp_h9  FU d1 x3_ M2)))
-- FilmCans$Laboratory.reversalRolls
def Lab_reversalRolls_b28 (k4 : Nat → Int32 → Int32 → Mem → Option (Int32 × Mem)) (d1 : Nat) (x2 : Int32) (x3 : Int32) (M : Mem) : Option (Int32 × Mem) := lq (x3 + 1) (fun x4_ => (k4 d1 x2 x4_ M))
def Lab_reversalRolls_h4  : Nat → Nat → Int32 → Int32 → Mem → Option (Int32 × Mem)
  | 0, _, _, _, _ => none
  | n + 1, d1, x2, x3, M => (if x3 < (gi M d1 2) then gd (inb x3 8) ((if (gi M (d1 + 11) (ix x3)) = 1 then lq (x2 ||| ((1 : Int32) <<< (x3 &&& 31))) (fun x5_ => (Lab_reversalRolls_b28 (fun d1 x2 x3 M => Lab_reversalRolls_h4 n d1 x2 x3 M) d1 x5_ x3 M)) else (Lab_reversalRolls_b28 (fun d1 x2 x3 M => Lab_reversalRolls_h4 n d1 x2 x3 M) d1 x2 x3 M))) else (some (x2, M)))
def j_Lab_reversalRolls (d1 : Nat) (M : Mem) : Option (Int32 × Mem) := lq (0 : Int32) (fun x1_ => lq (0 : Int32) (fun x2_ => (Lab_reversalRolls_h4  FU d1 x1_ x2_ M)))
-- FilmCans$Laboratory.leastOf
def Lab_leastOf_b98 (k27 : Int32 → Int32 → Int32 → Int32 → Int32 → Int32 → Int32 → Mem → Option (Int32 × Mem)) (x1 : Int32) (x2 : Int32) (x3 : Int32) (x4 : Int32) (x5 : Int32) (x6 : Int32) (x7 : Int32) (M : Mem) : Option (Int32 × Mem) := lq ((x7 - 1) &&& x5) (fun x7_ => (k27 x1 x2 x3 x4 x5 x6 x7_ M))
def Lab_leastOf_b62 (k27 : Int32 → Int32 → Int32 → Int32 → Int32 → Int32 → Int32 → Mem → Option (Int32 × Mem)) (x1 : Int32) (x2 : Int32) (x3 : Int32) (x4 : Int32) (x5 : Int32) (x6 : Int32) (x7 : Int32) (x8 : Int32) (xs0 : Int32) (M : Mem) : Option (Int32 × Mem) := (if xs0 = 0 then (Lab_leastOf_b98 k27 x1 x2 x3 x4 x5 x6 x7 M) else gd (inb x8 256) ((if x3 < (gi M 297 (ix x8)) then (Lab_leastOf_b98 k27 x1 x2 x3 x4 x5 x6 x7 M) else gd (inb (x1 ^^^ x8) 256) (lq (mn x6 ((1 : Int32) + (gi M 298 (ix (x1 ^^^ x8))))) (fun x10_ => (Lab_leastOf_b98 k27 x1 x2 x3 x4 x5 x10_ x7 M))))))
def Lab_leastOf_b57 (k27 : Int32 → Int32 → Int32 → Int32 → Int32 → Int32 → Int32 → Mem → Option (Int32 × Mem)) (x1 : Int32) (x2 : Int32) (x3 : Int32) (x4 : Int32) (x5 : Int32) (x6 : Int32) (x7 : Int32) (x8 : Int32) (M : Mem) : Option (Int32 × Mem) := (Lab_leastOf_b62 k27 x1 x2 x3 x4 x5 x6 x7 x8 1 M)
def Lab_leastOf_h27  : Nat → Int32 → Int32 → Int32 → Int32 → Int32 → Int32 → Int32 → Mem → Option (Int32 × Mem)
  | 0, _, _, _, _, _, _, _, _ => none
  | n + 1, x1, x2, x3, x4, x5, x6, x7, M => (if (0 : Int32) < x7 then lq (x7 ||| x4) (fun x5_ => lq (x5_ &&& x2) (fun x6_ => (if x6_ = 0 then (Lab_leastOf_b57 (fun x1 x2 x3 x4 x5 x6 x7 M => Lab_leastOf_h27 n x1 x2 x3 x4 x5 x6 x7 M) x1 x2 x3 x4 x5 x6 x7 x5_ M) else (if x6_ = x5_ then (Lab_leastOf_b57 (fun x1 x2 x3 x4 x5 x6 x7 M => Lab_leastOf_h27 n x1 x2 x3 x4 x5 x6 x7 M) x1 x2 x3 x4 x5 x6 x7 x5_ M) else (Lab_leastOf_b62 (fun x1 x2 x3 x4 x5 x6 x7 M => Lab_leastOf_h27 n x1 x2 x3 x4 x5 x6 x7 M) x1 x2 x3 x4 x5 x6 x7 x5_ 0 M))))) else (some (x6, M)))
def j_Lab_leastOf (x1 : Int32) (x2 : Int32) (x3 : Int32) (M : Mem) : Option (Int32 × Mem) := lq (x1 &&& (-x1)) (fun x1_ => lq (x1 ^^^ x1_) (fun x2_ => gd (inb x2_ 256) (lq ((1 : Int32) + (gi M 298 (ix x2_))) (fun x4_ => (Lab_leastOf_h27  FU x1 x2 x3 x1_ x2_ x4_ x2_ M)))))
-- FilmCans$Laboratory.leastBatches
def Lab_leastBatches_h30  : Nat → Nat → Int32 → Int32 → Int32 → Mem → Option (Int32 × Mem)
  | 0, _, _, _, _, _ => none
  | n + 1, d1, x2, x3, x4, M => (if x3 < x4 then gd (inb x3 256) ((some ((gi M 298 (ix x3)), M))) else bd (j_Lab_leastOf x4 x2 (gi M (d1 + 1) 2) M) (fun r11 M12 => gd (inb x4 256) (sq (uI M12 298 (ix x4) r11) (fun M14 => lq (x4 + 1) (fun x15_ => (Lab_leastBatches_h30  n d1 x2 x3 x15_ M14))))))
def j_Lab_leastBatches (d1 : Nat) (M : Mem) : Option (Int32 × Mem) := bd (j_Lab_sumUp d1 M) (fun _ M2 => bd (j_Lab_reversalRolls d1 M2) (fun r3 M4 => lq (((1 : Int32) <<< ((gi M4 d1 2) &&& 31)) - 1) (fun x5_ => sq (uI M4 298 0 0) (fun M7 => lq (1 : Int32) (fun x8_ => (Lab_leastBatches_h30  FU d1 r3 x5_ x8_ M7))))))
-- FilmCans.batches
def j_Fc_batches (x1 : Int32) (M : Mem) : Option (Int32 × Mem) := (if x1 = 0 then bd (j_Lab_byLab 3 M) (fun r1 M2 => (some (r1, M2))) else (if x1 = 1 then bd (j_Lab_leastBatches 3 M) (fun r3 M4 => (some (r3, M4))) else (some ((-1000001), M))))
-- FilmCans.as
def j_Fc_as (x1 : Int32) (x2 : Int32) (M : Mem) : Option (Int32 × Mem) := bd (j_Day_hasCan 3 x1 M) (fun r1 M2 => (if r1 = 0 then (some ((-1000001), M2)) else bd (j_Kinds_isKind x2 M2) (fun r3 M4 => (if r3 = 0 then (some ((-1000001), M4)) else gd (inb x1 6) (bd (j_Kinds_isOf (gi M4 5 (ix x1)) x2 M4) (fun r6 M7 => (if r6 = 0 then (some ((-1000000), M7)) else (some (x1, M7)))))))))
-- FilmCans$Day.openTakes
def j_Day_openTakes (d0 : Nat) (M : Mem) : Option (Int32 × Mem) := bd (j_Day_takesShotOn d0 (-1000000) M) (fun r1 M2 => (some (r1, M2)))
-- FilmCans$Day.isRoom
def j_Day_isRoom (d0 : Nat) (x1 : Int32) (M : Mem) : Option (Int32 × Mem) := gd (inb x1 6) ((if (gi M (d0 + 4) (ix x1)) = 2 then (some (0, M)) else (some (1, M))))
-- FilmCans$Day.rooms
def Day_rooms_b26 (k4 : Nat → Int32 → Int32 → Mem → Option (Int32 × Mem)) (d0 : Nat) (x1 : Int32) (x2 : Int32) (M : Mem) : Option (Int32 × Mem) := lq (x2 + 1) (fun x5_ => (k4 d0 x1 x5_ M))
def Day_rooms_h4  : Nat → Nat → Int32 → Int32 → Mem → Option (Int32 × Mem)
  | 0, _, _, _, _ => none
  | n + 1, d0, x1, x2, M => (if x2 < (gi M d0 0) then bd (j_Day_isRoom d0 x2 M) (fun r3 M4 => (if r3 = 0 then (Day_rooms_b26 (fun d0 x1 x2 M => Day_rooms_h4 n d0 x1 x2 M) d0 x1 x2 M4) else lq (x1 ||| ((1 : Int32) <<< (x2 &&& 31))) (fun x6_ => (Day_rooms_b26 (fun d0 x1 x2 M => Day_rooms_h4 n d0 x1 x2 M) d0 x6_ x2 M4)))) else (some (x1, M)))
def j_Day_rooms (d0 : Nat) (M : Mem) : Option (Int32 × Mem) := lq (0 : Int32) (fun x1_ => lq (0 : Int32) (fun x2_ => (Day_rooms_h4  FU d0 x1_ x2_ M)))
-- FilmCans$Rooms.has
def j_Rooms_has (x1 : Int32) (M : Mem) : Option (Int32 × Mem) := (if (((gi M 299 0) >>> (x1 &&& 31)) &&& 1) = 1 then (some (1, M)) else (some (0, M)))
-- FilmCans$Day.takesServedBy
def Day_takesServedBy_b31 (k4 : Nat → Int32 → Int32 → Int32 → Mem → Option (Int32 × Mem)) (d0 : Nat) (x1 : Int32) (x2 : Int32) (x3 : Int32) (M : Mem) : Option (Int32 × Mem) := lq (x3 + 1) (fun x6_ => (k4 d0 x1 x2 x6_ M))
def Day_takesServedBy_h4  : Nat → Nat → Int32 → Int32 → Int32 → Mem → Option (Int32 × Mem)
  | 0, _, _, _, _, _ => none
  | n + 1, d0, x1, x2, x3, M => (if x3 < (gi M d0 1) then gd (inb x3 8) (bd (j_Kinds_isOf x1 (gi M (d0 + 6) (ix x3)) M) (fun r4 M5 => (if r4 = 0 then (Day_takesServedBy_b31 (fun d0 x1 x2 x3 M => Day_takesServedBy_h4 n d0 x1 x2 x3 M) d0 x1 x2 x3 M5) else lq (x2 ||| ((1 : Int32) <<< (x3 &&& 31))) (fun x7_ => (Day_takesServedBy_b31 (fun d0 x1 x2 x3 M => Day_takesServedBy_h4 n d0 x1 x2 x3 M) d0 x1 x7_ x3 M5))))) else (some (x2, M)))
def j_Day_takesServedBy (d0 : Nat) (x1 : Int32) (M : Mem) : Option (Int32 × Mem) := lq (0 : Int32) (fun x1_ => lq (0 : Int32) (fun x2_ => (Day_takesServedBy_h4  FU d0 x1 x1_ x2_ M)))
-- FilmCans$Rooms.lookAtCan
def Rooms_lookAtCan_b103 (d1 : Nat) (x2 : Int32) (x3 : Int32) (xs0 : Int32) (xs1 : Int32) (M : Mem) : Option (Unit × Mem) := gd (inb xs1 6) (sq (uI M 303 (ix xs1) xs0) (fun M23 => bd (j_Day_takesServedBy d1 x3 M23) (fun r24 M25 => gd (inb x2 6) (sq (uI M25 304 (ix x2) ((gi M23 299 1) &&& r24)) (fun M27 => (some ((), M27)))))))
def Rooms_lookAtCan_b73 (d1 : Nat) (x2 : Int32) (x3 : Int32) (x4 : Int32) (xs0 : Int32) (xs1 : Int32) (M : Mem) : Option (Unit × Mem) := gd (inb xs1 6) (sq (uI M 301 (ix xs1) xs0) (fun M17 => bd (j_Kinds_slateOf x3 M17) (fun r18 M19 => gd (inb x2 6) (sq (uI M19 302 (ix x2) r18) (fun M21 => (if x4 = (-1000000) then (Rooms_lookAtCan_b103  d1 x2 x3 100 x2 M21) else (Rooms_lookAtCan_b103  d1 x2 x3 x4 x2 M21)))))))
def j_Rooms_lookAtCan (d1 : Nat) (x2 : Int32) (M : Mem) : Option (Unit × Mem) := gd (inb x2 6) (sq (uI M 304 (ix x2) 0) (fun M2 => bd (j_Rooms_has x2 M2) (fun r3 M4 => (if r3 = 0 then (some ((), M4)) else gd (inb x2 6) (lq (gi M4 (d1 + 2) (ix x2)) (fun x6_ => bd (j_Kinds_leastKept x6_ (gi M4 (d1 + 1) 1) M4) (fun r8 M9 => gd (inb x2 6) (gd (inb x2 6) (sq (uI M9 300 (ix x2) (gi M9 (d1 + 3) (ix x2))) (fun M12 => (if x2 = (gi M12 d1 3) then (Rooms_lookAtCan_b73  d1 x2 x6_ r8 0 x2 M12) else bd (j_Kinds_leadOf x6_ (gi M12 (d1 + 1) 0) M12) (fun r14 M15 => (Rooms_lookAtCan_b73  d1 x2 x6_ r8 r14 x2 M15)))))))))))))
-- FilmCans$Rooms.isOpen
def j_Rooms_isOpen (x1 : Int32) (M : Mem) : Option (Int32 × Mem) := (if (((gi M 299 1) >>> (x1 &&& 31)) &&& 1) = 1 then (some (1, M)) else (some (0, M)))
-- java/util/Arrays.fill
def Arrays_fill_h5  : Nat → Nat → Int32 → Int32 → Int32 → Mem → Option (Unit × Mem)
  | 0, _, _, _, _, _ => none
  | n + 1, a0, x1, x2, x3, M => (if x2 < x3 then gd (inb x2 (ln a0)) (sq (uI M a0 (ix x2) x1) (fun M4 => lq (x2 + 1) (fun x5_ => (Arrays_fill_h5  n a0 x1 x5_ x3 M4)))) else (some ((), M)))
def j_Arrays_fill (a0 : Nat) (x1 : Int32) (M : Mem) : Option (Unit × Mem) := lq (0 : Int32) (fun x1_ => lq (Int32.ofNat (ln a0)) (fun x2_ => (Arrays_fill_h5  FU a0 x1 x1_ x2_ M)))
-- java/lang/Integer.bitCount
def j_Integer_bitCount (x0 : Int32) (M : Mem) : Option (Int32 × Mem) := lq (x0 - (((Int32.toUInt32 x0 >>> (Int32.toUInt32 1 &&& Int32.toUInt32 31)).toInt32) &&& 1431655765)) (fun x1_ => lq ((x1_ &&& 858993459) + (((Int32.toUInt32 x1_ >>> (Int32.toUInt32 2 &&& Int32.toUInt32 31)).toInt32) &&& 858993459)) (fun x2_ => lq ((x2_ + ((Int32.toUInt32 x2_ >>> (Int32.toUInt32 4 &&& Int32.toUInt32 31)).toInt32)) &&& 252645135) (fun x3_ => lq (x3_ + ((Int32.toUInt32 x3_ >>> (Int32.toUInt32 8 &&& Int32.toUInt32 31)).toInt32)) (fun x4_ => lq (x4_ + ((Int32.toUInt32 x4_ >>> (Int32.toUInt32 16 &&& Int32.toUInt32 31)).toInt32)) (fun x5_ => (some ((x5_ &&& 63), M)))))))
-- FilmCans$Rooms.measureEnds
def Rooms_measureEnds_h9  : Nat → Int32 → Int32 → Int32 → Mem → Option (Unit × Mem)
  | 0, _, _, _, _ => none
  | n + 1, x1, x2, x3, M => (if (0 : Int32) < x3 then gd (inb x1 6) (gd (inb x1 6) (gd (inb x1 6) (gd (inb x1 6) (bd (j_Integer_bitCount x3 M) (fun r7 M8 => gd (inb x3 256) (gd (inb x3 256) (sq (uI M8 (308 + ix x1) (ix x3) ((((gi M 300 (ix x1)) - (gi M 301 (ix x1))) - ((gi M 302 (ix x1)) * r7)) - (gi M8 306 (ix x3)))) (fun M11 => lq ((x3 - 1) &&& x2) (fun x12_ => (Rooms_measureEnds_h9  n x1 x2 x12_ M11)))))))))) else (some ((), M)))
def j_Rooms_measureEnds (x1 : Int32) (M : Mem) : Option (Unit × Mem) := gd (inb x1 6) (lq (gi M 304 (ix x1)) (fun x2_ => (Rooms_measureEnds_h9  FU x1 x2_ x2_ M)))
-- FilmCans$Rooms.measure
def Rooms_measure_h61  : Nat → Int32 → Mem → Option (Unit × Mem)
  | 0, _, _ => none
  | n + 1, x1, M => (if x1 < 6 then gd (inb x1 6) (bd (j_Arrays_fill (308 + ix x1) (-1000000) M) (fun _ M7 => bd (j_Rooms_measureEnds x1 M7) (fun _ M9 => lq (x1 + 1) (fun x10_ => (Rooms_measure_h61  n x10_ M9))))) else (some ((), M)))
def Rooms_measure_h21 (k9 : Int32 → Mem → Option (Unit × Mem)) : Nat → Int32 → Int32 → Int32 → Mem → Option (Unit × Mem)
  | 0, _, _, _, _ => none
  | n + 1, x1, x2, x3, M => (if x3 < x2 then gd (inb x3 256) (gd (inb x1 8) (gd (inb (x3 ||| x2) 256) (sq (uI M 306 (ix (x3 ||| x2)) ((gi M 306 (ix x3)) + (gi M 305 (ix x1)))) (fun M17 => lq (x3 + 1) (fun x18_ => (Rooms_measure_h21 k9 n x1 x2 x18_ M17)))))) else lq (x1 + 1) (fun x13_ => (k9 x13_ M)))
def Rooms_measure_h9  : Nat → Int32 → Mem → Option (Unit × Mem)
  | 0, _, _ => none
  | n + 1, x1, M => (if x1 < 8 then lq ((1 : Int32) <<< (x1 &&& 31)) (fun x11_ => lq (0 : Int32) (fun x12_ => (Rooms_measure_h21 (fun x1 M => Rooms_measure_h9 n x1 M) FU x1 x11_ x12_ M))) else lq (0 : Int32) (fun x4_ => (Rooms_measure_h61  FU x4_ M)))
def j_Rooms_measure (M : Mem) : Option (Unit × Mem) := sq (uI M 306 0 0) (fun M2 => lq (0 : Int32) (fun x3_ => (Rooms_measure_h9  FU x3_ M2)))
-- FilmCans$Rooms.lookAt
def Rooms_lookAt_b67 (k38 : Nat → Int32 → Mem → Option (Unit × Mem)) (d1 : Nat) (x2 : Int32) (xs0 : Int32) (xs1 : Int32) (M : Mem) : Option (Unit × Mem) := gd (inb xs1 8) (sq (uI M 305 (ix xs1) xs0) (fun M14 => lq (x2 + 1) (fun x15_ => (k38 d1 x15_ M14))))
def Rooms_lookAt_h38  : Nat → Nat → Int32 → Mem → Option (Unit × Mem)
  | 0, _, _, _ => none
  | n + 1, d1, x2, M => (if x2 < 8 then bd (j_Rooms_isOpen x2 M) (fun r11 M12 => (if r11 = 0 then (Rooms_lookAt_b67 (fun d1 x2 M => Rooms_lookAt_h38 n d1 x2 M) d1 x2 0 x2 M12) else gd (inb x2 8) ((Rooms_lookAt_b67 (fun d1 x2 M => Rooms_lookAt_h38 n d1 x2 M) d1 x2 (gi M12 (d1 + 7) (ix x2)) x2 M12)))) else bd (j_Rooms_measure M) (fun _ M10 => (some ((), M10))))
def Rooms_lookAt_h18  : Nat → Nat → Int32 → Mem → Option (Unit × Mem)
  | 0, _, _, _ => none
  | n + 1, d1, x2, M => (if x2 < 6 then bd (j_Rooms_lookAtCan d1 x2 M) (fun _ M18 => lq (x2 + 1) (fun x19_ => (Rooms_lookAt_h18  n d1 x19_ M18))) else lq (0 : Int32) (fun x8_ => (Rooms_lookAt_h38  FU d1 x8_ M)))
def j_Rooms_lookAt (d1 : Nat) (M : Mem) : Option (Unit × Mem) := bd (j_Day_rooms d1 M) (fun r1 M2 => sq (uI M2 299 0 r1) (fun M3 => bd (j_Day_openTakes d1 M3) (fun r4 M5 => sq (uI M5 299 1 r4) (fun M6 => lq (0 : Int32) (fun x7_ => (Rooms_lookAt_h18  FU d1 x7_ M6))))))
-- FilmCans$Rooms.holds
def j_Rooms_holds (x1 : Int32) (x2 : Int32) (M : Mem) : Option (Int32 × Mem) := gd (inb x1 6) (gd (inb x2 256) ((if (gi M (308 + ix x1) (ix x2)) < 0 then (some (0, M)) else (some (1, M)))))
-- FilmCans.fits
def j_Fc_fits (x1 : Int32) (x2 : Int32) (M : Mem) : Option (Int32 × Mem) := bd (j_Day_hasCan 3 x1 M) (fun r1 M2 => (if r1 = 0 then (some ((-1000001), M2)) else bd (j_Day_openTakes 3 M2) (fun r3 M4 => (if (x2 &&& (r3 ^^^ (-1))) = 0 then bd (j_Day_isRoom 3 x1 M4) (fun r5 M6 => (if r5 = 0 then (some ((-1000000), M6)) else (if x2 = 0 then gd (inb x1 6) ((some ((gi M6 6 (ix x1)), M6))) else bd (j_Rooms_lookAt 3 M6) (fun _ M8 => bd (j_Rooms_holds x1 x2 M8) (fun r9 M10 => (if r9 = 0 then (some ((-1000000), M10)) else gd (inb x1 6) (gd (inb x2 256) ((some ((gi M10 (308 + ix x1) (ix x2)), M10)))))))))) else (some ((-1000001), M4))))))
-- FilmCans.isZeroOrOne
def Fc_isZeroOrOne_b9 (M : Mem) : Option (Int32 × Mem) := (some (1, M))
def j_Fc_isZeroOrOne (x0 : Int32) (M : Mem) : Option (Int32 × Mem) := (if x0 = 0 then (Fc_isZeroOrOne_b9  M) else (if x0 = 1 then (Fc_isZeroOrOne_b9  M) else (some (0, M))))
-- FilmCans$Rooms.lossOf
def j_Rooms_lossOf (x1 : Int32) (x2 : Int32) (M : Mem) : Option (Int32 × Mem) := gd (inb x1 6) (gd (inb x2 256) (lq (gi M (308 + ix x1) (ix x2)) (fun x3_ => gd (inb x1 6) (gd (inb x2 256) (gd (inb x1 6) ((if x3_ < (gi M 303 (ix x1)) then (some ((((gi M 300 (ix x1)) - (gi M 306 (ix x2))) - 0), M)) else (some ((((gi M 300 (ix x1)) - (gi M 306 (ix x2))) - x3_), M)))))))))
-- FilmCans$Best.priceOf
def j_Best_priceOf (x1 : Int32) (x2 : Int32) (M : Mem) : Option (Int32 × Mem) := bd (j_Rooms_lossOf x1 x2 M) (fun r1 M2 => (some (((r1 * 16) + 1), M2)))
-- FilmCans$Best.spread
def Best_spread_b69 (k34 : Int32 → Int32 → Int32 → Nat → Nat → Int32 → Mem → Option (Unit × Mem)) (x2 : Int32) (x3 : Int32) (x4 : Int32) (a5 : Nat) (a6 : Nat) (x7 : Int32) (M : Mem) : Option (Unit × Mem) := lq ((x7 - 1) &&& x4) (fun x9_ => (k34 x2 x3 x4 a5 a6 x9_ M))
def Best_spread_h34  : Nat → Int32 → Int32 → Int32 → Nat → Nat → Int32 → Mem → Option (Unit × Mem)
  | 0, _, _, _, _, _, _, _ => none
  | n + 1, x2, x3, x4, a5, a6, x7, M => (if (0 : Int32) < x7 then gd (inb x7 256) (lq (x3 + (gi M a5 (ix x7))) (fun x7_ => gd (inb (x2 ||| x7) 256) ((if x7_ < (gi M a6 (ix (x2 ||| x7))) then gd (inb (x2 ||| x7) 256) (sq (uI M a6 (ix (x2 ||| x7)) x7_) (fun M11 => (Best_spread_b69 (fun x2 x3 x4 a5 a6 x7 M => Best_spread_h34 n x2 x3 x4 a5 a6 x7 M) x2 x3 x4 a5 a6 x7 M11))) else (Best_spread_b69 (fun x2 x3 x4 a5 a6 x7 M => Best_spread_h34 n x2 x3 x4 a5 a6 x7 M) x2 x3 x4 a5 a6 x7 M))))) else (some ((), M)))
def j_Best_spread (x1 : Int32) (x2 : Int32) (x3 : Int32) (x4 : Int32) (M : Mem) : Option (Unit × Mem) := gd (inb x1 6) (gd (inb (x1 - 1) 6) (gd (inb x2 256) (gd (inb x2 256) (sq (uI M (317 + ix (x1 - 1)) (ix x2) (mn (gi M (317 + ix (x1 - 1)) (ix x2)) x3)) (fun M5 => (Best_spread_h34  FU x2 x3 x4 (317 + ix x1) (317 + ix (x1 - 1)) x4 M5))))))
-- FilmCans$Best: a can more
def Best_admit_b47 (k12 : Int32 → Int32 → Int32 → Int32 → Mem → Option (Unit × Mem)) (x2 : Int32) (x3 : Int32) (x4 : Int32) (x5 : Int32) (M : Mem) : Option (Unit × Mem) := lq ((x5 - 1) &&& x4) (fun x5_ => (k12 x2 x3 x4 x5_ M))
def Best_admit_h12  : Nat → Int32 → Int32 → Int32 → Int32 → Mem → Option (Unit × Mem)
  | 0, _, _, _, _, _ => none
  | n + 1, x2, x3, x4, x5, M => (if (0 : Int32) < x5 then bd (j_Rooms_holds x2 x5 M) (fun r3 M4 => (if r3 = 0 then (Best_admit_b47 (fun x2 x3 x4 x5 M => Best_admit_h12 n x2 x3 x4 x5 M) x2 x3 x4 x5 M4) else bd (j_Best_priceOf x2 x5 M4) (fun r6 M7 => bd (j_Best_spread x2 x5 r6 (x3 &&& (x5 ^^^ (-1))) M7) (fun _ M9 => (Best_admit_b47 (fun x2 x3 x4 x5 M => Best_admit_h12 n x2 x3 x4 x5 M) x2 x3 x4 x5 M9))))) else (some ((), M)))
def j_Best_admit (x2 : Int32) (x3 : Int32) (M : Mem) : Option (Unit × Mem) := gd (inb x2 6) (lq (gi M 304 (ix x2)) (fun x2_ => (Best_admit_h12  FU x2 x3 x2_ x2_ M)))
-- FilmCans$Best.cheapestSet
def Best_cheapestSet_b89 (k28 : Int32 → Int32 → Int32 → Int32 → Int32 → Mem → Option (Int32 × Mem)) (x2 : Int32) (x3 : Int32) (x4 : Int32) (x5 : Int32) (x6 : Int32) (M : Mem) : Option (Int32 × Mem) := lq (x6 + 1) (fun x5_ => (k28 x2 x3 x4 x5 x5_ M))
def Best_cheapestSet_h28  : Nat → Int32 → Int32 → Int32 → Int32 → Int32 → Mem → Option (Int32 × Mem)
  | 0, _, _, _, _, _, _ => none
  | n + 1, x2, x3, x4, x5, x6, M => (if x3 < x6 then (some (x5, M)) else (if (x6 &&& (x3 ^^^ (-1))) = 0 then bd (j_Rooms_holds x2 x6 M) (fun r6 M7 => (if r6 = 0 then (Best_cheapestSet_b89 (fun x2 x3 x4 x5 x6 M => Best_cheapestSet_h28 n x2 x3 x4 x5 x6 M) x2 x3 x4 x5 x6 M7) else bd (j_Best_priceOf x2 x6 M7) (fun r8 M9 => gd (inb x2 6) (gd (inb (x3 ^^^ x6) 256) (lq (r8 + (gi M9 (317 + ix x2) (ix (x3 ^^^ x6)))) (fun x12_ => (if x12_ < x4 then (Best_cheapestSet_b89 (fun x2 x3 x4 x5 x6 M => Best_cheapestSet_h28 n x2 x3 x4 x5 x6 M) x2 x3 x12_ x6 x6 M9) else (Best_cheapestSet_b89 (fun x2 x3 x4 x5 x6 M => Best_cheapestSet_h28 n x2 x3 x4 x5 x6 M) x2 x3 x4 x5 x6 M9)))))))) else (Best_cheapestSet_b89 (fun x2 x3 x4 x5 x6 M => Best_cheapestSet_h28 n x2 x3 x4 x5 x6 M) x2 x3 x4 x5 x6 M)))
def Best_cheapestSet_b23 (x2 : Int32) (x3 : Int32) (x4 : Int32) (xs0 : Int32) (M : Mem) : Option (Int32 × Mem) := lq (1 : Int32) (fun x4_ => (Best_cheapestSet_h28  FU x2 x3 x4 xs0 x4_ M))
def j_Best_cheapestSet (x2 : Int32) (x3 : Int32) (M : Mem) : Option (Int32 × Mem) := gd (inb x2 6) (gd (inb x3 256) (lq (gi M (317 + ix x2) (ix x3)) (fun x3_ => (if x3_ < 1000000 then (Best_cheapestSet_b23  x2 x3 x3_ 0 M) else (Best_cheapestSet_b23  x2 x3 x3_ (-1000000) M)))))
-- FilmCans$Best.choose
def Best_choose_h7  : Nat → Int32 → Int32 → Mem → Option (Int32 × Mem)
  | 0, _, _, _ => none
  | n + 1, x2, x3, M => (if x3 < 6 then bd (j_Best_cheapestSet x3 x2 M) (fun r3 M4 => (if r3 = (-1000000) then (some (0, M4)) else gd (inb x3 6) (sq (uI M4 314 (ix x3) r3) (fun M6 => lq (x2 &&& (r3 ^^^ (-1))) (fun x7_ => lq (x3 + 1) (fun x8_ => (Best_choose_h7  n x7_ x8_ M6))))))) else (some (1, M)))
def j_Best_choose (M : Mem) : Option (Int32 × Mem) := lq (gi M 299 1) (fun x1_ => lq (0 : Int32) (fun x2_ => (Best_choose_h7  FU x1_ x2_ M)))
-- FilmCans$Best.place
def Best_place_h27  : Nat → Int32 → Int32 → Mem → Option (Int32 × Mem)
  | 0, _, _, _ => none
  | n + 1, x3, x4, M => (if (0 : Int32) < x4 then gd (inb x4 6) (gd (inb (x4 - 1) 6) (sq (cpI M (317 + ix x4) 0 (317 + ix (x4 - 1)) 0 256) (fun M13 => bd (j_Best_admit x4 x3 M13) (fun _ M15 => gd (inb x4 6) (lq (x3 ||| (gi M15 304 (ix x4))) (fun x17_ => lq (x4 + (-1)) (fun x18_ => (Best_place_h27  n x17_ x18_ M15)))))))) else bd (j_Best_choose M) (fun r9 M10 => (gd (isB r9) (some (r9, M10)))))
def j_Best_place (M : Mem) : Option (Int32 × Mem) := lq (5 : Int32) (fun x1_ => gd (inb x1_ 6) (bd (j_Arrays_fill (317 + ix x1_) 1000000 M) (fun _ M4 => gd (inb x1_ 6) (sq (uI M4 (317 + ix x1_) 0 0) (fun M7 => lq (0 : Int32) (fun x8_ => (Best_place_h27  FU x8_ x1_ M7)))))))
-- FilmCans.placeBest
def j_Fc_placeBest (M : Mem) : Option (Int32 × Mem) := bd (j_Rooms_lookAt 3 M) (fun _ M2 => bd (j_Best_place M2) (fun r3 M4 => (gd (isB r3) (some (r3, M4)))))
-- FilmCans$Rooms.losses
def Rooms_losses_b33 (k4 : Int32 → Int32 → Mem → Option (Int32 × Mem)) (x1 : Int32) (x2 : Int32) (M : Mem) : Option (Int32 × Mem) := lq (x2 + 1) (fun x4_ => (k4 x1 x4_ M))
def Rooms_losses_h4  : Nat → Int32 → Int32 → Mem → Option (Int32 × Mem)
  | 0, _, _, _ => none
  | n + 1, x1, x2, M => (if x2 < 6 then gd (inb x2 6) ((if (gi M 314 (ix x2)) = 0 then (Rooms_losses_b33 (fun x1 x2 M => Rooms_losses_h4 n x1 x2 M) x1 x2 M) else gd (inb x2 6) (bd (j_Rooms_lossOf x2 (gi M 314 (ix x2)) M) (fun r6 M7 => lq (x1 + r6) (fun x8_ => (Rooms_losses_b33 (fun x1 x2 M => Rooms_losses_h4 n x1 x2 M) x8_ x2 M7)))))) else (some (x1, M)))
def j_Rooms_losses (M : Mem) : Option (Int32 × Mem) := lq (0 : Int32) (fun x1_ => lq (0 : Int32) (fun x2_ => (Rooms_losses_h4  FU x1_ x2_ M)))
-- FilmCans$Rooms.used
def Rooms_used_b22 (k4 : Int32 → Int32 → Mem → Option (Int32 × Mem)) (x1 : Int32) (x2 : Int32) (M : Mem) : Option (Int32 × Mem) := lq (x2 + 1) (fun x4_ => (k4 x1 x4_ M))
def Rooms_used_h4  : Nat → Int32 → Int32 → Mem → Option (Int32 × Mem)
  | 0, _, _, _ => none
  | n + 1, x1, x2, M => (if x2 < 6 then gd (inb x2 6) ((if (gi M 314 (ix x2)) = 0 then (Rooms_used_b22 (fun x1 x2 M => Rooms_used_h4 n x1 x2 M) x1 x2 M) else lq (x1 + 1) (fun x5_ => (Rooms_used_b22 (fun x1 x2 M => Rooms_used_h4 n x1 x2 M) x5_ x2 M)))) else (some (x1, M)))
def j_Rooms_used (M : Mem) : Option (Int32 × Mem) := lq (0 : Int32) (fun x1_ => lq (0 : Int32) (fun x2_ => (Rooms_used_h4  FU x1_ x2_ M)))
-- FilmCans.wholeAnswer
def j_Fc_wholeAnswer (x1 : Int32) (x2 : Int32) (M : Mem) : Option (Int32 × Mem) := (if x1 = 0 then (some ((-1000000), M)) else (if x2 = 0 then bd (j_Rooms_losses M) (fun r3 M4 => (some (r3, M4))) else bd (j_Rooms_used M) (fun r1 M2 => (some (r1, M2)))))
-- FilmCans.plan
def j_Fc_plan (x1 : Int32) (M : Mem) : Option (Int32 × Mem) := bd (j_Fc_hasNoBook M) (fun r1 M2 => (if r1 = 0 then bd (j_Fc_isZeroOrOne x1 M2) (fun r3 M4 => (if r3 = 0 then (some ((-1000001), M4)) else bd (j_Fc_placeBest M4) (fun r5 M6 => bd (j_Fc_wholeAnswer r5 x1 M6) (fun r7 M8 => (some (r7, M8)))))) else (some ((-1000002), M2))))
-- FilmCans.planOf
def j_Fc_planOf (x1 : Int32) (M : Mem) : Option (Int32 × Mem) := bd (j_Day_hasCan 3 x1 M) (fun r1 M2 => (if r1 = 0 then (some ((-1000001), M2)) else bd (j_Fc_placeBest M2) (fun r3 M4 => (if r3 = 0 then (some ((-1000000), M4)) else gd (inb x1 6) ((some ((gi M4 314 (ix x1)), M4)))))))
-- FilmCans$Rooms.tightestFor
def Rooms_tightestFor_b52 (k9 : Int32 → Int32 → Int32 → Int32 → Mem → Option (Int32 × Mem)) (x1 : Int32) (x2 : Int32) (x3 : Int32) (x4 : Int32) (M : Mem) : Option (Int32 × Mem) := lq (x4 + 1) (fun x8_ => (k9 x1 x2 x3 x8_ M))
def Rooms_tightestFor_h9  : Nat → Int32 → Int32 → Int32 → Int32 → Mem → Option (Int32 × Mem)
  | 0, _, _, _, _, _ => none
  | n + 1, x1, x2, x3, x4, M => (if x4 < 6 then gd (inb x4 6) (gd (inb x4 6) (gd (inb ((gi M 314 (ix x4)) ||| x1) 256) (lq (gi M (308 + ix x4) (ix ((gi M 314 (ix x4)) ||| x1))) (fun x7_ => (if x7_ < 0 then (Rooms_tightestFor_b52 (fun x1 x2 x3 x4 M => Rooms_tightestFor_h9 n x1 x2 x3 x4 M) x1 x2 x3 x4 M) else (if x7_ < x3 then (Rooms_tightestFor_b52 (fun x1 x2 x3 x4 M => Rooms_tightestFor_h9 n x1 x2 x3 x4 M) x1 x4 x7_ x4 M) else (Rooms_tightestFor_b52 (fun x1 x2 x3 x4 M => Rooms_tightestFor_h9 n x1 x2 x3 x4 M) x1 x2 x3 x4 M))))))) else (some (x2, M)))
def j_Rooms_tightestFor (x1 : Int32) (M : Mem) : Option (Int32 × Mem) := lq ((-1000000) : Int32) (fun x1_ => lq (100 : Int32) (fun x2_ => lq (0 : Int32) (fun x3_ => (Rooms_tightestFor_h9  FU x1 x1_ x2_ x3_ M))))
-- FilmCans$Rooms.firstFor
def Rooms_firstFor_h2  : Nat → Int32 → Int32 → Mem → Option (Int32 × Mem)
  | 0, _, _, _ => none
  | n + 1, x1, x2, M => (if x2 < 6 then gd (inb x2 6) (bd (j_Rooms_holds x2 ((gi M 314 (ix x2)) ||| x1) M) (fun r3 M4 => (if r3 = 0 then lq (x2 + 1) (fun x5_ => (Rooms_firstFor_h2  n x1 x5_ M4)) else (some (x2, M4))))) else (some ((-1000000), M)))
def j_Rooms_firstFor (x1 : Int32) (M : Mem) : Option (Int32 × Mem) := lq (0 : Int32) (fun x1_ => (Rooms_firstFor_h2  FU x1 x1_ M))
-- FilmCans$Rooms.placeRising
def Rooms_placeRising_b66 (k10 : Int32 → Int32 → Mem → Option (Int32 × Mem)) (x1 : Int32) (x2 : Int32) (M : Mem) : Option (Int32 × Mem) := lq (x2 + 1) (fun x6_ => (k10 x1 x6_ M))
def Rooms_placeRising_b45 (k10 : Int32 → Int32 → Mem → Option (Int32 × Mem)) (x1 : Int32) (x2 : Int32) (xs0 : Int32) (M : Mem) : Option (Int32 × Mem) := (if xs0 = (-1000000) then (some (0, M)) else gd (inb xs0 6) (gd (inb xs0 6) (sq (uI M 314 (ix xs0) ((gi M 314 (ix xs0)) ||| ((1 : Int32) <<< (x2 &&& 31)))) (fun M11 => (Rooms_placeRising_b66 k10 x1 x2 M11)))))
def Rooms_placeRising_h10  : Nat → Int32 → Int32 → Mem → Option (Int32 × Mem)
  | 0, _, _, _ => none
  | n + 1, x1, x2, M => (if x2 < 8 then bd (j_Rooms_isOpen x2 M) (fun r4 M5 => (if r4 = 0 then (Rooms_placeRising_b66 (fun x1 x2 M => Rooms_placeRising_h10 n x1 x2 M) x1 x2 M5) else (if x1 = 0 then bd (j_Rooms_firstFor ((1 : Int32) <<< (x2 &&& 31)) M5) (fun r7 M8 => (Rooms_placeRising_b45 (fun x1 x2 M => Rooms_placeRising_h10 n x1 x2 M) x1 x2 r7 M8)) else bd (j_Rooms_tightestFor ((1 : Int32) <<< (x2 &&& 31)) M5) (fun r12 M13 => (Rooms_placeRising_b45 (fun x1 x2 M => Rooms_placeRising_h10 n x1 x2 M) x1 x2 r12 M13))))) else (some (1, M)))
def j_Rooms_placeRising (x1 : Int32) (M : Mem) : Option (Int32 × Mem) := bd (j_Arrays_fill 314 0 M) (fun _ M2 => lq (0 : Int32) (fun x3_ => (Rooms_placeRising_h10  FU x1 x3_ M2)))
-- FilmCans.placeByRule
def Fc_placeByRule_b25 (xs0 : Int32) (M : Mem) : Option (Int32 × Mem) := bd (j_Rooms_placeRising xs0 M) (fun r3 M4 => (gd (isB r3) (some (r3, M4))))
def j_Fc_placeByRule (x1 : Int32) (M : Mem) : Option (Int32 × Mem) := bd (j_Rooms_lookAt 3 M) (fun _ M2 => (if x1 = 1 then (Fc_placeByRule_b25  1 M2) else (Fc_placeByRule_b25  0 M2)))
-- FilmCans.rule
def j_Fc_rule (x1 : Int32) (x2 : Int32) (M : Mem) : Option (Int32 × Mem) := bd (j_Fc_hasNoBook M) (fun r1 M2 => (if r1 = 0 then bd (j_Fc_isZeroOrOne x1 M2) (fun r3 M4 => (if r3 = 0 then (some ((-1000001), M4)) else bd (j_Fc_isZeroOrOne x2 M4) (fun r5 M6 => (if r5 = 0 then (some ((-1000001), M6)) else bd (j_Fc_placeByRule x1 M6) (fun r7 M8 => bd (j_Fc_wholeAnswer r7 x2 M8) (fun r9 M10 => (some (r9, M10)))))))) else (some ((-1000002), M2))))
-- FilmCans.ruleOf
def j_Fc_ruleOf (x1 : Int32) (x2 : Int32) (M : Mem) : Option (Int32 × Mem) := bd (j_Fc_isZeroOrOne x1 M) (fun r1 M2 => (if r1 = 0 then (some ((-1000001), M2)) else bd (j_Day_hasCan 3 x2 M2) (fun r3 M4 => (if r3 = 0 then (some ((-1000001), M4)) else bd (j_Fc_placeByRule x1 M4) (fun r5 M6 => (if r5 = 0 then (some ((-1000000), M6)) else gd (inb x2 6) ((some ((gi M6 314 (ix x2)), M6)))))))))
-- FilmCans$Reach.holdersOf
def Reach_holdersOf_b29 (k5 : Int32 → Int32 → Int32 → Mem → Option (Int32 × Mem)) (x2 : Int32) (x3 : Int32) (x4 : Int32) (M : Mem) : Option (Int32 × Mem) := lq (x4 + 1) (fun x5_ => (k5 x2 x3 x5_ M))
def Reach_holdersOf_h5  : Nat → Int32 → Int32 → Int32 → Mem → Option (Int32 × Mem)
  | 0, _, _, _, _ => none
  | n + 1, x2, x3, x4, M => (if x4 < 6 then bd (j_Rooms_holds x4 x2 M) (fun r3 M4 => (if r3 = 0 then (Reach_holdersOf_b29 (fun x2 x3 x4 M => Reach_holdersOf_h5 n x2 x3 x4 M) x2 x3 x4 M4) else lq (x3 ||| ((1 : Int32) <<< (x4 &&& 31))) (fun x6_ => (Reach_holdersOf_b29 (fun x2 x3 x4 M => Reach_holdersOf_h5 n x2 x3 x4 M) x2 x6_ x4 M4)))) else (some (x3, M)))
def j_Reach_holdersOf (x2 : Int32) (M : Mem) : Option (Int32 × Mem) := lq (0 : Int32) (fun x1_ => lq (0 : Int32) (fun x2_ => (Reach_holdersOf_h5  FU x2 x1_ x2_ M)))
-- FilmCans$Reach.withOneMore
def Reach_withOneMore_b51 (k16 : Int64 → Int32 → Int64 → Int32 → Mem → Option (Int64 × Mem)) (y1 : Int64) (x3 : Int32) (y4 : Int64) (x6 : Int32) (M : Mem) : Option (Int64 × Mem) := lq (x6 + 1) (fun x3_ => (k16 y1 x3 y4 x3_ M))
def Reach_withOneMore_h16  : Nat → Int64 → Int32 → Int64 → Int32 → Mem → Option (Int64 × Mem)
  | 0, _, _, _, _, _ => none
  | n + 1, y1, x3, y4, x6, M => (if x6 < 6 then (if ((x3 >>> (x6 &&& 31)) &&& 1) = 1 then gd (inb x6 6) (lq (y4 ||| ((y1 &&& (cWO (ix x6))) <<< (Int32.toInt64 ((1 : Int32) <<< (x6 &&& 31)) &&& 63))) (fun y5_ => (Reach_withOneMore_b51 (fun y1 x3 y4 x6 M => Reach_withOneMore_h16 n y1 x3 y4 x6 M) y1 x3 y5_ x6 M))) else (Reach_withOneMore_b51 (fun y1 x3 y4 x6 M => Reach_withOneMore_h16 n y1 x3 y4 x6 M) y1 x3 y4 x6 M)) else (some (y4, M)))
def j_Reach_withOneMore (y1 : Int64) (x3 : Int32) (M : Mem) : Option (Int64 × Mem) := lq (0 : Int64) (fun y1_ => (if y1 = 0 then (some (y1_, M)) else (if x3 = 0 then (some (y1_, M)) else lq (0 : Int32) (fun x2_ => (Reach_withOneMore_h16  FU y1 x3 y1_ x2_ M)))))
-- FilmCans$Reach.roomSetsFor
def Reach_roomSetsFor_h30  : Nat → Int32 → Int32 → Int64 → Int32 → Mem → Option (Int64 × Mem)
  | 0, _, _, _, _, _ => none
  | n + 1, x2, x3, y4, x6, M => (if (0 : Int32) < x6 then gd (inb (x3 ^^^ x6) 256) (gd (inb (x6 ||| x2) 256) (bd (j_Reach_withOneMore (gl M 324 (ix (x3 ^^^ x6))) (gi M 325 (ix (x6 ||| x2))) M) (fun r9 M10 => lq (y4 ||| r9) (fun y11_ => lq ((x6 - 1) &&& x3) (fun x12_ => (Reach_roomSetsFor_h30  n x2 x3 y11_ x12_ M10)))))) else (some (y4, M)))
def j_Reach_roomSetsFor (x1 : Int32) (M : Mem) : Option (Int64 × Mem) := lq (x1 &&& (-x1)) (fun x1_ => lq (x1 ^^^ x1_) (fun x2_ => gd (inb x2_ 256) (gd (inb x1_ 256) (bd (j_Reach_withOneMore (gl M 324 (ix x2_)) (gi M 325 (ix x1_)) M) (fun r5 M6 => (Reach_roomSetsFor_h30  FU x1_ x2_ r5 x2_ M6))))))
-- FilmCans$Reach.work
def Reach_work_b53 (k11 : Int32 → Mem → Option (Unit × Mem)) (x2 : Int32) (M : Mem) : Option (Unit × Mem) := lq (x2 + 1) (fun x4_ => (k11 x4_ M))
def Reach_work_h11  : Nat → Int32 → Mem → Option (Unit × Mem)
  | 0, _, _ => none
  | n + 1, x2, M => (if (gi M 299 1) < x2 then (some ((), M)) else (if (x2 &&& ((gi M 299 1) ^^^ (-1))) = 0 then bd (j_Reach_holdersOf x2 M) (fun r5 M6 => gd (inb x2 256) (sq (uI M6 325 (ix x2) r5) (fun M8 => bd (j_Reach_roomSetsFor x2 M8) (fun r9 M10 => gd (inb x2 256) (sq (uL M10 324 (ix x2) r9) (fun M12 => (Reach_work_b53 (fun x2 M => Reach_work_h11 n x2 M) x2 M12))))))) else (Reach_work_b53 (fun x2 M => Reach_work_h11 n x2 M) x2 M)))
def j_Reach_work (M : Mem) : Option (Unit × Mem) := gd (inb 0 256) (sq (uL M 324 (ix 0) (-1)) (fun M2 => lq (1 : Int32) (fun x3_ => (Reach_work_h11  FU x3_ M2))))
-- FilmCans.lookAhead
def j_Fc_lookAhead (M : Mem) : Option (Unit × Mem) := bd (j_Rooms_lookAt 3 M) (fun _ M2 => bd (j_Reach_work M2) (fun _ M4 => (some ((), M4))))
-- FilmCans$Reach.isPlaced
def j_Reach_isPlaced (x1 : Int32) (x2 : Int32) (M : Mem) : Option (Int32 × Mem) := gd (inb x1 256) ((if (((Int64.toUInt64 (gl M 324 (ix x1)) >>> ((Int32.toInt64 x2).toUInt64 &&& Int64.toUInt64 63)).toInt64) &&& 1) = 1 then (some (1, M)) else (some (0, M))))
-- FilmCans$Reach.longestOn
def Reach_longestOn_b65 (k6 : Int32 → Int32 → Int32 → Int32 → Int32 → Mem → Option (Int32 × Mem)) (x1 : Int32) (x2 : Int32) (x3 : Int32) (x5 : Int32) (x6 : Int32) (M : Mem) : Option (Int32 × Mem) := lq (x6 + 1) (fun x3_ => (k6 x1 x2 x3 x5 x3_ M))
def Reach_longestOn_h6  : Nat → Int32 → Int32 → Int32 → Int32 → Int32 → Mem → Option (Int32 × Mem)
  | 0, _, _, _, _, _, _ => none
  | n + 1, x1, x2, x3, x5, x6, M => (if x3 < x6 then (some (x5, M)) else (if (x6 &&& (x3 ^^^ (-1))) = 0 then bd (j_Reach_isPlaced (x3 ^^^ x6) ((63 : Int32) ^^^ ((1 : Int32) <<< (x1 &&& 31))) M) (fun r4 M5 => (if r4 = 0 then (Reach_longestOn_b65 (fun x1 x2 x3 x5 x6 M => Reach_longestOn_h6 n x1 x2 x3 x5 x6 M) x1 x2 x3 x5 x6 M5) else gd (inb x1 6) (gd (inb (x6 ||| x2) 256) (gd (inb x2 256) (lq (mx x5 ((gi M5 (308 + ix x1) (ix (x6 ||| x2))) + (gi M5 306 (ix x2)))) (fun x9_ => (Reach_longestOn_b65 (fun x1 x2 x3 x5 x6 M => Reach_longestOn_h6 n x1 x2 x3 x5 x6 M) x1 x2 x3 x9_ x6 M5))))))) else (Reach_longestOn_b65 (fun x1 x2 x3 x5 x6 M => Reach_longestOn_h6 n x1 x2 x3 x5 x6 M) x1 x2 x3 x5 x6 M)))
def j_Reach_longestOn (x1 : Int32) (x2 : Int32) (x3 : Int32) (M : Mem) : Option (Int32 × Mem) := lq (0 : Int32) (fun x1_ => lq (0 : Int32) (fun x2_ => (Reach_longestOn_h6  FU x1 x2 x3 x1_ x2_ M)))
-- FilmCans$Reach.longestOf
def Reach_longestOf_h20  : Nat → Int32 → Int32 → Int32 → Int32 → Mem → Option (Int32 × Mem)
  | 0, _, _, _, _, _ => none
  | n + 1, x3, x4, x5, x6, M => (if x6 < 6 then bd (j_Reach_longestOn x6 x3 x4 M) (fun r5 M6 => lq (mx x5 r5) (fun x7_ => lq (x6 + 1) (fun x8_ => (Reach_longestOf_h20  n x3 x4 x7_ x8_ M6)))) else (some (x5, M)))
def j_Reach_longestOf (x1 : Int32) (M : Mem) : Option (Int32 × Mem) := lq ((1 : Int32) <<< (x1 &&& 31)) (fun x1_ => lq ((gi M 299 1) &&& (x1_ ^^^ (-1))) (fun x2_ => lq (0 : Int32) (fun x3_ => lq (0 : Int32) (fun x4_ => (Reach_longestOf_h20  FU x1_ x2_ x3_ x4_ M)))))
-- FilmCans.longer
def j_Fc_longer (x1 : Int32) (M : Mem) : Option (Int32 × Mem) := bd (j_Day_hasTake 3 x1 M) (fun r1 M2 => (if r1 = 0 then (some ((-1000001), M2)) else bd (j_Day_isOpen 3 x1 M2) (fun r3 M4 => (if r3 = 0 then (some ((-1000002), M4)) else bd (j_Fc_lookAhead M4) (fun _ M6 => bd (j_Reach_longestOf x1 M6) (fun r7 M8 => (if r7 < 1 then (some ((-1000000), M8)) else (some ((mn r7 60), M8)))))))))
-- FilmCans$Reach.canPlaceAll
def j_Reach_canPlaceAll (M : Mem) : Option (Int32 × Mem) := bd (j_Reach_isPlaced (gi M 299 1) 63 M) (fun r1 M2 => (gd (isB r1) (some (r1, M2))))
-- FilmCans$Reach.leastRest
def Reach_leastRest_b75 (k7 : Int32 → Int32 → Int32 → Int32 → Int32 → Mem → Option (Int32 × Mem)) (x2 : Int32) (x3 : Int32) (x4 : Int32) (x5 : Int32) (x6 : Int32) (M : Mem) : Option (Int32 × Mem) := lq (x6 + 1) (fun x3_ => (k7 x2 x3 x4 x5 x3_ M))
def Reach_leastRest_h7  : Nat → Int32 → Int32 → Int32 → Int32 → Int32 → Mem → Option (Int32 × Mem)
  | 0, _, _, _, _, _, _ => none
  | n + 1, x2, x3, x4, x5, x6, M => (if (gi M 299 1) < x6 then (some (x5, M)) else (if (x6 &&& (((gi M 299 1) &&& x2) ^^^ (-1))) = 0 then bd (j_Reach_isPlaced ((gi M 299 1) ^^^ x6) 63 M) (fun r4 M5 => (if r4 = 0 then (Reach_leastRest_b75 (fun x2 x3 x4 x5 x6 M => Reach_leastRest_h7 n x2 x3 x4 x5 x6 M) x2 x3 x4 x5 x6 M5) else bd (j_Integer_bitCount x6 M5) (fun r6 M7 => gd (inb x6 256) (lq ((x3 + (x4 * r6)) + (gi M7 306 (ix x6))) (fun x9_ => lq (mn x5 x9_) (fun x10_ => (Reach_leastRest_b75 (fun x2 x3 x4 x5 x6 M => Reach_leastRest_h7 n x2 x3 x4 x5 x6 M) x2 x3 x4 x10_ x6 M7))))))) else (Reach_leastRest_b75 (fun x2 x3 x4 x5 x6 M => Reach_leastRest_h7 n x2 x3 x4 x5 x6 M) x2 x3 x4 x5 x6 M)))
def j_Reach_leastRest (x2 : Int32) (x3 : Int32) (x4 : Int32) (M : Mem) : Option (Int32 × Mem) := lq (100 : Int32) (fun x1_ => lq (1 : Int32) (fun x2_ => (Reach_leastRest_h7  FU x2 x3 x4 x1_ x2_ M)))
-- FilmCans.more
def j_Fc_more (x1 : Int32) (M : Mem) : Option (Int32 × Mem) := bd (j_Fc_hasNoBook M) (fun r1 M2 => (if r1 = 0 then bd (j_Fc_isCanKind x1 M2) (fun r3 M4 => (if r3 = 0 then (some ((-1000001), M4)) else bd (j_Fc_lookAhead M4) (fun _ M6 => bd (j_Reach_canPlaceAll M6) (fun r7 M8 => (if r7 = 0 then bd (j_Kinds_leadOf x1 (gi M8 4 0) M8) (fun r10 M11 => bd (j_Day_takesServedBy 3 x1 M11) (fun r12 M13 => bd (j_Kinds_slateOf x1 M13) (fun r14 M15 => bd (j_Reach_leastRest r12 r10 r14 M15) (fun r16 M17 => (if (99 : Int32) < r16 then (some ((-1000000), M17)) else (some (r16, M17))))))) else (some (0, M8))))))) else (some ((-1000002), M2))))
-- FilmCans$Reach.roomsNeeded
def Reach_roomsNeeded_b41 (k4 : Int32 → Int32 → Mem → Option (Int32 × Mem)) (x2 : Int32) (x3 : Int32) (M : Mem) : Option (Int32 × Mem) := lq (x3 + 1) (fun x5_ => (k4 x2 x5_ M))
def Reach_roomsNeeded_h4  : Nat → Int32 → Int32 → Mem → Option (Int32 × Mem)
  | 0, _, _, _ => none
  | n + 1, x2, x3, M => (if x3 < 6 then bd (j_Rooms_has x3 M) (fun r3 M4 => (if r3 = 0 then (Reach_roomsNeeded_b41 (fun x2 x3 M => Reach_roomsNeeded_h4 n x2 x3 M) x2 x3 M4) else bd (j_Reach_isPlaced (gi M4 299 1) ((63 : Int32) ^^^ ((1 : Int32) <<< (x3 &&& 31))) M4) (fun r6 M7 => (if r6 = 0 then lq (x2 ||| ((1 : Int32) <<< (x3 &&& 31))) (fun x8_ => (Reach_roomsNeeded_b41 (fun x2 x3 M => Reach_roomsNeeded_h4 n x2 x3 M) x8_ x3 M7)) else (Reach_roomsNeeded_b41 (fun x2 x3 M => Reach_roomsNeeded_h4 n x2 x3 M) x2 x3 M7))))) else (some (x2, M)))
def j_Reach_roomsNeeded (M : Mem) : Option (Int32 × Mem) := lq (0 : Int32) (fun x1_ => lq (0 : Int32) (fun x2_ => (Reach_roomsNeeded_h4  FU x1_ x2_ M)))
-- FilmCans.needed
def j_Fc_needed (M : Mem) : Option (Int32 × Mem) := bd (j_Fc_hasNoBook M) (fun r1 M2 => (if r1 = 0 then bd (j_Fc_lookAhead M2) (fun _ M4 => bd (j_Reach_canPlaceAll M4) (fun r5 M6 => (if r5 = 0 then (some ((-1000000), M6)) else bd (j_Reach_roomsNeeded M6) (fun r7 M8 => (some (r7, M8)))))) else (some ((-1000002), M2))))
-- FilmCans.power
def Fc_power_h5  : Nat → Int32 → Int32 → Int64 → Int32 → Mem → Option (Int64 × Mem)
  | 0, _, _, _, _, _ => none
  | n + 1, x0, x1, y2, x4, M => (if x4 < x1 then lq (y2 * (Int32.toInt64 x0)) (fun y3_ => lq (x4 + 1) (fun x4_ => (Fc_power_h5  n x0 x1 y3_ x4_ M))) else (some (y2, M)))
def j_Fc_power (x0 : Int32) (x1 : Int32) (M : Mem) : Option (Int64 × Mem) := lq (1 : Int64) (fun y1_ => lq (0 : Int32) (fun x2_ => (Fc_power_h5  FU x0 x1 y1_ x2_ M)))
-- FilmCans$Reach.casesAmongTens
def Reach_casesAmongTens_b71 (k5 : Int32 → Int64 → Int32 → Mem → Option (Int64 × Mem)) (x2 : Int32) (y3 : Int64) (x5 : Int32) (M : Mem) : Option (Int64 × Mem) := lq (x5 + 1) (fun x3_ => (k5 x2 y3 x3_ M))
def Reach_casesAmongTens_h5  : Nat → Int32 → Int64 → Int32 → Mem → Option (Int64 × Mem)
  | 0, _, _, _, _ => none
  | n + 1, x2, y3, x5, M => (if x5 < 64 then (if (x5 &&& ((gi M 299 0) ^^^ (-1))) = 0 then bd (j_Reach_isPlaced (gi M 299 1) x5 M) (fun r4 M5 => (if r4 = 0 then (Reach_casesAmongTens_b71 (fun x2 y3 x5 M => Reach_casesAmongTens_h5 n x2 y3 x5 M) x2 y3 x5 M5) else bd (j_Integer_bitCount x5 M5) (fun r6 M7 => bd (j_Fc_power ((10 : Int32) - x2) r6 M7) (fun r8 M9 => bd (j_Integer_bitCount (gi M9 299 0) M9) (fun r10 M11 => bd (j_Fc_power x2 (r10 - r6) M11) (fun r12 M13 => lq (y3 + (r8 * r12)) (fun y14_ => (Reach_casesAmongTens_b71 (fun x2 y3 x5 M => Reach_casesAmongTens_h5 n x2 y3 x5 M) x2 y14_ x5 M13)))))))) else (Reach_casesAmongTens_b71 (fun x2 y3 x5 M => Reach_casesAmongTens_h5 n x2 y3 x5 M) x2 y3 x5 M)) else (some (y3, M)))
def j_Reach_casesAmongTens (x2 : Int32) (M : Mem) : Option (Int64 × Mem) := lq (0 : Int64) (fun y1_ => lq (0 : Int32) (fun x2_ => (Reach_casesAmongTens_h5  FU x2 y1_ x2_ M)))
-- FilmCans.greatestDivisor
def Fc_greatestDivisor_h3  : Nat → Int64 → Int64 → Int32 → Mem → Option (Int64 × Mem)
  | 0, _, _, _, _ => none
  | n + 1, y0, y2, x4, M => (if x4 < 100 then (if y2 = 0 then (some (y0, M)) else (if y2 = 0 then none else lq (y0 - y0 / y2 * y2) (fun y2_ => lq (x4 + 1) (fun x3_ => (Fc_greatestDivisor_h3  n y2 y2_ x3_ M))))) else (some (y0, M)))
def j_Fc_greatestDivisor (y0 : Int64) (y2 : Int64) (M : Mem) : Option (Int64 × Mem) := lq (0 : Int32) (fun x1_ => (Fc_greatestDivisor_h3  FU y0 y2 x1_ M))
-- FilmCans.fogged
def j_Fc_fogged (x1 : Int32) (x2 : Int32) (M : Mem) : Option (Int64 × Mem) := bd (j_Fc_hasNoBook M) (fun r1 M2 => (if r1 = 0 then (if x1 < 0 then (some ((-1000001), M2)) else (if (10 : Int32) < x1 then (some ((-1000001), M2)) else bd (j_Fc_isZeroOrOne x2 M2) (fun r3 M4 => (if r3 = 0 then (some ((-1000001), M4)) else bd (j_Fc_lookAhead M4) (fun _ M6 => bd (j_Reach_casesAmongTens x1 M6) (fun r7 M8 => bd (j_Integer_bitCount (gi M8 299 0) M8) (fun r9 M10 => bd (j_Fc_power 10 r9 M10) (fun r11 M12 => bd (j_Fc_greatestDivisor r7 r11 M12) (fun r13 M14 => (if r13 < 1 then (some ((-1000001), M14)) else (if x2 = 0 then (if r13 = 0 then none else (some ((r7 / r13), M14))) else (if r13 = 0 then none else (some ((r11 / r13), M14)))))))))))))) else (some ((-1000002), M2))))
-- FilmCans$Rooms.drawLength
def Rooms_drawLength_b72 (k29 : Int64 → Int32 → Int32 → Mem → Option (Unit × Mem)) (y1 : Int64) (x4 : Int32) (x5 : Int32) (M : Mem) : Option (Unit × Mem) := lq (x5 + 1) (fun x9_ => (k29 y1 x4 x9_ M))
def Rooms_drawLength_b69 (k29 : Int64 → Int32 → Int32 → Mem → Option (Unit × Mem)) (y1 : Int64) (x4 : Int32) (x5 : Int32) (M : Mem) : Option (Unit × Mem) := lq (x4 + (-1)) (fun x10_ => (Rooms_drawLength_b72 k29 y1 x10_ x5 M))
def Rooms_drawLength_h29  : Nat → Int64 → Int32 → Int32 → Mem → Option (Unit × Mem)
  | 0, _, _, _, _ => none
  | n + 1, y1, x4, x5, M => (if x5 < 8 then bd (j_Rooms_isOpen x5 M) (fun r7 M8 => (if r7 = 0 then (Rooms_drawLength_b72 (fun y1 x4 x5 M => Rooms_drawLength_h29 n y1 x4 x5 M) y1 x4 x5 M8) else (if x4 = 0 then gd (inb x5 8) (sq (uI M8 305 (ix x5) ((1 : Int32) + (Int64.toInt32 ((y1 / 16) - (y1 / 16) / 60 * 60)))) (fun M12 => (Rooms_drawLength_b69 (fun y1 x4 x5 M => Rooms_drawLength_h29 n y1 x4 x5 M) y1 x4 x5 M12))) else (Rooms_drawLength_b69 (fun y1 x4 x5 M => Rooms_drawLength_h29 n y1 x4 x5 M) y1 x4 x5 M8)))) else bd (j_Rooms_measure M) (fun _ M6 => (some ((), M6))))
def j_Rooms_drawLength (y1 : Int64) (M : Mem) : Option (Unit × Mem) := bd (j_Integer_bitCount (gi M 299 1) M) (fun r1 M2 => (if r1 = 0 then (some ((), M2)) else (if y1 < 0 then (some ((), M2)) else (if (Int32.toInt64 r1) = 0 then none else lq (Int64.toInt32 (y1 - y1 / (Int32.toInt64 r1) * (Int32.toInt64 r1))) (fun x3_ => lq (0 : Int32) (fun x4_ => (Rooms_drawLength_h29  FU y1 x3_ x4_ M2)))))))
-- FilmCans.drawn
def Fc_drawn_b125 (k66 : Int32 → Int32 → Int64 → Int32 → Int32 → Int32 → Mem → Option (Int32 × Mem)) (x1 : Int32) (x3 : Int32) (y4 : Int64) (x6 : Int32) (x7 : Int32) (x8 : Int32) (M : Mem) : Option (Int32 × Mem) := lq (x8 + 1) (fun x17_ => (k66 x1 x3 y4 x6 x7 x17_ M))
def Fc_drawn_h66  : Nat → Int32 → Int32 → Int64 → Int32 → Int32 → Int32 → Mem → Option (Int32 × Mem)
  | 0, _, _, _, _, _, _, _ => none
  | n + 1, x1, x3, y4, x6, x7, x8, M => (if x8 < x1 then lq ((y4 * 16807) - (y4 * 16807) / 2147483647 * 2147483647) (fun y11_ => bd (j_Rooms_drawLength y11_ M) (fun _ M13 => bd (j_Best_place M13) (fun r14 M15 => (if r14 = 0 then lq (x7 + 1) (fun x16_ => (Fc_drawn_b125 (fun x1 x3 y4 x6 x7 x8 M => Fc_drawn_h66 n x1 x3 y4 x6 x7 x8 M) x1 x3 y11_ x6 x16_ x8 M15)) else bd (j_Rooms_losses M15) (fun r18 M19 => lq (x6 + r18) (fun x20_ => (Fc_drawn_b125 (fun x1 x3 y4 x6 x7 x8 M => Fc_drawn_h66 n x1 x3 y4 x6 x7 x8 M) x1 x3 y11_ x20_ x7 x8 M19))))))) else (if x3 = 0 then (some (x6, M)) else (some (x7, M))))
def j_Fc_drawn (x1 : Int32) (x2 : Int32) (x3 : Int32) (M : Mem) : Option (Int32 × Mem) := bd (j_Fc_hasNoBook M) (fun r1 M2 => (if r1 = 0 then (if x1 < 0 then (some ((-1000001), M2)) else (if (20 : Int32) < x1 then (some ((-1000001), M2)) else (if x2 < 1 then (some ((-1000001), M2)) else (if (999999 : Int32) < x2 then (some ((-1000001), M2)) else bd (j_Fc_isZeroOrOne x3 M2) (fun r3 M4 => (if r3 = 0 then (some ((-1000001), M4)) else bd (j_Rooms_lookAt 3 M4) (fun _ M6 => lq (Int32.toInt64 x2) (fun y7_ => lq (0 : Int32) (fun x8_ => lq (0 : Int32) (fun x9_ => lq (0 : Int32) (fun x10_ => (Fc_drawn_h66  FU x1 x3 y7_ x8_ x9_ x10_ M6)))))))))))) else (some ((-1000002), M2))))
-- FilmCans.image
def j_Fc_image (x1 : Int32) (M : Mem) : Option (Int32 × Mem) := (if x1 < 0 then (some ((-1000001), M)) else (if x1 < 2 then bd (j_Fc_hasNoBook M) (fun r1 M2 => (if r1 = 0 then gd (inb x1 2) (bd (j_Day_copyFrom (270 + 12 * ix x1) 3 M2) (fun _ M5 => (some (1, M5)))) else (some ((-1000002), M2)))) else (some ((-1000001), M))))
-- FilmCans.restore
def j_Fc_restore (x1 : Int32) (M : Mem) : Option (Int32 × Mem) := (if x1 < 0 then (some ((-1000001), M)) else (if x1 < 2 then gd (inb x1 2) (bd (j_Day_isEmpty (270 + 12 * ix x1) M) (fun r2 M3 => (if r2 = 0 then gd (inb x1 2) (bd (j_Day_copyFrom 3 (270 + 12 * ix x1) M3) (fun _ M6 => bd (j_Hist_forget M6) (fun _ M8 => (some (1, M8))))) else (some ((-1000002), M3))))) else (some ((-1000001), M))))
-- FilmCans.count
def j_Fc_count (x1 : Int32) (M : Mem) : Option (Int32 × Mem) := (if x1 = 0 then (some ((gi M 3 0), M)) else (if x1 = 1 then (some ((gi M 3 1), M)) else (if x1 = 2 then bd (j_Day_openTakes 3 M) (fun r1 M2 => bd (j_Integer_bitCount r1 M2) (fun r3 M4 => (some (r3, M4)))) else (if x1 = 3 then bd (j_Day_rooms 3 M) (fun r5 M6 => bd (j_Integer_bitCount r5 M6) (fun r7 M8 => (some (r7, M8)))) else (if x1 = 4 then (some ((gi M 3 2), M)) else (if x1 = 5 then (some ((gi M 27 2), M)) else (if x1 = 6 then (some ((gi M 1 1), M)) else (some ((-1000001), M)))))))))
-- FilmCansModel.in
def j_Md_in (y0 : Int64) (y2 : Int64) (y4 : Int64) (M : Mem) : Option (Int32 × Mem) := (if y0 < y2 then (some (0, M)) else (if y4 < y0 then (some (0, M)) else (some (1, M))))
-- FilmCansModel.has
def j_Md_has (x0 : Int32) (x1 : Int32) (M : Mem) : Option (Int32 × Mem) := (if ((x0 >>> (x1 &&& 31)) &&& 1) = 1 then (some (1, M)) else (some (0, M)))
-- FilmCansModel.copies
def Md_copies_h3  : Nat → Nat → Int32 → Nat → Int32 → Int32 → Mem → Option (Unit × Mem)
  | 0, _, _, _, _, _, _ => none
  | n + 1, a0, x1, a2, x3, x4, M => (if x4 < 89 then gd (inb (x1 + x4) (ln a0)) (gd (inb (x3 + x4) (ln a2)) (sq (uI M a2 (ix (x3 + x4)) (gi M a0 (ix (x1 + x4)))) (fun M4 => lq (x4 + 1) (fun x5_ => (Md_copies_h3  n a0 x1 a2 x3 x5_ M4))))) else (some ((), M)))
def j_Md_copies (a0 : Nat) (x1 : Int32) (a2 : Nat) (x3 : Int32) (M : Mem) : Option (Unit × Mem) := lq (0 : Int32) (fun x1_ => (Md_copies_h3  FU a0 x1 a2 x3 x1_ M))
-- FilmCansModel.isBook
def j_Md_isBook (M : Mem) : Option (Int32 × Mem) := (if (0 : Int32) < (gi M 327 4) then (some (1, M)) else (some (0, M)))
-- FilmCansModel.isCan
def j_Md_isCan (x1 : Int32) (M : Mem) : Option (Int32 × Mem) := bd (j_Md_in (Int32.toInt64 x1) 0 (Int32.toInt64 ((gi M 327 4) - 1)) M) (fun r2 M3 => (gd (isB r2) (some (r2, M3))))
-- FilmCansModel.isTake
def j_Md_isTake (x1 : Int32) (M : Mem) : Option (Int32 × Mem) := bd (j_Md_in (Int32.toInt64 x1) 0 (Int32.toInt64 ((gi M 327 5) - 1)) M) (fun r2 M3 => (gd (isB r2) (some (r2, M3))))
-- FilmCansModel.kind
def j_Md_kind (a0 : Nat) (x1 : Int32) (M : Mem) : Option (Int32 × Mem) := gd (inb ((13 : Int32) + ((4 : Int32) * x1)) 89) ((some ((gi M a0 (ix ((13 : Int32) + ((4 : Int32) * x1)))), M)))
-- FilmCansModel.feet
def j_Md_feet (a0 : Nat) (x1 : Int32) (M : Mem) : Option (Int32 × Mem) := gd (inb (((13 : Int32) + ((4 : Int32) * x1)) + 1) 89) ((some ((gi M a0 (ix (((13 : Int32) + ((4 : Int32) * x1)) + 1))), M)))
-- FilmCansModel.where
def j_Md_where (a0 : Nat) (x1 : Int32) (M : Mem) : Option (Int32 × Mem) := gd (inb (((13 : Int32) + ((4 : Int32) * x1)) + 2) 89) ((some ((gi M a0 (ix (((13 : Int32) + ((4 : Int32) * x1)) + 2))), M)))
-- FilmCansModel.isOpen
def j_Md_isOpen (a0 : Nat) (x1 : Int32) (M : Mem) : Option (Int32 × Mem) := gd (inb (((41 : Int32) + ((3 : Int32) * x1)) + 2) 89) ((if (gi M a0 (ix (((41 : Int32) + ((3 : Int32) * x1)) + 2))) < 0 then (some (1, M)) else (some (0, M))))
-- FilmCansModel.isOf
def Md_isOf_b34 (M : Mem) : Option (Int32 × Mem) := (some (1, M))
def Md_isOf_b24 (x0 : Int32) (x1 : Int32) (M : Mem) : Option (Int32 × Mem) := (if x1 = 4 then (if x0 = 5 then (Md_isOf_b34  M) else (some (0, M))) else (some (0, M)))
def j_Md_isOf (x0 : Int32) (x1 : Int32) (M : Mem) : Option (Int32 × Mem) := (if x1 = 0 then (Md_isOf_b34  M) else (if x0 = x1 then (Md_isOf_b34  M) else (if x1 = 1 then (if x0 = 2 then (Md_isOf_b34  M) else (if x0 = 3 then (Md_isOf_b34  M) else (Md_isOf_b24  x0 x1 M))) else (Md_isOf_b24  x0 x1 M))))
-- FilmCansModel.serves
def j_Md_serves (a0 : Nat) (x1 : Int32) (x2 : Int32) (M : Mem) : Option (Int32 × Mem) := bd (j_Md_kind a0 x1 M) (fun r1 M2 => gd (inb ((41 : Int32) + ((3 : Int32) * x2)) 89) (bd (j_Md_isOf r1 (gi M2 a0 (ix ((41 : Int32) + ((3 : Int32) * x2)))) M2) (fun r4 M5 => (gd (isB r4) (some (r4, M5))))))
-- FilmCansModel.lead
def j_Md_lead (a0 : Nat) (x1 : Int32) (M : Mem) : Option (Int32 × Mem) := bd (j_Md_kind a0 x1 M) (fun r1 M2 => (if r1 < 4 then (some ((gi M2 a0 0), M2)) else (some (((2 : Int32) * (gi M2 a0 0)), M2))))
-- FilmCansModel.slate
def j_Md_slate (a0 : Nat) (x1 : Int32) (M : Mem) : Option (Int32 × Mem) := bd (j_Md_kind a0 x1 M) (fun r1 M2 => (if r1 = 3 then (some (1, M2)) else (some (0, M2))))
-- FilmCansModel.leastEnd
def Md_leastEnd_b32 (xs0 : Int32) (M : Mem) : Option (Int32 × Mem) := (if xs0 < 1 then (some (1, M)) else (some (xs0, M)))
def j_Md_leastEnd (a0 : Nat) (x1 : Int32) (M : Mem) : Option (Int32 × Mem) := bd (j_Md_kind a0 x1 M) (fun r1 M2 => (if r1 = 5 then (some ((-1000000), M2)) else bd (j_Md_kind a0 x1 M2) (fun r3 M4 => (if r3 = 2 then (Md_leastEnd_b32  ((gi M4 a0 1) / 2) M4) else (Md_leastEnd_b32  (gi M4 a0 1) M4)))))
-- FilmCansModel.isKept
def j_Md_isKept (a0 : Nat) (x1 : Int32) (x2 : Int32) (M : Mem) : Option (Int32 × Mem) := bd (j_Md_leastEnd a0 x1 M) (fun r1 M2 => (if r1 = (-1000000) then (some (0, M2)) else bd (j_Md_leastEnd a0 x1 M2) (fun r3 M4 => (if x2 < r3 then (some (0, M4)) else (some (1, M4))))))
-- FilmCansModel.isRoom
def j_Md_isRoom (a0 : Nat) (x1 : Int32) (M : Mem) : Option (Int32 × Mem) := bd (j_Md_where a0 x1 M) (fun r1 M2 => (if r1 = 2 then (some (0, M2)) else (some (1, M2))))
-- FilmCansModel.openOnes
def Md_openOnes_b27 (k4 : Nat → Int32 → Int32 → Mem → Option (Int32 × Mem)) (a0 : Nat) (x2 : Int32) (xs0 : Int32) (xs1 : Int32) (M : Mem) : Option (Int32 × Mem) := lq (xs1 ||| xs0) (fun x6_ => lq (x2 + 1) (fun x7_ => (k4 a0 x6_ x7_ M)))
def Md_openOnes_h4  : Nat → Nat → Int32 → Int32 → Mem → Option (Int32 × Mem)
  | 0, _, _, _, _ => none
  | n + 1, a0, x1, x2, M => (if x2 < (gi M a0 5) then bd (j_Md_isOpen a0 x2 M) (fun r4 M5 => (if r4 = 0 then (Md_openOnes_b27 (fun a0 x1 x2 M => Md_openOnes_h4 n a0 x1 x2 M) a0 x2 0 x1 M5) else (Md_openOnes_b27 (fun a0 x1 x2 M => Md_openOnes_h4 n a0 x1 x2 M) a0 x2 ((1 : Int32) <<< (x2 &&& 31)) x1 M5))) else (some (x1, M)))
def j_Md_openOnes (a0 : Nat) (M : Mem) : Option (Int32 × Mem) := lq (0 : Int32) (fun x1_ => lq (0 : Int32) (fun x2_ => (Md_openOnes_h4  FU a0 x1_ x2_ M)))
-- FilmCansModel.left
def Md_left_b92 (k34 : Nat → Int32 → Int32 → Int32 → Int32 → Int32 → Mem → Option (Int32 × Mem)) (a0 : Nat) (x1 : Int32) (x2 : Int32) (x3 : Int32) (x4 : Int32) (x5 : Int32) (M : Mem) : Option (Int32 × Mem) := lq (x5 + 1) (fun x8_ => (k34 a0 x1 x2 x3 x4 x8_ M))
def Md_left_b70 (k34 : Nat → Int32 → Int32 → Int32 → Int32 → Int32 → Mem → Option (Int32 × Mem)) (a0 : Nat) (x1 : Int32) (x2 : Int32) (x3 : Int32) (x5 : Int32) (xs0 : Int32) (M : Mem) : Option (Int32 × Mem) := gd (inb (((41 : Int32) + ((3 : Int32) * x5)) + 1) 89) (bd (j_Md_slate a0 x1 M) (fun r10 M11 => lq (x3 - ((gi M a0 (ix (((41 : Int32) + ((3 : Int32) * x5)) + 1))) + r10)) (fun x12_ => (Md_left_b92 k34 a0 x1 x2 x12_ xs0 x5 M11))))
def Md_left_b69 (k34 : Nat → Int32 → Int32 → Int32 → Int32 → Int32 → Mem → Option (Int32 × Mem)) (a0 : Nat) (x1 : Int32) (x2 : Int32) (x3 : Int32) (x5 : Int32) (M : Mem) : Option (Int32 × Mem) := (Md_left_b70 k34 a0 x1 x2 x3 x5 0 M)
def Md_left_h34  : Nat → Nat → Int32 → Int32 → Int32 → Int32 → Int32 → Mem → Option (Int32 × Mem)
  | 0, _, _, _, _, _, _, _ => none
  | n + 1, a0, x1, x2, x3, x4, x5, M => (if x5 < 8 then bd (j_Md_has x2 x5 M) (fun r6 M7 => (if r6 = 0 then (Md_left_b92 (fun a0 x1 x2 x3 x4 x5 M => Md_left_h34 n a0 x1 x2 x3 x4 x5 M) a0 x1 x2 x3 x4 x5 M7) else (if x4 = 0 then (Md_left_b69 (fun a0 x1 x2 x3 x4 x5 M => Md_left_h34 n a0 x1 x2 x3 x4 x5 M) a0 x1 x2 x3 x5 M7) else bd (j_Md_serves a0 x1 x5 M7) (fun r13 M14 => (if r13 = 0 then (Md_left_b69 (fun a0 x1 x2 x3 x4 x5 M => Md_left_h34 n a0 x1 x2 x3 x4 x5 M) a0 x1 x2 x3 x5 M14) else (Md_left_b70 (fun a0 x1 x2 x3 x4 x5 M => Md_left_h34 n a0 x1 x2 x3 x4 x5 M) a0 x1 x2 x3 x5 1 M14)))))) else (if x4 = 0 then (some ((-1), M)) else (some (x3, M))))
def Md_left_b26 (a0 : Nat) (x1 : Int32) (x2 : Int32) (xs0 : Int32) (xs1 : Int32) (M : Mem) : Option (Int32 × Mem) := lq (xs1 - xs0) (fun x3_ => lq (1 : Int32) (fun x4_ => lq (0 : Int32) (fun x5_ => (Md_left_h34  FU a0 x1 x2 x3_ x4_ x5_ M))))
def Md_left_b25 (a0 : Nat) (x1 : Int32) (x2 : Int32) (xs0 : Int32) (M : Mem) : Option (Int32 × Mem) := (Md_left_b26  a0 x1 x2 0 xs0 M)
def j_Md_left (a0 : Nat) (x1 : Int32) (x2 : Int32) (M : Mem) : Option (Int32 × Mem) := bd (j_Md_feet a0 x1 M) (fun r1 M2 => (if x2 = 0 then (Md_left_b25  a0 x1 x2 r1 M2) else bd (j_Md_where a0 x1 M2) (fun r15 M16 => (if r15 = 0 then bd (j_Md_lead a0 x1 M16) (fun r17 M18 => (Md_left_b26  a0 x1 x2 r17 r1 M18)) else (Md_left_b25  a0 x1 x2 r1 M16)))))
-- FilmCansModel.ones
def Md_ones_b24 (k4 : Int32 → Int32 → Int32 → Mem → Option (Int32 × Mem)) (x0 : Int32) (x2 : Int32) (xs0 : Int32) (xs1 : Int32) (M : Mem) : Option (Int32 × Mem) := lq (xs1 + xs0) (fun x5_ => lq (x2 + 1) (fun x6_ => (k4 x0 x5_ x6_ M)))
def Md_ones_h4  : Nat → Int32 → Int32 → Int32 → Mem → Option (Int32 × Mem)
  | 0, _, _, _, _ => none
  | n + 1, x0, x1, x2, M => (if x2 < 8 then bd (j_Md_has x0 x2 M) (fun r3 M4 => (if r3 = 0 then (Md_ones_b24 (fun x0 x1 x2 M => Md_ones_h4 n x0 x1 x2 M) x0 x2 0 x1 M4) else (Md_ones_b24 (fun x0 x1 x2 M => Md_ones_h4 n x0 x1 x2 M) x0 x2 1 x1 M4))) else (some (x1, M)))
def j_Md_ones (x0 : Int32) (M : Mem) : Option (Int32 × Mem) := lq (0 : Int32) (fun x1_ => lq (0 : Int32) (fun x2_ => (Md_ones_h4  FU x0 x1_ x2_ M)))
-- FilmCansModel.lossOf
def Md_lossOf_b30 (a0 : Nat) (x1 : Int32) (x2 : Int32) (x3 : Int32) (xs0 : Int32) (M : Mem) : Option (Int32 × Mem) := bd (j_Md_ones x2 M) (fun r5 M6 => bd (j_Md_slate a0 x1 M6) (fun r7 M8 => bd (j_Md_isKept a0 x1 x3 M8) (fun r9 M10 => (if r9 = 0 then (some (((xs0 + (r5 * r7)) + x3), M10)) else (some (((xs0 + (r5 * r7)) + 0), M10))))))
def j_Md_lossOf (a0 : Nat) (x1 : Int32) (x2 : Int32) (M : Mem) : Option (Int32 × Mem) := (if x2 = 0 then (some (0, M)) else bd (j_Md_left a0 x1 x2 M) (fun r1 M2 => bd (j_Md_where a0 x1 M2) (fun r3 M4 => (if r3 = 0 then bd (j_Md_lead a0 x1 M4) (fun r11 M12 => (Md_lossOf_b30  a0 x1 x2 r1 r11 M12)) else (Md_lossOf_b30  a0 x1 x2 r1 0 M4)))))
-- FilmCansModel.byteAt
def j_Md_byteAt (x1 : Int32) (M : Mem) : Option (Int32 × Mem) := (if x1 < (gi M 326 7) then gd (inb x1 110) ((some ((gi M 332 (ix x1)), M))) else (some ((-1), M)))
-- FilmCansModel.next
def Md_next_b182 (k121 : Mem → Option (Unit × Mem)) (xs0 : Int32) (M : Mem) : Option (Unit × Mem) := sq (uI M 326 11 xs0) (fun M18 => sq (uI M18 326 8 ((gi M18 326 8) + 1)) (fun M19 => (k121 M19)))
def Md_next_h121  : Nat → Mem → Option (Unit × Mem)
  | 0, _ => none
  | n + 1, M => bd (j_Md_byteAt (gi M 326 8) M) (fun r12 M13 => bd (j_Md_in (Int32.toInt64 r12) 48 57 M13) (fun r14 M15 => (if r14 = 0 then (if (2 : Int32) < ((gi M15 326 8) - (gi M15 326 9)) then sq (uI M15 326 10 4) (fun M17 => (some ((), M17))) else sq (uI M15 326 10 2) (fun M16 => (some ((), M16)))) else (if ((gi M15 326 8) - (gi M15 326 9)) < 2 then bd (j_Md_byteAt (gi M15 326 8) M15) (fun r20 M21 => (Md_next_b182 (fun M => Md_next_h121 n M) ((((10 : Int32) * (gi M15 326 11)) + r20) - 48) M21)) else (Md_next_b182 (fun M => Md_next_h121 n M) (gi M15 326 11) M15)))))
def Md_next_b102 (x1 : Int32) (xs0 : Int32) (M : Mem) : Option (Unit × Mem) := sq (uI M 326 10 xs0) (fun M10 => (if (gi M10 326 10) = 2 then sq (uI M10 326 11 (x1 - 48)) (fun M11 => (Md_next_h121  FU M11)) else (some ((), M10))))
def Md_next_b97 (x1 : Int32) (M : Mem) : Option (Unit × Mem) := (Md_next_b102  x1 3 M)
def Md_next_b36 (x1 : Int32) (xs0 : Int32) (xs1 : Int32) (M : Mem) : Option (Unit × Mem) := sq (uI M 326 8 (xs1 + xs0)) (fun M5 => (if x1 < 0 then (Md_next_b102  x1 0 M5) else bd (j_Md_in (Int32.toInt64 x1) 97 122 M5) (fun r6 M7 => (if r6 = 0 then bd (j_Md_in (Int32.toInt64 x1) 48 57 M7) (fun r8 M9 => (if r8 = 0 then (if x1 = 44 then (Md_next_b97  x1 M9) else (if x1 = 59 then (Md_next_b97  x1 M9) else (Md_next_b102  x1 4 M9))) else (Md_next_b102  x1 2 M9))) else (Md_next_b102  x1 1 M7)))))
def j_Md_next (M : Mem) : Option (Unit × Mem) := sq (uI M 326 9 (gi M 326 8)) (fun M1 => bd (j_Md_byteAt (gi M1 326 8) M1) (fun r2 M3 => sq (uI M3 326 11 r2) (fun M4 => (if r2 < 0 then (Md_next_b36  r2 0 (gi M4 326 8) M4) else (Md_next_b36  r2 1 (gi M4 326 8) M4)))))
-- FilmCansModel.bad
def j_Md_bad (x1 : Int32) (M : Mem) : Option (Unit × Mem) := (if (gi M 326 12) = 0 then sq (uI M 326 12 x1) (fun M1 => sq (uI M1 326 13 (gi M1 326 9)) (fun M2 => (some ((), M2)))) else (some ((), M)))
-- FilmCansModel.goesOn
def j_Md_goesOn (M : Mem) : Option (Unit × Mem) := (if (gi M 326 12) = 0 then bd (j_Md_next M) (fun _ M2 => (some ((), M2))) else (some ((), M)))
-- FilmCansModel.number
def Md_number_b51 (xs0 : Int32) (M : Mem) : Option (Int32 × Mem) := bd (j_Md_goesOn M) (fun _ M4 => (some (xs0, M4)))
def Md_number_b36 (x1 : Int32) (M : Mem) : Option (Int32 × Mem) := (if (gi M 326 12) = 0 then (Md_number_b51  (gi M 326 11) M) else (Md_number_b51  x1 M))
def j_Md_number (x1 : Int32) (x2 : Int32) (M : Mem) : Option (Int32 × Mem) := (if (gi M 326 10) = 2 then bd (j_Md_in (Int32.toInt64 (gi M 326 11)) (Int32.toInt64 x1) (Int32.toInt64 x2) M) (fun r1 M2 => (if r1 = 0 then bd (j_Md_bad 2 M2) (fun _ M6 => (Md_number_b36  x1 M6)) else (Md_number_b36  x1 M2))) else bd (j_Md_bad 1 M) (fun _ M8 => (Md_number_b36  x1 M8)))
-- FilmCansModel.sign
def Md_sign_b21 (M : Mem) : Option (Unit × Mem) := bd (j_Md_goesOn M) (fun _ M4 => (some ((), M4)))
def Md_sign_b16 (M : Mem) : Option (Unit × Mem) := bd (j_Md_bad 1 M) (fun _ M2 => (Md_sign_b21  M2))
def j_Md_sign (x1 : Int32) (M : Mem) : Option (Unit × Mem) := (if (gi M 326 10) = 3 then (if (gi M 326 11) = x1 then (Md_sign_b21  M) else (Md_sign_b16  M)) else (Md_sign_b16  M))
-- FilmCansModel.letter
def Md_letter_b21 (M : Mem) : Option (Unit × Mem) := bd (j_Md_goesOn M) (fun _ M4 => (some ((), M4)))
def Md_letter_b16 (M : Mem) : Option (Unit × Mem) := bd (j_Md_bad 1 M) (fun _ M2 => (Md_letter_b21  M2))
def j_Md_letter (x1 : Int32) (M : Mem) : Option (Unit × Mem) := (if (gi M 326 10) = 1 then (if (gi M 326 11) = x1 then (Md_letter_b21  M) else (Md_letter_b16  M)) else (Md_letter_b16  M))
-- FilmCansModel.kindOf
def j_Md_kindOf (x0 : Int32) (M : Mem) : Option (Int32 × Mem) := (if x0 = 110 then (some (1, M)) else (if x0 = 102 then (some (2, M)) else (if x0 = 103 then (some (3, M)) else (if x0 = 114 then (some (4, M)) else (if x0 = 115 then (some (5, M)) else (some (0, M)))))))
-- FilmCansModel.isCanTold
def j_Md_isCanTold (M : Mem) : Option (Int32 × Mem) := (if (gi M 326 12) = 0 then (if (gi M 326 10) = 1 then bd (j_Md_kindOf (gi M 326 11) M) (fun r1 M2 => (if (0 : Int32) < r1 then (some (1, M2)) else (some (0, M2)))) else (some (0, M))) else (some (0, M)))
-- FilmCansModel.adds
def j_Md_adds (a0 : Nat) (x1 : Int32) (x2 : Int32) (M : Mem) : Option (Unit × Mem) := lq ((13 : Int32) + ((4 : Int32) * (gi M a0 4))) (fun x2_ => gd (inb x2_ 89) (sq (uI M a0 (ix x2_) x1) (fun M4 => gd (inb (x2_ + 1) 89) (sq (uI M4 a0 (ix (x2_ + 1)) x2) (fun M6 => gd (inb (x2_ + 2) 89) (sq (uI M6 a0 (ix (x2_ + 2)) 0) (fun M8 => gd (inb (x2_ + 3) 89) (sq (uI M8 a0 (ix (x2_ + 3)) 0) (fun M10 => sq (uI M10 a0 4 ((gi M10 a0 4) + 1)) (fun M13 => sq (uI M13 a0 7 ((gi M13 a0 7) + x2)) (fun M16 => (some ((), M16)))))))))))))
-- FilmCansModel.readsCan
def Md_readsCan_b24 (x1 : Int32) (M : Mem) : Option (Unit × Mem) := bd (j_Md_goesOn M) (fun _ M5 => bd (j_Md_number 1 99 M5) (fun r6 M7 => bd (j_Md_sign 59 M7) (fun _ M9 => (if (gi M9 326 12) = 0 then bd (j_Md_adds 328 x1 r6 M9) (fun _ M11 => (some ((), M11))) else (some ((), M9))))))
def j_Md_readsCan (M : Mem) : Option (Unit × Mem) := bd (j_Md_kindOf (gi M 326 11) M) (fun r1 M2 => (if (gi M2 328 4) = 6 then bd (j_Md_bad 3 M2) (fun _ M13 => (Md_readsCan_b24  r1 M13)) else (Md_readsCan_b24  r1 M2)))
-- FilmCansModel.readsTake
def Md_readsTake_b16 (M : Mem) : Option (Unit × Mem) := bd (j_Md_goesOn M) (fun _ M3 => bd (j_Md_number 0 5 M3) (fun r4 M5 => bd (j_Md_sign 44 M5) (fun _ M7 => bd (j_Md_number 1 60 M7) (fun r8 M9 => bd (j_Md_sign 59 M9) (fun _ M11 => (if (gi M11 326 12) = 0 then lq ((41 : Int32) + ((3 : Int32) * (gi M11 328 5))) (fun x13_ => gd (inb x13_ 89) (sq (uI M11 328 (ix x13_) r4) (fun M15 => gd (inb (x13_ + 1) 89) (sq (uI M15 328 (ix (x13_ + 1)) r8) (fun M17 => gd (inb (x13_ + 2) 89) (sq (uI M17 328 (ix (x13_ + 2)) (-1)) (fun M19 => sq (uI M19 328 5 ((gi M19 328 5) + 1)) (fun M22 => (some ((), M22)))))))))) else (some ((), M11))))))))
def j_Md_readsTake (M : Mem) : Option (Unit × Mem) := (if (gi M 328 5) = 8 then bd (j_Md_bad 3 M) (fun _ M24 => (Md_readsTake_b16  M24)) else (Md_readsTake_b16  M))
-- FilmCansModel.feed
def j_Md_feed (x1 : Int32) (M : Mem) : Option (Int32 × Mem) := bd (j_Md_in (Int32.toInt64 x1) 0 255 M) (fun r1 M2 => (if r1 = 0 then (some ((-1000001), M2)) else (if (gi M2 326 7) = 110 then (some ((-1000003), M2)) else gd (inb (gi M2 326 7) 110) (sq (uI M2 332 (ix (gi M2 326 7)) x1) (fun M4 => sq (uI M4 326 7 ((gi M4 326 7) + 1)) (fun M5 => (some ((gi M5 326 7), M5))))))))
-- FilmCansModel.book
def Md_book_b195 (M : Mem) : Option (Int32 × Mem) := sq (uI M 326 7 0) (fun M38 => (if (0 : Int32) < (gi M38 326 12) then sq (uI M38 326 14 (gi M38 326 12)) (fun M43 => (some ((((-1000100) : Int32) - (gi M43 326 13)), M43))) else bd (j_Md_copies 328 0 327 0 M38) (fun _ M40 => sq (uI M40 326 3 0) (fun M41 => (some ((gi M41 327 4), M41))))))
def Md_book_b183 (M : Mem) : Option (Int32 × Mem) := (if (gi M 326 10) = 0 then (Md_book_b195  M) else bd (j_Md_bad 1 M) (fun _ M45 => (Md_book_b195  M45)))
def Md_book_h152  : Nat → Mem → Option (Int32 × Mem)
  | 0, _ => none
  | n + 1, M => (if (gi M 326 12) = 0 then (if (gi M 326 10) = 1 then (if (gi M 326 11) = 116 then bd (j_Md_readsTake M) (fun _ M47 => (Md_book_h152  n M47)) else (Md_book_b183  M)) else (Md_book_b183  M)) else (Md_book_b183  M))
def Md_book_h138  : Nat → Mem → Option (Int32 × Mem)
  | 0, _ => none
  | n + 1, M => bd (j_Md_isCanTold M) (fun r36 M37 => (if r36 = 0 then (Md_book_h152  FU M37) else bd (j_Md_readsCan M37) (fun _ M49 => (Md_book_h138  n M49))))
def Md_book_h2  : Nat → Int32 → Mem → Option (Int32 × Mem)
  | 0, _, _ => none
  | n + 1, x1, M => (if x1 < 89 then gd (inb x1 89) (sq (uI M 328 (ix x1) 0) (fun M53 => lq (x1 + 1) (fun x54_ => (Md_book_h2  n x54_ M53)))) else sq (uI M 328 11 (-1)) (fun M3 => sq (uI M3 326 8 0) (fun M4 => sq (uI M4 326 12 0) (fun M5 => bd (j_Md_next M5) (fun _ M7 => bd (j_Md_letter 104 M7) (fun _ M9 => bd (j_Md_number 0 9 M9) (fun r10 M11 => sq (uI M11 328 0 r10) (fun M13 => bd (j_Md_sign 44 M13) (fun _ M15 => bd (j_Md_number 1 40 M15) (fun r16 M17 => sq (uI M17 328 1 r16) (fun M19 => bd (j_Md_sign 44 M19) (fun _ M21 => bd (j_Md_number 10 99 M21) (fun r22 M23 => sq (uI M23 328 2 r22) (fun M25 => bd (j_Md_sign 44 M25) (fun _ M27 => bd (j_Md_number 0 20 M27) (fun r28 M29 => sq (uI M29 328 3 r28) (fun M31 => bd (j_Md_sign 59 M31) (fun _ M33 => bd (j_Md_isCanTold M33) (fun r34 M35 => (if r34 = 0 then bd (j_Md_bad 1 M35) (fun _ M51 => (Md_book_h138  FU M51)) else (Md_book_h138  FU M35)))))))))))))))))))))
def j_Md_book (M : Mem) : Option (Int32 × Mem) := lq (0 : Int32) (fun x1_ => (Md_book_h2  FU x1_ M))
-- FilmCansModel.fault
def j_Md_fault (M : Mem) : Option (Int32 × Mem) := (some ((gi M 326 14), M))
-- FilmCansModel.notes
def Md_notes_b49 (M : Mem) : Option (Unit × Mem) := bd (j_Md_copies 327 0 329 ((89 : Int32) * (gi M 326 3)) M) (fun _ M2 => sq (uI M2 326 3 ((gi M2 326 3) + 1)) (fun M3 => (some ((), M3))))
def Md_notes_h11  : Nat → Int32 → Mem → Option (Unit × Mem)
  | 0, _, _ => none
  | n + 1, x1, M => (if x1 < 1691 then gd (inb (x1 + 89) 1780) (gd (inb x1 1780) (sq (uI M 329 (ix x1) (gi M 329 (ix (x1 + 89)))) (fun M8 => lq (x1 + 1) (fun x9_ => (Md_notes_h11  n x9_ M8))))) else sq (uI M 326 3 ((gi M 326 3) - 1)) (fun M5 => (Md_notes_b49  M5)))
def j_Md_notes (M : Mem) : Option (Unit × Mem) := (if (gi M 326 3) = 20 then lq (0 : Int32) (fun x4_ => (Md_notes_h11  FU x4_ M)) else (Md_notes_b49  M))
-- FilmCansModel.undo
def j_Md_undo (M : Mem) : Option (Int32 × Mem) := (if (gi M 326 3) = 0 then (some ((-1000002), M)) else sq (uI M 326 3 ((gi M 326 3) - 1)) (fun M1 => bd (j_Md_copies 329 ((89 : Int32) * (gi M1 326 3)) 327 0 M1) (fun _ M3 => (some ((gi M3 326 3), M3)))))
-- FilmCansModel.load
def j_Md_load (x1 : Int32) (M : Mem) : Option (Int32 × Mem) := bd (j_Md_isCan x1 M) (fun r1 M2 => (if r1 = 0 then (some ((-1000001), M2)) else (if (gi M2 327 11) < 0 then bd (j_Md_where 327 x1 M2) (fun r4 M5 => (if r4 = 0 then bd (j_Md_feet 327 x1 M5) (fun r6 M7 => bd (j_Md_lead 327 x1 M7) (fun r8 M9 => (if r6 < r8 then (some ((-1000002), M9)) else bd (j_Md_notes M9) (fun _ M11 => bd (j_Md_lead 327 x1 M11) (fun r12 M13 => gd (inb (((13 : Int32) + ((4 : Int32) * x1)) + 1) 89) (gd (inb (((13 : Int32) + ((4 : Int32) * x1)) + 1) 89) (sq (uI M13 327 (ix (((13 : Int32) + ((4 : Int32) * x1)) + 1)) ((gi M13 327 (ix (((13 : Int32) + ((4 : Int32) * x1)) + 1))) - r12)) (fun M16 => gd (inb (((13 : Int32) + ((4 : Int32) * x1)) + 2) 89) (sq (uI M16 327 (ix (((13 : Int32) + ((4 : Int32) * x1)) + 2)) 1) (fun M18 => sq (uI M18 327 9 ((gi M18 327 9) + r12)) (fun M21 => sq (uI M21 327 11 x1) (fun M23 => sq (uI M23 327 12 0) (fun M25 => bd (j_Md_feet 327 x1 M25) (fun r26 M27 => (some (r26, M27)))))))))))))))) else (some ((-1000002), M5)))) else (some ((-1000002), M2)))))
-- FilmCansModel.shoot
def j_Md_shoot (x1 : Int32) (M : Mem) : Option (Int32 × Mem) := bd (j_Md_isTake x1 M) (fun r1 M2 => (if r1 = 0 then (some ((-1000001), M2)) else lq (gi M2 327 11) (fun x4_ => (if x4_ < 0 then (some ((-1000002), M2)) else bd (j_Md_isOpen 327 x1 M2) (fun r5 M6 => (if r5 = 0 then (some ((-1000002), M6)) else bd (j_Md_serves 327 x4_ x1 M6) (fun r7 M8 => (if r7 = 0 then (some ((-1000002), M8)) else gd (inb (((41 : Int32) + ((3 : Int32) * x1)) + 1) 89) (lq (gi M8 327 (ix (((41 : Int32) + ((3 : Int32) * x1)) + 1))) (fun x10_ => bd (j_Md_feet 327 x4_ M8) (fun r11 M12 => bd (j_Md_slate 327 x4_ M12) (fun r13 M14 => (if r11 < (x10_ + r13) then (some ((-1000003), M14)) else bd (j_Md_notes M14) (fun _ M16 => gd (inb (((13 : Int32) + ((4 : Int32) * x4_)) + 1) 89) (bd (j_Md_slate 327 x4_ M16) (fun r18 M19 => gd (inb (((13 : Int32) + ((4 : Int32) * x4_)) + 1) 89) (sq (uI M19 327 (ix (((13 : Int32) + ((4 : Int32) * x4_)) + 1)) ((gi M16 327 (ix (((13 : Int32) + ((4 : Int32) * x4_)) + 1))) - (x10_ + r18))) (fun M21 => sq (uI M21 327 8 ((gi M21 327 8) + x10_)) (fun M24 => bd (j_Md_slate 327 x4_ M24) (fun r26 M27 => sq (uI M27 327 9 ((gi M24 327 9) + r26)) (fun M29 => sq (uI M29 327 12 ((gi M29 327 12) + x10_)) (fun M32 => gd (inb (((41 : Int32) + ((3 : Int32) * x1)) + 2) 89) (sq (uI M32 327 (ix (((41 : Int32) + ((3 : Int32) * x1)) + 2)) x4_) (fun M34 => bd (j_Md_feet 327 x4_ M34) (fun r35 M36 => (some (r35, M36)))))))))))))))))))))))))))
-- FilmCansModel.unload
def Md_unload_b212 (x2 : Int32) (x3 : Int32) (M : Mem) : Option (Int32 × Mem) := sq (uI M 327 11 (-1)) (fun M19 => sq (uI M19 327 12 0) (fun M21 => (if x3 = 0 then (some (0, M21)) else (some (x2, M21)))))
def Md_unload_b165 (x1 : Int32) (x2 : Int32) (x3 : Int32) (xs0 : Int32) (xs1 : Int32) (M : Mem) : Option (Int32 × Mem) := gd (inb xs1 89) (sq (uI M 327 (ix xs1) xs0) (fun M12 => (if x3 = 0 then sq (uI M12 327 9 ((gi M12 327 9) + x2)) (fun M15 => gd (inb (((13 : Int32) + ((4 : Int32) * x1)) + 1) 89) (sq (uI M15 327 (ix (((13 : Int32) + ((4 : Int32) * x1)) + 1)) 0) (fun M17 => (Md_unload_b212  x2 x3 M17)))) else gd (inb (((13 : Int32) + ((4 : Int32) * x1)) + 3) 89) (sq (uI M12 327 (ix (((13 : Int32) + ((4 : Int32) * x1)) + 3)) 1) (fun M23 => (Md_unload_b212  x2 x3 M23))))))
def Md_unload_b125 (x1 : Int32) (M : Mem) : Option (Int32 × Mem) := bd (j_Md_feet 327 x1 M) (fun r7 M8 => bd (j_Md_isKept 327 x1 r7 M8) (fun r9 M10 => (if r9 = 0 then (Md_unload_b165  x1 r7 r9 2 (((13 : Int32) + ((4 : Int32) * x1)) + 2) M10) else (Md_unload_b165  x1 r7 r9 0 (((13 : Int32) + ((4 : Int32) * x1)) + 2) M10))))
def Md_unload_b113 (x1 : Int32) (xs0 : Int32) (xs1 : Int32) (M : Mem) : Option (Int32 × Mem) := gd (inb xs1 89) (sq (uI M 327 (ix xs1) xs0) (fun M34 => sq (uI M34 327 6 ((gi M34 327 6) + 1)) (fun M37 => (Md_unload_b125  x1 M37))))
def Md_unload_b40 (x1 : Int32) (M : Mem) : Option (Int32 × Mem) := bd (j_Md_notes M) (fun _ M5 => (if (0 : Int32) < (gi M5 327 12) then lq ((65 : Int32) + ((3 : Int32) * (gi M5 327 6))) (fun x25_ => gd (inb x25_ 89) (sq (uI M5 327 (ix x25_) x1) (fun M27 => gd (inb (x25_ + 1) 89) (sq (uI M27 327 (ix (x25_ + 1)) (gi M27 327 12)) (fun M30 => bd (j_Md_kind 327 x1 M30) (fun r31 M32 => (if r31 < 4 then (Md_unload_b113  x1 0 (x25_ + 2) M32) else (Md_unload_b113  x1 1 (x25_ + 2) M32)))))))) else (Md_unload_b125  x1 M5)))
def j_Md_unload (M : Mem) : Option (Int32 × Mem) := lq (gi M 327 11) (fun x2_ => (if x2_ < 0 then (some ((-1000002), M)) else (if (0 : Int32) < (gi M 327 12) then (if (gi M 327 6) = 8 then (some ((-1000003), M)) else (Md_unload_b40  x2_ M)) else (Md_unload_b40  x2_ M))))
-- FilmCansModel.batched
def Md_batched_b149 (k4 : Int32 → Int32 → Mem → Option (Int32 × Mem)) (x2 : Int32) (xs0 : Int32) (xs1 : Int32) (M : Mem) : Option (Int32 × Mem) := lq (xs1 + xs0) (fun x14_ => lq (x2 + 1) (fun x15_ => (k4 x14_ x15_ M)))
def Md_batched_b127 (k4 : Int32 → Int32 → Mem → Option (Int32 × Mem)) (x1 : Int32) (x2 : Int32) (x4 : Int32) (x5 : Int32) (xs0 : Int32) (xs1 : Int32) (M : Mem) : Option (Int32 × Mem) := gd (inb xs1 8) (sq (uI M 336 (ix xs1) xs0) (fun M11 => gd (inb x5 8) (sq (uI M11 337 (ix x5) x4) (fun M13 => (if x5 = x1 then (Md_batched_b149 k4 x2 1 x1 M13) else (Md_batched_b149 k4 x2 0 x1 M13))))))
def Md_batched_b94 (k4 : Int32 → Int32 → Mem → Option (Int32 × Mem)) (k52 : Int32 → Int32 → Int32 → Int32 → Int32 → Int32 → Mem → Option (Int32 × Mem)) (x1 : Int32) (x2 : Int32) (x3 : Int32) (x4 : Int32) (x6 : Int32) (xs0 : Int32) (M : Mem) : Option (Int32 × Mem) := lq (x6 + (-1)) (fun x17_ => (k52 x1 x2 x3 x4 xs0 x17_ M))
def Md_batched_b92 (k4 : Int32 → Int32 → Mem → Option (Int32 × Mem)) (k52 : Int32 → Int32 → Int32 → Int32 → Int32 → Int32 → Mem → Option (Int32 × Mem)) (x1 : Int32) (x2 : Int32) (x3 : Int32) (x4 : Int32) (x5 : Int32) (x6 : Int32) (M : Mem) : Option (Int32 × Mem) := (Md_batched_b94 k4 k52 x1 x2 x3 x4 x6 x5 M)
def Md_batched_h52 (k4 : Int32 → Int32 → Mem → Option (Int32 × Mem)) : Nat → Int32 → Int32 → Int32 → Int32 → Int32 → Int32 → Mem → Option (Int32 × Mem)
  | 0, _, _, _, _, _, _, _ => none
  | n + 1, x1, x2, x3, x4, x5, x6, M => (if x6 < 0 then (if x5 = x1 then (Md_batched_b127 k4 x1 x2 x4 x5 x3 x5 M) else gd (inb x5 8) ((Md_batched_b127 k4 x1 x2 x4 x5 ((gi M 336 (ix x5)) + x3) x5 M))) else gd (inb x6 8) ((if (gi M 337 (ix x6)) = x4 then gd (inb x6 8) ((if (gi M 327 2) < ((gi M 336 (ix x6)) + x3) then (Md_batched_b92 k4 (fun x1 x2 x3 x4 x5 x6 M => Md_batched_h52 k4 n x1 x2 x3 x4 x5 x6 M) x1 x2 x3 x4 x5 x6 M) else (Md_batched_b94 k4 (fun x1 x2 x3 x4 x5 x6 M => Md_batched_h52 k4 n x1 x2 x3 x4 x5 x6 M) x1 x2 x3 x4 x6 x6 M))) else (Md_batched_b92 k4 (fun x1 x2 x3 x4 x5 x6 M => Md_batched_h52 k4 n x1 x2 x3 x4 x5 x6 M) x1 x2 x3 x4 x5 x6 M))))
def Md_batched_h4  : Nat → Int32 → Int32 → Mem → Option (Int32 × Mem)
  | 0, _, _, _ => none
  | n + 1, x1, x2, M => (if x2 < (gi M 327 6) then gd (inb (((65 : Int32) + ((3 : Int32) * x2)) + 1) 89) (lq (gi M 327 (ix (((65 : Int32) + ((3 : Int32) * x2)) + 1))) (fun x5_ => gd (inb (((65 : Int32) + ((3 : Int32) * x2)) + 2) 89) (lq (gi M 327 (ix (((65 : Int32) + ((3 : Int32) * x2)) + 2))) (fun x7_ => lq (x1 - 1) (fun x8_ => (Md_batched_h52 (fun x1 x2 M => Md_batched_h4 n x1 x2 M) FU x1 x2 x5_ x7_ x1 x8_ M)))))) else (some (x1, M)))
def j_Md_batched (M : Mem) : Option (Int32 × Mem) := lq (0 : Int32) (fun x1_ => lq (0 : Int32) (fun x2_ => (Md_batched_h4  FU x1_ x2_ M)))
-- FilmCansModel.waiting
def Md_waiting_h4  : Nat → Int32 → Int32 → Mem → Option (Int32 × Mem)
  | 0, _, _, _ => none
  | n + 1, x1, x2, M => (if x2 < (gi M 327 6) then gd (inb (((65 : Int32) + ((3 : Int32) * x2)) + 1) 89) (lq (x1 + (gi M 327 (ix (((65 : Int32) + ((3 : Int32) * x2)) + 1)))) (fun x5_ => lq (x2 + 1) (fun x6_ => (Md_waiting_h4  n x5_ x6_ M)))) else (some (x1, M)))
def j_Md_waiting (M : Mem) : Option (Int32 × Mem) := lq (0 : Int32) (fun x1_ => lq (0 : Int32) (fun x2_ => (Md_waiting_h4  FU x1_ x2_ M)))
-- FilmCansModel.lab
def j_Md_lab (M : Mem) : Option (Int32 × Mem) := (if (gi M 327 6) = 0 then (some ((-1000002), M)) else bd (j_Md_notes M) (fun _ M3 => bd (j_Md_batched M3) (fun r4 M5 => bd (j_Md_waiting M5) (fun r8 M9 => sq (uI M9 327 10 ((gi M5 327 10) + ((r4 * (gi M5 327 3)) + r8))) (fun M11 => sq (uI M11 327 6 0) (fun M13 => (some (r4, M13))))))))
-- FilmCansModel.again
def j_Md_again (x1 : Int32) (M : Mem) : Option (Int32 × Mem) := bd (j_Md_isTake x1 M) (fun r1 M2 => (if r1 = 0 then (some ((-1000001), M2)) else bd (j_Md_isOpen 327 x1 M2) (fun r3 M4 => (if r3 = 0 then bd (j_Md_notes M4) (fun _ M6 => gd (inb (((41 : Int32) + ((3 : Int32) * x1)) + 2) 89) (lq (gi M6 327 (ix (((41 : Int32) + ((3 : Int32) * x1)) + 2))) (fun x8_ => gd (inb (((41 : Int32) + ((3 : Int32) * x1)) + 2) 89) (sq (uI M6 327 (ix (((41 : Int32) + ((3 : Int32) * x1)) + 2)) (-1)) (fun M10 => gd (inb (((41 : Int32) + ((3 : Int32) * x1)) + 1) 89) (sq (uI M10 327 8 ((gi M10 327 8) - (gi M10 327 (ix (((41 : Int32) + ((3 : Int32) * x1)) + 1))))) (fun M14 => gd (inb (((41 : Int32) + ((3 : Int32) * x1)) + 1) 89) (sq (uI M14 327 9 ((gi M14 327 9) + (gi M14 327 (ix (((41 : Int32) + ((3 : Int32) * x1)) + 1))))) (fun M18 => (some (x8_, M18))))))))))) else (some ((-1000002), M4))))))
-- FilmCansModel.buy
def j_Md_buy (x1 : Int32) (x2 : Int32) (M : Mem) : Option (Int32 × Mem) := bd (j_Md_isBook M) (fun r1 M2 => (if r1 = 0 then (some ((-1000002), M2)) else bd (j_Md_in (Int32.toInt64 x1) 1 5 M2) (fun r3 M4 => (if r3 = 0 then (some ((-1000001), M4)) else bd (j_Md_in (Int32.toInt64 x2) 1 99 M4) (fun r5 M6 => (if r5 = 0 then (some ((-1000001), M6)) else (if (gi M6 327 4) = 6 then (some ((-1000003), M6)) else bd (j_Md_notes M6) (fun _ M9 => bd (j_Md_adds 327 x1 x2 M9) (fun _ M11 => (some (((gi M11 327 4) - 1), M11)))))))))))
-- FilmCansModel.ask
def j_Md_ask (x1 : Int32) (x2 : Int32) (M : Mem) : Option (Int32 × Mem) := bd (j_Md_isBook M) (fun r1 M2 => (if r1 = 0 then (some ((-1000002), M2)) else bd (j_Md_in (Int32.toInt64 x1) 0 5 M2) (fun r3 M4 => (if r3 = 0 then (some ((-1000001), M4)) else bd (j_Md_in (Int32.toInt64 x2) 1 60 M4) (fun r5 M6 => (if r5 = 0 then (some ((-1000001), M6)) else (if (gi M6 327 5) = 8 then (some ((-1000003), M6)) else bd (j_Md_notes M6) (fun _ M9 => lq ((41 : Int32) + ((3 : Int32) * (gi M9 327 5))) (fun x11_ => gd (inb x11_ 89) (sq (uI M9 327 (ix x11_) x1) (fun M13 => gd (inb (x11_ + 1) 89) (sq (uI M13 327 (ix (x11_ + 1)) x2) (fun M15 => gd (inb (x11_ + 2) 89) (sq (uI M15 327 (ix (x11_ + 2)) (-1)) (fun M17 => sq (uI M17 327 5 ((gi M17 327 5) + 1)) (fun M20 => (some (((gi M20 327 5) - 1), M20))))))))))))))))))
-- FilmCansModel.become
def j_Md_become (x1 : Int32) (x2 : Int32) (M : Mem) : Option (Int32 × Mem) := bd (j_Md_isCan x1 M) (fun r1 M2 => (if r1 = 0 then (some ((-1000001), M2)) else bd (j_Md_in (Int32.toInt64 x2) 1 5 M2) (fun r3 M4 => (if r3 = 0 then (some ((-1000001), M4)) else bd (j_Md_kind 327 x1 M4) (fun r5 M6 => (if r5 = x2 then (some ((-1000002), M6)) else bd (j_Md_where 327 x1 M6) (fun r7 M8 => (if r7 = 0 then bd (j_Md_notes M8) (fun _ M10 => gd (inb ((13 : Int32) + ((4 : Int32) * x1)) 89) (sq (uI M10 327 (ix ((13 : Int32) + ((4 : Int32) * x1))) x2) (fun M12 => (some (r5, M12))))) else (some ((-1000002), M8))))))))))
-- FilmCansModel.demand
def j_Md_demand (x1 : Int32) (x2 : Int32) (x3 : Int32) (M : Mem) : Option (Int32 × Mem) := bd (j_Md_isTake x1 M) (fun r1 M2 => (if r1 = 0 then (some ((-1000001), M2)) else bd (j_Md_in (Int32.toInt64 x2) 0 5 M2) (fun r3 M4 => (if r3 = 0 then (some ((-1000001), M4)) else bd (j_Md_in (Int32.toInt64 x3) 1 60 M4) (fun r5 M6 => (if r5 = 0 then (some ((-1000001), M6)) else bd (j_Md_isOpen 327 x1 M6) (fun r7 M8 => (if r7 = 0 then (some ((-1000002), M8)) else bd (j_Md_notes M8) (fun _ M10 => gd (inb (((41 : Int32) + ((3 : Int32) * x1)) + 1) 89) (lq (gi M10 327 (ix (((41 : Int32) + ((3 : Int32) * x1)) + 1))) (fun x12_ => gd (inb ((41 : Int32) + ((3 : Int32) * x1)) 89) (sq (uI M10 327 (ix ((41 : Int32) + ((3 : Int32) * x1))) x2) (fun M14 => gd (inb (((41 : Int32) + ((3 : Int32) * x1)) + 1) 89) (sq (uI M14 327 (ix (((41 : Int32) + ((3 : Int32) * x1)) + 1)) x3) (fun M16 => (some (x12_, M16)))))))))))))))))
-- FilmCansModel.law
def Md_law_b84 (x1 : Int32) (x2 : Int32) (xs0 : Int32) (M : Mem) : Option (Int32 × Mem) := (if xs0 = 0 then (some ((-1000001), M)) else bd (j_Md_notes M) (fun _ M4 => gd (inb x1 89) (lq (gi M4 327 (ix x1)) (fun x6_ => gd (inb x1 89) (sq (uI M4 327 (ix x1) x2) (fun M8 => (some (x6_, M8))))))))
def Md_law_b83 (x1 : Int32) (x2 : Int32) (M : Mem) : Option (Int32 × Mem) := (Md_law_b84  x1 x2 0 M)
def Md_law_b79 (x1 : Int32) (x2 : Int32) (M : Mem) : Option (Int32 × Mem) := (Md_law_b84  x1 x2 1 M)
def Md_law_b62 (x1 : Int32) (x2 : Int32) (M : Mem) : Option (Int32 × Mem) := (if x1 = 3 then bd (j_Md_in (Int32.toInt64 x2) 0 20 M) (fun r9 M10 => (if r9 = 0 then (Md_law_b83  x1 x2 M10) else (Md_law_b79  x1 x2 M10))) else (Md_law_b83  x1 x2 M))
def Md_law_b43 (x1 : Int32) (x2 : Int32) (M : Mem) : Option (Int32 × Mem) := (if x1 = 2 then bd (j_Md_in (Int32.toInt64 x2) 10 99 M) (fun r11 M12 => (if r11 = 0 then (Md_law_b62  x1 x2 M12) else (Md_law_b79  x1 x2 M12))) else (Md_law_b62  x1 x2 M))
def Md_law_b26 (x1 : Int32) (x2 : Int32) (M : Mem) : Option (Int32 × Mem) := (if x1 = 1 then bd (j_Md_in (Int32.toInt64 x2) 1 40 M) (fun r13 M14 => (if r13 = 0 then (Md_law_b43  x1 x2 M14) else (Md_law_b79  x1 x2 M14))) else (Md_law_b43  x1 x2 M))
def j_Md_law (x1 : Int32) (x2 : Int32) (M : Mem) : Option (Int32 × Mem) := bd (j_Md_isBook M) (fun r1 M2 => (if r1 = 0 then (some ((-1000002), M2)) else (if x1 = 0 then bd (j_Md_in (Int32.toInt64 x2) 0 9 M2) (fun r15 M16 => (if r15 = 0 then (Md_law_b26  x1 x2 M16) else (Md_law_b79  x1 x2 M16))) else (Md_law_b26  x1 x2 M2))))
-- FilmCansModel.shotOn
def Md_shotOn_b39 (k4 : Int32 → Int32 → Int32 → Mem → Option (Int32 × Mem)) (x1 : Int32) (x3 : Int32) (xs0 : Int32) (xs1 : Int32) (M : Mem) : Option (Int32 × Mem) := lq (xs1 ||| xs0) (fun x5_ => lq (x3 + 1) (fun x6_ => (k4 x1 x5_ x6_ M)))
def Md_shotOn_h4  : Nat → Int32 → Int32 → Int32 → Mem → Option (Int32 × Mem)
  | 0, _, _, _, _ => none
  | n + 1, x1, x2, x3, M => (if x3 < (gi M 327 5) then gd (inb (((41 : Int32) + ((3 : Int32) * x3)) + 2) 89) ((if (gi M 327 (ix (((41 : Int32) + ((3 : Int32) * x3)) + 2))) = x1 then (Md_shotOn_b39 (fun x1 x2 x3 M => Md_shotOn_h4 n x1 x2 x3 M) x1 x3 ((1 : Int32) <<< (x3 &&& 31)) x2 M) else (Md_shotOn_b39 (fun x1 x2 x3 M => Md_shotOn_h4 n x1 x2 x3 M) x1 x3 0 x2 M))) else (some (x2, M)))
def j_Md_shotOn (x1 : Int32) (M : Mem) : Option (Int32 × Mem) := lq (0 : Int32) (fun x1_ => lq (0 : Int32) (fun x2_ => (Md_shotOn_h4  FU x1 x1_ x2_ M)))
-- FilmCansModel.can
def j_Md_can (x1 : Int32) (x2 : Int32) (M : Mem) : Option (Int32 × Mem) := bd (j_Md_isCan x1 M) (fun r1 M2 => (if r1 = 0 then (some ((-1000001), M2)) else (if x2 = 0 then gd (inb (((13 : Int32) + ((4 : Int32) * x1)) + x2) 89) ((some ((gi M2 327 (ix (((13 : Int32) + ((4 : Int32) * x1)) + x2))), M2))) else (if x2 = 1 then gd (inb (((13 : Int32) + ((4 : Int32) * x1)) + x2) 89) ((some ((gi M2 327 (ix (((13 : Int32) + ((4 : Int32) * x1)) + x2))), M2))) else (if x2 = 2 then gd (inb (((13 : Int32) + ((4 : Int32) * x1)) + x2) 89) ((some ((gi M2 327 (ix (((13 : Int32) + ((4 : Int32) * x1)) + x2))), M2))) else (if x2 = 3 then gd (inb (((13 : Int32) + ((4 : Int32) * x1)) + x2) 89) ((some ((gi M2 327 (ix (((13 : Int32) + ((4 : Int32) * x1)) + x2))), M2))) else (if x2 = 4 then bd (j_Md_shotOn x1 M2) (fun r7 M8 => (some (r7, M8))) else (if x2 = 5 then bd (j_Md_lead 327 x1 M2) (fun r9 M10 => (some (r9, M10))) else (if x2 = 6 then bd (j_Md_slate 327 x1 M2) (fun r11 M12 => (some (r11, M12))) else (if x2 = 7 then bd (j_Md_leastEnd 327 x1 M2) (fun r13 M14 => (some (r13, M14))) else (some ((-1000001), M2))))))))))))
-- FilmCansModel.serving
def Md_serving_b34 (k4 : Int32 → Int32 → Int32 → Mem → Option (Int32 × Mem)) (x1 : Int32) (x3 : Int32) (xs0 : Int32) (xs1 : Int32) (M : Mem) : Option (Int32 × Mem) := lq (xs1 ||| xs0) (fun x6_ => lq (x3 + 1) (fun x7_ => (k4 x1 x6_ x7_ M)))
def Md_serving_h4  : Nat → Int32 → Int32 → Int32 → Mem → Option (Int32 × Mem)
  | 0, _, _, _, _ => none
  | n + 1, x1, x2, x3, M => (if x3 < (gi M 327 4) then bd (j_Md_serves 327 x3 x1 M) (fun r4 M5 => (if r4 = 0 then (Md_serving_b34 (fun x1 x2 x3 M => Md_serving_h4 n x1 x2 x3 M) x1 x3 0 x2 M5) else (Md_serving_b34 (fun x1 x2 x3 M => Md_serving_h4 n x1 x2 x3 M) x1 x3 ((1 : Int32) <<< (x3 &&& 31)) x2 M5))) else (some (x2, M)))
def j_Md_serving (x1 : Int32) (M : Mem) : Option (Int32 × Mem) := lq (0 : Int32) (fun x1_ => lq (0 : Int32) (fun x2_ => (Md_serving_h4  FU x1 x1_ x2_ M)))
-- FilmCansModel.take
def j_Md_take (x1 : Int32) (x2 : Int32) (M : Mem) : Option (Int32 × Mem) := bd (j_Md_isTake x1 M) (fun r1 M2 => (if r1 = 0 then (some ((-1000001), M2)) else (if x2 = 0 then gd (inb (((41 : Int32) + ((3 : Int32) * x1)) + x2) 89) ((some ((gi M2 327 (ix (((41 : Int32) + ((3 : Int32) * x1)) + x2))), M2))) else (if x2 = 1 then gd (inb (((41 : Int32) + ((3 : Int32) * x1)) + x2) 89) ((some ((gi M2 327 (ix (((41 : Int32) + ((3 : Int32) * x1)) + x2))), M2))) else (if x2 = 2 then bd (j_Md_isOpen 327 x1 M2) (fun r5 M6 => (if r5 = 0 then gd (inb (((41 : Int32) + ((3 : Int32) * x1)) + 2) 89) ((some ((gi M6 327 (ix (((41 : Int32) + ((3 : Int32) * x1)) + 2))), M6))) else (some ((-1000000), M6)))) else (if x2 = 3 then bd (j_Md_serving x1 M2) (fun r8 M9 => (some (r8, M9))) else (some ((-1000001), M2))))))))
-- FilmCansModel.roll
def j_Md_roll (x1 : Int32) (x2 : Int32) (M : Mem) : Option (Int32 × Mem) := bd (j_Md_in (Int32.toInt64 x1) 0 (Int32.toInt64 ((gi M 327 6) - 1)) M) (fun r2 M3 => (if r2 = 0 then (some ((-1000001), M3)) else bd (j_Md_in (Int32.toInt64 x2) 0 2 M3) (fun r4 M5 => (if r4 = 0 then (some ((-1000001), M5)) else gd (inb (((65 : Int32) + ((3 : Int32) * x1)) + x2) 89) ((some ((gi M5 327 (ix (((65 : Int32) + ((3 : Int32) * x1)) + x2))), M5)))))))
-- FilmCansModel.onShelf
def Md_onShelf_b38 (k4 : Int32 → Int32 → Mem → Option (Int32 × Mem)) (x2 : Int32) (xs0 : Int32) (xs1 : Int32) (M : Mem) : Option (Int32 × Mem) := lq (xs1 + xs0) (fun x6_ => lq (x2 + 1) (fun x7_ => (k4 x6_ x7_ M)))
def Md_onShelf_h4  : Nat → Int32 → Int32 → Mem → Option (Int32 × Mem)
  | 0, _, _, _ => none
  | n + 1, x1, x2, M => (if x2 < (gi M 327 4) then bd (j_Md_where 327 x2 M) (fun r4 M5 => (if r4 = 0 then bd (j_Md_feet 327 x2 M5) (fun r8 M9 => (Md_onShelf_b38 (fun x1 x2 M => Md_onShelf_h4 n x1 x2 M) x2 r8 x1 M9)) else (Md_onShelf_b38 (fun x1 x2 M => Md_onShelf_h4 n x1 x2 M) x2 0 x1 M5))) else (some (x1, M)))
def j_Md_onShelf (M : Mem) : Option (Int32 × Mem) := lq (0 : Int32) (fun x1_ => lq (0 : Int32) (fun x2_ => (Md_onShelf_h4  FU x1_ x2_ M)))
-- FilmCansModel.sums
def j_Md_sums (x1 : Int32) (M : Mem) : Option (Int32 × Mem) := (if x1 = 0 then (some ((gi M 327 7), M)) else (if x1 = 1 then bd (j_Md_onShelf M) (fun r2 M3 => (some (r2, M3))) else (if x1 = 2 then (if (gi M 327 11) < 0 then (some (0, M)) else bd (j_Md_feet 327 (gi M 327 11) M) (fun r6 M7 => (some (r6, M7)))) else (if x1 = 3 then (some ((gi M 327 8), M)) else (if x1 = 4 then (some ((gi M 327 9), M)) else (if x1 = 5 then bd (j_Md_waiting M) (fun r10 M11 => (some (r10, M11))) else (if x1 = 6 then (some ((gi M 327 10), M)) else (if x1 = 7 then (some ((gi M 327 12), M)) else (some ((-1000001), M))))))))))
-- FilmCansModel.isBatch
def Md_isBatch_b105 (M : Mem) : Option (Int32 × Mem) := (some (1, M))
def Md_isBatch_b74 (k7 : Int32 → Int32 → Int32 → Int32 → Mem → Option (Int32 × Mem)) (x1 : Int32) (x2 : Int32) (x4 : Int32) (xs0 : Int32) (xs1 : Int32) (M : Mem) : Option (Int32 × Mem) := lq (xs1 ||| xs0) (fun x10_ => lq (x4 + 1) (fun x11_ => (k7 x1 x2 x10_ x11_ M)))
def Md_isBatch_b42 (k7 : Int32 → Int32 → Int32 → Int32 → Mem → Option (Int32 × Mem)) (x1 : Int32) (x3 : Int32) (x4 : Int32) (xs0 : Int32) (xs1 : Int32) (M : Mem) : Option (Int32 × Mem) := lq (xs1 + xs0) (fun x7_ => bd (j_Md_has x1 x4 M) (fun r8 M9 => (if r8 = 0 then (Md_isBatch_b74 k7 x1 x7_ x4 0 x3 M9) else gd (inb (((65 : Int32) + ((3 : Int32) * x4)) + 2) 89) ((Md_isBatch_b74 k7 x1 x7_ x4 ((1 : Int32) <<< ((gi M9 327 (ix (((65 : Int32) + ((3 : Int32) * x4)) + 2))) &&& 31)) x3 M9)))))
def Md_isBatch_h7  : Nat → Int32 → Int32 → Int32 → Int32 → Mem → Option (Int32 × Mem)
  | 0, _, _, _, _, _ => none
  | n + 1, x1, x2, x3, x4, M => (if x4 < 8 then bd (j_Md_has x1 x4 M) (fun r5 M6 => (if r5 = 0 then (Md_isBatch_b42 (fun x1 x2 x3 x4 M => Md_isBatch_h7 n x1 x2 x3 x4 M) x1 x3 x4 0 x2 M6) else gd (inb (((65 : Int32) + ((3 : Int32) * x4)) + 1) 89) ((Md_isBatch_b42 (fun x1 x2 x3 x4 M => Md_isBatch_h7 n x1 x2 x3 x4 M) x1 x3 x4 (gi M6 327 (ix (((65 : Int32) + ((3 : Int32) * x4)) + 1))) x2 M6)))) else (if (x1 &&& (x1 - 1)) = 0 then (Md_isBatch_b105  M) else (if x3 = 3 then (some (0, M)) else (if (gi M 327 2) < x2 then (some (0, M)) else (Md_isBatch_b105  M)))))
def j_Md_isBatch (x1 : Int32) (M : Mem) : Option (Int32 × Mem) := lq (0 : Int32) (fun x1_ => lq (0 : Int32) (fun x2_ => lq (0 : Int32) (fun x3_ => (Md_isBatch_h7  FU x1 x1_ x2_ x3_ M))))
-- FilmCansModel.fewest
def Md_fewest_b87 (k21 : Int32 → Int32 → Mem → Option (Int32 × Mem)) (k36 : Int32 → Int32 → Int32 → Mem → Option (Int32 × Mem)) (x1 : Int32) (x2 : Int32) (x3 : Int32) (xs0 : Int32) (xs1 : Int32) (M : Mem) : Option (Int32 × Mem) := gd (inb xs1 256) (sq (uI M 338 (ix xs1) xs0) (fun M15 => lq ((x3 - 1) &&& x2) (fun x16_ => (k36 x1 x2 x16_ M15))))
def Md_fewest_b81 (k21 : Int32 → Int32 → Mem → Option (Int32 × Mem)) (k36 : Int32 → Int32 → Int32 → Mem → Option (Int32 × Mem)) (x1 : Int32) (x2 : Int32) (x3 : Int32) (xs0 : Int32) (M : Mem) : Option (Int32 × Mem) := gd (inb x2 256) ((Md_fewest_b87 k21 k36 x1 x2 x3 (gi M 338 (ix x2)) xs0 M))
def Md_fewest_h36 (k21 : Int32 → Int32 → Mem → Option (Int32 × Mem)) : Nat → Int32 → Int32 → Int32 → Mem → Option (Int32 × Mem)
  | 0, _, _, _, _ => none
  | n + 1, x1, x2, x3, M => (if (0 : Int32) < x3 then gd (inb (x2 ^^^ x3) 256) (lq ((gi M 338 (ix (x2 ^^^ x3))) + 1) (fun x11_ => gd (inb x2 256) ((if x11_ < (gi M 338 (ix x2)) then bd (j_Md_isBatch x3 M) (fun r17 M18 => (if r17 = 0 then (Md_fewest_b81 k21 (fun x1 x2 x3 M => Md_fewest_h36 k21 n x1 x2 x3 M) x1 x2 x3 x2 M18) else (Md_fewest_b87 k21 (fun x1 x2 x3 M => Md_fewest_h36 k21 n x1 x2 x3 M) x1 x2 x3 x11_ x2 M18))) else (Md_fewest_b81 k21 (fun x1 x2 x3 M => Md_fewest_h36 k21 n x1 x2 x3 M) x1 x2 x3 x2 M))))) else lq (x2 + 1) (fun x9_ => (k21 x1 x9_ M)))
def Md_fewest_h21  : Nat → Int32 → Int32 → Mem → Option (Int32 × Mem)
  | 0, _, _, _ => none
  | n + 1, x1, x2, M => (if x1 < x2 then gd (inb x1 256) ((some ((gi M 338 (ix x1)), M))) else gd (inb x2 256) (sq (uI M 338 (ix x2) 9) (fun M8 => (Md_fewest_h36 (fun x1 x2 M => Md_fewest_h21 n x1 x2 M) FU x1 x2 x2 M8))))
def j_Md_fewest (M : Mem) : Option (Int32 × Mem) := lq (((1 : Int32) <<< ((gi M 327 6) &&& 31)) - 1) (fun x2_ => sq (uI M 338 0 0) (fun M4 => lq (1 : Int32) (fun x5_ => (Md_fewest_h21  FU x2_ x5_ M4))))
-- FilmCansModel.batches
def j_Md_batches (x1 : Int32) (M : Mem) : Option (Int32 × Mem) := (if x1 = 0 then bd (j_Md_batched M) (fun r3 M4 => (some (r3, M4))) else (if x1 = 1 then bd (j_Md_fewest M) (fun r1 M2 => (some (r1, M2))) else (some ((-1000001), M))))
-- FilmCansModel.as
def j_Md_as (x1 : Int32) (x2 : Int32) (M : Mem) : Option (Int32 × Mem) := bd (j_Md_isCan x1 M) (fun r1 M2 => (if r1 = 0 then (some ((-1000001), M2)) else bd (j_Md_in (Int32.toInt64 x2) 0 5 M2) (fun r3 M4 => (if r3 = 0 then (some ((-1000001), M4)) else bd (j_Md_kind 327 x1 M4) (fun r5 M6 => bd (j_Md_isOf r5 x2 M6) (fun r7 M8 => (if r7 = 0 then (some ((-1000000), M8)) else (some (x1, M8)))))))))
-- FilmCansModel.fits
def Md_fits_b54 (M : Mem) : Option (Int32 × Mem) := (some ((-1000000), M))
def j_Md_fits (x1 : Int32) (x2 : Int32) (M : Mem) : Option (Int32 × Mem) := bd (j_Md_isCan x1 M) (fun r1 M2 => (if r1 = 0 then (some ((-1000001), M2)) else (if x2 < 0 then (some ((-1000001), M2)) else bd (j_Md_openOnes 327 M2) (fun r3 M4 => (if (x2 &&& (r3 ^^^ (-1))) = 0 then bd (j_Md_left 327 x1 x2 M4) (fun r5 M6 => bd (j_Md_isRoom 327 x1 M6) (fun r7 M8 => (if r7 = 0 then (Md_fits_b54  M8) else (if r5 < 0 then (Md_fits_b54  M8) else (some (r5, M8)))))) else (some ((-1000001), M4)))))))
-- FilmCansModel.weighs
def Md_weighs_b225 (k48 : Nat → Int32 → Int32 → Int32 → Int32 → Int32 → Mem → Option (Unit × Mem)) (a1 : Nat) (x2 : Int32) (x3 : Int32) (x4 : Int32) (x5 : Int32) (x6 : Int32) (M : Mem) : Option (Unit × Mem) := lq ((x6 - 1) &&& x3) (fun x10_ => (k48 a1 x2 x3 x4 x5 x10_ M))
def Md_weighs_b224 (k48 : Nat → Int32 → Int32 → Int32 → Int32 → Int32 → Mem → Option (Unit × Mem)) (a1 : Nat) (x2 : Int32) (x3 : Int32) (x4 : Int32) (x5 : Int32) (x6 : Int32) (xs0 : Int32) (xs1 : Int32) (M : Mem) : Option (Unit × Mem) := gd (inb xs1 2048) (sq (uI M 334 (ix xs1) xs0) (fun M25 => (Md_weighs_b225 k48 a1 x2 x3 x4 x5 x6 M25)))
def Md_weighs_b200 (k48 : Nat → Int32 → Int32 → Int32 → Int32 → Int32 → Mem → Option (Unit × Mem)) (a1 : Nat) (x2 : Int32) (x3 : Int32) (x4 : Int32) (x5 : Int32) (x6 : Int32) (x9 : Int32) (x10 : Int32) (xs0 : Int32) (xs1 : Int32) (M : Mem) : Option (Unit × Mem) := gd (inb xs1 2048) (sq (uI M 333 (ix xs1) xs0) (fun M22 => (if x10 = 0 then gd (inb x5 2048) ((Md_weighs_b224 k48 a1 x2 x3 x4 x5 x6 (gi M22 334 (ix x5)) x5 M22)) else (Md_weighs_b224 k48 a1 x2 x3 x4 x5 x6 x9 x5 M22))))
def Md_weighs_b175 (k48 : Nat → Int32 → Int32 → Int32 → Int32 → Int32 → Mem → Option (Unit × Mem)) (a1 : Nat) (x2 : Int32) (x3 : Int32) (x4 : Int32) (x5 : Int32) (x6 : Int32) (x8 : Int32) (x9 : Int32) (xs0 : Int32) (M : Mem) : Option (Unit × Mem) := (if xs0 = 0 then gd (inb x5 2048) ((Md_weighs_b200 k48 a1 x2 x3 x4 x5 x6 x9 xs0 (gi M 333 (ix x5)) x5 M)) else (Md_weighs_b200 k48 a1 x2 x3 x4 x5 x6 x9 xs0 x8 x5 M))
def Md_weighs_b170 (k48 : Nat → Int32 → Int32 → Int32 → Int32 → Int32 → Mem → Option (Unit × Mem)) (a1 : Nat) (x2 : Int32) (x3 : Int32) (x4 : Int32) (x5 : Int32) (x6 : Int32) (x8 : Int32) (x9 : Int32) (M : Mem) : Option (Unit × Mem) := (Md_weighs_b175 k48 a1 x2 x3 x4 x5 x6 x8 x9 1 M)
def Md_weighs_b174 (k48 : Nat → Int32 → Int32 → Int32 → Int32 → Int32 → Mem → Option (Unit × Mem)) (a1 : Nat) (x2 : Int32) (x3 : Int32) (x4 : Int32) (x5 : Int32) (x6 : Int32) (x8 : Int32) (x9 : Int32) (M : Mem) : Option (Unit × Mem) := (Md_weighs_b175 k48 a1 x2 x3 x4 x5 x6 x8 x9 0 M)
def Md_weighs_h48  : Nat → Nat → Int32 → Int32 → Int32 → Int32 → Int32 → Mem → Option (Unit × Mem)
  | 0, _, _, _, _, _, _, _ => none
  | n + 1, a1, x2, x3, x4, x5, x6, M => (if (0 : Int32) < x6 then (if x4 = 0 then (some ((), M)) else lq (((256 : Int32) * (x2 + 1)) + (x3 ^^^ x6)) (fun x8_ => gd (inb x8_ 2048) ((if (gi M 333 (ix x8_)) = (-1000000) then (Md_weighs_b225 (fun a1 x2 x3 x4 x5 x6 M => Md_weighs_h48 n a1 x2 x3 x4 x5 x6 M) a1 x2 x3 x4 x5 x6 M) else bd (j_Md_left a1 x2 x6 M) (fun r11 M12 => (if r11 < 0 then (Md_weighs_b225 (fun a1 x2 x3 x4 x5 x6 M => Md_weighs_h48 n a1 x2 x3 x4 x5 x6 M) a1 x2 x3 x4 x5 x6 M12) else gd (inb x8_ 2048) (bd (j_Md_lossOf a1 x2 x6 M12) (fun r14 M15 => lq ((gi M12 333 (ix x8_)) + r14) (fun x16_ => gd (inb x8_ 2048) (lq ((gi M15 334 (ix x8_)) + 1) (fun x18_ => gd (inb x5 2048) ((if (gi M15 333 (ix x5)) = (-1000000) then (Md_weighs_b170 (fun a1 x2 x3 x4 x5 x6 M => Md_weighs_h48 n a1 x2 x3 x4 x5 x6 M) a1 x2 x3 x4 x5 x6 x16_ x18_ M15) else gd (inb x5 2048) ((if x16_ < (gi M15 333 (ix x5)) then (Md_weighs_b170 (fun a1 x2 x3 x4 x5 x6 M => Md_weighs_h48 n a1 x2 x3 x4 x5 x6 M) a1 x2 x3 x4 x5 x6 x16_ x18_ M15) else gd (inb x5 2048) ((if x16_ = (gi M15 333 (ix x5)) then gd (inb x5 2048) ((if x18_ < (gi M15 334 (ix x5)) then (Md_weighs_b170 (fun a1 x2 x3 x4 x5 x6 M => Md_weighs_h48 n a1 x2 x3 x4 x5 x6 M) a1 x2 x3 x4 x5 x6 x16_ x18_ M15) else (Md_weighs_b174 (fun a1 x2 x3 x4 x5 x6 M => Md_weighs_h48 n a1 x2 x3 x4 x5 x6 M) a1 x2 x3 x4 x5 x6 x16_ x18_ M15))) else (Md_weighs_b174 (fun a1 x2 x3 x4 x5 x6 M => Md_weighs_h48 n a1 x2 x3 x4 x5 x6 M) a1 x2 x3 x4 x5 x6 x16_ x18_ M15)))))))))))))))))) else (some ((), M)))
def j_Md_weighs (a1 : Nat) (x2 : Int32) (x3 : Int32) (x4 : Int32) (M : Mem) : Option (Unit × Mem) := lq (((256 : Int32) * x2) + x3) (fun x1_ => gd (inb (x1_ + 256) 2048) (gd (inb x1_ 2048) (sq (uI M 333 (ix x1_) (gi M 333 (ix (x1_ + 256)))) (fun M4 => gd (inb (x1_ + 256) 2048) (gd (inb x1_ 2048) (sq (uI M4 334 (ix x1_) (gi M4 334 (ix (x1_ + 256)))) (fun M7 => (Md_weighs_h48  FU a1 x2 x3 x4 x1_ x3 M7))))))))
-- FilmCansModel.plans
def Md_plans_b126 (k66 : Nat → Int32 → Int32 → Int32 → Mem → Option (Unit × Mem)) (k74 : Nat → Int32 → Int32 → Int32 → Int32 → Mem → Option (Unit × Mem)) (a1 : Nat) (x2 : Int32) (x3 : Int32) (x4 : Int32) (xs0 : Int32) (M : Mem) : Option (Unit × Mem) := (k74 a1 x2 x3 x4 xs0 M)
def Md_plans_b108 (k66 : Nat → Int32 → Int32 → Int32 → Mem → Option (Unit × Mem)) (k74 : Nat → Int32 → Int32 → Int32 → Int32 → Mem → Option (Unit × Mem)) (a1 : Nat) (x2 : Int32) (x3 : Int32) (x4 : Int32) (x5 : Int32) (xs0 : Int32) (xs1 : Int32) (xs2 : Int32) (as3 : Nat) (M : Mem) : Option (Unit × Mem) := bd (j_Md_weighs as3 xs2 xs1 xs0 M) (fun _ M8 => (if x5 = 0 then (Md_plans_b126 k66 k74 a1 x2 x3 x4 (-1) M8) else (Md_plans_b126 k66 k74 a1 x2 x3 x4 ((x5 - 1) &&& x2) M8)))
def Md_plans_b107 (k66 : Nat → Int32 → Int32 → Int32 → Mem → Option (Unit × Mem)) (k74 : Nat → Int32 → Int32 → Int32 → Int32 → Mem → Option (Unit × Mem)) (a1 : Nat) (x2 : Int32) (x3 : Int32) (x4 : Int32) (x5 : Int32) (xs0 : Int32) (xs1 : Int32) (as2 : Nat) (M : Mem) : Option (Unit × Mem) := (Md_plans_b108 k66 k74 a1 x2 x3 x4 x5 0 xs0 xs1 as2 M)
def Md_plans_h74 (k66 : Nat → Int32 → Int32 → Int32 → Mem → Option (Unit × Mem)) : Nat → Nat → Int32 → Int32 → Int32 → Int32 → Mem → Option (Unit × Mem)
  | 0, _, _, _, _, _, _ => none
  | n + 1, a1, x2, x3, x4, x5, M => (if x5 < 0 then lq (x4 + (-1)) (fun x4_ => (k66 a1 x2 x3 x4_ M)) else bd (j_Md_isRoom a1 x4 M) (fun r5 M6 => (if r5 = 0 then (Md_plans_b107 k66 (fun a1 x2 x3 x4 x5 M => Md_plans_h74 k66 n a1 x2 x3 x4 x5 M) a1 x2 x3 x4 x5 x5 x4 a1 M6) else bd (j_Md_has x3 x4 M6) (fun r9 M10 => (if r9 = 0 then (Md_plans_b108 k66 (fun a1 x2 x3 x4 x5 M => Md_plans_h74 k66 n a1 x2 x3 x4 x5 M) a1 x2 x3 x4 x5 1 x5 x4 a1 M10) else (Md_plans_b107 k66 (fun a1 x2 x3 x4 x5 M => Md_plans_h74 k66 n a1 x2 x3 x4 x5 M) a1 x2 x3 x4 x5 x5 x4 a1 M10))))))
def Md_plans_h66  : Nat → Nat → Int32 → Int32 → Int32 → Mem → Option (Unit × Mem)
  | 0, _, _, _, _, _ => none
  | n + 1, a1, x2, x3, x4, M => (if x4 < 0 then (some ((), M)) else (Md_plans_h74 (fun a1 x2 x3 x4 M => Md_plans_h66 n a1 x2 x3 x4 M) FU a1 x2 x3 x4 x2 M))
def Md_plans_b36 (k3 : Nat → Int32 → Int32 → Int32 → Mem → Option (Unit × Mem)) (a1 : Nat) (x2 : Int32) (x3 : Int32) (x4 : Int32) (xs0 : Int32) (xs1 : Int32) (M : Mem) : Option (Unit × Mem) := gd (inb xs1 2048) (sq (uI M 333 (ix xs1) xs0) (fun M13 => gd (inb (((256 : Int32) * (gi M13 a1 4)) + x4) 2048) (sq (uI M13 334 (ix (((256 : Int32) * (gi M13 a1 4)) + x4)) 0) (fun M16 => lq (x4 + 1) (fun x17_ => (k3 a1 x2 x3 x17_ M16))))))
def Md_plans_h3  : Nat → Nat → Int32 → Int32 → Int32 → Mem → Option (Unit × Mem)
  | 0, _, _, _, _, _ => none
  | n + 1, a1, x2, x3, x4, M => (if x4 < 256 then (if x4 = 0 then (Md_plans_b36 (fun a1 x2 x3 x4 M => Md_plans_h3 n a1 x2 x3 x4 M) a1 x2 x3 x4 0 (((256 : Int32) * (gi M a1 4)) + x4) M) else (Md_plans_b36 (fun a1 x2 x3 x4 M => Md_plans_h3 n a1 x2 x3 x4 M) a1 x2 x3 x4 (-1000000) (((256 : Int32) * (gi M a1 4)) + x4) M)) else lq ((gi M a1 4) - 1) (fun x3_ => (Md_plans_h66  FU a1 x2 x3 x3_ M)))
def j_Md_plans (a1 : Nat) (x2 : Int32) (x3 : Int32) (M : Mem) : Option (Unit × Mem) := lq (0 : Int32) (fun x1_ => (Md_plans_h3  FU a1 x2 x3 x1_ M))
-- FilmCansModel.canBePlaced
def j_Md_canBePlaced (a1 : Nat) (x2 : Int32) (M : Mem) : Option (Int32 × Mem) := bd (j_Md_openOnes a1 M) (fun r1 M2 => bd (j_Md_plans a1 r1 x2 M2) (fun _ M4 => bd (j_Md_openOnes a1 M4) (fun r5 M6 => gd (inb r5 2048) ((if (gi M6 333 (ix r5)) = (-1000000) then (some (0, M6)) else (some (1, M6)))))))
-- FilmCansModel.leastAt
def Md_leastAt_b163 (k59 : Nat → Int32 → Int32 → Int32 → Int32 → Int32 → Mem → Option (Int32 × Mem)) (a1 : Nat) (x2 : Int32) (x3 : Int32) (x4 : Int32) (x6 : Int32) (xs0 : Int32) (M : Mem) : Option (Int32 × Mem) := lq ((x6 - 1) &&& x3) (fun x6_ => (k59 a1 x2 x3 x4 xs0 x6_ M))
def Md_leastAt_b149 (k59 : Nat → Int32 → Int32 → Int32 → Int32 → Int32 → Mem → Option (Int32 × Mem)) (a1 : Nat) (x2 : Int32) (x3 : Int32) (x4 : Int32) (x5 : Int32) (x6 : Int32) (xs0 : Int32) (M : Mem) : Option (Int32 × Mem) := (if xs0 = 0 then (Md_leastAt_b163 k59 a1 x2 x3 x4 x6 x5 M) else (Md_leastAt_b163 k59 a1 x2 x3 x4 x6 x6 M))
def Md_leastAt_b148 (k59 : Nat → Int32 → Int32 → Int32 → Int32 → Int32 → Mem → Option (Int32 × Mem)) (a1 : Nat) (x2 : Int32) (x3 : Int32) (x4 : Int32) (x5 : Int32) (x6 : Int32) (M : Mem) : Option (Int32 × Mem) := (Md_leastAt_b149 k59 a1 x2 x3 x4 x5 x6 0 M)
def Md_leastAt_h59  : Nat → Nat → Int32 → Int32 → Int32 → Int32 → Int32 → Mem → Option (Int32 × Mem)
  | 0, _, _, _, _, _, _, _ => none
  | n + 1, a1, x2, x3, x4, x5, x6, M => (if (0 : Int32) < x6 then lq (((256 : Int32) * (x2 + 1)) + (x3 ^^^ x6)) (fun x4_ => gd (inb x4_ 2048) ((if (gi M 333 (ix x4_)) = (-1000000) then (Md_leastAt_b148 (fun a1 x2 x3 x4 x5 x6 M => Md_leastAt_h59 n a1 x2 x3 x4 x5 x6 M) a1 x2 x3 x4 x5 x6 M) else bd (j_Md_left a1 x2 x6 M) (fun r7 M8 => (if r7 < 0 then (Md_leastAt_b148 (fun a1 x2 x3 x4 x5 x6 M => Md_leastAt_h59 n a1 x2 x3 x4 x5 x6 M) a1 x2 x3 x4 x5 x6 M8) else gd (inb x4_ 2048) (bd (j_Md_lossOf a1 x2 x6 M8) (fun r10 M11 => gd (inb x4 2048) ((if ((gi M8 333 (ix x4_)) + r10) = (gi M11 333 (ix x4)) then gd (inb x4_ 2048) (gd (inb x4 2048) ((if ((gi M11 334 (ix x4_)) + 1) = (gi M11 334 (ix x4)) then (Md_leastAt_b149 (fun a1 x2 x3 x4 x5 x6 M => Md_leastAt_h59 n a1 x2 x3 x4 x5 x6 M) a1 x2 x3 x4 x5 x6 1 M11) else (Md_leastAt_b148 (fun a1 x2 x3 x4 x5 x6 M => Md_leastAt_h59 n a1 x2 x3 x4 x5 x6 M) a1 x2 x3 x4 x5 x6 M11)))) else (Md_leastAt_b148 (fun a1 x2 x3 x4 x5 x6 M => Md_leastAt_h59 n a1 x2 x3 x4 x5 x6 M) a1 x2 x3 x4 x5 x6 M11)))))))))) else (some (x5, M)))
def Md_leastAt_b53 (a1 : Nat) (x2 : Int32) (x3 : Int32) (x4 : Int32) (M : Mem) : Option (Int32 × Mem) := (Md_leastAt_h59  FU a1 x2 x3 x4 x3 x3 M)
def j_Md_leastAt (a1 : Nat) (x2 : Int32) (x3 : Int32) (M : Mem) : Option (Int32 × Mem) := lq (((256 : Int32) * x2) + x3) (fun x1_ => gd (inb (x1_ + 256) 2048) (gd (inb x1_ 2048) ((if (gi M 333 (ix (x1_ + 256))) = (gi M 333 (ix x1_)) then gd (inb (x1_ + 256) 2048) (gd (inb x1_ 2048) ((if (gi M 334 (ix (x1_ + 256))) = (gi M 334 (ix x1_)) then (some (0, M)) else (Md_leastAt_b53  a1 x2 x3 x1_ M)))) else (Md_leastAt_b53  a1 x2 x3 x1_ M)))))
-- FilmCansModel.best
def Md_best_h18  : Nat → Nat → Int32 → Int32 → Mem → Option (Int32 × Mem)
  | 0, _, _, _, _ => none
  | n + 1, a1, x2, x3, M => (if x3 < (gi M a1 4) then bd (j_Md_leastAt a1 x3 x2 M) (fun r7 M8 => gd (inb x3 7) (sq (uI M8 335 (ix x3) r7) (fun M10 => gd (inb x3 7) (lq (x2 ^^^ (gi M10 335 (ix x3))) (fun x12_ => lq (x3 + 1) (fun x13_ => (Md_best_h18  n a1 x12_ x13_ M10))))))) else (some (1, M)))
def j_Md_best (a1 : Nat) (M : Mem) : Option (Int32 × Mem) := bd (j_Md_canBePlaced a1 0 M) (fun r1 M2 => (if r1 = 0 then (some (0, M2)) else bd (j_Md_openOnes a1 M2) (fun r3 M4 => lq (0 : Int32) (fun x5_ => (Md_best_h18  FU a1 r3 x5_ M4)))))
-- FilmCansModel.lossOfPlan
def Md_lossOfPlan_h4  : Nat → Int32 → Int32 → Mem → Option (Int32 × Mem)
  | 0, _, _, _ => none
  | n + 1, x1, x2, M => (if x2 < (gi M 327 4) then gd (inb x2 7) (bd (j_Md_lossOf 327 x2 (gi M 335 (ix x2)) M) (fun r5 M6 => lq (x1 + r5) (fun x7_ => lq (x2 + 1) (fun x8_ => (Md_lossOfPlan_h4  n x7_ x8_ M6))))) else (some (x1, M)))
def j_Md_lossOfPlan (M : Mem) : Option (Int32 × Mem) := lq (0 : Int32) (fun x1_ => lq (0 : Int32) (fun x2_ => (Md_lossOfPlan_h4  FU x1_ x2_ M)))
-- FilmCansModel.roomsOfPlan
def Md_roomsOfPlan_b29 (k4 : Int32 → Int32 → Mem → Option (Int32 × Mem)) (x2 : Int32) (xs0 : Int32) (xs1 : Int32) (M : Mem) : Option (Int32 × Mem) := lq (xs1 + xs0) (fun x5_ => lq (x2 + 1) (fun x6_ => (k4 x5_ x6_ M)))
def Md_roomsOfPlan_h4  : Nat → Int32 → Int32 → Mem → Option (Int32 × Mem)
  | 0, _, _, _ => none
  | n + 1, x1, x2, M => (if x2 < (gi M 327 4) then gd (inb x2 7) ((if (gi M 335 (ix x2)) = 0 then (Md_roomsOfPlan_b29 (fun x1 x2 M => Md_roomsOfPlan_h4 n x1 x2 M) x2 0 x1 M) else (Md_roomsOfPlan_b29 (fun x1 x2 M => Md_roomsOfPlan_h4 n x1 x2 M) x2 1 x1 M))) else (some (x1, M)))
def j_Md_roomsOfPlan (M : Mem) : Option (Int32 × Mem) := lq (0 : Int32) (fun x1_ => lq (0 : Int32) (fun x2_ => (Md_roomsOfPlan_h4  FU x1_ x2_ M)))
-- FilmCansModel.plan
def j_Md_plan (x1 : Int32) (M : Mem) : Option (Int32 × Mem) := bd (j_Md_isBook M) (fun r1 M2 => (if r1 = 0 then (some ((-1000002), M2)) else bd (j_Md_in (Int32.toInt64 x1) 0 1 M2) (fun r3 M4 => (if r3 = 0 then (some ((-1000001), M4)) else bd (j_Md_best 327 M4) (fun r5 M6 => (if r5 = 0 then (some ((-1000000), M6)) else (if x1 = 0 then bd (j_Md_lossOfPlan M6) (fun r9 M10 => (some (r9, M10))) else bd (j_Md_roomsOfPlan M6) (fun r7 M8 => (some (r7, M8))))))))))
-- FilmCansModel.planOf
def j_Md_planOf (x1 : Int32) (M : Mem) : Option (Int32 × Mem) := bd (j_Md_isCan x1 M) (fun r1 M2 => (if r1 = 0 then (some ((-1000001), M2)) else bd (j_Md_best 327 M2) (fun r3 M4 => (if r3 = 0 then (some ((-1000000), M4)) else gd (inb x1 7) ((some ((gi M4 335 (ix x1)), M4)))))))
-- FilmCansModel.roomFor
def Md_roomFor_b85 (k8 : Int32 → Int32 → Int32 → Int32 → Int32 → Mem → Option (Int32 × Mem)) (x1 : Int32) (x2 : Int32) (x3 : Int32) (x4 : Int32) (x5 : Int32) (M : Mem) : Option (Int32 × Mem) := lq (x5 + 1) (fun x7_ => (k8 x1 x2 x3 x4 x7_ M))
def Md_roomFor_b78 (k8 : Int32 → Int32 → Int32 → Int32 → Int32 → Mem → Option (Int32 × Mem)) (x1 : Int32) (x2 : Int32) (x5 : Int32) (x6 : Int32) (M : Mem) : Option (Int32 × Mem) := (Md_roomFor_b85 k8 x1 x2 x5 x6 x5 M)
def Md_roomFor_b55 (k8 : Int32 → Int32 → Int32 → Int32 → Int32 → Mem → Option (Int32 × Mem)) (x1 : Int32) (x2 : Int32) (x3 : Int32) (x4 : Int32) (x5 : Int32) (xs0 : Int32) (M : Mem) : Option (Int32 × Mem) := (if xs0 < 0 then (Md_roomFor_b85 k8 x1 x2 x3 x4 x5 M) else (if x3 < 0 then (Md_roomFor_b78 k8 x1 x2 x5 xs0 M) else (if x1 = 1 then (if xs0 < x4 then (Md_roomFor_b78 k8 x1 x2 x5 xs0 M) else (Md_roomFor_b85 k8 x1 x2 x3 x4 x5 M)) else (Md_roomFor_b85 k8 x1 x2 x3 x4 x5 M))))
def Md_roomFor_h8  : Nat → Int32 → Int32 → Int32 → Int32 → Int32 → Mem → Option (Int32 × Mem)
  | 0, _, _, _, _, _, _ => none
  | n + 1, x1, x2, x3, x4, x5, M => (if x5 < (gi M 327 4) then bd (j_Md_isRoom 327 x5 M) (fun r5 M6 => (if r5 = 0 then (Md_roomFor_b55 (fun x1 x2 x3 x4 x5 M => Md_roomFor_h8 n x1 x2 x3 x4 x5 M) x1 x2 x3 x4 x5 (-1) M6) else gd (inb x5 7) (bd (j_Md_left 327 x5 ((gi M6 335 (ix x5)) ||| ((1 : Int32) <<< (x2 &&& 31))) M6) (fun r9 M10 => (Md_roomFor_b55 (fun x1 x2 x3 x4 x5 M => Md_roomFor_h8 n x1 x2 x3 x4 x5 M) x1 x2 x3 x4 x5 r9 M10))))) else (some (x3, M)))
def j_Md_roomFor (x1 : Int32) (x2 : Int32) (M : Mem) : Option (Int32 × Mem) := lq ((-1) : Int32) (fun x1_ => lq (0 : Int32) (fun x2_ => lq (0 : Int32) (fun x3_ => (Md_roomFor_h8  FU x1 x2 x1_ x2_ x3_ M))))
-- FilmCansModel.puts
def Md_puts_b88 (k23 : Int32 → Int32 → Mem → Option (Int32 × Mem)) (x1 : Int32) (x2 : Int32) (M : Mem) : Option (Int32 × Mem) := lq (x2 + 1) (fun x6_ => (k23 x1 x6_ M))
def Md_puts_b72 (k23 : Int32 → Int32 → Mem → Option (Int32 × Mem)) (x1 : Int32) (x2 : Int32) (x3 : Int32) (M : Mem) : Option (Int32 × Mem) := (if x3 < 0 then (Md_puts_b88 k23 x1 x2 M) else gd (inb x3 7) (gd (inb x3 7) (sq (uI M 335 (ix x3) ((gi M 335 (ix x3)) ||| ((1 : Int32) <<< (x2 &&& 31)))) (fun M9 => (Md_puts_b88 k23 x1 x2 M9)))))
def Md_puts_b54 (k23 : Int32 → Int32 → Mem → Option (Int32 × Mem)) (x1 : Int32) (x2 : Int32) (xs0 : Int32) (M : Mem) : Option (Int32 × Mem) := (if xs0 < 0 then bd (j_Md_isOpen 327 x2 M) (fun r10 M11 => (if r10 = 0 then (Md_puts_b72 k23 x1 x2 xs0 M11) else (some (0, M11)))) else (Md_puts_b72 k23 x1 x2 xs0 M))
def Md_puts_h23  : Nat → Int32 → Int32 → Mem → Option (Int32 × Mem)
  | 0, _, _, _ => none
  | n + 1, x1, x2, M => (if x2 < (gi M 327 5) then bd (j_Md_isOpen 327 x2 M) (fun r4 M5 => (if r4 = 0 then (Md_puts_b54 (fun x1 x2 M => Md_puts_h23 n x1 x2 M) x1 x2 (-1) M5) else bd (j_Md_roomFor x1 x2 M5) (fun r12 M13 => (Md_puts_b54 (fun x1 x2 M => Md_puts_h23 n x1 x2 M) x1 x2 r12 M13)))) else (some (1, M)))
def Md_puts_h2  : Nat → Int32 → Int32 → Mem → Option (Int32 × Mem)
  | 0, _, _, _ => none
  | n + 1, x1, x2, M => (if x2 < 7 then gd (inb x2 7) (sq (uI M 335 (ix x2) 0) (fun M15 => lq (x2 + 1) (fun x16_ => (Md_puts_h2  n x1 x16_ M15)))) else lq (0 : Int32) (fun x2_ => (Md_puts_h23  FU x1 x2_ M)))
def j_Md_puts (x1 : Int32) (M : Mem) : Option (Int32 × Mem) := lq (0 : Int32) (fun x1_ => (Md_puts_h2  FU x1 x1_ M))
-- FilmCansModel.rule
def j_Md_rule (x1 : Int32) (x2 : Int32) (M : Mem) : Option (Int32 × Mem) := bd (j_Md_isBook M) (fun r1 M2 => (if r1 = 0 then (some ((-1000002), M2)) else bd (j_Md_in (Int32.toInt64 x1) 0 1 M2) (fun r3 M4 => (if r3 = 0 then (some ((-1000001), M4)) else bd (j_Md_in (Int32.toInt64 x2) 0 1 M4) (fun r5 M6 => (if r5 = 0 then (some ((-1000001), M6)) else bd (j_Md_puts x1 M6) (fun r7 M8 => (if r7 = 0 then (some ((-1000000), M8)) else (if x2 = 0 then bd (j_Md_lossOfPlan M8) (fun r11 M12 => (some (r11, M12))) else bd (j_Md_roomsOfPlan M8) (fun r9 M10 => (some (r9, M10))))))))))))
-- FilmCansModel.ruleOf
def j_Md_ruleOf (x1 : Int32) (x2 : Int32) (M : Mem) : Option (Int32 × Mem) := bd (j_Md_in (Int32.toInt64 x1) 0 1 M) (fun r1 M2 => (if r1 = 0 then (some ((-1000001), M2)) else bd (j_Md_isCan x2 M2) (fun r3 M4 => (if r3 = 0 then (some ((-1000001), M4)) else bd (j_Md_puts x1 M4) (fun r5 M6 => (if r5 = 0 then (some ((-1000000), M6)) else gd (inb x2 7) ((some ((gi M6 335 (ix x2)), M6)))))))))
-- FilmCansModel.longer
def Md_longer_h41  : Nat → Int32 → Int32 → Mem → Option (Int32 × Mem)
  | 0, _, _, _ => none
  | n + 1, x1, x2, M => (if (0 : Int32) < x2 then gd (inb (((41 : Int32) + ((3 : Int32) * x1)) + 1) 89) (sq (uI M 328 (ix (((41 : Int32) + ((3 : Int32) * x1)) + 1)) x2) (fun M9 => bd (j_Md_canBePlaced 328 0 M9) (fun r10 M11 => (if r10 = 0 then lq (x2 + (-1)) (fun x12_ => (Md_longer_h41  n x1 x12_ M11)) else (some (x2, M11)))))) else (some ((-1000000), M)))
def j_Md_longer (x1 : Int32) (M : Mem) : Option (Int32 × Mem) := bd (j_Md_isTake x1 M) (fun r1 M2 => (if r1 = 0 then (some ((-1000001), M2)) else bd (j_Md_isOpen 327 x1 M2) (fun r3 M4 => (if r3 = 0 then (some ((-1000002), M4)) else bd (j_Md_copies 327 0 328 0 M4) (fun _ M6 => lq (60 : Int32) (fun x7_ => (Md_longer_h41  FU x1 x7_ M6)))))))
-- FilmCansModel.more
def Md_more_h41  : Nat → Int32 → Int32 → Mem → Option (Int32 × Mem)
  | 0, _, _, _ => none
  | n + 1, x1, x2, M => (if x2 < 100 then bd (j_Md_copies 327 0 328 0 M) (fun _ M9 => bd (j_Md_adds 328 x1 x2 M9) (fun _ M11 => bd (j_Md_canBePlaced 328 0 M11) (fun r12 M13 => (if r12 = 0 then lq (x2 + 1) (fun x14_ => (Md_more_h41  n x1 x14_ M13)) else (some (x2, M13)))))) else (some ((-1000000), M)))
def j_Md_more (x1 : Int32) (M : Mem) : Option (Int32 × Mem) := bd (j_Md_isBook M) (fun r1 M2 => (if r1 = 0 then (some ((-1000002), M2)) else bd (j_Md_in (Int32.toInt64 x1) 1 5 M2) (fun r3 M4 => (if r3 = 0 then (some ((-1000001), M4)) else bd (j_Md_canBePlaced 327 0 M4) (fun r5 M6 => (if r5 = 0 then lq (1 : Int32) (fun x7_ => (Md_more_h41  FU x1 x7_ M6)) else (some (0, M6))))))))
-- FilmCansModel.needed
def Md_needed_b72 (k29 : Int32 → Int32 → Mem → Option (Int32 × Mem)) (x2 : Int32) (xs0 : Int32) (xs1 : Int32) (M : Mem) : Option (Int32 × Mem) := lq (xs1 ||| xs0) (fun x10_ => lq (x2 + 1) (fun x11_ => (k29 x10_ x11_ M)))
def Md_needed_b71 (k29 : Int32 → Int32 → Mem → Option (Int32 × Mem)) (x2 : Int32) (xs0 : Int32) (M : Mem) : Option (Int32 × Mem) := (Md_needed_b72 k29 x2 0 xs0 M)
def Md_needed_h29  : Nat → Int32 → Int32 → Mem → Option (Int32 × Mem)
  | 0, _, _, _ => none
  | n + 1, x1, x2, M => (if x2 < (gi M 327 4) then bd (j_Md_isRoom 327 x2 M) (fun r8 M9 => (if r8 = 0 then (Md_needed_b71 (fun x1 x2 M => Md_needed_h29 n x1 x2 M) x2 x1 M9) else bd (j_Md_canBePlaced 327 ((1 : Int32) <<< (x2 &&& 31)) M9) (fun r12 M13 => (if r12 = 0 then (Md_needed_b72 (fun x1 x2 M => Md_needed_h29 n x1 x2 M) x2 ((1 : Int32) <<< (x2 &&& 31)) x1 M13) else (Md_needed_b71 (fun x1 x2 M => Md_needed_h29 n x1 x2 M) x2 x1 M13))))) else (some (x1, M)))
def j_Md_needed (M : Mem) : Option (Int32 × Mem) := bd (j_Md_isBook M) (fun r1 M2 => (if r1 = 0 then (some ((-1000002), M2)) else bd (j_Md_canBePlaced 327 0 M2) (fun r3 M4 => (if r3 = 0 then (some ((-1000000), M4)) else lq (0 : Int32) (fun x5_ => lq (0 : Int32) (fun x6_ => (Md_needed_h29  FU x5_ x6_ M4)))))))
-- FilmCansModel.gcd
def Md_gcd_h6  : Nat → Int64 → Int64 → Mem → Option (Int64 × Mem)
  | 0, _, _, _ => none
  | n + 1, y4, y6, M => (if y6 = 0 then (some (y4, M)) else (if y6 = 0 then none else lq (y4 - y4 / y6 * y6) (fun y1_ => (Md_gcd_h6  n y6 y1_ M))))
def j_Md_gcd (y0 : Int64) (y2 : Int64) (M : Mem) : Option (Int64 × Mem) := (Md_gcd_h6  FU y0 y2 M)
-- FilmCansModel.fogged
def Md_fogged_b188 (y3 : Int64) (y5 : Int64) (ys0 : Int64) (M : Mem) : Option (Int64 × Mem) := bd (j_Md_gcd y3 y5 M) (fun r11 M12 => (if r11 = 0 then none else (some ((ys0 / r11), M12))))
def Md_fogged_b170 (k45 : Int32 → Int32 → Int64 → Int64 → Int32 → Mem → Option (Int64 × Mem)) (x1 : Int32) (x2 : Int32) (y5 : Int64) (x7 : Int32) (ys0 : Int64) (ys1 : Int64) (M : Mem) : Option (Int64 × Mem) := lq (ys1 + ys0) (fun y17_ => lq (x7 + 1) (fun x18_ => (k45 x1 x2 y17_ y5 x18_ M)))
def Md_fogged_b169 (k45 : Int32 → Int32 → Int64 → Int64 → Int32 → Mem → Option (Int64 × Mem)) (x1 : Int32) (x2 : Int32) (y5 : Int64) (x7 : Int32) (ys0 : Int64) (M : Mem) : Option (Int64 × Mem) := (Md_fogged_b170 k45 x1 x2 y5 x7 0 ys0 M)
def Md_fogged_b127 (k45 : Int32 → Int32 → Int64 → Int64 → Int32 → Mem → Option (Int64 × Mem)) (k64 : Int32 → Int32 → Int64 → Int64 → Int32 → Int64 → Int32 → Mem → Option (Int64 × Mem)) (x1 : Int32) (x2 : Int32) (y3 : Int64) (y5 : Int64) (x7 : Int32) (x10 : Int32) (ys0 : Int64) (ys1 : Int64) (M : Mem) : Option (Int64 × Mem) := lq (ys1 * ys0) (fun y25_ => lq (x10 + 1) (fun x26_ => (k64 x1 x2 y3 y5 x7 y25_ x26_ M)))
def Md_fogged_h64 (k45 : Int32 → Int32 → Int64 → Int64 → Int32 → Mem → Option (Int64 × Mem)) : Nat → Int32 → Int32 → Int64 → Int64 → Int32 → Int64 → Int32 → Mem → Option (Int64 × Mem)
  | 0, _, _, _, _, _, _, _, _ => none
  | n + 1, x1, x2, y3, y5, x7, y8, x10, M => (if x10 < (gi M 327 4) then bd (j_Md_isRoom 327 x10 M) (fun r21 M22 => (if r21 = 0 then bd (j_Md_has x7 x10 M22) (fun r23 M24 => (if r23 = 0 then (Md_fogged_b127 k45 (fun x1 x2 y3 y5 x7 y8 x10 M => Md_fogged_h64 k45 n x1 x2 y3 y5 x7 y8 x10 M) x1 x2 y3 y5 x7 x10 1 y8 M24) else (Md_fogged_b127 k45 (fun x1 x2 y3 y5 x7 y8 x10 M => Md_fogged_h64 k45 n x1 x2 y3 y5 x7 y8 x10 M) x1 x2 y3 y5 x7 x10 0 y8 M24))) else bd (j_Md_has x7 x10 M22) (fun r27 M28 => (if r27 = 0 then (Md_fogged_b127 k45 (fun x1 x2 y3 y5 x7 y8 x10 M => Md_fogged_h64 k45 n x1 x2 y3 y5 x7 y8 x10 M) x1 x2 y3 y5 x7 x10 (Int32.toInt64 ((10 : Int32) - x1)) y8 M28) else (Md_fogged_b127 k45 (fun x1 x2 y3 y5 x7 y8 x10 M => Md_fogged_h64 k45 n x1 x2 y3 y5 x7 y8 x10 M) x1 x2 y3 y5 x7 x10 (Int32.toInt64 x1) y8 M28))))) else lq (y5 + y8) (fun y16_ => (if (0 : Int64) < y8 then bd (j_Md_canBePlaced 327 x7 M) (fun r19 M20 => (if r19 = 0 then (Md_fogged_b169 k45 x1 x2 y16_ x7 y3 M20) else (Md_fogged_b170 k45 x1 x2 y16_ x7 y8 y3 M20))) else (Md_fogged_b169 k45 x1 x2 y16_ x7 y3 M))))
def Md_fogged_h45  : Nat → Int32 → Int32 → Int64 → Int64 → Int32 → Mem → Option (Int64 × Mem)
  | 0, _, _, _, _, _, _ => none
  | n + 1, x1, x2, y3, y5, x7, M => (if x7 < ((1 : Int32) <<< ((gi M 327 4) &&& 31)) then lq (1 : Int64) (fun y13_ => lq (0 : Int32) (fun x14_ => (Md_fogged_h64 (fun x1 x2 y3 y5 x7 M => Md_fogged_h45 n x1 x2 y3 y5 x7 M) FU x1 x2 y3 y5 x7 y13_ x14_ M))) else (if x2 = 0 then (Md_fogged_b188  y3 y5 y3 M) else (Md_fogged_b188  y3 y5 y5 M)))
def j_Md_fogged (x1 : Int32) (x2 : Int32) (M : Mem) : Option (Int64 × Mem) := bd (j_Md_isBook M) (fun r1 M2 => (if r1 = 0 then (some ((-1000002), M2)) else bd (j_Md_in (Int32.toInt64 x1) 0 10 M2) (fun r3 M4 => (if r3 = 0 then (some ((-1000001), M4)) else bd (j_Md_in (Int32.toInt64 x2) 0 1 M4) (fun r5 M6 => (if r5 = 0 then (some ((-1000001), M6)) else lq (0 : Int64) (fun y7_ => lq (0 : Int64) (fun y8_ => lq (0 : Int32) (fun x9_ => (Md_fogged_h45  FU x1 x2 y7_ y8_ x9_ M6))))))))))
-- FilmCansModel.nth
def Md_nth_b42 (k5 : Int32 → Int64 → Int32 → Mem → Option (Int32 × Mem)) (x0 : Int32) (x5 : Int32) (ys0 : Int64) (ys1 : Int64) (M : Mem) : Option (Int32 × Mem) := lq (ys1 - ys0) (fun y6_ => lq (x5 + 1) (fun x7_ => (k5 x0 y6_ x7_ M)))
def Md_nth_b27 (k5 : Int32 → Int64 → Int32 → Mem → Option (Int32 × Mem)) (x0 : Int32) (y3 : Int64) (x5 : Int32) (M : Mem) : Option (Int32 × Mem) := bd (j_Md_has x0 x5 M) (fun r4 M5 => (if r4 = 0 then (Md_nth_b42 k5 x0 x5 0 y3 M5) else (Md_nth_b42 k5 x0 x5 1 y3 M5)))
def Md_nth_h5  : Nat → Int32 → Int64 → Int32 → Mem → Option (Int32 × Mem)
  | 0, _, _, _, _ => none
  | n + 1, x0, y3, x5, M => (if x5 < 8 then bd (j_Md_has x0 x5 M) (fun r2 M3 => (if r2 = 0 then (Md_nth_b27 (fun x0 y3 x5 M => Md_nth_h5 n x0 y3 x5 M) x0 y3 x5 M3) else (if (0 : Int64) < y3 then (Md_nth_b27 (fun x0 y3 x5 M => Md_nth_h5 n x0 y3 x5 M) x0 y3 x5 M3) else (some (x5, M3))))) else (some (x5, M)))
def j_Md_nth (x0 : Int32) (y1 : Int64) (M : Mem) : Option (Int32 × Mem) := lq (0 : Int32) (fun x1_ => (Md_nth_h5  FU x0 y1 x1_ M))
-- FilmCansModel.drawn
def Md_drawn_b188 (k82 : Int32 → Int32 → Int32 → Int32 → Int32 → Int64 → Int32 → Mem → Option (Int32 × Mem)) (x1 : Int32) (x3 : Int32) (x4 : Int32) (x5 : Int32) (y7 : Int64) (x9 : Int32) (xs0 : Int32) (xs1 : Int32) (M : Mem) : Option (Int32 × Mem) := lq (xs1 + xs0) (fun x21_ => lq (x9 + 1) (fun x22_ => (k82 x1 x3 x4 x5 x21_ y7 x22_ M)))
def Md_drawn_b173 (k82 : Int32 → Int32 → Int32 → Int32 → Int32 → Int64 → Int32 → Mem → Option (Int32 × Mem)) (x1 : Int32) (x3 : Int32) (x4 : Int32) (x6 : Int32) (y7 : Int64) (x9 : Int32) (x10 : Int32) (xs0 : Int32) (xs1 : Int32) (M : Mem) : Option (Int32 × Mem) := lq (xs1 + xs0) (fun x20_ => (if x10 = 0 then (Md_drawn_b188 k82 x1 x3 x4 x20_ y7 x9 1 x6 M) else (Md_drawn_b188 k82 x1 x3 x4 x20_ y7 x9 0 x6 M)))
def Md_drawn_b144 (k82 : Int32 → Int32 → Int32 → Int32 → Int32 → Int64 → Int32 → Mem → Option (Int32 × Mem)) (x1 : Int32) (x3 : Int32) (x4 : Int32) (x5 : Int32) (x6 : Int32) (y7 : Int64) (x9 : Int32) (M : Mem) : Option (Int32 × Mem) := bd (j_Md_canBePlaced 328 0 M) (fun r18 M19 => (if r18 = 0 then (Md_drawn_b173 k82 x1 x3 x4 x6 y7 x9 r18 0 x5 M19) else gd (inb x4 2048) ((Md_drawn_b173 k82 x1 x3 x4 x6 y7 x9 r18 (gi M19 333 (ix x4)) x5 M19))))
def Md_drawn_h82  : Nat → Int32 → Int32 → Int32 → Int32 → Int32 → Int64 → Int32 → Mem → Option (Int32 × Mem)
  | 0, _, _, _, _, _, _, _, _ => none
  | n + 1, x1, x3, x4, x5, x6, y7, x9, M => (if x9 < x1 then lq ((y7 * 16807) - (y7 * 16807) / 2147483647 * 2147483647) (fun y17_ => (if x4 = 0 then (Md_drawn_b144 (fun x1 x3 x4 x5 x6 y7 x9 M => Md_drawn_h82 n x1 x3 x4 x5 x6 y7 x9 M) x1 x3 x4 x5 x6 y17_ x9 M) else bd (j_Md_ones x4 M) (fun r24 M25 => (if (Int32.toInt64 r24) = 0 then none else bd (j_Md_nth x4 (y17_ - y17_ / (Int32.toInt64 r24) * (Int32.toInt64 r24)) M25) (fun r26 M27 => gd (inb (((41 : Int32) + ((3 : Int32) * r26)) + 1) 89) (sq (uI M27 328 (ix (((41 : Int32) + ((3 : Int32) * r26)) + 1)) ((1 : Int32) + (Int64.toInt32 ((y17_ / 16) - (y17_ / 16) / 60 * 60)))) (fun M29 => (Md_drawn_b144 (fun x1 x3 x4 x5 x6 y7 x9 M => Md_drawn_h82 n x1 x3 x4 x5 x6 y7 x9 M) x1 x3 x4 x5 x6 y17_ x9 M29)))))))) else (if x3 = 0 then (some (x5, M)) else (some (x6, M))))
def j_Md_drawn (x1 : Int32) (x2 : Int32) (x3 : Int32) (M : Mem) : Option (Int32 × Mem) := bd (j_Md_isBook M) (fun r1 M2 => (if r1 = 0 then (some ((-1000002), M2)) else bd (j_Md_in (Int32.toInt64 x1) 0 20 M2) (fun r3 M4 => (if r3 = 0 then (some ((-1000001), M4)) else bd (j_Md_in (Int32.toInt64 x2) 1 999999 M4) (fun r5 M6 => (if r5 = 0 then (some ((-1000001), M6)) else bd (j_Md_in (Int32.toInt64 x3) 0 1 M6) (fun r7 M8 => (if r7 = 0 then (some ((-1000001), M8)) else bd (j_Md_copies 327 0 328 0 M8) (fun _ M10 => bd (j_Md_openOnes 327 M10) (fun r11 M12 => lq (0 : Int32) (fun x13_ => lq (0 : Int32) (fun x14_ => lq (Int32.toInt64 x2) (fun y15_ => lq (0 : Int32) (fun x16_ => (Md_drawn_h82  FU x1 x3 r11 x13_ x14_ y15_ x16_ M12)))))))))))))))
-- FilmCansModel.image
def j_Md_image (x1 : Int32) (M : Mem) : Option (Int32 × Mem) := bd (j_Md_in (Int32.toInt64 x1) 0 1 M) (fun r1 M2 => (if r1 = 0 then (some ((-1000001), M2)) else bd (j_Md_isBook M2) (fun r3 M4 => (if r3 = 0 then (some ((-1000002), M4)) else bd (j_Md_copies 327 0 330 ((89 : Int32) * x1) M4) (fun _ M6 => gd (inb x1 2) (sq (uI M6 331 (ix x1) 1) (fun M8 => (some (1, M8)))))))))
-- FilmCansModel.restore
def j_Md_restore (x1 : Int32) (M : Mem) : Option (Int32 × Mem) := bd (j_Md_in (Int32.toInt64 x1) 0 1 M) (fun r1 M2 => (if r1 = 0 then (some ((-1000001), M2)) else gd (inb x1 2) ((if (gi M2 331 (ix x1)) = 0 then (some ((-1000002), M2)) else bd (j_Md_copies 330 ((89 : Int32) * x1) 327 0 M2) (fun _ M5 => sq (uI M5 326 3 0) (fun M6 => (some (1, M6))))))))
-- FilmCansModel.count
def Md_count_b31 (k4 : Int32 → Int32 → Int32 → Mem → Option (Int32 × Mem)) (x1 : Int32) (x3 : Int32) (xs0 : Int32) (xs1 : Int32) (M : Mem) : Option (Int32 × Mem) := lq (xs1 + xs0) (fun x13_ => lq (x3 + 1) (fun x14_ => (k4 x1 x13_ x14_ M)))
def Md_count_h4  : Nat → Int32 → Int32 → Int32 → Mem → Option (Int32 × Mem)
  | 0, _, _, _, _ => none
  | n + 1, x1, x2, x3, M => (if x3 < (gi M 327 4) then bd (j_Md_isRoom 327 x3 M) (fun r11 M12 => (if r11 = 0 then (Md_count_b31 (fun x1 x2 x3 M => Md_count_h4 n x1 x2 x3 M) x1 x3 0 x2 M12) else (Md_count_b31 (fun x1 x2 x3 M => Md_count_h4 n x1 x2 x3 M) x1 x3 1 x2 M12))) else (if x1 = 0 then (some ((gi M 327 4), M)) else (if x1 = 1 then (some ((gi M 327 5), M)) else (if x1 = 2 then bd (j_Md_openOnes 327 M) (fun r6 M7 => bd (j_Md_ones r6 M7) (fun r8 M9 => (some (r8, M9)))) else (if x1 = 3 then (some (x2, M)) else (if x1 = 4 then (some ((gi M 327 6), M)) else (if x1 = 5 then (some ((gi M 326 3), M)) else (if x1 = 6 then (some ((gi M 326 7), M)) else (some ((-1000001), M))))))))))
def j_Md_count (x1 : Int32) (M : Mem) : Option (Int32 × Mem) := lq (0 : Int32) (fun x1_ => lq (0 : Int32) (fun x2_ => (Md_count_h4  FU x1 x1_ x2_ M)))
