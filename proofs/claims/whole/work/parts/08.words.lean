theorem uw_of (ws : List Cond) (ps : List Nat) (hp : ws = ps.filterMap (fun i => lw_tbl[i]?)) (h : ws.all goodWord = true) : ∀ w ∈ ws, w ∈ wAll := fun w hw => wAll_of (goodIn_r ws ps hp h w hw).1 (List.all_eq_true.mp h w hw)
set_option maxRecDepth 20000 in
theorem uw_0 : ∀ w ∈ u_ws RX0 TX0 1, w ∈ wAll := uw_of _ [310] (by decide +kernel) (by decide +kernel)
set_option maxRecDepth 20000 in
theorem uw_1 : ∀ w ∈ u_ws RX1 TX1 20, w ∈ wAll := uw_of _ [170, 172, 174, 176, 178, 180, 182, 184, 186, 188, 190, 192, 194, 196, 198, 200, 202, 204, 206, 208] (by decide +kernel) (by decide +kernel)
set_option maxRecDepth 20000 in
theorem uw_2 : ∀ w ∈ u_ws RX2 TX2 3, w ∈ wAll := uw_of _ [224, 226, 228] (by decide +kernel) (by decide +kernel)
set_option maxRecDepth 20000 in
theorem uw_4 : ∀ w ∈ u_ws RX4 TX4 4, w ∈ wAll := uw_of _ [241, 243, 245, 247] (by decide +kernel) (by decide +kernel)
set_option maxRecDepth 20000 in
theorem uw_5 : ∀ w ∈ u_ws RX5 TX5 2, w ∈ wAll := uw_of _ [321, 323] (by decide +kernel) (by decide +kernel)
set_option maxRecDepth 20000 in
theorem uw_6 : ∀ w ∈ u_ws RX6 TX6 11, w ∈ wAll := uw_of _ [279, 281, 283, 285, 287, 289, 291, 293, 295, 297, 299] (by decide +kernel) (by decide +kernel)
set_option maxRecDepth 20000 in
theorem uw_7 : ∀ w ∈ u_ws RX7 TX7 4, w ∈ wAll := uw_of _ [101, 103, 105, 107] (by decide +kernel) (by decide +kernel)
set_option maxRecDepth 20000 in
theorem uw_8 : ∀ w ∈ u_ws RX8 TX8 9, w ∈ wAll := uw_of _ [336, 338, 340, 342, 344, 346, 348, 350, 352] (by decide +kernel) (by decide +kernel)
set_option maxRecDepth 20000 in
theorem uw_9 : ∀ w ∈ u_ws RX9 TX9 21, w ∈ wAll := uw_of _ [964, 966, 968, 970, 972, 974, 976, 978, 980, 982, 984, 986, 988, 990, 992, 994, 996, 998, 1000, 1002, 1004] (by decide +kernel) (by decide +kernel)
set_option maxRecDepth 20000 in
theorem w_0 : (Jvm.Cond.selects "FilmCans$Tape" ({ cls := "FilmCans$Tape", name := "readLaws", desc := "(LFilmCans$Day;)Z" } : Jvm.MethodName) ({ cls := "FilmCans$Tape", name := "readLaws", desc := "(LFilmCans$Day;)Z" } : Jvm.MethodName)) ∈ wAll := wAll_of (List.mem_of_getElem? (i := 0) (by decide +kernel)) (by decide +kernel)
set_option maxRecDepth 20000 in
theorem w_1 : (Jvm.Cond.selects "FilmCans$Tape" ({ cls := "FilmCans$Tape", name := "pass", desc := "(I)Z" } : Jvm.MethodName) ({ cls := "FilmCans$Tape", name := "pass", desc := "(I)Z" } : Jvm.MethodName)) ∈ wAll := wAll_of (List.mem_of_getElem? (i := 1) (by decide +kernel)) (by decide +kernel)
set_option maxRecDepth 20000 in
theorem w_2 : (Jvm.Cond.selects "FilmCans$Tape" ({ cls := "FilmCans$Tape", name := "next", desc := "()I" } : Jvm.MethodName) ({ cls := "FilmCans$Tape", name := "next", desc := "()I" } : Jvm.MethodName)) ∈ wAll := wAll_of (List.mem_of_getElem? (i := 2) (by decide +kernel)) (by decide +kernel)
set_option maxRecDepth 20000 in
theorem w_3 : (Jvm.Cond.selects "FilmCans$Tape" ({ cls := "FilmCans$Tape", name := "byteAt", desc := "(I)I" } : Jvm.MethodName) ({ cls := "FilmCans$Tape", name := "byteAt", desc := "(I)I" } : Jvm.MethodName)) ∈ wAll := wAll_of (List.mem_of_getElem? (i := 3) (by decide +kernel)) (by decide +kernel)
set_option maxRecDepth 20000 in
theorem w_4 : (Jvm.Cond.selects "FilmCans$Tape" ({ cls := "FilmCans$Tape", name := "refuse", desc := "(I)Z" } : Jvm.MethodName) ({ cls := "FilmCans$Tape", name := "refuse", desc := "(I)Z" } : Jvm.MethodName)) ∈ wAll := wAll_of (List.mem_of_getElem? (i := 4) (by decide +kernel)) (by decide +kernel)
set_option maxRecDepth 20000 in
theorem w_5 : (Jvm.Cond.selects "FilmCans$Tape" ({ cls := "FilmCans$Tape", name := "readNumber", desc := "(II)I" } : Jvm.MethodName) ({ cls := "FilmCans$Tape", name := "readNumber", desc := "(II)I" } : Jvm.MethodName)) ∈ wAll := wAll_of (List.mem_of_getElem? (i := 5) (by decide +kernel)) (by decide +kernel)
set_option maxRecDepth 20000 in
theorem w_6 : (Jvm.Cond.selects "FilmCans$Tape" ({ cls := "FilmCans$Tape", name := "figuresFrom", desc := "(I)I" } : Jvm.MethodName) ({ cls := "FilmCans$Tape", name := "figuresFrom", desc := "(I)I" } : Jvm.MethodName)) ∈ wAll := wAll_of (List.mem_of_getElem? (i := 6) (by decide +kernel)) (by decide +kernel)
set_option maxRecDepth 20000 in
theorem w_7 : (Jvm.Cond.selects "FilmCans$Tape" ({ cls := "FilmCans$Tape", name := "readCans", desc := "(LFilmCans$Day;)Z" } : Jvm.MethodName) ({ cls := "FilmCans$Tape", name := "readCans", desc := "(LFilmCans$Day;)Z" } : Jvm.MethodName)) ∈ wAll := wAll_of (List.mem_of_getElem? (i := 7) (by decide +kernel)) (by decide +kernel)
set_option maxRecDepth 20000 in
theorem w_8 : (Jvm.Cond.selects "FilmCans$Tape" ({ cls := "FilmCans$Tape", name := "readCan", desc := "(LFilmCans$Day;)Z" } : Jvm.MethodName) ({ cls := "FilmCans$Tape", name := "readCan", desc := "(LFilmCans$Day;)Z" } : Jvm.MethodName)) ∈ wAll := wAll_of (List.mem_of_getElem? (i := 8) (by decide +kernel)) (by decide +kernel)
set_option maxRecDepth 20000 in
theorem w_9 : (Jvm.Cond.selects "FilmCans$Tape" ({ cls := "FilmCans$Tape", name := "readTakes", desc := "(LFilmCans$Day;)Z" } : Jvm.MethodName) ({ cls := "FilmCans$Tape", name := "readTakes", desc := "(LFilmCans$Day;)Z" } : Jvm.MethodName)) ∈ wAll := wAll_of (List.mem_of_getElem? (i := 9) (by decide +kernel)) (by decide +kernel)
set_option maxRecDepth 20000 in
theorem w_10 : (Jvm.Cond.selects "FilmCans$Tape" ({ cls := "FilmCans$Tape", name := "readTake", desc := "(LFilmCans$Day;)Z" } : Jvm.MethodName) ({ cls := "FilmCans$Tape", name := "readTake", desc := "(LFilmCans$Day;)Z" } : Jvm.MethodName)) ∈ wAll := wAll_of (List.mem_of_getElem? (i := 10) (by decide +kernel)) (by decide +kernel)
set_option maxRecDepth 20000 in
theorem w_11 : (Jvm.Cond.selects "FilmCans$Laboratory" ({ cls := "FilmCans$Laboratory", name := "firstWithRoom", desc := "(LFilmCans$Day;II)I" } : Jvm.MethodName) ({ cls := "FilmCans$Laboratory", name := "firstWithRoom", desc := "(LFilmCans$Day;II)I" } : Jvm.MethodName)) ∈ wAll := wAll_of (List.mem_of_getElem? (i := 11) (by decide +kernel)) (by decide +kernel)
set_option maxRecDepth 20000 in
theorem w_12 : (Jvm.Cond.selects "FilmCans" ({ cls := "FilmCans", name := "hasNoBook", desc := "()Z" } : Jvm.MethodName) ({ cls := "FilmCans", name := "hasNoBook", desc := "()Z" } : Jvm.MethodName)) ∈ wAll := wAll_of (List.mem_of_getElem? (i := 12) (by decide +kernel)) (by decide +kernel)
set_option maxRecDepth 20000 in
theorem w_13 : (Jvm.Cond.selects "FilmCans$Laboratory" ({ cls := "FilmCans$Laboratory", name := "sumUp", desc := "(LFilmCans$Day;)V" } : Jvm.MethodName) ({ cls := "FilmCans$Laboratory", name := "sumUp", desc := "(LFilmCans$Day;)V" } : Jvm.MethodName)) ∈ wAll := wAll_of (List.mem_of_getElem? (i := 13) (by decide +kernel)) (by decide +kernel)
set_option maxRecDepth 20000 in
theorem w_14 : (Jvm.Cond.selects "FilmCans$Laboratory" ({ cls := "FilmCans$Laboratory", name := "reversalRolls", desc := "(LFilmCans$Day;)I" } : Jvm.MethodName) ({ cls := "FilmCans$Laboratory", name := "reversalRolls", desc := "(LFilmCans$Day;)I" } : Jvm.MethodName)) ∈ wAll := wAll_of (List.mem_of_getElem? (i := 14) (by decide +kernel)) (by decide +kernel)
set_option maxRecDepth 20000 in
theorem w_15 : (Jvm.Cond.selects "FilmCans$Laboratory" ({ cls := "FilmCans$Laboratory", name := "leastOf", desc := "(III)I" } : Jvm.MethodName) ({ cls := "FilmCans$Laboratory", name := "leastOf", desc := "(III)I" } : Jvm.MethodName)) ∈ wAll := wAll_of (List.mem_of_getElem? (i := 15) (by decide +kernel)) (by decide +kernel)
set_option maxRecDepth 20000 in
theorem w_16 : (Jvm.Cond.selects "FilmCans$Rooms" ({ cls := "FilmCans$Rooms", name := "lookAtCan", desc := "(LFilmCans$Day;I)V" } : Jvm.MethodName) ({ cls := "FilmCans$Rooms", name := "lookAtCan", desc := "(LFilmCans$Day;I)V" } : Jvm.MethodName)) ∈ wAll := wAll_of (List.mem_of_getElem? (i := 16) (by decide +kernel)) (by decide +kernel)
set_option maxRecDepth 20000 in
theorem w_17 : (Jvm.Cond.selects "FilmCans$Rooms" ({ cls := "FilmCans$Rooms", name := "isOpen", desc := "(I)Z" } : Jvm.MethodName) ({ cls := "FilmCans$Rooms", name := "isOpen", desc := "(I)Z" } : Jvm.MethodName)) ∈ wAll := wAll_of (List.mem_of_getElem? (i := 17) (by decide +kernel)) (by decide +kernel)
set_option maxRecDepth 20000 in
theorem w_18 : (Jvm.Cond.selects "FilmCans$Rooms" ({ cls := "FilmCans$Rooms", name := "measure", desc := "()V" } : Jvm.MethodName) ({ cls := "FilmCans$Rooms", name := "measure", desc := "()V" } : Jvm.MethodName)) ∈ wAll := wAll_of (List.mem_of_getElem? (i := 18) (by decide +kernel)) (by decide +kernel)
set_option maxRecDepth 20000 in
theorem w_19 : (Jvm.Cond.selects "FilmCans$Rooms" ({ cls := "FilmCans$Rooms", name := "measureEnds", desc := "(I)V" } : Jvm.MethodName) ({ cls := "FilmCans$Rooms", name := "measureEnds", desc := "(I)V" } : Jvm.MethodName)) ∈ wAll := wAll_of (List.mem_of_getElem? (i := 19) (by decide +kernel)) (by decide +kernel)
set_option maxRecDepth 20000 in
theorem w_20 : (Jvm.Cond.selects "FilmCans" ({ cls := "FilmCans", name := "placeBest", desc := "()Z" } : Jvm.MethodName) ({ cls := "FilmCans", name := "placeBest", desc := "()Z" } : Jvm.MethodName)) ∈ wAll := wAll_of (List.mem_of_getElem? (i := 20) (by decide +kernel)) (by decide +kernel)
set_option maxRecDepth 20000 in
theorem w_21 : (Jvm.Cond.selects "FilmCans$Best" ({ cls := "FilmCans$Best", name := nm_best3, desc := "(LFilmCans$Rooms;II)V" } : Jvm.MethodName) ({ cls := "FilmCans$Best", name := nm_best3, desc := "(LFilmCans$Rooms;II)V" } : Jvm.MethodName)) ∈ wAll := wAll_of (List.mem_of_getElem? (i := 21) (by decide +kernel)) (by decide +kernel)
set_option maxRecDepth 20000 in
theorem w_22 : (Jvm.Cond.selects "FilmCans$Best" ({ cls := "FilmCans$Best", name := "spread", desc := "(IIII)V" } : Jvm.MethodName) ({ cls := "FilmCans$Best", name := "spread", desc := "(IIII)V" } : Jvm.MethodName)) ∈ wAll := wAll_of (List.mem_of_getElem? (i := 22) (by decide +kernel)) (by decide +kernel)
set_option maxRecDepth 20000 in
theorem w_23 : (Jvm.Cond.selects "FilmCans$Best" ({ cls := "FilmCans$Best", name := "choose", desc := "(LFilmCans$Rooms;)Z" } : Jvm.MethodName) ({ cls := "FilmCans$Best", name := "choose", desc := "(LFilmCans$Rooms;)Z" } : Jvm.MethodName)) ∈ wAll := wAll_of (List.mem_of_getElem? (i := 23) (by decide +kernel)) (by decide +kernel)
set_option maxRecDepth 20000 in
theorem w_24 : (Jvm.Cond.selects "FilmCans$Best" ({ cls := "FilmCans$Best", name := "cheapestSet", desc := "(LFilmCans$Rooms;II)I" } : Jvm.MethodName) ({ cls := "FilmCans$Best", name := "cheapestSet", desc := "(LFilmCans$Rooms;II)I" } : Jvm.MethodName)) ∈ wAll := wAll_of (List.mem_of_getElem? (i := 24) (by decide +kernel)) (by decide +kernel)
set_option maxRecDepth 20000 in
theorem w_25 : (Jvm.Cond.selects "FilmCans" ({ cls := "FilmCans", name := "wholeAnswer", desc := "(ZI)I" } : Jvm.MethodName) ({ cls := "FilmCans", name := "wholeAnswer", desc := "(ZI)I" } : Jvm.MethodName)) ∈ wAll := wAll_of (List.mem_of_getElem? (i := 25) (by decide +kernel)) (by decide +kernel)
set_option maxRecDepth 20000 in
theorem w_26 : (Jvm.Cond.selects "FilmCans" ({ cls := "FilmCans", name := "placeByRule", desc := "(I)Z" } : Jvm.MethodName) ({ cls := "FilmCans", name := "placeByRule", desc := "(I)Z" } : Jvm.MethodName)) ∈ wAll := wAll_of (List.mem_of_getElem? (i := 26) (by decide +kernel)) (by decide +kernel)
set_option maxRecDepth 20000 in
theorem w_27 : (Jvm.Cond.selects "FilmCans$Rooms" ({ cls := "FilmCans$Rooms", name := "tightestFor", desc := "(I)I" } : Jvm.MethodName) ({ cls := "FilmCans$Rooms", name := "tightestFor", desc := "(I)I" } : Jvm.MethodName)) ∈ wAll := wAll_of (List.mem_of_getElem? (i := 27) (by decide +kernel)) (by decide +kernel)
set_option maxRecDepth 20000 in
theorem w_28 : (Jvm.Cond.selects "FilmCans$Rooms" ({ cls := "FilmCans$Rooms", name := "firstFor", desc := "(I)I" } : Jvm.MethodName) ({ cls := "FilmCans$Rooms", name := "firstFor", desc := "(I)I" } : Jvm.MethodName)) ∈ wAll := wAll_of (List.mem_of_getElem? (i := 28) (by decide +kernel)) (by decide +kernel)
set_option maxRecDepth 20000 in
theorem w_29 : (Jvm.Cond.selects "FilmCans" ({ cls := "FilmCans", name := "lookAhead", desc := "()V" } : Jvm.MethodName) ({ cls := "FilmCans", name := "lookAhead", desc := "()V" } : Jvm.MethodName)) ∈ wAll := wAll_of (List.mem_of_getElem? (i := 29) (by decide +kernel)) (by decide +kernel)
set_option maxRecDepth 20000 in
theorem w_30 : (Jvm.Cond.selects "FilmCans$Reach" ({ cls := "FilmCans$Reach", name := "holdersOf", desc := "(LFilmCans$Rooms;I)I" } : Jvm.MethodName) ({ cls := "FilmCans$Reach", name := "holdersOf", desc := "(LFilmCans$Rooms;I)I" } : Jvm.MethodName)) ∈ wAll := wAll_of (List.mem_of_getElem? (i := 30) (by decide +kernel)) (by decide +kernel)
set_option maxRecDepth 20000 in
theorem w_31 : (Jvm.Cond.selects "FilmCans$Reach" ({ cls := "FilmCans$Reach", name := "roomSetsFor", desc := "(I)J" } : Jvm.MethodName) ({ cls := "FilmCans$Reach", name := "roomSetsFor", desc := "(I)J" } : Jvm.MethodName)) ∈ wAll := wAll_of (List.mem_of_getElem? (i := 31) (by decide +kernel)) (by decide +kernel)
set_option maxRecDepth 20000 in
theorem w_32 : (Jvm.Cond.selects "FilmCans$Reach" ({ cls := "FilmCans$Reach", name := "withOneMore", desc := "(JI)J" } : Jvm.MethodName) ({ cls := "FilmCans$Reach", name := "withOneMore", desc := "(JI)J" } : Jvm.MethodName)) ∈ wAll := wAll_of (List.mem_of_getElem? (i := 32) (by decide +kernel)) (by decide +kernel)
set_option maxRecDepth 20000 in
theorem w_33 : (Jvm.Cond.selects "FilmCans$Reach" ({ cls := "FilmCans$Reach", name := "longestOn", desc := "(IIILFilmCans$Rooms;)I" } : Jvm.MethodName) ({ cls := "FilmCans$Reach", name := "longestOn", desc := "(IIILFilmCans$Rooms;)I" } : Jvm.MethodName)) ∈ wAll := wAll_of (List.mem_of_getElem? (i := 33) (by decide +kernel)) (by decide +kernel)
set_option maxRecDepth 20000 in
theorem w_34 : (Jvm.Cond.selects "FilmCans$Reach" ({ cls := "FilmCans$Reach", name := "isPlaced", desc := "(II)Z" } : Jvm.MethodName) ({ cls := "FilmCans$Reach", name := "isPlaced", desc := "(II)Z" } : Jvm.MethodName)) ∈ wAll := wAll_of (List.mem_of_getElem? (i := 34) (by decide +kernel)) (by decide +kernel)
set_option maxRecDepth 20000 in
theorem w_35 : (Jvm.Cond.selects "FilmCansModel" ({ cls := "FilmCansModel", name := "next", desc := "()V" } : Jvm.MethodName) ({ cls := "FilmCansModel", name := "next", desc := "()V" } : Jvm.MethodName)) ∈ wAll := wAll_of (List.mem_of_getElem? (i := 35) (by decide +kernel)) (by decide +kernel)
set_option maxRecDepth 20000 in
theorem w_36 : (Jvm.Cond.selects "FilmCansModel" ({ cls := "FilmCansModel", name := "byteAt", desc := "(I)I" } : Jvm.MethodName) ({ cls := "FilmCansModel", name := "byteAt", desc := "(I)I" } : Jvm.MethodName)) ∈ wAll := wAll_of (List.mem_of_getElem? (i := 36) (by decide +kernel)) (by decide +kernel)
set_option maxRecDepth 20000 in
theorem w_37 : (Jvm.Cond.selects "FilmCansModel" ({ cls := "FilmCansModel", name := "letter", desc := "(I)V" } : Jvm.MethodName) ({ cls := "FilmCansModel", name := "letter", desc := "(I)V" } : Jvm.MethodName)) ∈ wAll := wAll_of (List.mem_of_getElem? (i := 37) (by decide +kernel)) (by decide +kernel)
set_option maxRecDepth 20000 in
theorem w_38 : (Jvm.Cond.selects "FilmCansModel" ({ cls := "FilmCansModel", name := "bad", desc := "(I)V" } : Jvm.MethodName) ({ cls := "FilmCansModel", name := "bad", desc := "(I)V" } : Jvm.MethodName)) ∈ wAll := wAll_of (List.mem_of_getElem? (i := 38) (by decide +kernel)) (by decide +kernel)
set_option maxRecDepth 20000 in
theorem w_39 : (Jvm.Cond.selects "FilmCansModel" ({ cls := "FilmCansModel", name := "goesOn", desc := "()V" } : Jvm.MethodName) ({ cls := "FilmCansModel", name := "goesOn", desc := "()V" } : Jvm.MethodName)) ∈ wAll := wAll_of (List.mem_of_getElem? (i := 39) (by decide +kernel)) (by decide +kernel)
set_option maxRecDepth 20000 in
theorem w_40 : (Jvm.Cond.selects "FilmCansModel" ({ cls := "FilmCansModel", name := "number", desc := "(II)I" } : Jvm.MethodName) ({ cls := "FilmCansModel", name := "number", desc := "(II)I" } : Jvm.MethodName)) ∈ wAll := wAll_of (List.mem_of_getElem? (i := 40) (by decide +kernel)) (by decide +kernel)
set_option maxRecDepth 20000 in
theorem w_41 : (Jvm.Cond.selects "FilmCansModel" ({ cls := "FilmCansModel", name := "sign", desc := "(I)V" } : Jvm.MethodName) ({ cls := "FilmCansModel", name := "sign", desc := "(I)V" } : Jvm.MethodName)) ∈ wAll := wAll_of (List.mem_of_getElem? (i := 41) (by decide +kernel)) (by decide +kernel)
set_option maxRecDepth 20000 in
theorem w_42 : (Jvm.Cond.selects "FilmCansModel" ({ cls := "FilmCansModel", name := "isCanTold", desc := "()Z" } : Jvm.MethodName) ({ cls := "FilmCansModel", name := "isCanTold", desc := "()Z" } : Jvm.MethodName)) ∈ wAll := wAll_of (List.mem_of_getElem? (i := 42) (by decide +kernel)) (by decide +kernel)
set_option maxRecDepth 20000 in
theorem w_43 : (Jvm.Cond.selects "FilmCansModel" ({ cls := "FilmCansModel", name := "readsCan", desc := "()V" } : Jvm.MethodName) ({ cls := "FilmCansModel", name := "readsCan", desc := "()V" } : Jvm.MethodName)) ∈ wAll := wAll_of (List.mem_of_getElem? (i := 43) (by decide +kernel)) (by decide +kernel)
set_option maxRecDepth 20000 in
theorem w_44 : (Jvm.Cond.selects "FilmCansModel" ({ cls := "FilmCansModel", name := "readsTake", desc := "()V" } : Jvm.MethodName) ({ cls := "FilmCansModel", name := "readsTake", desc := "()V" } : Jvm.MethodName)) ∈ wAll := wAll_of (List.mem_of_getElem? (i := 44) (by decide +kernel)) (by decide +kernel)
set_option maxRecDepth 20000 in
theorem w_45 : (Jvm.Cond.selects "FilmCansModel" ({ cls := "FilmCansModel", name := "isCan", desc := "(I)Z" } : Jvm.MethodName) ({ cls := "FilmCansModel", name := "isCan", desc := "(I)Z" } : Jvm.MethodName)) ∈ wAll := wAll_of (List.mem_of_getElem? (i := 45) (by decide +kernel)) (by decide +kernel)
set_option maxRecDepth 20000 in
theorem w_46 : (Jvm.Cond.selects "FilmCansModel" ({ cls := "FilmCansModel", name := "notes", desc := "()V" } : Jvm.MethodName) ({ cls := "FilmCansModel", name := "notes", desc := "()V" } : Jvm.MethodName)) ∈ wAll := wAll_of (List.mem_of_getElem? (i := 46) (by decide +kernel)) (by decide +kernel)
set_option maxRecDepth 20000 in
theorem w_47 : (Jvm.Cond.selects "FilmCansModel" ({ cls := "FilmCansModel", name := "isTake", desc := "(I)Z" } : Jvm.MethodName) ({ cls := "FilmCansModel", name := "isTake", desc := "(I)Z" } : Jvm.MethodName)) ∈ wAll := wAll_of (List.mem_of_getElem? (i := 47) (by decide +kernel)) (by decide +kernel)
set_option maxRecDepth 20000 in
theorem w_48 : (Jvm.Cond.selects "FilmCansModel" ({ cls := "FilmCansModel", name := "batched", desc := "()I" } : Jvm.MethodName) ({ cls := "FilmCansModel", name := "batched", desc := "()I" } : Jvm.MethodName)) ∈ wAll := wAll_of (List.mem_of_getElem? (i := 48) (by decide +kernel)) (by decide +kernel)
set_option maxRecDepth 20000 in
theorem w_49 : (Jvm.Cond.selects "FilmCansModel" ({ cls := "FilmCansModel", name := "waiting", desc := "()I" } : Jvm.MethodName) ({ cls := "FilmCansModel", name := "waiting", desc := "()I" } : Jvm.MethodName)) ∈ wAll := wAll_of (List.mem_of_getElem? (i := 49) (by decide +kernel)) (by decide +kernel)
set_option maxRecDepth 20000 in
theorem w_50 : (Jvm.Cond.selects "FilmCansModel" ({ cls := "FilmCansModel", name := "isBook", desc := "()Z" } : Jvm.MethodName) ({ cls := "FilmCansModel", name := "isBook", desc := "()Z" } : Jvm.MethodName)) ∈ wAll := wAll_of (List.mem_of_getElem? (i := 50) (by decide +kernel)) (by decide +kernel)
set_option maxRecDepth 20000 in
theorem w_51 : (Jvm.Cond.selects "FilmCansModel" ({ cls := "FilmCansModel", name := "shotOn", desc := "(I)I" } : Jvm.MethodName) ({ cls := "FilmCansModel", name := "shotOn", desc := "(I)I" } : Jvm.MethodName)) ∈ wAll := wAll_of (List.mem_of_getElem? (i := 51) (by decide +kernel)) (by decide +kernel)
set_option maxRecDepth 20000 in
theorem w_52 : (Jvm.Cond.selects "FilmCansModel" ({ cls := "FilmCansModel", name := "serving", desc := "(I)I" } : Jvm.MethodName) ({ cls := "FilmCansModel", name := "serving", desc := "(I)I" } : Jvm.MethodName)) ∈ wAll := wAll_of (List.mem_of_getElem? (i := 52) (by decide +kernel)) (by decide +kernel)
set_option maxRecDepth 20000 in
theorem w_53 : (Jvm.Cond.selects "FilmCansModel" ({ cls := "FilmCansModel", name := "onShelf", desc := "()I" } : Jvm.MethodName) ({ cls := "FilmCansModel", name := "onShelf", desc := "()I" } : Jvm.MethodName)) ∈ wAll := wAll_of (List.mem_of_getElem? (i := 53) (by decide +kernel)) (by decide +kernel)
set_option maxRecDepth 20000 in
theorem w_54 : (Jvm.Cond.selects "FilmCansModel" ({ cls := "FilmCansModel", name := "fewest", desc := "()I" } : Jvm.MethodName) ({ cls := "FilmCansModel", name := "fewest", desc := "()I" } : Jvm.MethodName)) ∈ wAll := wAll_of (List.mem_of_getElem? (i := 54) (by decide +kernel)) (by decide +kernel)
set_option maxRecDepth 20000 in
theorem w_55 : (Jvm.Cond.selects "FilmCansModel" ({ cls := "FilmCansModel", name := "isBatch", desc := "(I)Z" } : Jvm.MethodName) ({ cls := "FilmCansModel", name := "isBatch", desc := "(I)Z" } : Jvm.MethodName)) ∈ wAll := wAll_of (List.mem_of_getElem? (i := 55) (by decide +kernel)) (by decide +kernel)
set_option maxRecDepth 20000 in
theorem w_56 : (Jvm.Cond.selects "FilmCansModel" ({ cls := "FilmCansModel", name := "best", desc := "([I)Z" } : Jvm.MethodName) ({ cls := "FilmCansModel", name := "best", desc := "([I)Z" } : Jvm.MethodName)) ∈ wAll := wAll_of (List.mem_of_getElem? (i := 56) (by decide +kernel)) (by decide +kernel)
set_option maxRecDepth 20000 in
theorem w_57 : (Jvm.Cond.selects "FilmCansModel" ({ cls := "FilmCansModel", name := "canBePlaced", desc := "([II)Z" } : Jvm.MethodName) ({ cls := "FilmCansModel", name := "canBePlaced", desc := "([II)Z" } : Jvm.MethodName)) ∈ wAll := wAll_of (List.mem_of_getElem? (i := 57) (by decide +kernel)) (by decide +kernel)
set_option maxRecDepth 20000 in
theorem w_58 : (Jvm.Cond.selects "FilmCansModel" ({ cls := "FilmCansModel", name := "plans", desc := "([III)V" } : Jvm.MethodName) ({ cls := "FilmCansModel", name := "plans", desc := "([III)V" } : Jvm.MethodName)) ∈ wAll := wAll_of (List.mem_of_getElem? (i := 58) (by decide +kernel)) (by decide +kernel)
set_option maxRecDepth 20000 in
theorem w_59 : (Jvm.Cond.selects "FilmCansModel" ({ cls := "FilmCansModel", name := "weighs", desc := "([IIIZ)V" } : Jvm.MethodName) ({ cls := "FilmCansModel", name := "weighs", desc := "([IIIZ)V" } : Jvm.MethodName)) ∈ wAll := wAll_of (List.mem_of_getElem? (i := 59) (by decide +kernel)) (by decide +kernel)
set_option maxRecDepth 20000 in
theorem w_60 : (Jvm.Cond.selects "FilmCansModel" ({ cls := "FilmCansModel", name := "leastAt", desc := "([III)I" } : Jvm.MethodName) ({ cls := "FilmCansModel", name := "leastAt", desc := "([III)I" } : Jvm.MethodName)) ∈ wAll := wAll_of (List.mem_of_getElem? (i := 60) (by decide +kernel)) (by decide +kernel)
set_option maxRecDepth 20000 in
theorem w_61 : (Jvm.Cond.selects "FilmCansModel" ({ cls := "FilmCansModel", name := "lossOfPlan", desc := "()I" } : Jvm.MethodName) ({ cls := "FilmCansModel", name := "lossOfPlan", desc := "()I" } : Jvm.MethodName)) ∈ wAll := wAll_of (List.mem_of_getElem? (i := 61) (by decide +kernel)) (by decide +kernel)
set_option maxRecDepth 20000 in
theorem w_62 : (Jvm.Cond.selects "FilmCansModel" ({ cls := "FilmCansModel", name := "roomsOfPlan", desc := "()I" } : Jvm.MethodName) ({ cls := "FilmCansModel", name := "roomsOfPlan", desc := "()I" } : Jvm.MethodName)) ∈ wAll := wAll_of (List.mem_of_getElem? (i := 62) (by decide +kernel)) (by decide +kernel)
set_option maxRecDepth 20000 in
theorem w_63 : (Jvm.Cond.selects "FilmCansModel" ({ cls := "FilmCansModel", name := "puts", desc := "(I)Z" } : Jvm.MethodName) ({ cls := "FilmCansModel", name := "puts", desc := "(I)Z" } : Jvm.MethodName)) ∈ wAll := wAll_of (List.mem_of_getElem? (i := 63) (by decide +kernel)) (by decide +kernel)
set_option maxRecDepth 20000 in
theorem w_64 : (Jvm.Cond.selects "FilmCansModel" ({ cls := "FilmCansModel", name := "roomFor", desc := "(II)I" } : Jvm.MethodName) ({ cls := "FilmCansModel", name := "roomFor", desc := "(II)I" } : Jvm.MethodName)) ∈ wAll := wAll_of (List.mem_of_getElem? (i := 64) (by decide +kernel)) (by decide +kernel)
set_option maxRecDepth 20000 in
theorem w_66 : (Jvm.Cond.initialized "FilmCans") ∈ wAll := wAll_of (List.mem_of_getElem? (i := 66) (by decide +kernel)) (by decide +kernel)
set_option maxRecDepth 20000 in
theorem w_67 : (Jvm.Cond.initialized "FilmCans$Tape") ∈ wAll := wAll_of (List.mem_of_getElem? (i := 67) (by decide +kernel)) (by decide +kernel)
set_option maxRecDepth 20000 in
theorem w_68 : (Jvm.Cond.initialized "FilmCans$Day") ∈ wAll := wAll_of (List.mem_of_getElem? (i := 68) (by decide +kernel)) (by decide +kernel)
set_option maxRecDepth 20000 in
theorem w_69 : (Jvm.Cond.initialized "FilmCans$History") ∈ wAll := wAll_of (List.mem_of_getElem? (i := 69) (by decide +kernel)) (by decide +kernel)
set_option maxRecDepth 20000 in
theorem w_70 : (Jvm.Cond.initialized "FilmCans$Laboratory") ∈ wAll := wAll_of (List.mem_of_getElem? (i := 70) (by decide +kernel)) (by decide +kernel)
set_option maxRecDepth 20000 in
theorem w_71 : (Jvm.Cond.initialized "FilmCans$Rooms") ∈ wAll := wAll_of (List.mem_of_getElem? (i := 71) (by decide +kernel)) (by decide +kernel)
set_option maxRecDepth 20000 in
theorem w_72 : (Jvm.Cond.initialized "FilmCans$Best") ∈ wAll := wAll_of (List.mem_of_getElem? (i := 72) (by decide +kernel)) (by decide +kernel)
set_option maxRecDepth 20000 in
theorem w_73 : (Jvm.Cond.initialized "FilmCans$Reach") ∈ wAll := wAll_of (List.mem_of_getElem? (i := 73) (by decide +kernel)) (by decide +kernel)
set_option maxRecDepth 20000 in
theorem w_74 : (Jvm.Cond.initialized "FilmCansModel") ∈ wAll := wAll_of (List.mem_of_getElem? (i := 74) (by decide +kernel)) (by decide +kernel)
set_option maxRecDepth 20000 in
theorem w_75 : (Jvm.Cond.initialized "FilmCans$Kinds") ∈ wAll := wAll_of (List.mem_of_getElem? (i := 75) (by decide +kernel)) (by decide +kernel)
set_option maxRecDepth 20000 in
theorem w_76 : (Jvm.Cond.initialized "java/lang/System") ∈ wAll := wAll_of (List.mem_of_getElem? (i := 76) (by decide +kernel)) (by decide +kernel)
set_option maxRecDepth 20000 in
theorem w_77 : (Jvm.Cond.initialized "java/lang/Math") ∈ wAll := wAll_of (List.mem_of_getElem? (i := 77) (by decide +kernel)) (by decide +kernel)
set_option maxRecDepth 20000 in
theorem w_78 : (Jvm.Cond.initialized "java/util/Arrays") ∈ wAll := wAll_of (List.mem_of_getElem? (i := 78) (by decide +kernel)) (by decide +kernel)
set_option maxRecDepth 20000 in
theorem w_79 : (Jvm.Cond.initialized "java/lang/Integer") ∈ wAll := wAll_of (List.mem_of_getElem? (i := 79) (by decide +kernel)) (by decide +kernel)
set_option maxRecDepth 20000 in
theorem w_94 : (Jvm.Cond.fieldLink "FilmCans$Tape" (9 : Nat) "FilmCans$Tape" "bytes" "[I") ∈ wAll := wAll_of (List.mem_of_getElem? (i := 94) (by decide +kernel)) (by decide +kernel)
set_option maxRecDepth 20000 in
theorem w_95 : (Jvm.Cond.fieldLink "FilmCans$Tape" (15 : Nat) "FilmCans$Tape" "length" "I") ∈ wAll := wAll_of (List.mem_of_getElem? (i := 95) (by decide +kernel)) (by decide +kernel)
set_option maxRecDepth 20000 in
theorem w_96 : (Jvm.Cond.fieldLink "FilmCans" (70 : Nat) "FilmCans$Tape" "length" "I") ∈ wAll := wAll_of (List.mem_of_getElem? (i := 96) (by decide +kernel)) (by decide +kernel)
set_option maxRecDepth 20000 in
theorem w_97 : (Jvm.Cond.fieldLink "FilmCans$Tape" (19 : Nat) "FilmCans$Tape" "place" "I") ∈ wAll := wAll_of (List.mem_of_getElem? (i := 97) (by decide +kernel)) (by decide +kernel)
set_option maxRecDepth 20000 in
theorem w_98 : (Jvm.Cond.fieldLink "FilmCans" (80 : Nat) "FilmCans$Tape" "place" "I") ∈ wAll := wAll_of (List.mem_of_getElem? (i := 98) (by decide +kernel)) (by decide +kernel)
set_option maxRecDepth 20000 in
theorem w_99 : (Jvm.Cond.fieldLink "FilmCans" (93 : Nat) "FilmCans$Tape" "fault" "I") ∈ wAll := wAll_of (List.mem_of_getElem? (i := 99) (by decide +kernel)) (by decide +kernel)
set_option maxRecDepth 20000 in
theorem w_100 : (Jvm.Cond.fieldLink "FilmCans$Tape" (92 : Nat) "FilmCans$Tape" "fault" "I") ∈ wAll := wAll_of (List.mem_of_getElem? (i := 100) (by decide +kernel)) (by decide +kernel)
set_option maxRecDepth 20000 in
theorem w_117 : (Jvm.Cond.constant "FilmCans$Day" (9 : Nat) (-1000000 : Int32)) ∈ wAll := wAll_of (List.mem_of_getElem? (i := 117) (by decide +kernel)) (by decide +kernel)
set_option maxRecDepth 20000 in
theorem w_118 : (Jvm.Cond.fieldLink "FilmCans$Day" (50 : Nat) "FilmCans$Day" "cans" "I") ∈ wAll := wAll_of (List.mem_of_getElem? (i := 118) (by decide +kernel)) (by decide +kernel)
set_option maxRecDepth 20000 in
theorem w_119 : (Jvm.Cond.fieldLink "FilmCans" (90 : Nat) "FilmCans$Day" "cans" "I") ∈ wAll := wAll_of (List.mem_of_getElem? (i := 119) (by decide +kernel)) (by decide +kernel)
set_option maxRecDepth 20000 in
theorem w_120 : (Jvm.Cond.fieldLink "FilmCans$Tape" (68 : Nat) "FilmCans$Day" "cans" "I") ∈ wAll := wAll_of (List.mem_of_getElem? (i := 120) (by decide +kernel)) (by decide +kernel)
set_option maxRecDepth 20000 in
theorem w_121 : (Jvm.Cond.fieldLink "FilmCans$Day" (53 : Nat) "FilmCans$Day" "takes" "I") ∈ wAll := wAll_of (List.mem_of_getElem? (i := 121) (by decide +kernel)) (by decide +kernel)
set_option maxRecDepth 20000 in
theorem w_122 : (Jvm.Cond.fieldLink "FilmCans$Tape" (80 : Nat) "FilmCans$Day" "takes" "I") ∈ wAll := wAll_of (List.mem_of_getElem? (i := 122) (by decide +kernel)) (by decide +kernel)
set_option maxRecDepth 20000 in
theorem w_123 : (Jvm.Cond.fieldLink "FilmCans" (195 : Nat) "FilmCans$Day" "takes" "I") ∈ wAll := wAll_of (List.mem_of_getElem? (i := 123) (by decide +kernel)) (by decide +kernel)
set_option maxRecDepth 20000 in
theorem w_124 : (Jvm.Cond.fieldLink "FilmCans$Laboratory" (24 : Nat) "FilmCans$Day" "rolls" "I") ∈ wAll := wAll_of (List.mem_of_getElem? (i := 124) (by decide +kernel)) (by decide +kernel)
set_option maxRecDepth 20000 in
theorem w_125 : (Jvm.Cond.fieldLink "FilmCans$Day" (56 : Nat) "FilmCans$Day" "rolls" "I") ∈ wAll := wAll_of (List.mem_of_getElem? (i := 125) (by decide +kernel)) (by decide +kernel)
set_option maxRecDepth 20000 in
theorem w_126 : (Jvm.Cond.fieldLink "FilmCans" (156 : Nat) "FilmCans$Day" "rolls" "I") ∈ wAll := wAll_of (List.mem_of_getElem? (i := 126) (by decide +kernel)) (by decide +kernel)
set_option maxRecDepth 20000 in
theorem w_127 : (Jvm.Cond.fieldLink "FilmCans$Day" (10 : Nat) "FilmCans$Day" "camera" "I") ∈ wAll := wAll_of (List.mem_of_getElem? (i := 127) (by decide +kernel)) (by decide +kernel)
set_option maxRecDepth 20000 in
theorem w_128 : (Jvm.Cond.fieldLink "FilmCans$Rooms" (87 : Nat) "FilmCans$Day" "camera" "I") ∈ wAll := wAll_of (List.mem_of_getElem? (i := 128) (by decide +kernel)) (by decide +kernel)
set_option maxRecDepth 20000 in
theorem w_129 : (Jvm.Cond.fieldLink "FilmCans" (106 : Nat) "FilmCans$Day" "camera" "I") ∈ wAll := wAll_of (List.mem_of_getElem? (i := 129) (by decide +kernel)) (by decide +kernel)
set_option maxRecDepth 20000 in
theorem w_130 : (Jvm.Cond.fieldLink "FilmCans$Day" (59 : Nat) "FilmCans$Day" "cameraRoll" "I") ∈ wAll := wAll_of (List.mem_of_getElem? (i := 130) (by decide +kernel)) (by decide +kernel)
set_option maxRecDepth 20000 in
theorem w_131 : (Jvm.Cond.fieldLink "FilmCans" (153 : Nat) "FilmCans$Day" "cameraRoll" "I") ∈ wAll := wAll_of (List.mem_of_getElem? (i := 131) (by decide +kernel)) (by decide +kernel)
set_option maxRecDepth 20000 in
theorem w_132 : (Jvm.Cond.fieldLink "FilmCans$Day" (62 : Nat) "FilmCans$Day" "bought" "I") ∈ wAll := wAll_of (List.mem_of_getElem? (i := 132) (by decide +kernel)) (by decide +kernel)
set_option maxRecDepth 20000 in
theorem w_133 : (Jvm.Cond.fieldLink "FilmCans" (234 : Nat) "FilmCans$Day" "bought" "I") ∈ wAll := wAll_of (List.mem_of_getElem? (i := 133) (by decide +kernel)) (by decide +kernel)
set_option maxRecDepth 20000 in
theorem w_134 : (Jvm.Cond.fieldLink "FilmCans$Day" (65 : Nat) "FilmCans$Day" "exposed" "I") ∈ wAll := wAll_of (List.mem_of_getElem? (i := 134) (by decide +kernel)) (by decide +kernel)
set_option maxRecDepth 20000 in
theorem w_135 : (Jvm.Cond.fieldLink "FilmCans" (241 : Nat) "FilmCans$Day" "exposed" "I") ∈ wAll := wAll_of (List.mem_of_getElem? (i := 135) (by decide +kernel)) (by decide +kernel)
set_option maxRecDepth 20000 in
theorem w_136 : (Jvm.Cond.fieldLink "FilmCans$Day" (68 : Nat) "FilmCans$Day" "waste" "I") ∈ wAll := wAll_of (List.mem_of_getElem? (i := 136) (by decide +kernel)) (by decide +kernel)
set_option maxRecDepth 20000 in
theorem w_137 : (Jvm.Cond.fieldLink "FilmCans" (244 : Nat) "FilmCans$Day" "waste" "I") ∈ wAll := wAll_of (List.mem_of_getElem? (i := 137) (by decide +kernel)) (by decide +kernel)
set_option maxRecDepth 20000 in
theorem w_138 : (Jvm.Cond.fieldLink "FilmCans$Day" (71 : Nat) "FilmCans$Day" "paid" "I") ∈ wAll := wAll_of (List.mem_of_getElem? (i := 138) (by decide +kernel)) (by decide +kernel)
set_option maxRecDepth 20000 in
theorem w_139 : (Jvm.Cond.fieldLink "FilmCans" (250 : Nat) "FilmCans$Day" "paid" "I") ∈ wAll := wAll_of (List.mem_of_getElem? (i := 139) (by decide +kernel)) (by decide +kernel)
set_option maxRecDepth 20000 in
theorem w_140 : (Jvm.Cond.fieldLink "FilmCans$Day" (16 : Nat) "FilmCans$Day" "laws" "[I") ∈ wAll := wAll_of (List.mem_of_getElem? (i := 140) (by decide +kernel)) (by decide +kernel)
set_option maxRecDepth 20000 in
theorem w_141 : (Jvm.Cond.fieldLink "FilmCans$Rooms" (75 : Nat) "FilmCans$Day" "laws" "[I") ∈ wAll := wAll_of (List.mem_of_getElem? (i := 141) (by decide +kernel)) (by decide +kernel)
set_option maxRecDepth 20000 in
theorem w_142 : (Jvm.Cond.fieldLink "FilmCans$Laboratory" (40 : Nat) "FilmCans$Day" "laws" "[I") ∈ wAll := wAll_of (List.mem_of_getElem? (i := 142) (by decide +kernel)) (by decide +kernel)
set_option maxRecDepth 20000 in
theorem w_143 : (Jvm.Cond.fieldLink "FilmCans$Tape" (52 : Nat) "FilmCans$Day" "laws" "[I") ∈ wAll := wAll_of (List.mem_of_getElem? (i := 143) (by decide +kernel)) (by decide +kernel)
set_option maxRecDepth 20000 in
theorem w_144 : (Jvm.Cond.fieldLink "FilmCans" (210 : Nat) "FilmCans$Day" "laws" "[I") ∈ wAll := wAll_of (List.mem_of_getElem? (i := 144) (by decide +kernel)) (by decide +kernel)
set_option maxRecDepth 20000 in
theorem w_145 : (Jvm.Cond.fieldLink "FilmCans$Day" (20 : Nat) "FilmCans$Day" "canKind" "[I") ∈ wAll := wAll_of (List.mem_of_getElem? (i := 145) (by decide +kernel)) (by decide +kernel)
set_option maxRecDepth 20000 in
theorem w_146 : (Jvm.Cond.fieldLink "FilmCans$Rooms" (72 : Nat) "FilmCans$Day" "canKind" "[I") ∈ wAll := wAll_of (List.mem_of_getElem? (i := 146) (by decide +kernel)) (by decide +kernel)
set_option maxRecDepth 20000 in
theorem w_147 : (Jvm.Cond.fieldLink "FilmCans" (141 : Nat) "FilmCans$Day" "canKind" "[I") ∈ wAll := wAll_of (List.mem_of_getElem? (i := 147) (by decide +kernel)) (by decide +kernel)
set_option maxRecDepth 20000 in
theorem w_148 : (Jvm.Cond.fieldLink "FilmCans$Day" (23 : Nat) "FilmCans$Day" "canFeet" "[I") ∈ wAll := wAll_of (List.mem_of_getElem? (i := 148) (by decide +kernel)) (by decide +kernel)
set_option maxRecDepth 20000 in
theorem w_149 : (Jvm.Cond.fieldLink "FilmCans$Rooms" (84 : Nat) "FilmCans$Day" "canFeet" "[I") ∈ wAll := wAll_of (List.mem_of_getElem? (i := 149) (by decide +kernel)) (by decide +kernel)
set_option maxRecDepth 20000 in
theorem w_150 : (Jvm.Cond.fieldLink "FilmCans" (114 : Nat) "FilmCans$Day" "canFeet" "[I") ∈ wAll := wAll_of (List.mem_of_getElem? (i := 150) (by decide +kernel)) (by decide +kernel)
set_option maxRecDepth 20000 in
theorem w_151 : (Jvm.Cond.fieldLink "FilmCans$Day" (26 : Nat) "FilmCans$Day" "canPlace" "[I") ∈ wAll := wAll_of (List.mem_of_getElem? (i := 151) (by decide +kernel)) (by decide +kernel)
set_option maxRecDepth 20000 in
theorem w_152 : (Jvm.Cond.fieldLink "FilmCans" (110 : Nat) "FilmCans$Day" "canPlace" "[I") ∈ wAll := wAll_of (List.mem_of_getElem? (i := 152) (by decide +kernel)) (by decide +kernel)
set_option maxRecDepth 20000 in
theorem w_153 : (Jvm.Cond.fieldLink "FilmCans$Day" (29 : Nat) "FilmCans$Day" "canShort" "[I") ∈ wAll := wAll_of (List.mem_of_getElem? (i := 153) (by decide +kernel)) (by decide +kernel)
set_option maxRecDepth 20000 in
theorem w_154 : (Jvm.Cond.fieldLink "FilmCans" (213 : Nat) "FilmCans$Day" "canShort" "[I") ∈ wAll := wAll_of (List.mem_of_getElem? (i := 154) (by decide +kernel)) (by decide +kernel)
set_option maxRecDepth 20000 in
theorem w_155 : (Jvm.Cond.fieldLink "FilmCans$Day" (32 : Nat) "FilmCans$Day" "takeKind" "[I") ∈ wAll := wAll_of (List.mem_of_getElem? (i := 155) (by decide +kernel)) (by decide +kernel)
set_option maxRecDepth 20000 in
theorem w_156 : (Jvm.Cond.fieldLink "FilmCans" (201 : Nat) "FilmCans$Day" "takeKind" "[I") ∈ wAll := wAll_of (List.mem_of_getElem? (i := 156) (by decide +kernel)) (by decide +kernel)
set_option maxRecDepth 20000 in
theorem w_157 : (Jvm.Cond.fieldLink "FilmCans$Day" (35 : Nat) "FilmCans$Day" "takeFeet" "[I") ∈ wAll := wAll_of (List.mem_of_getElem? (i := 157) (by decide +kernel)) (by decide +kernel)
set_option maxRecDepth 20000 in
theorem w_158 : (Jvm.Cond.fieldLink "FilmCans$Rooms" (65 : Nat) "FilmCans$Day" "takeFeet" "[I") ∈ wAll := wAll_of (List.mem_of_getElem? (i := 158) (by decide +kernel)) (by decide +kernel)
set_option maxRecDepth 20000 in
theorem w_159 : (Jvm.Cond.fieldLink "FilmCans" (138 : Nat) "FilmCans$Day" "takeFeet" "[I") ∈ wAll := wAll_of (List.mem_of_getElem? (i := 159) (by decide +kernel)) (by decide +kernel)
set_option maxRecDepth 20000 in
theorem w_160 : (Jvm.Cond.fieldLink "FilmCans$Day" (38 : Nat) "FilmCans$Day" "takeCan" "[I") ∈ wAll := wAll_of (List.mem_of_getElem? (i := 160) (by decide +kernel)) (by decide +kernel)
set_option maxRecDepth 20000 in
theorem w_161 : (Jvm.Cond.fieldLink "FilmCans" (169 : Nat) "FilmCans$Day" "takeCan" "[I") ∈ wAll := wAll_of (List.mem_of_getElem? (i := 161) (by decide +kernel)) (by decide +kernel)
set_option maxRecDepth 20000 in
theorem w_162 : (Jvm.Cond.fieldLink "FilmCans$Day" (41 : Nat) "FilmCans$Day" "rollCan" "[I") ∈ wAll := wAll_of (List.mem_of_getElem? (i := 162) (by decide +kernel)) (by decide +kernel)
set_option maxRecDepth 20000 in
theorem w_163 : (Jvm.Cond.fieldLink "FilmCans" (225 : Nat) "FilmCans$Day" "rollCan" "[I") ∈ wAll := wAll_of (List.mem_of_getElem? (i := 163) (by decide +kernel)) (by decide +kernel)
set_option maxRecDepth 20000 in
theorem w_164 : (Jvm.Cond.fieldLink "FilmCans$Day" (44 : Nat) "FilmCans$Day" "rollFeet" "[I") ∈ wAll := wAll_of (List.mem_of_getElem? (i := 164) (by decide +kernel)) (by decide +kernel)
set_option maxRecDepth 20000 in
theorem w_165 : (Jvm.Cond.fieldLink "FilmCans$Laboratory" (37 : Nat) "FilmCans$Day" "rollFeet" "[I") ∈ wAll := wAll_of (List.mem_of_getElem? (i := 165) (by decide +kernel)) (by decide +kernel)
set_option maxRecDepth 20000 in
theorem w_166 : (Jvm.Cond.fieldLink "FilmCans" (228 : Nat) "FilmCans$Day" "rollFeet" "[I") ∈ wAll := wAll_of (List.mem_of_getElem? (i := 166) (by decide +kernel)) (by decide +kernel)
set_option maxRecDepth 20000 in
theorem w_167 : (Jvm.Cond.fieldLink "FilmCans$Day" (47 : Nat) "FilmCans$Day" "rollFamily" "[I") ∈ wAll := wAll_of (List.mem_of_getElem? (i := 167) (by decide +kernel)) (by decide +kernel)
set_option maxRecDepth 20000 in
theorem w_168 : (Jvm.Cond.fieldLink "FilmCans$Laboratory" (34 : Nat) "FilmCans$Day" "rollFamily" "[I") ∈ wAll := wAll_of (List.mem_of_getElem? (i := 168) (by decide +kernel)) (by decide +kernel)
set_option maxRecDepth 20000 in
theorem w_169 : (Jvm.Cond.fieldLink "FilmCans" (231 : Nat) "FilmCans$Day" "rollFamily" "[I") ∈ wAll := wAll_of (List.mem_of_getElem? (i := 169) (by decide +kernel)) (by decide +kernel)
set_option maxRecDepth 20000 in
theorem w_220 : (Jvm.Cond.fieldLink "FilmCans$History" (11 : Nat) "FilmCans$History" "ring" "[LFilmCans$Day;") ∈ wAll := wAll_of (List.mem_of_getElem? (i := 220) (by decide +kernel)) (by decide +kernel)
set_option maxRecDepth 20000 in
theorem w_221 : (Jvm.Cond.fieldLink "FilmCans$History" (18 : Nat) "FilmCans$History" "next" "I") ∈ wAll := wAll_of (List.mem_of_getElem? (i := 221) (by decide +kernel)) (by decide +kernel)
set_option maxRecDepth 20000 in
theorem w_222 : (Jvm.Cond.fieldLink "FilmCans$History" (26 : Nat) "FilmCans$History" "kept" "I") ∈ wAll := wAll_of (List.mem_of_getElem? (i := 222) (by decide +kernel)) (by decide +kernel)
set_option maxRecDepth 20000 in
theorem w_223 : (Jvm.Cond.fieldLink "FilmCans" (99 : Nat) "FilmCans$History" "kept" "I") ∈ wAll := wAll_of (List.mem_of_getElem? (i := 223) (by decide +kernel)) (by decide +kernel)
set_option maxRecDepth 20000 in
theorem w_237 : (Jvm.Cond.fieldLink "FilmCans$Laboratory" (9 : Nat) "FilmCans$Laboratory" "batchFeet" "[I") ∈ wAll := wAll_of (List.mem_of_getElem? (i := 237) (by decide +kernel)) (by decide +kernel)
set_option maxRecDepth 20000 in
theorem w_238 : (Jvm.Cond.fieldLink "FilmCans$Laboratory" (15 : Nat) "FilmCans$Laboratory" "batchFamily" "[I") ∈ wAll := wAll_of (List.mem_of_getElem? (i := 238) (by decide +kernel)) (by decide +kernel)
set_option maxRecDepth 20000 in
theorem w_239 : (Jvm.Cond.fieldLink "FilmCans$Laboratory" (18 : Nat) "FilmCans$Laboratory" "feetOf" "[I") ∈ wAll := wAll_of (List.mem_of_getElem? (i := 239) (by decide +kernel)) (by decide +kernel)
set_option maxRecDepth 20000 in
theorem w_240 : (Jvm.Cond.fieldLink "FilmCans$Laboratory" (21 : Nat) "FilmCans$Laboratory" "fewest" "[I") ∈ wAll := wAll_of (List.mem_of_getElem? (i := 240) (by decide +kernel)) (by decide +kernel)
set_option maxRecDepth 20000 in
theorem w_258 : (Jvm.Cond.fieldLink "FilmCans$Rooms" (47 : Nat) "FilmCans$Rooms" "there" "I") ∈ wAll := wAll_of (List.mem_of_getElem? (i := 258) (by decide +kernel)) (by decide +kernel)
set_option maxRecDepth 20000 in
theorem w_259 : (Jvm.Cond.fieldLink "FilmCans$Reach" (53 : Nat) "FilmCans$Rooms" "there" "I") ∈ wAll := wAll_of (List.mem_of_getElem? (i := 259) (by decide +kernel)) (by decide +kernel)
set_option maxRecDepth 20000 in
theorem w_260 : (Jvm.Cond.fieldLink "FilmCans" (328 : Nat) "FilmCans$Rooms" "there" "I") ∈ wAll := wAll_of (List.mem_of_getElem? (i := 260) (by decide +kernel)) (by decide +kernel)
set_option maxRecDepth 20000 in
theorem w_261 : (Jvm.Cond.fieldLink "FilmCans$Rooms" (54 : Nat) "FilmCans$Rooms" "open" "I") ∈ wAll := wAll_of (List.mem_of_getElem? (i := 261) (by decide +kernel)) (by decide +kernel)
set_option maxRecDepth 20000 in
theorem w_262 : (Jvm.Cond.fieldLink "FilmCans$Reach" (21 : Nat) "FilmCans$Rooms" "open" "I") ∈ wAll := wAll_of (List.mem_of_getElem? (i := 262) (by decide +kernel)) (by decide +kernel)
set_option maxRecDepth 20000 in
theorem w_263 : (Jvm.Cond.fieldLink "FilmCans$Best" (61 : Nat) "FilmCans$Rooms" "open" "I") ∈ wAll := wAll_of (List.mem_of_getElem? (i := 263) (by decide +kernel)) (by decide +kernel)
set_option maxRecDepth 20000 in
theorem w_264 : (Jvm.Cond.fieldLink "FilmCans$Rooms" (9 : Nat) "FilmCans$Rooms" "feet" "[I") ∈ wAll := wAll_of (List.mem_of_getElem? (i := 264) (by decide +kernel)) (by decide +kernel)
set_option maxRecDepth 20000 in
theorem w_265 : (Jvm.Cond.fieldLink "FilmCans$Rooms" (15 : Nat) "FilmCans$Rooms" "lead" "[I") ∈ wAll := wAll_of (List.mem_of_getElem? (i := 265) (by decide +kernel)) (by decide +kernel)
set_option maxRecDepth 20000 in
theorem w_266 : (Jvm.Cond.fieldLink "FilmCans$Rooms" (18 : Nat) "FilmCans$Rooms" "slate" "[I") ∈ wAll := wAll_of (List.mem_of_getElem? (i := 266) (by decide +kernel)) (by decide +kernel)
set_option maxRecDepth 20000 in
theorem w_267 : (Jvm.Cond.fieldLink "FilmCans$Rooms" (21 : Nat) "FilmCans$Rooms" "keptFrom" "[I") ∈ wAll := wAll_of (List.mem_of_getElem? (i := 267) (by decide +kernel)) (by decide +kernel)
set_option maxRecDepth 20000 in
theorem w_268 : (Jvm.Cond.fieldLink "FilmCans$Rooms" (24 : Nat) "FilmCans$Rooms" "serves" "[I") ∈ wAll := wAll_of (List.mem_of_getElem? (i := 268) (by decide +kernel)) (by decide +kernel)
set_option maxRecDepth 20000 in
theorem w_269 : (Jvm.Cond.fieldLink "FilmCans$Best" (33 : Nat) "FilmCans$Rooms" "serves" "[I") ∈ wAll := wAll_of (List.mem_of_getElem? (i := 269) (by decide +kernel)) (by decide +kernel)
set_option maxRecDepth 20000 in
theorem w_270 : (Jvm.Cond.fieldLink "FilmCans$Rooms" (27 : Nat) "FilmCans$Rooms" "takeFeet" "[I") ∈ wAll := wAll_of (List.mem_of_getElem? (i := 270) (by decide +kernel)) (by decide +kernel)
set_option maxRecDepth 20000 in
theorem w_271 : (Jvm.Cond.fieldLink "FilmCans$Rooms" (30 : Nat) "FilmCans$Rooms" "feetOf" "[I") ∈ wAll := wAll_of (List.mem_of_getElem? (i := 271) (by decide +kernel)) (by decide +kernel)
set_option maxRecDepth 20000 in
theorem w_272 : (Jvm.Cond.fieldLink "FilmCans$Reach" (80 : Nat) "FilmCans$Rooms" "feetOf" "[I") ∈ wAll := wAll_of (List.mem_of_getElem? (i := 272) (by decide +kernel)) (by decide +kernel)
set_option maxRecDepth 20000 in
theorem w_273 : (Jvm.Cond.fieldLink "FilmCans$Rooms" (35 : Nat) "FilmCans$Rooms" "ends" "[[I") ∈ wAll := wAll_of (List.mem_of_getElem? (i := 273) (by decide +kernel)) (by decide +kernel)
set_option maxRecDepth 20000 in
theorem w_274 : (Jvm.Cond.fieldLink "FilmCans$Reach" (76 : Nat) "FilmCans$Rooms" "ends" "[[I") ∈ wAll := wAll_of (List.mem_of_getElem? (i := 274) (by decide +kernel)) (by decide +kernel)
set_option maxRecDepth 20000 in
theorem w_275 : (Jvm.Cond.fieldLink "FilmCans" (271 : Nat) "FilmCans$Rooms" "ends" "[[I") ∈ wAll := wAll_of (List.mem_of_getElem? (i := 275) (by decide +kernel)) (by decide +kernel)
set_option maxRecDepth 20000 in
theorem w_276 : (Jvm.Cond.fieldLink "FilmCans$Rooms" (38 : Nat) "FilmCans$Rooms" "sets" "[I") ∈ wAll := wAll_of (List.mem_of_getElem? (i := 276) (by decide +kernel)) (by decide +kernel)
set_option maxRecDepth 20000 in
theorem w_277 : (Jvm.Cond.fieldLink "FilmCans$Best" (69 : Nat) "FilmCans$Rooms" "sets" "[I") ∈ wAll := wAll_of (List.mem_of_getElem? (i := 277) (by decide +kernel)) (by decide +kernel)
set_option maxRecDepth 20000 in
theorem w_278 : (Jvm.Cond.fieldLink "FilmCans" (285 : Nat) "FilmCans$Rooms" "sets" "[I") ∈ wAll := wAll_of (List.mem_of_getElem? (i := 278) (by decide +kernel)) (by decide +kernel)
set_option maxRecDepth 20000 in
theorem w_309 : (Jvm.Cond.fieldLink "FilmCans$Best" (11 : Nat) "FilmCans$Best" "behind" "[[I") ∈ wAll := wAll_of (List.mem_of_getElem? (i := 309) (by decide +kernel)) (by decide +kernel)
set_option maxRecDepth 20000 in
theorem w_319 : (Jvm.Cond.fieldLink "FilmCans$Reach" (9 : Nat) "FilmCans$Reach" "placed" "[J") ∈ wAll := wAll_of (List.mem_of_getElem? (i := 319) (by decide +kernel)) (by decide +kernel)
set_option maxRecDepth 20000 in
theorem w_320 : (Jvm.Cond.fieldLink "FilmCans$Reach" (15 : Nat) "FilmCans$Reach" "holders" "[I") ∈ wAll := wAll_of (List.mem_of_getElem? (i := 320) (by decide +kernel)) (by decide +kernel)
set_option maxRecDepth 20000 in
theorem w_327 : (Jvm.Cond.fieldLink "FilmCans" (10 : Nat) "FilmCans" "tape" "LFilmCans$Tape;") ∈ wAll := wAll_of (List.mem_of_getElem? (i := 327) (by decide +kernel)) (by decide +kernel)
set_option maxRecDepth 20000 in
theorem w_328 : (Jvm.Cond.fieldLink "FilmCans" (19 : Nat) "FilmCans" "day" "LFilmCans$Day;") ∈ wAll := wAll_of (List.mem_of_getElem? (i := 328) (by decide +kernel)) (by decide +kernel)
set_option maxRecDepth 20000 in
theorem w_329 : (Jvm.Cond.fieldLink "FilmCans" (23 : Nat) "FilmCans" "draft" "LFilmCans$Day;") ∈ wAll := wAll_of (List.mem_of_getElem? (i := 329) (by decide +kernel)) (by decide +kernel)
set_option maxRecDepth 20000 in
theorem w_330 : (Jvm.Cond.fieldLink "FilmCans" (29 : Nat) "FilmCans" "history" "LFilmCans$History;") ∈ wAll := wAll_of (List.mem_of_getElem? (i := 330) (by decide +kernel)) (by decide +kernel)
set_option maxRecDepth 20000 in
theorem w_331 : (Jvm.Cond.fieldLink "FilmCans" (33 : Nat) "FilmCans" "images" "[LFilmCans$Day;") ∈ wAll := wAll_of (List.mem_of_getElem? (i := 331) (by decide +kernel)) (by decide +kernel)
set_option maxRecDepth 20000 in
theorem w_332 : (Jvm.Cond.fieldLink "FilmCans" (40 : Nat) "FilmCans" "laboratory" "LFilmCans$Laboratory;") ∈ wAll := wAll_of (List.mem_of_getElem? (i := 332) (by decide +kernel)) (by decide +kernel)
set_option maxRecDepth 20000 in
theorem w_333 : (Jvm.Cond.fieldLink "FilmCans" (47 : Nat) "FilmCans" "rooms" "LFilmCans$Rooms;") ∈ wAll := wAll_of (List.mem_of_getElem? (i := 333) (by decide +kernel)) (by decide +kernel)
set_option maxRecDepth 20000 in
theorem w_334 : (Jvm.Cond.fieldLink "FilmCans" (54 : Nat) "FilmCans" "best" "LFilmCans$Best;") ∈ wAll := wAll_of (List.mem_of_getElem? (i := 334) (by decide +kernel)) (by decide +kernel)
set_option maxRecDepth 20000 in
theorem w_335 : (Jvm.Cond.fieldLink "FilmCans" (61 : Nat) "FilmCans" "reach" "LFilmCans$Reach;") ∈ wAll := wAll_of (List.mem_of_getElem? (i := 335) (by decide +kernel)) (by decide +kernel)
set_option maxRecDepth 20000 in
theorem w_359 : (Jvm.Cond.constant "FilmCans" (65 : Nat) (-1000001 : Int32)) ∈ wAll := wAll_of (List.mem_of_getElem? (i := 359) (by decide +kernel)) (by decide +kernel)
set_option maxRecDepth 20000 in
theorem w_360 : (Jvm.Cond.methodLink "FilmCans" (66 : Nat) ({ cls := "FilmCans$Tape", name := "append", desc := "(I)Z" } : Jvm.MethodName)) ∈ wAll := wAll_of (List.mem_of_getElem? (i := 360) (by decide +kernel)) (by decide +kernel)
set_option maxRecDepth 20000 in
theorem w_361 : (Jvm.Cond.instanceMethod ({ cls := "FilmCans$Tape", name := "append", desc := "(I)Z" } : Jvm.MethodName)) ∈ wAll := wAll_of (List.mem_of_getElem? (i := 361) (by decide +kernel)) (by decide +kernel)
set_option maxRecDepth 20000 in
theorem w_362 : (Jvm.Cond.selects "FilmCans$Tape" ({ cls := "FilmCans$Tape", name := "append", desc := "(I)Z" } : Jvm.MethodName) ({ cls := "FilmCans$Tape", name := "append", desc := "(I)Z" } : Jvm.MethodName)) ∈ wAll := wAll_of (List.mem_of_getElem? (i := 362) (by decide +kernel)) (by decide +kernel)
set_option maxRecDepth 20000 in
theorem w_363 : (Jvm.Cond.code ({ cls := "FilmCans$Tape", name := "append", desc := "(I)Z" } : Jvm.MethodName) prog_9_method_2_code (2 : Nat) (Option.some Jvm.ClassFile.FieldType.boolean)) ∈ wAll := wAll_of (List.mem_of_getElem? (i := 363) (by decide +kernel)) (by decide +kernel)
set_option maxRecDepth 20000 in
theorem w_364 : (Jvm.Cond.constant "FilmCans" (74 : Nat) (-1000003 : Int32)) ∈ wAll := wAll_of (List.mem_of_getElem? (i := 364) (by decide +kernel)) (by decide +kernel)
set_option maxRecDepth 20000 in
theorem w_369 : (Jvm.Cond.methodLink "FilmCans" (75 : Nat) ({ cls := "FilmCans$Tape", name := "readInto", desc := "(LFilmCans$Day;)Z" } : Jvm.MethodName)) ∈ wAll := wAll_of (List.mem_of_getElem? (i := 369) (by decide +kernel)) (by decide +kernel)
set_option maxRecDepth 20000 in
theorem w_370 : (Jvm.Cond.instanceMethod ({ cls := "FilmCans$Tape", name := "readInto", desc := "(LFilmCans$Day;)Z" } : Jvm.MethodName)) ∈ wAll := wAll_of (List.mem_of_getElem? (i := 370) (by decide +kernel)) (by decide +kernel)
set_option maxRecDepth 20000 in
theorem w_371 : (Jvm.Cond.selects "FilmCans$Tape" ({ cls := "FilmCans$Tape", name := "readInto", desc := "(LFilmCans$Day;)Z" } : Jvm.MethodName) ({ cls := "FilmCans$Tape", name := "readInto", desc := "(LFilmCans$Day;)Z" } : Jvm.MethodName)) ∈ wAll := wAll_of (List.mem_of_getElem? (i := 371) (by decide +kernel)) (by decide +kernel)
set_option maxRecDepth 20000 in
theorem w_372 : (Jvm.Cond.code ({ cls := "FilmCans$Tape", name := "readInto", desc := "(LFilmCans$Day;)Z" } : Jvm.MethodName) prog_9_method_3_code (3 : Nat) (Option.some Jvm.ClassFile.FieldType.boolean)) ∈ wAll := wAll_of (List.mem_of_getElem? (i := 372) (by decide +kernel)) (by decide +kernel)
set_option maxRecDepth 20000 in
theorem w_373 : (Jvm.Cond.methodLink "FilmCans$Tape" (22 : Nat) ({ cls := "FilmCans$Day", name := "clear", desc := "()V" } : Jvm.MethodName)) ∈ wAll := wAll_of (List.mem_of_getElem? (i := 373) (by decide +kernel)) (by decide +kernel)
set_option maxRecDepth 20000 in
theorem w_374 : (Jvm.Cond.instanceMethod ({ cls := "FilmCans$Day", name := "clear", desc := "()V" } : Jvm.MethodName)) ∈ wAll := wAll_of (List.mem_of_getElem? (i := 374) (by decide +kernel)) (by decide +kernel)
set_option maxRecDepth 20000 in
theorem w_375 : (Jvm.Cond.selects "FilmCans$Day" ({ cls := "FilmCans$Day", name := "clear", desc := "()V" } : Jvm.MethodName) ({ cls := "FilmCans$Day", name := "clear", desc := "()V" } : Jvm.MethodName)) ∈ wAll := wAll_of (List.mem_of_getElem? (i := 375) (by decide +kernel)) (by decide +kernel)
set_option maxRecDepth 20000 in
theorem w_376 : (Jvm.Cond.code ({ cls := "FilmCans$Day", name := "clear", desc := "()V" } : Jvm.MethodName) prog_3_method_3_code (1 : Nat) (Option.none : Option Jvm.ClassFile.FieldType)) ∈ wAll := wAll_of (List.mem_of_getElem? (i := 376) (by decide +kernel)) (by decide +kernel)
set_option maxRecDepth 20000 in
theorem w_377 : (Jvm.Cond.methodLink "FilmCans$Tape" (27 : Nat) ({ cls := "FilmCans$Tape", name := "readLaws", desc := "(LFilmCans$Day;)Z" } : Jvm.MethodName)) ∈ wAll := wAll_of (List.mem_of_getElem? (i := 377) (by decide +kernel)) (by decide +kernel)
set_option maxRecDepth 20000 in
theorem w_379 : (Jvm.Cond.instanceMethod ({ cls := "FilmCans$Tape", name := "readLaws", desc := "(LFilmCans$Day;)Z" } : Jvm.MethodName)) ∈ wAll := wAll_of (List.mem_of_getElem? (i := 379) (by decide +kernel)) (by decide +kernel)
set_option maxRecDepth 20000 in
theorem w_380 : (Jvm.Cond.code ({ cls := "FilmCans$Tape", name := "readLaws", desc := "(LFilmCans$Day;)Z" } : Jvm.MethodName) prog_9_method_4_code (4 : Nat) (Option.some Jvm.ClassFile.FieldType.boolean)) ∈ wAll := wAll_of (List.mem_of_getElem? (i := 380) (by decide +kernel)) (by decide +kernel)
set_option maxRecDepth 20000 in
theorem w_381 : (Jvm.Cond.methodLink "FilmCans$Tape" (37 : Nat) ({ cls := "FilmCans$Tape", name := "pass", desc := "(I)Z" } : Jvm.MethodName)) ∈ wAll := wAll_of (List.mem_of_getElem? (i := 381) (by decide +kernel)) (by decide +kernel)
set_option maxRecDepth 20000 in
theorem w_383 : (Jvm.Cond.instanceMethod ({ cls := "FilmCans$Tape", name := "pass", desc := "(I)Z" } : Jvm.MethodName)) ∈ wAll := wAll_of (List.mem_of_getElem? (i := 383) (by decide +kernel)) (by decide +kernel)
set_option maxRecDepth 20000 in
theorem w_384 : (Jvm.Cond.code ({ cls := "FilmCans$Tape", name := "pass", desc := "(I)Z" } : Jvm.MethodName) prog_9_method_11_code (2 : Nat) (Option.some Jvm.ClassFile.FieldType.boolean)) ∈ wAll := wAll_of (List.mem_of_getElem? (i := 384) (by decide +kernel)) (by decide +kernel)
set_option maxRecDepth 20000 in
theorem w_385 : (Jvm.Cond.methodLink "FilmCans$Tape" (55 : Nat) ({ cls := "FilmCans$Tape", name := "next", desc := "()I" } : Jvm.MethodName)) ∈ wAll := wAll_of (List.mem_of_getElem? (i := 385) (by decide +kernel)) (by decide +kernel)
set_option maxRecDepth 20000 in
theorem w_387 : (Jvm.Cond.instanceMethod ({ cls := "FilmCans$Tape", name := "next", desc := "()I" } : Jvm.MethodName)) ∈ wAll := wAll_of (List.mem_of_getElem? (i := 387) (by decide +kernel)) (by decide +kernel)
set_option maxRecDepth 20000 in
theorem w_388 : (Jvm.Cond.code ({ cls := "FilmCans$Tape", name := "next", desc := "()I" } : Jvm.MethodName) prog_9_method_13_code (1 : Nat) (Option.some Jvm.ClassFile.FieldType.int)) ∈ wAll := wAll_of (List.mem_of_getElem? (i := 388) (by decide +kernel)) (by decide +kernel)
set_option maxRecDepth 20000 in
theorem w_389 : (Jvm.Cond.methodLink "FilmCans$Tape" (89 : Nat) ({ cls := "FilmCans$Tape", name := "byteAt", desc := "(I)I" } : Jvm.MethodName)) ∈ wAll := wAll_of (List.mem_of_getElem? (i := 389) (by decide +kernel)) (by decide +kernel)
set_option maxRecDepth 20000 in
theorem w_391 : (Jvm.Cond.instanceMethod ({ cls := "FilmCans$Tape", name := "byteAt", desc := "(I)I" } : Jvm.MethodName)) ∈ wAll := wAll_of (List.mem_of_getElem? (i := 391) (by decide +kernel)) (by decide +kernel)
set_option maxRecDepth 20000 in
theorem w_392 : (Jvm.Cond.code ({ cls := "FilmCans$Tape", name := "byteAt", desc := "(I)I" } : Jvm.MethodName) prog_9_method_14_code (2 : Nat) (Option.some Jvm.ClassFile.FieldType.int)) ∈ wAll := wAll_of (List.mem_of_getElem? (i := 392) (by decide +kernel)) (by decide +kernel)
set_option maxRecDepth 20000 in
theorem w_393 : (Jvm.Cond.constant "FilmCans$Tape" (51 : Nat) (-1000000 : Int32)) ∈ wAll := wAll_of (List.mem_of_getElem? (i := 393) (by decide +kernel)) (by decide +kernel)
set_option maxRecDepth 20000 in
theorem w_394 : (Jvm.Cond.methodLink "FilmCans$Tape" (71 : Nat) ({ cls := "FilmCans$Tape", name := "refuse", desc := "(I)Z" } : Jvm.MethodName)) ∈ wAll := wAll_of (List.mem_of_getElem? (i := 394) (by decide +kernel)) (by decide +kernel)
set_option maxRecDepth 20000 in
theorem w_396 : (Jvm.Cond.instanceMethod ({ cls := "FilmCans$Tape", name := "refuse", desc := "(I)Z" } : Jvm.MethodName)) ∈ wAll := wAll_of (List.mem_of_getElem? (i := 396) (by decide +kernel)) (by decide +kernel)
set_option maxRecDepth 20000 in
theorem w_397 : (Jvm.Cond.code ({ cls := "FilmCans$Tape", name := "refuse", desc := "(I)Z" } : Jvm.MethodName) prog_9_method_12_code (2 : Nat) (Option.some Jvm.ClassFile.FieldType.boolean)) ∈ wAll := wAll_of (List.mem_of_getElem? (i := 397) (by decide +kernel)) (by decide +kernel)
set_option maxRecDepth 20000 in
theorem w_402 : (Jvm.Cond.methodLink "FilmCans$Tape" (47 : Nat) ({ cls := "FilmCans$Tape", name := "readNumber", desc := "(II)I" } : Jvm.MethodName)) ∈ wAll := wAll_of (List.mem_of_getElem? (i := 402) (by decide +kernel)) (by decide +kernel)
set_option maxRecDepth 20000 in
theorem w_404 : (Jvm.Cond.instanceMethod ({ cls := "FilmCans$Tape", name := "readNumber", desc := "(II)I" } : Jvm.MethodName)) ∈ wAll := wAll_of (List.mem_of_getElem? (i := 404) (by decide +kernel)) (by decide +kernel)
set_option maxRecDepth 20000 in
theorem w_405 : (Jvm.Cond.code ({ cls := "FilmCans$Tape", name := "readNumber", desc := "(II)I" } : Jvm.MethodName) prog_9_method_9_code (6 : Nat) (Option.some Jvm.ClassFile.FieldType.int)) ∈ wAll := wAll_of (List.mem_of_getElem? (i := 405) (by decide +kernel)) (by decide +kernel)
set_option maxRecDepth 20000 in
theorem w_406 : (Jvm.Cond.methodLink "FilmCans$Tape" (86 : Nat) ({ cls := "FilmCans$Tape", name := "figuresFrom", desc := "(I)I" } : Jvm.MethodName)) ∈ wAll := wAll_of (List.mem_of_getElem? (i := 406) (by decide +kernel)) (by decide +kernel)
set_option maxRecDepth 20000 in
theorem w_408 : (Jvm.Cond.instanceMethod ({ cls := "FilmCans$Tape", name := "figuresFrom", desc := "(I)I" } : Jvm.MethodName)) ∈ wAll := wAll_of (List.mem_of_getElem? (i := 408) (by decide +kernel)) (by decide +kernel)
set_option maxRecDepth 20000 in
theorem w_409 : (Jvm.Cond.code ({ cls := "FilmCans$Tape", name := "figuresFrom", desc := "(I)I" } : Jvm.MethodName) prog_9_method_10_code (3 : Nat) (Option.some Jvm.ClassFile.FieldType.int)) ∈ wAll := wAll_of (List.mem_of_getElem? (i := 409) (by decide +kernel)) (by decide +kernel)
set_option maxRecDepth 20000 in
theorem w_410 : (Jvm.Cond.methodLink "FilmCans$Tape" (31 : Nat) ({ cls := "FilmCans$Tape", name := "readCans", desc := "(LFilmCans$Day;)Z" } : Jvm.MethodName)) ∈ wAll := wAll_of (List.mem_of_getElem? (i := 410) (by decide +kernel)) (by decide +kernel)
set_option maxRecDepth 20000 in
theorem w_412 : (Jvm.Cond.instanceMethod ({ cls := "FilmCans$Tape", name := "readCans", desc := "(LFilmCans$Day;)Z" } : Jvm.MethodName)) ∈ wAll := wAll_of (List.mem_of_getElem? (i := 412) (by decide +kernel)) (by decide +kernel)
set_option maxRecDepth 20000 in
theorem w_413 : (Jvm.Cond.code ({ cls := "FilmCans$Tape", name := "readCans", desc := "(LFilmCans$Day;)Z" } : Jvm.MethodName) prog_9_method_5_code (3 : Nat) (Option.some Jvm.ClassFile.FieldType.boolean)) ∈ wAll := wAll_of (List.mem_of_getElem? (i := 413) (by decide +kernel)) (by decide +kernel)
set_option maxRecDepth 20000 in
theorem w_414 : (Jvm.Cond.methodLink "FilmCans$Tape" (59 : Nat) ({ cls := "FilmCans$Kinds", name := "ofLetter", desc := "(I)I" } : Jvm.MethodName)) ∈ wAll := wAll_of (List.mem_of_getElem? (i := 414) (by decide +kernel)) (by decide +kernel)
set_option maxRecDepth 20000 in
theorem w_415 : (Jvm.Cond.static ({ cls := "FilmCans$Kinds", name := "ofLetter", desc := "(I)I" } : Jvm.MethodName)) ∈ wAll := wAll_of (List.mem_of_getElem? (i := 415) (by decide +kernel)) (by decide +kernel)
set_option maxRecDepth 20000 in
theorem w_416 : (Jvm.Cond.code ({ cls := "FilmCans$Kinds", name := "ofLetter", desc := "(I)I" } : Jvm.MethodName) prog_5_method_9_code (1 : Nat) (Option.some Jvm.ClassFile.FieldType.int)) ∈ wAll := wAll_of (List.mem_of_getElem? (i := 416) (by decide +kernel)) (by decide +kernel)
set_option maxRecDepth 20000 in
theorem w_417 : (Jvm.Cond.constant "FilmCans$Kinds" (23 : Nat) (-1000000 : Int32)) ∈ wAll := wAll_of (List.mem_of_getElem? (i := 417) (by decide +kernel)) (by decide +kernel)
set_option maxRecDepth 20000 in
theorem w_418 : (Jvm.Cond.methodLink "FilmCans$Tape" (65 : Nat) ({ cls := "FilmCans$Tape", name := "readCan", desc := "(LFilmCans$Day;)Z" } : Jvm.MethodName)) ∈ wAll := wAll_of (List.mem_of_getElem? (i := 418) (by decide +kernel)) (by decide +kernel)
set_option maxRecDepth 20000 in
theorem w_420 : (Jvm.Cond.instanceMethod ({ cls := "FilmCans$Tape", name := "readCan", desc := "(LFilmCans$Day;)Z" } : Jvm.MethodName)) ∈ wAll := wAll_of (List.mem_of_getElem? (i := 420) (by decide +kernel)) (by decide +kernel)
set_option maxRecDepth 20000 in
theorem w_421 : (Jvm.Cond.code ({ cls := "FilmCans$Tape", name := "readCan", desc := "(LFilmCans$Day;)Z" } : Jvm.MethodName) prog_9_method_6_code (4 : Nat) (Option.some Jvm.ClassFile.FieldType.boolean)) ∈ wAll := wAll_of (List.mem_of_getElem? (i := 421) (by decide +kernel)) (by decide +kernel)
set_option maxRecDepth 20000 in
theorem w_422 : (Jvm.Cond.methodLink "FilmCans$Tape" (74 : Nat) ({ cls := "FilmCans$Day", name := "addCan", desc := "(II)I" } : Jvm.MethodName)) ∈ wAll := wAll_of (List.mem_of_getElem? (i := 422) (by decide +kernel)) (by decide +kernel)
set_option maxRecDepth 20000 in
theorem w_423 : (Jvm.Cond.instanceMethod ({ cls := "FilmCans$Day", name := "addCan", desc := "(II)I" } : Jvm.MethodName)) ∈ wAll := wAll_of (List.mem_of_getElem? (i := 423) (by decide +kernel)) (by decide +kernel)
set_option maxRecDepth 20000 in
theorem w_424 : (Jvm.Cond.selects "FilmCans$Day" ({ cls := "FilmCans$Day", name := "addCan", desc := "(II)I" } : Jvm.MethodName) ({ cls := "FilmCans$Day", name := "addCan", desc := "(II)I" } : Jvm.MethodName)) ∈ wAll := wAll_of (List.mem_of_getElem? (i := 424) (by decide +kernel)) (by decide +kernel)
set_option maxRecDepth 20000 in
theorem w_425 : (Jvm.Cond.code ({ cls := "FilmCans$Day", name := "addCan", desc := "(II)I" } : Jvm.MethodName) prog_3_method_19_code (4 : Nat) (Option.some Jvm.ClassFile.FieldType.int)) ∈ wAll := wAll_of (List.mem_of_getElem? (i := 425) (by decide +kernel)) (by decide +kernel)
set_option maxRecDepth 20000 in
theorem w_426 : (Jvm.Cond.methodLink "FilmCans$Tape" (34 : Nat) ({ cls := "FilmCans$Tape", name := "readTakes", desc := "(LFilmCans$Day;)Z" } : Jvm.MethodName)) ∈ wAll := wAll_of (List.mem_of_getElem? (i := 426) (by decide +kernel)) (by decide +kernel)
set_option maxRecDepth 20000 in
theorem w_428 : (Jvm.Cond.instanceMethod ({ cls := "FilmCans$Tape", name := "readTakes", desc := "(LFilmCans$Day;)Z" } : Jvm.MethodName)) ∈ wAll := wAll_of (List.mem_of_getElem? (i := 428) (by decide +kernel)) (by decide +kernel)
set_option maxRecDepth 20000 in
theorem w_429 : (Jvm.Cond.code ({ cls := "FilmCans$Tape", name := "readTakes", desc := "(LFilmCans$Day;)Z" } : Jvm.MethodName) prog_9_method_7_code (3 : Nat) (Option.some Jvm.ClassFile.FieldType.boolean)) ∈ wAll := wAll_of (List.mem_of_getElem? (i := 429) (by decide +kernel)) (by decide +kernel)
set_option maxRecDepth 20000 in
theorem w_430 : (Jvm.Cond.methodLink "FilmCans$Tape" (77 : Nat) ({ cls := "FilmCans$Tape", name := "readTake", desc := "(LFilmCans$Day;)Z" } : Jvm.MethodName)) ∈ wAll := wAll_of (List.mem_of_getElem? (i := 430) (by decide +kernel)) (by decide +kernel)
set_option maxRecDepth 20000 in
theorem w_432 : (Jvm.Cond.instanceMethod ({ cls := "FilmCans$Tape", name := "readTake", desc := "(LFilmCans$Day;)Z" } : Jvm.MethodName)) ∈ wAll := wAll_of (List.mem_of_getElem? (i := 432) (by decide +kernel)) (by decide +kernel)
set_option maxRecDepth 20000 in
theorem w_433 : (Jvm.Cond.code ({ cls := "FilmCans$Tape", name := "readTake", desc := "(LFilmCans$Day;)Z" } : Jvm.MethodName) prog_9_method_8_code (4 : Nat) (Option.some Jvm.ClassFile.FieldType.boolean)) ∈ wAll := wAll_of (List.mem_of_getElem? (i := 433) (by decide +kernel)) (by decide +kernel)
set_option maxRecDepth 20000 in
theorem w_434 : (Jvm.Cond.methodLink "FilmCans$Tape" (83 : Nat) ({ cls := "FilmCans$Day", name := "addTake", desc := "(II)I" } : Jvm.MethodName)) ∈ wAll := wAll_of (List.mem_of_getElem? (i := 434) (by decide +kernel)) (by decide +kernel)
set_option maxRecDepth 20000 in
theorem w_435 : (Jvm.Cond.instanceMethod ({ cls := "FilmCans$Day", name := "addTake", desc := "(II)I" } : Jvm.MethodName)) ∈ wAll := wAll_of (List.mem_of_getElem? (i := 435) (by decide +kernel)) (by decide +kernel)
set_option maxRecDepth 20000 in
theorem w_436 : (Jvm.Cond.selects "FilmCans$Day" ({ cls := "FilmCans$Day", name := "addTake", desc := "(II)I" } : Jvm.MethodName) ({ cls := "FilmCans$Day", name := "addTake", desc := "(II)I" } : Jvm.MethodName)) ∈ wAll := wAll_of (List.mem_of_getElem? (i := 436) (by decide +kernel)) (by decide +kernel)
set_option maxRecDepth 20000 in
theorem w_437 : (Jvm.Cond.code ({ cls := "FilmCans$Day", name := "addTake", desc := "(II)I" } : Jvm.MethodName) prog_3_method_20_code (4 : Nat) (Option.some Jvm.ClassFile.FieldType.int)) ∈ wAll := wAll_of (List.mem_of_getElem? (i := 437) (by decide +kernel)) (by decide +kernel)
set_option maxRecDepth 20000 in
theorem w_438 : (Jvm.Cond.constant "FilmCans" (79 : Nat) (-1000100 : Int32)) ∈ wAll := wAll_of (List.mem_of_getElem? (i := 438) (by decide +kernel)) (by decide +kernel)
set_option maxRecDepth 20000 in
theorem w_439 : (Jvm.Cond.methodLink "FilmCans" (83 : Nat) ({ cls := "FilmCans$Day", name := "copyFrom", desc := "(LFilmCans$Day;)V" } : Jvm.MethodName)) ∈ wAll := wAll_of (List.mem_of_getElem? (i := 439) (by decide +kernel)) (by decide +kernel)
set_option maxRecDepth 20000 in
theorem w_440 : (Jvm.Cond.instanceMethod ({ cls := "FilmCans$Day", name := "copyFrom", desc := "(LFilmCans$Day;)V" } : Jvm.MethodName)) ∈ wAll := wAll_of (List.mem_of_getElem? (i := 440) (by decide +kernel)) (by decide +kernel)
set_option maxRecDepth 20000 in
theorem w_441 : (Jvm.Cond.selects "FilmCans$Day" ({ cls := "FilmCans$Day", name := "copyFrom", desc := "(LFilmCans$Day;)V" } : Jvm.MethodName) ({ cls := "FilmCans$Day", name := "copyFrom", desc := "(LFilmCans$Day;)V" } : Jvm.MethodName)) ∈ wAll := wAll_of (List.mem_of_getElem? (i := 441) (by decide +kernel)) (by decide +kernel)
set_option maxRecDepth 20000 in
theorem w_442 : (Jvm.Cond.code ({ cls := "FilmCans$Day", name := "copyFrom", desc := "(LFilmCans$Day;)V" } : Jvm.MethodName) prog_3_method_4_code (2 : Nat) (Option.none : Option Jvm.ClassFile.FieldType)) ∈ wAll := wAll_of (List.mem_of_getElem? (i := 442) (by decide +kernel)) (by decide +kernel)
set_option maxRecDepth 20000 in
theorem w_443 : (Jvm.Cond.methodLink "FilmCans$Day" (74 : Nat) ({ cls := "java/lang/System", name := "arraycopy", desc := "(Ljava/lang/Object;ILjava/lang/Object;II)V" } : Jvm.MethodName)) ∈ wAll := wAll_of (List.mem_of_getElem? (i := 443) (by decide +kernel)) (by decide +kernel)
set_option maxRecDepth 20000 in
theorem w_444 : (Jvm.Cond.static ({ cls := "java/lang/System", name := "arraycopy", desc := "(Ljava/lang/Object;ILjava/lang/Object;II)V" } : Jvm.MethodName)) ∈ wAll := wAll_of (List.mem_of_getElem? (i := 444) (by decide +kernel)) (by decide +kernel)
set_option maxRecDepth 20000 in
theorem w_445 : (Jvm.Cond.native ({ cls := "java/lang/System", name := "arraycopy", desc := "(Ljava/lang/Object;ILjava/lang/Object;II)V" } : Jvm.MethodName)) ∈ wAll := wAll_of (List.mem_of_getElem? (i := 445) (by decide +kernel)) (by decide +kernel)
set_option maxRecDepth 20000 in
theorem w_446 : (Jvm.Cond.methodLink "FilmCans" (87 : Nat) ({ cls := "FilmCans$History", name := "forget", desc := "()V" } : Jvm.MethodName)) ∈ wAll := wAll_of (List.mem_of_getElem? (i := 446) (by decide +kernel)) (by decide +kernel)
set_option maxRecDepth 20000 in
theorem w_447 : (Jvm.Cond.instanceMethod ({ cls := "FilmCans$History", name := "forget", desc := "()V" } : Jvm.MethodName)) ∈ wAll := wAll_of (List.mem_of_getElem? (i := 447) (by decide +kernel)) (by decide +kernel)
set_option maxRecDepth 20000 in
theorem w_448 : (Jvm.Cond.selects "FilmCans$History" ({ cls := "FilmCans$History", name := "forget", desc := "()V" } : Jvm.MethodName) ({ cls := "FilmCans$History", name := "forget", desc := "()V" } : Jvm.MethodName)) ∈ wAll := wAll_of (List.mem_of_getElem? (i := 448) (by decide +kernel)) (by decide +kernel)
set_option maxRecDepth 20000 in
theorem w_449 : (Jvm.Cond.code ({ cls := "FilmCans$History", name := "forget", desc := "()V" } : Jvm.MethodName) prog_4_method_4_code (1 : Nat) (Option.none : Option Jvm.ClassFile.FieldType)) ∈ wAll := wAll_of (List.mem_of_getElem? (i := 449) (by decide +kernel)) (by decide +kernel)
set_option maxRecDepth 20000 in
theorem w_458 : (Jvm.Cond.methodLink "FilmCans" (96 : Nat) ({ cls := "FilmCans$History", name := "stepBack", desc := "(LFilmCans$Day;)Z" } : Jvm.MethodName)) ∈ wAll := wAll_of (List.mem_of_getElem? (i := 458) (by decide +kernel)) (by decide +kernel)
set_option maxRecDepth 20000 in
theorem w_459 : (Jvm.Cond.instanceMethod ({ cls := "FilmCans$History", name := "stepBack", desc := "(LFilmCans$Day;)Z" } : Jvm.MethodName)) ∈ wAll := wAll_of (List.mem_of_getElem? (i := 459) (by decide +kernel)) (by decide +kernel)
set_option maxRecDepth 20000 in
theorem w_460 : (Jvm.Cond.selects "FilmCans$History" ({ cls := "FilmCans$History", name := "stepBack", desc := "(LFilmCans$Day;)Z" } : Jvm.MethodName) ({ cls := "FilmCans$History", name := "stepBack", desc := "(LFilmCans$Day;)Z" } : Jvm.MethodName)) ∈ wAll := wAll_of (List.mem_of_getElem? (i := 460) (by decide +kernel)) (by decide +kernel)
set_option maxRecDepth 20000 in
theorem w_461 : (Jvm.Cond.code ({ cls := "FilmCans$History", name := "stepBack", desc := "(LFilmCans$Day;)Z" } : Jvm.MethodName) prog_4_method_3_code (2 : Nat) (Option.some Jvm.ClassFile.FieldType.boolean)) ∈ wAll := wAll_of (List.mem_of_getElem? (i := 461) (by decide +kernel)) (by decide +kernel)
set_option maxRecDepth 20000 in
theorem w_462 : (Jvm.Cond.methodLink "FilmCans$History" (22 : Nat) ({ cls := "FilmCans$Day", name := "copyFrom", desc := "(LFilmCans$Day;)V" } : Jvm.MethodName)) ∈ wAll := wAll_of (List.mem_of_getElem? (i := 462) (by decide +kernel)) (by decide +kernel)
set_option maxRecDepth 20000 in
theorem w_463 : (Jvm.Cond.constant "FilmCans" (102 : Nat) (-1000002 : Int32)) ∈ wAll := wAll_of (List.mem_of_getElem? (i := 463) (by decide +kernel)) (by decide +kernel)
set_option maxRecDepth 20000 in
theorem w_468 : (Jvm.Cond.methodLink "FilmCans" (103 : Nat) ({ cls := "FilmCans$Day", name := "hasCan", desc := "(I)Z" } : Jvm.MethodName)) ∈ wAll := wAll_of (List.mem_of_getElem? (i := 468) (by decide +kernel)) (by decide +kernel)
set_option maxRecDepth 20000 in
theorem w_469 : (Jvm.Cond.instanceMethod ({ cls := "FilmCans$Day", name := "hasCan", desc := "(I)Z" } : Jvm.MethodName)) ∈ wAll := wAll_of (List.mem_of_getElem? (i := 469) (by decide +kernel)) (by decide +kernel)
set_option maxRecDepth 20000 in
theorem w_470 : (Jvm.Cond.selects "FilmCans$Day" ({ cls := "FilmCans$Day", name := "hasCan", desc := "(I)Z" } : Jvm.MethodName) ({ cls := "FilmCans$Day", name := "hasCan", desc := "(I)Z" } : Jvm.MethodName)) ∈ wAll := wAll_of (List.mem_of_getElem? (i := 470) (by decide +kernel)) (by decide +kernel)
set_option maxRecDepth 20000 in
theorem w_471 : (Jvm.Cond.code ({ cls := "FilmCans$Day", name := "hasCan", desc := "(I)Z" } : Jvm.MethodName) prog_3_method_5_code (2 : Nat) (Option.some Jvm.ClassFile.FieldType.boolean)) ∈ wAll := wAll_of (List.mem_of_getElem? (i := 471) (by decide +kernel)) (by decide +kernel)
set_option maxRecDepth 20000 in
theorem w_472 : (Jvm.Cond.constant "FilmCans" (109 : Nat) (-1000000 : Int32)) ∈ wAll := wAll_of (List.mem_of_getElem? (i := 472) (by decide +kernel)) (by decide +kernel)
set_option maxRecDepth 20000 in
theorem w_473 : (Jvm.Cond.methodLink "FilmCans" (117 : Nat) ({ cls := "FilmCans$Day", name := "leadOf", desc := "(I)I" } : Jvm.MethodName)) ∈ wAll := wAll_of (List.mem_of_getElem? (i := 473) (by decide +kernel)) (by decide +kernel)
set_option maxRecDepth 20000 in
theorem w_474 : (Jvm.Cond.instanceMethod ({ cls := "FilmCans$Day", name := "leadOf", desc := "(I)I" } : Jvm.MethodName)) ∈ wAll := wAll_of (List.mem_of_getElem? (i := 474) (by decide +kernel)) (by decide +kernel)
set_option maxRecDepth 20000 in
theorem w_475 : (Jvm.Cond.selects "FilmCans$Day" ({ cls := "FilmCans$Day", name := "leadOf", desc := "(I)I" } : Jvm.MethodName) ({ cls := "FilmCans$Day", name := "leadOf", desc := "(I)I" } : Jvm.MethodName)) ∈ wAll := wAll_of (List.mem_of_getElem? (i := 475) (by decide +kernel)) (by decide +kernel)
set_option maxRecDepth 20000 in
theorem w_476 : (Jvm.Cond.code ({ cls := "FilmCans$Day", name := "leadOf", desc := "(I)I" } : Jvm.MethodName) prog_3_method_10_code (2 : Nat) (Option.some Jvm.ClassFile.FieldType.int)) ∈ wAll := wAll_of (List.mem_of_getElem? (i := 476) (by decide +kernel)) (by decide +kernel)
set_option maxRecDepth 20000 in
theorem w_477 : (Jvm.Cond.methodLink "FilmCans$Day" (86 : Nat) ({ cls := "FilmCans$Kinds", name := "leadOf", desc := "(II)I" } : Jvm.MethodName)) ∈ wAll := wAll_of (List.mem_of_getElem? (i := 477) (by decide +kernel)) (by decide +kernel)
set_option maxRecDepth 20000 in
theorem w_478 : (Jvm.Cond.static ({ cls := "FilmCans$Kinds", name := "leadOf", desc := "(II)I" } : Jvm.MethodName)) ∈ wAll := wAll_of (List.mem_of_getElem? (i := 478) (by decide +kernel)) (by decide +kernel)
set_option maxRecDepth 20000 in
theorem w_479 : (Jvm.Cond.code ({ cls := "FilmCans$Kinds", name := "leadOf", desc := "(II)I" } : Jvm.MethodName) prog_5_method_5_code (2 : Nat) (Option.some Jvm.ClassFile.FieldType.int)) ∈ wAll := wAll_of (List.mem_of_getElem? (i := 479) (by decide +kernel)) (by decide +kernel)
set_option maxRecDepth 20000 in
theorem w_480 : (Jvm.Cond.methodLink "FilmCans$Kinds" (19 : Nat) ({ cls := "FilmCans$Kinds", name := "isOf", desc := "(II)Z" } : Jvm.MethodName)) ∈ wAll := wAll_of (List.mem_of_getElem? (i := 480) (by decide +kernel)) (by decide +kernel)
set_option maxRecDepth 20000 in
theorem w_481 : (Jvm.Cond.static ({ cls := "FilmCans$Kinds", name := "isOf", desc := "(II)Z" } : Jvm.MethodName)) ∈ wAll := wAll_of (List.mem_of_getElem? (i := 481) (by decide +kernel)) (by decide +kernel)
set_option maxRecDepth 20000 in
theorem w_482 : (Jvm.Cond.code ({ cls := "FilmCans$Kinds", name := "isOf", desc := "(II)Z" } : Jvm.MethodName) prog_5_method_3_code (2 : Nat) (Option.some Jvm.ClassFile.FieldType.boolean)) ∈ wAll := wAll_of (List.mem_of_getElem? (i := 482) (by decide +kernel)) (by decide +kernel)
set_option maxRecDepth 20000 in
theorem w_483 : (Jvm.Cond.methodLink "FilmCans$Kinds" (15 : Nat) ({ cls := "FilmCans$Kinds", name := "isKind", desc := "(I)Z" } : Jvm.MethodName)) ∈ wAll := wAll_of (List.mem_of_getElem? (i := 483) (by decide +kernel)) (by decide +kernel)
set_option maxRecDepth 20000 in
theorem w_484 : (Jvm.Cond.static ({ cls := "FilmCans$Kinds", name := "isKind", desc := "(I)Z" } : Jvm.MethodName)) ∈ wAll := wAll_of (List.mem_of_getElem? (i := 484) (by decide +kernel)) (by decide +kernel)
set_option maxRecDepth 20000 in
theorem w_485 : (Jvm.Cond.code ({ cls := "FilmCans$Kinds", name := "isKind", desc := "(I)Z" } : Jvm.MethodName) prog_5_method_2_code (1 : Nat) (Option.some Jvm.ClassFile.FieldType.boolean)) ∈ wAll := wAll_of (List.mem_of_getElem? (i := 485) (by decide +kernel)) (by decide +kernel)
set_option maxRecDepth 20000 in
theorem w_486 : (Jvm.Cond.fieldLink "FilmCans$Kinds" (9 : Nat) "FilmCans$Kinds" "IS" "[I") ∈ wAll := wAll_of (List.mem_of_getElem? (i := 486) (by decide +kernel)) (by decide +kernel)
set_option maxRecDepth 20000 in
theorem w_488 : (Jvm.Cond.methodLink "FilmCans" (121 : Nat) ({ cls := "FilmCans$History", name := "keep", desc := "(LFilmCans$Day;)V" } : Jvm.MethodName)) ∈ wAll := wAll_of (List.mem_of_getElem? (i := 488) (by decide +kernel)) (by decide +kernel)
set_option maxRecDepth 20000 in
theorem w_489 : (Jvm.Cond.instanceMethod ({ cls := "FilmCans$History", name := "keep", desc := "(LFilmCans$Day;)V" } : Jvm.MethodName)) ∈ wAll := wAll_of (List.mem_of_getElem? (i := 489) (by decide +kernel)) (by decide +kernel)
set_option maxRecDepth 20000 in
theorem w_490 : (Jvm.Cond.selects "FilmCans$History" ({ cls := "FilmCans$History", name := "keep", desc := "(LFilmCans$Day;)V" } : Jvm.MethodName) ({ cls := "FilmCans$History", name := "keep", desc := "(LFilmCans$Day;)V" } : Jvm.MethodName)) ∈ wAll := wAll_of (List.mem_of_getElem? (i := 490) (by decide +kernel)) (by decide +kernel)
set_option maxRecDepth 20000 in
theorem w_491 : (Jvm.Cond.code ({ cls := "FilmCans$History", name := "keep", desc := "(LFilmCans$Day;)V" } : Jvm.MethodName) prog_4_method_2_code (2 : Nat) (Option.none : Option Jvm.ClassFile.FieldType)) ∈ wAll := wAll_of (List.mem_of_getElem? (i := 491) (by decide +kernel)) (by decide +kernel)
set_option maxRecDepth 20000 in
theorem w_495 : (Jvm.Cond.methodLink "FilmCans" (124 : Nat) ({ cls := "FilmCans$Day", name := "thread", desc := "(I)V" } : Jvm.MethodName)) ∈ wAll := wAll_of (List.mem_of_getElem? (i := 495) (by decide +kernel)) (by decide +kernel)
set_option maxRecDepth 20000 in
theorem w_496 : (Jvm.Cond.instanceMethod ({ cls := "FilmCans$Day", name := "thread", desc := "(I)V" } : Jvm.MethodName)) ∈ wAll := wAll_of (List.mem_of_getElem? (i := 496) (by decide +kernel)) (by decide +kernel)
set_option maxRecDepth 20000 in
theorem w_497 : (Jvm.Cond.selects "FilmCans$Day" ({ cls := "FilmCans$Day", name := "thread", desc := "(I)V" } : Jvm.MethodName) ({ cls := "FilmCans$Day", name := "thread", desc := "(I)V" } : Jvm.MethodName)) ∈ wAll := wAll_of (List.mem_of_getElem? (i := 497) (by decide +kernel)) (by decide +kernel)
set_option maxRecDepth 20000 in
theorem w_498 : (Jvm.Cond.code ({ cls := "FilmCans$Day", name := "thread", desc := "(I)V" } : Jvm.MethodName) prog_3_method_21_code (3 : Nat) (Option.none : Option Jvm.ClassFile.FieldType)) ∈ wAll := wAll_of (List.mem_of_getElem? (i := 498) (by decide +kernel)) (by decide +kernel)
set_option maxRecDepth 20000 in
theorem w_499 : (Jvm.Cond.methodLink "FilmCans$Day" (104 : Nat) ({ cls := "FilmCans$Day", name := "leadOf", desc := "(I)I" } : Jvm.MethodName)) ∈ wAll := wAll_of (List.mem_of_getElem? (i := 499) (by decide +kernel)) (by decide +kernel)
set_option maxRecDepth 20000 in
theorem w_504 : (Jvm.Cond.methodLink "FilmCans" (128 : Nat) ({ cls := "FilmCans$Day", name := "hasTake", desc := "(I)Z" } : Jvm.MethodName)) ∈ wAll := wAll_of (List.mem_of_getElem? (i := 504) (by decide +kernel)) (by decide +kernel)
set_option maxRecDepth 20000 in
theorem w_505 : (Jvm.Cond.instanceMethod ({ cls := "FilmCans$Day", name := "hasTake", desc := "(I)Z" } : Jvm.MethodName)) ∈ wAll := wAll_of (List.mem_of_getElem? (i := 505) (by decide +kernel)) (by decide +kernel)
set_option maxRecDepth 20000 in
theorem w_506 : (Jvm.Cond.selects "FilmCans$Day" ({ cls := "FilmCans$Day", name := "hasTake", desc := "(I)Z" } : Jvm.MethodName) ({ cls := "FilmCans$Day", name := "hasTake", desc := "(I)Z" } : Jvm.MethodName)) ∈ wAll := wAll_of (List.mem_of_getElem? (i := 506) (by decide +kernel)) (by decide +kernel)
set_option maxRecDepth 20000 in
theorem w_507 : (Jvm.Cond.code ({ cls := "FilmCans$Day", name := "hasTake", desc := "(I)Z" } : Jvm.MethodName) prog_3_method_6_code (2 : Nat) (Option.some Jvm.ClassFile.FieldType.boolean)) ∈ wAll := wAll_of (List.mem_of_getElem? (i := 507) (by decide +kernel)) (by decide +kernel)
set_option maxRecDepth 20000 in
theorem w_508 : (Jvm.Cond.methodLink "FilmCans" (131 : Nat) ({ cls := "FilmCans$Day", name := "isOpen", desc := "(I)Z" } : Jvm.MethodName)) ∈ wAll := wAll_of (List.mem_of_getElem? (i := 508) (by decide +kernel)) (by decide +kernel)
set_option maxRecDepth 20000 in
theorem w_509 : (Jvm.Cond.instanceMethod ({ cls := "FilmCans$Day", name := "isOpen", desc := "(I)Z" } : Jvm.MethodName)) ∈ wAll := wAll_of (List.mem_of_getElem? (i := 509) (by decide +kernel)) (by decide +kernel)
set_option maxRecDepth 20000 in
theorem w_510 : (Jvm.Cond.selects "FilmCans$Day" ({ cls := "FilmCans$Day", name := "isOpen", desc := "(I)Z" } : Jvm.MethodName) ({ cls := "FilmCans$Day", name := "isOpen", desc := "(I)Z" } : Jvm.MethodName)) ∈ wAll := wAll_of (List.mem_of_getElem? (i := 510) (by decide +kernel)) (by decide +kernel)
set_option maxRecDepth 20000 in
theorem w_511 : (Jvm.Cond.code ({ cls := "FilmCans$Day", name := "isOpen", desc := "(I)Z" } : Jvm.MethodName) prog_3_method_7_code (2 : Nat) (Option.some Jvm.ClassFile.FieldType.boolean)) ∈ wAll := wAll_of (List.mem_of_getElem? (i := 511) (by decide +kernel)) (by decide +kernel)
set_option maxRecDepth 20000 in
theorem w_512 : (Jvm.Cond.methodLink "FilmCans" (134 : Nat) ({ cls := "FilmCans$Day", name := "serves", desc := "(II)Z" } : Jvm.MethodName)) ∈ wAll := wAll_of (List.mem_of_getElem? (i := 512) (by decide +kernel)) (by decide +kernel)
set_option maxRecDepth 20000 in
theorem w_513 : (Jvm.Cond.instanceMethod ({ cls := "FilmCans$Day", name := "serves", desc := "(II)Z" } : Jvm.MethodName)) ∈ wAll := wAll_of (List.mem_of_getElem? (i := 513) (by decide +kernel)) (by decide +kernel)
set_option maxRecDepth 20000 in
theorem w_514 : (Jvm.Cond.selects "FilmCans$Day" ({ cls := "FilmCans$Day", name := "serves", desc := "(II)Z" } : Jvm.MethodName) ({ cls := "FilmCans$Day", name := "serves", desc := "(II)Z" } : Jvm.MethodName)) ∈ wAll := wAll_of (List.mem_of_getElem? (i := 514) (by decide +kernel)) (by decide +kernel)
set_option maxRecDepth 20000 in
theorem w_515 : (Jvm.Cond.code ({ cls := "FilmCans$Day", name := "serves", desc := "(II)Z" } : Jvm.MethodName) prog_3_method_9_code (3 : Nat) (Option.some Jvm.ClassFile.FieldType.boolean)) ∈ wAll := wAll_of (List.mem_of_getElem? (i := 515) (by decide +kernel)) (by decide +kernel)
set_option maxRecDepth 20000 in
theorem w_516 : (Jvm.Cond.methodLink "FilmCans$Day" (80 : Nat) ({ cls := "FilmCans$Kinds", name := "isOf", desc := "(II)Z" } : Jvm.MethodName)) ∈ wAll := wAll_of (List.mem_of_getElem? (i := 516) (by decide +kernel)) (by decide +kernel)
set_option maxRecDepth 20000 in
theorem w_517 : (Jvm.Cond.methodLink "FilmCans" (144 : Nat) ({ cls := "FilmCans$Kinds", name := "slateOf", desc := "(I)I" } : Jvm.MethodName)) ∈ wAll := wAll_of (List.mem_of_getElem? (i := 517) (by decide +kernel)) (by decide +kernel)
set_option maxRecDepth 20000 in
theorem w_518 : (Jvm.Cond.static ({ cls := "FilmCans$Kinds", name := "slateOf", desc := "(I)I" } : Jvm.MethodName)) ∈ wAll := wAll_of (List.mem_of_getElem? (i := 518) (by decide +kernel)) (by decide +kernel)
set_option maxRecDepth 20000 in
theorem w_519 : (Jvm.Cond.code ({ cls := "FilmCans$Kinds", name := "slateOf", desc := "(I)I" } : Jvm.MethodName) prog_5_method_6_code (1 : Nat) (Option.some Jvm.ClassFile.FieldType.int)) ∈ wAll := wAll_of (List.mem_of_getElem? (i := 519) (by decide +kernel)) (by decide +kernel)
set_option maxRecDepth 20000 in
theorem w_520 : (Jvm.Cond.methodLink "FilmCans" (149 : Nat) ({ cls := "FilmCans$Day", name := "expose", desc := "(II)V" } : Jvm.MethodName)) ∈ wAll := wAll_of (List.mem_of_getElem? (i := 520) (by decide +kernel)) (by decide +kernel)
set_option maxRecDepth 20000 in
theorem w_521 : (Jvm.Cond.instanceMethod ({ cls := "FilmCans$Day", name := "expose", desc := "(II)V" } : Jvm.MethodName)) ∈ wAll := wAll_of (List.mem_of_getElem? (i := 521) (by decide +kernel)) (by decide +kernel)
set_option maxRecDepth 20000 in
theorem w_522 : (Jvm.Cond.selects "FilmCans$Day" ({ cls := "FilmCans$Day", name := "expose", desc := "(II)V" } : Jvm.MethodName) ({ cls := "FilmCans$Day", name := "expose", desc := "(II)V" } : Jvm.MethodName)) ∈ wAll := wAll_of (List.mem_of_getElem? (i := 522) (by decide +kernel)) (by decide +kernel)
set_option maxRecDepth 20000 in
theorem w_523 : (Jvm.Cond.code ({ cls := "FilmCans$Day", name := "expose", desc := "(II)V" } : Jvm.MethodName) prog_3_method_22_code (5 : Nat) (Option.none : Option Jvm.ClassFile.FieldType)) ∈ wAll := wAll_of (List.mem_of_getElem? (i := 523) (by decide +kernel)) (by decide +kernel)
set_option maxRecDepth 20000 in
theorem w_524 : (Jvm.Cond.methodLink "FilmCans$Day" (106 : Nat) ({ cls := "FilmCans$Kinds", name := "slateOf", desc := "(I)I" } : Jvm.MethodName)) ∈ wAll := wAll_of (List.mem_of_getElem? (i := 524) (by decide +kernel)) (by decide +kernel)
set_option maxRecDepth 20000 in
theorem w_529 : (Jvm.Cond.methodLink "FilmCans" (159 : Nat) ({ cls := "FilmCans$Day", name := "takeOut", desc := "(I)V" } : Jvm.MethodName)) ∈ wAll := wAll_of (List.mem_of_getElem? (i := 529) (by decide +kernel)) (by decide +kernel)
set_option maxRecDepth 20000 in
theorem w_530 : (Jvm.Cond.instanceMethod ({ cls := "FilmCans$Day", name := "takeOut", desc := "(I)V" } : Jvm.MethodName)) ∈ wAll := wAll_of (List.mem_of_getElem? (i := 530) (by decide +kernel)) (by decide +kernel)
set_option maxRecDepth 20000 in
theorem w_531 : (Jvm.Cond.selects "FilmCans$Day" ({ cls := "FilmCans$Day", name := "takeOut", desc := "(I)V" } : Jvm.MethodName) ({ cls := "FilmCans$Day", name := "takeOut", desc := "(I)V" } : Jvm.MethodName)) ∈ wAll := wAll_of (List.mem_of_getElem? (i := 531) (by decide +kernel)) (by decide +kernel)
set_option maxRecDepth 20000 in
theorem w_532 : (Jvm.Cond.code ({ cls := "FilmCans$Day", name := "takeOut", desc := "(I)V" } : Jvm.MethodName) prog_3_method_23_code (2 : Nat) (Option.none : Option Jvm.ClassFile.FieldType)) ∈ wAll := wAll_of (List.mem_of_getElem? (i := 532) (by decide +kernel)) (by decide +kernel)
set_option maxRecDepth 20000 in
theorem w_533 : (Jvm.Cond.methodLink "FilmCans$Day" (109 : Nat) ({ cls := "FilmCans$Kinds", name := "familyOf", desc := "(I)I" } : Jvm.MethodName)) ∈ wAll := wAll_of (List.mem_of_getElem? (i := 533) (by decide +kernel)) (by decide +kernel)
set_option maxRecDepth 20000 in
theorem w_534 : (Jvm.Cond.static ({ cls := "FilmCans$Kinds", name := "familyOf", desc := "(I)I" } : Jvm.MethodName)) ∈ wAll := wAll_of (List.mem_of_getElem? (i := 534) (by decide +kernel)) (by decide +kernel)
set_option maxRecDepth 20000 in
theorem w_535 : (Jvm.Cond.code ({ cls := "FilmCans$Kinds", name := "familyOf", desc := "(I)I" } : Jvm.MethodName) prog_5_method_4_code (1 : Nat) (Option.some Jvm.ClassFile.FieldType.int)) ∈ wAll := wAll_of (List.mem_of_getElem? (i := 535) (by decide +kernel)) (by decide +kernel)
set_option maxRecDepth 20000 in
theorem w_536 : (Jvm.Cond.methodLink "FilmCans$Day" (112 : Nat) ({ cls := "FilmCans$Day", name := "leastKeptOf", desc := "(I)I" } : Jvm.MethodName)) ∈ wAll := wAll_of (List.mem_of_getElem? (i := 536) (by decide +kernel)) (by decide +kernel)
set_option maxRecDepth 20000 in
theorem w_537 : (Jvm.Cond.instanceMethod ({ cls := "FilmCans$Day", name := "leastKeptOf", desc := "(I)I" } : Jvm.MethodName)) ∈ wAll := wAll_of (List.mem_of_getElem? (i := 537) (by decide +kernel)) (by decide +kernel)
set_option maxRecDepth 20000 in
theorem w_538 : (Jvm.Cond.selects "FilmCans$Day" ({ cls := "FilmCans$Day", name := "leastKeptOf", desc := "(I)I" } : Jvm.MethodName) ({ cls := "FilmCans$Day", name := "leastKeptOf", desc := "(I)I" } : Jvm.MethodName)) ∈ wAll := wAll_of (List.mem_of_getElem? (i := 538) (by decide +kernel)) (by decide +kernel)
set_option maxRecDepth 20000 in
theorem w_539 : (Jvm.Cond.code ({ cls := "FilmCans$Day", name := "leastKeptOf", desc := "(I)I" } : Jvm.MethodName) prog_3_method_11_code (2 : Nat) (Option.some Jvm.ClassFile.FieldType.int)) ∈ wAll := wAll_of (List.mem_of_getElem? (i := 539) (by decide +kernel)) (by decide +kernel)
set_option maxRecDepth 20000 in
theorem w_540 : (Jvm.Cond.methodLink "FilmCans$Day" (90 : Nat) ({ cls := "FilmCans$Kinds", name := "leastKept", desc := "(II)I" } : Jvm.MethodName)) ∈ wAll := wAll_of (List.mem_of_getElem? (i := 540) (by decide +kernel)) (by decide +kernel)
set_option maxRecDepth 20000 in
theorem w_541 : (Jvm.Cond.static ({ cls := "FilmCans$Kinds", name := "leastKept", desc := "(II)I" } : Jvm.MethodName)) ∈ wAll := wAll_of (List.mem_of_getElem? (i := 541) (by decide +kernel)) (by decide +kernel)
set_option maxRecDepth 20000 in
theorem w_542 : (Jvm.Cond.code ({ cls := "FilmCans$Kinds", name := "leastKept", desc := "(II)I" } : Jvm.MethodName) prog_5_method_7_code (2 : Nat) (Option.some Jvm.ClassFile.FieldType.int)) ∈ wAll := wAll_of (List.mem_of_getElem? (i := 542) (by decide +kernel)) (by decide +kernel)
set_option maxRecDepth 20000 in
theorem w_546 : (Jvm.Cond.methodLink "FilmCans$Day" (115 : Nat) ({ cls := "FilmCans$Kinds", name := "isKept", desc := "(II)Z" } : Jvm.MethodName)) ∈ wAll := wAll_of (List.mem_of_getElem? (i := 546) (by decide +kernel)) (by decide +kernel)
set_option maxRecDepth 20000 in
theorem w_547 : (Jvm.Cond.static ({ cls := "FilmCans$Kinds", name := "isKept", desc := "(II)Z" } : Jvm.MethodName)) ∈ wAll := wAll_of (List.mem_of_getElem? (i := 547) (by decide +kernel)) (by decide +kernel)
set_option maxRecDepth 20000 in
theorem w_548 : (Jvm.Cond.code ({ cls := "FilmCans$Kinds", name := "isKept", desc := "(II)Z" } : Jvm.MethodName) prog_5_method_8_code (2 : Nat) (Option.some Jvm.ClassFile.FieldType.boolean)) ∈ wAll := wAll_of (List.mem_of_getElem? (i := 548) (by decide +kernel)) (by decide +kernel)
set_option maxRecDepth 20000 in
theorem w_553 : (Jvm.Cond.methodLink "FilmCans" (162 : Nat) ({ cls := "FilmCans$Laboratory", name := "byLab", desc := "(LFilmCans$Day;)I" } : Jvm.MethodName)) ∈ wAll := wAll_of (List.mem_of_getElem? (i := 553) (by decide +kernel)) (by decide +kernel)
set_option maxRecDepth 20000 in
theorem w_554 : (Jvm.Cond.instanceMethod ({ cls := "FilmCans$Laboratory", name := "byLab", desc := "(LFilmCans$Day;)I" } : Jvm.MethodName)) ∈ wAll := wAll_of (List.mem_of_getElem? (i := 554) (by decide +kernel)) (by decide +kernel)
set_option maxRecDepth 20000 in
theorem w_555 : (Jvm.Cond.selects "FilmCans$Laboratory" ({ cls := "FilmCans$Laboratory", name := "byLab", desc := "(LFilmCans$Day;)I" } : Jvm.MethodName) ({ cls := "FilmCans$Laboratory", name := "byLab", desc := "(LFilmCans$Day;)I" } : Jvm.MethodName)) ∈ wAll := wAll_of (List.mem_of_getElem? (i := 555) (by decide +kernel)) (by decide +kernel)
set_option maxRecDepth 20000 in
theorem w_556 : (Jvm.Cond.code ({ cls := "FilmCans$Laboratory", name := "byLab", desc := "(LFilmCans$Day;)I" } : Jvm.MethodName) prog_6_method_2_code (5 : Nat) (Option.some Jvm.ClassFile.FieldType.int)) ∈ wAll := wAll_of (List.mem_of_getElem? (i := 556) (by decide +kernel)) (by decide +kernel)
set_option maxRecDepth 20000 in
theorem w_557 : (Jvm.Cond.methodLink "FilmCans$Laboratory" (30 : Nat) ({ cls := "FilmCans$Laboratory", name := "firstWithRoom", desc := "(LFilmCans$Day;II)I" } : Jvm.MethodName)) ∈ wAll := wAll_of (List.mem_of_getElem? (i := 557) (by decide +kernel)) (by decide +kernel)
set_option maxRecDepth 20000 in
theorem w_559 : (Jvm.Cond.instanceMethod ({ cls := "FilmCans$Laboratory", name := "firstWithRoom", desc := "(LFilmCans$Day;II)I" } : Jvm.MethodName)) ∈ wAll := wAll_of (List.mem_of_getElem? (i := 559) (by decide +kernel)) (by decide +kernel)
set_option maxRecDepth 20000 in
theorem w_560 : (Jvm.Cond.code ({ cls := "FilmCans$Laboratory", name := "firstWithRoom", desc := "(LFilmCans$Day;II)I" } : Jvm.MethodName) prog_6_method_3_code (5 : Nat) (Option.some Jvm.ClassFile.FieldType.int)) ∈ wAll := wAll_of (List.mem_of_getElem? (i := 560) (by decide +kernel)) (by decide +kernel)
set_option maxRecDepth 20000 in
theorem w_561 : (Jvm.Cond.methodLink "FilmCans" (166 : Nat) ({ cls := "FilmCans$Day", name := "develop", desc := "(I)V" } : Jvm.MethodName)) ∈ wAll := wAll_of (List.mem_of_getElem? (i := 561) (by decide +kernel)) (by decide +kernel)
set_option maxRecDepth 20000 in
theorem w_562 : (Jvm.Cond.instanceMethod ({ cls := "FilmCans$Day", name := "develop", desc := "(I)V" } : Jvm.MethodName)) ∈ wAll := wAll_of (List.mem_of_getElem? (i := 562) (by decide +kernel)) (by decide +kernel)
set_option maxRecDepth 20000 in
theorem w_563 : (Jvm.Cond.selects "FilmCans$Day" ({ cls := "FilmCans$Day", name := "develop", desc := "(I)V" } : Jvm.MethodName) ({ cls := "FilmCans$Day", name := "develop", desc := "(I)V" } : Jvm.MethodName)) ∈ wAll := wAll_of (List.mem_of_getElem? (i := 563) (by decide +kernel)) (by decide +kernel)
set_option maxRecDepth 20000 in
theorem w_564 : (Jvm.Cond.code ({ cls := "FilmCans$Day", name := "develop", desc := "(I)V" } : Jvm.MethodName) prog_3_method_24_code (2 : Nat) (Option.none : Option Jvm.ClassFile.FieldType)) ∈ wAll := wAll_of (List.mem_of_getElem? (i := 564) (by decide +kernel)) (by decide +kernel)
set_option maxRecDepth 20000 in
theorem w_565 : (Jvm.Cond.methodLink "FilmCans$Day" (118 : Nat) ({ cls := "FilmCans$Day", name := "feetThatWait", desc := "()I" } : Jvm.MethodName)) ∈ wAll := wAll_of (List.mem_of_getElem? (i := 565) (by decide +kernel)) (by decide +kernel)
set_option maxRecDepth 20000 in
theorem w_566 : (Jvm.Cond.instanceMethod ({ cls := "FilmCans$Day", name := "feetThatWait", desc := "()I" } : Jvm.MethodName)) ∈ wAll := wAll_of (List.mem_of_getElem? (i := 566) (by decide +kernel)) (by decide +kernel)
set_option maxRecDepth 20000 in
theorem w_567 : (Jvm.Cond.selects "FilmCans$Day" ({ cls := "FilmCans$Day", name := "feetThatWait", desc := "()I" } : Jvm.MethodName) ({ cls := "FilmCans$Day", name := "feetThatWait", desc := "()I" } : Jvm.MethodName)) ∈ wAll := wAll_of (List.mem_of_getElem? (i := 567) (by decide +kernel)) (by decide +kernel)
set_option maxRecDepth 20000 in
theorem w_568 : (Jvm.Cond.code ({ cls := "FilmCans$Day", name := "feetThatWait", desc := "()I" } : Jvm.MethodName) prog_3_method_18_code (3 : Nat) (Option.some Jvm.ClassFile.FieldType.int)) ∈ wAll := wAll_of (List.mem_of_getElem? (i := 568) (by decide +kernel)) (by decide +kernel)
set_option maxRecDepth 20000 in
theorem w_573 : (Jvm.Cond.methodLink "FilmCans" (172 : Nat) ({ cls := "FilmCans$Day", name := "reopen", desc := "(I)V" } : Jvm.MethodName)) ∈ wAll := wAll_of (List.mem_of_getElem? (i := 573) (by decide +kernel)) (by decide +kernel)
set_option maxRecDepth 20000 in
theorem w_574 : (Jvm.Cond.instanceMethod ({ cls := "FilmCans$Day", name := "reopen", desc := "(I)V" } : Jvm.MethodName)) ∈ wAll := wAll_of (List.mem_of_getElem? (i := 574) (by decide +kernel)) (by decide +kernel)
set_option maxRecDepth 20000 in
theorem w_575 : (Jvm.Cond.selects "FilmCans$Day" ({ cls := "FilmCans$Day", name := "reopen", desc := "(I)V" } : Jvm.MethodName) ({ cls := "FilmCans$Day", name := "reopen", desc := "(I)V" } : Jvm.MethodName)) ∈ wAll := wAll_of (List.mem_of_getElem? (i := 575) (by decide +kernel)) (by decide +kernel)
set_option maxRecDepth 20000 in
theorem w_576 : (Jvm.Cond.code ({ cls := "FilmCans$Day", name := "reopen", desc := "(I)V" } : Jvm.MethodName) prog_3_method_25_code (2 : Nat) (Option.none : Option Jvm.ClassFile.FieldType)) ∈ wAll := wAll_of (List.mem_of_getElem? (i := 576) (by decide +kernel)) (by decide +kernel)
set_option maxRecDepth 20000 in
theorem w_581 : (Jvm.Cond.methodLink "FilmCans" (175 : Nat) ({ cls := "FilmCans", name := "hasNoBook", desc := "()Z" } : Jvm.MethodName)) ∈ wAll := wAll_of (List.mem_of_getElem? (i := 581) (by decide +kernel)) (by decide +kernel)
set_option maxRecDepth 20000 in
theorem w_583 : (Jvm.Cond.instanceMethod ({ cls := "FilmCans", name := "hasNoBook", desc := "()Z" } : Jvm.MethodName)) ∈ wAll := wAll_of (List.mem_of_getElem? (i := 583) (by decide +kernel)) (by decide +kernel)
set_option maxRecDepth 20000 in
theorem w_584 : (Jvm.Cond.code ({ cls := "FilmCans", name := "hasNoBook", desc := "()Z" } : Jvm.MethodName) prog_1_method_35_code (1 : Nat) (Option.some Jvm.ClassFile.FieldType.boolean)) ∈ wAll := wAll_of (List.mem_of_getElem? (i := 584) (by decide +kernel)) (by decide +kernel)
set_option maxRecDepth 20000 in
theorem w_585 : (Jvm.Cond.methodLink "FilmCans" (358 : Nat) ({ cls := "FilmCans$Day", name := "isEmpty", desc := "()Z" } : Jvm.MethodName)) ∈ wAll := wAll_of (List.mem_of_getElem? (i := 585) (by decide +kernel)) (by decide +kernel)
set_option maxRecDepth 20000 in
theorem w_586 : (Jvm.Cond.instanceMethod ({ cls := "FilmCans$Day", name := "isEmpty", desc := "()Z" } : Jvm.MethodName)) ∈ wAll := wAll_of (List.mem_of_getElem? (i := 586) (by decide +kernel)) (by decide +kernel)
set_option maxRecDepth 20000 in
theorem w_587 : (Jvm.Cond.selects "FilmCans$Day" ({ cls := "FilmCans$Day", name := "isEmpty", desc := "()Z" } : Jvm.MethodName) ({ cls := "FilmCans$Day", name := "isEmpty", desc := "()Z" } : Jvm.MethodName)) ∈ wAll := wAll_of (List.mem_of_getElem? (i := 587) (by decide +kernel)) (by decide +kernel)
set_option maxRecDepth 20000 in
theorem w_588 : (Jvm.Cond.code ({ cls := "FilmCans$Day", name := "isEmpty", desc := "()Z" } : Jvm.MethodName) prog_3_method_2_code (1 : Nat) (Option.some Jvm.ClassFile.FieldType.boolean)) ∈ wAll := wAll_of (List.mem_of_getElem? (i := 588) (by decide +kernel)) (by decide +kernel)
set_option maxRecDepth 20000 in
theorem w_589 : (Jvm.Cond.methodLink "FilmCans" (179 : Nat) ({ cls := "FilmCans", name := "isCanKind", desc := "(I)Z" } : Jvm.MethodName)) ∈ wAll := wAll_of (List.mem_of_getElem? (i := 589) (by decide +kernel)) (by decide +kernel)
set_option maxRecDepth 20000 in
theorem w_590 : (Jvm.Cond.static ({ cls := "FilmCans", name := "isCanKind", desc := "(I)Z" } : Jvm.MethodName)) ∈ wAll := wAll_of (List.mem_of_getElem? (i := 590) (by decide +kernel)) (by decide +kernel)
set_option maxRecDepth 20000 in
theorem w_591 : (Jvm.Cond.code ({ cls := "FilmCans", name := "isCanKind", desc := "(I)Z" } : Jvm.MethodName) prog_1_method_36_code (1 : Nat) (Option.some Jvm.ClassFile.FieldType.boolean)) ∈ wAll := wAll_of (List.mem_of_getElem? (i := 591) (by decide +kernel)) (by decide +kernel)
set_option maxRecDepth 20000 in
theorem w_592 : (Jvm.Cond.methodLink "FilmCans" (189 : Nat) ({ cls := "FilmCans$Kinds", name := "isKind", desc := "(I)Z" } : Jvm.MethodName)) ∈ wAll := wAll_of (List.mem_of_getElem? (i := 592) (by decide +kernel)) (by decide +kernel)
set_option maxRecDepth 20000 in
theorem w_593 : (Jvm.Cond.methodLink "FilmCans" (182 : Nat) ({ cls := "FilmCans", name := "isCanFeet", desc := "(I)Z" } : Jvm.MethodName)) ∈ wAll := wAll_of (List.mem_of_getElem? (i := 593) (by decide +kernel)) (by decide +kernel)
set_option maxRecDepth 20000 in
theorem w_594 : (Jvm.Cond.static ({ cls := "FilmCans", name := "isCanFeet", desc := "(I)Z" } : Jvm.MethodName)) ∈ wAll := wAll_of (List.mem_of_getElem? (i := 594) (by decide +kernel)) (by decide +kernel)
set_option maxRecDepth 20000 in
theorem w_595 : (Jvm.Cond.code ({ cls := "FilmCans", name := "isCanFeet", desc := "(I)Z" } : Jvm.MethodName) prog_1_method_37_code (1 : Nat) (Option.some Jvm.ClassFile.FieldType.boolean)) ∈ wAll := wAll_of (List.mem_of_getElem? (i := 595) (by decide +kernel)) (by decide +kernel)
set_option maxRecDepth 20000 in
theorem w_596 : (Jvm.Cond.methodLink "FilmCans" (185 : Nat) ({ cls := "FilmCans$Day", name := "addCan", desc := "(II)I" } : Jvm.MethodName)) ∈ wAll := wAll_of (List.mem_of_getElem? (i := 596) (by decide +kernel)) (by decide +kernel)
set_option maxRecDepth 20000 in
theorem w_601 : (Jvm.Cond.methodLink "FilmCans" (192 : Nat) ({ cls := "FilmCans", name := "isTakeFeet", desc := "(I)Z" } : Jvm.MethodName)) ∈ wAll := wAll_of (List.mem_of_getElem? (i := 601) (by decide +kernel)) (by decide +kernel)
set_option maxRecDepth 20000 in
theorem w_602 : (Jvm.Cond.static ({ cls := "FilmCans", name := "isTakeFeet", desc := "(I)Z" } : Jvm.MethodName)) ∈ wAll := wAll_of (List.mem_of_getElem? (i := 602) (by decide +kernel)) (by decide +kernel)
set_option maxRecDepth 20000 in
theorem w_603 : (Jvm.Cond.code ({ cls := "FilmCans", name := "isTakeFeet", desc := "(I)Z" } : Jvm.MethodName) prog_1_method_38_code (1 : Nat) (Option.some Jvm.ClassFile.FieldType.boolean)) ∈ wAll := wAll_of (List.mem_of_getElem? (i := 603) (by decide +kernel)) (by decide +kernel)
set_option maxRecDepth 20000 in
theorem w_604 : (Jvm.Cond.methodLink "FilmCans" (198 : Nat) ({ cls := "FilmCans$Day", name := "addTake", desc := "(II)I" } : Jvm.MethodName)) ∈ wAll := wAll_of (List.mem_of_getElem? (i := 604) (by decide +kernel)) (by decide +kernel)
set_option maxRecDepth 20000 in
theorem w_617 : (Jvm.Cond.fieldLink "FilmCans" (204 : Nat) "FilmCans" "LAW_LEAST" "[I") ∈ wAll := wAll_of (List.mem_of_getElem? (i := 617) (by decide +kernel)) (by decide +kernel)
set_option maxRecDepth 20000 in
theorem w_618 : (Jvm.Cond.fieldLink "FilmCans" (207 : Nat) "FilmCans" "LAW_MOST" "[I") ∈ wAll := wAll_of (List.mem_of_getElem? (i := 618) (by decide +kernel)) (by decide +kernel)
set_option maxRecDepth 20000 in
theorem w_623 : (Jvm.Cond.methodLink "FilmCans" (216 : Nat) ({ cls := "FilmCans$Day", name := "takesShotOn", desc := "(I)I" } : Jvm.MethodName)) ∈ wAll := wAll_of (List.mem_of_getElem? (i := 623) (by decide +kernel)) (by decide +kernel)
set_option maxRecDepth 20000 in
theorem w_624 : (Jvm.Cond.instanceMethod ({ cls := "FilmCans$Day", name := "takesShotOn", desc := "(I)I" } : Jvm.MethodName)) ∈ wAll := wAll_of (List.mem_of_getElem? (i := 624) (by decide +kernel)) (by decide +kernel)
set_option maxRecDepth 20000 in
theorem w_625 : (Jvm.Cond.selects "FilmCans$Day" ({ cls := "FilmCans$Day", name := "takesShotOn", desc := "(I)I" } : Jvm.MethodName) ({ cls := "FilmCans$Day", name := "takesShotOn", desc := "(I)I" } : Jvm.MethodName)) ∈ wAll := wAll_of (List.mem_of_getElem? (i := 625) (by decide +kernel)) (by decide +kernel)
set_option maxRecDepth 20000 in
theorem w_626 : (Jvm.Cond.code ({ cls := "FilmCans$Day", name := "takesShotOn", desc := "(I)I" } : Jvm.MethodName) prog_3_method_13_code (4 : Nat) (Option.some Jvm.ClassFile.FieldType.int)) ∈ wAll := wAll_of (List.mem_of_getElem? (i := 626) (by decide +kernel)) (by decide +kernel)
set_option maxRecDepth 20000 in
theorem w_627 : (Jvm.Cond.methodLink "FilmCans" (219 : Nat) ({ cls := "FilmCans$Day", name := "leastKeptOf", desc := "(I)I" } : Jvm.MethodName)) ∈ wAll := wAll_of (List.mem_of_getElem? (i := 627) (by decide +kernel)) (by decide +kernel)
set_option maxRecDepth 20000 in
theorem w_632 : (Jvm.Cond.methodLink "FilmCans" (222 : Nat) ({ cls := "FilmCans$Day", name := "cansThatServe", desc := "(I)I" } : Jvm.MethodName)) ∈ wAll := wAll_of (List.mem_of_getElem? (i := 632) (by decide +kernel)) (by decide +kernel)
set_option maxRecDepth 20000 in
theorem w_633 : (Jvm.Cond.instanceMethod ({ cls := "FilmCans$Day", name := "cansThatServe", desc := "(I)I" } : Jvm.MethodName)) ∈ wAll := wAll_of (List.mem_of_getElem? (i := 633) (by decide +kernel)) (by decide +kernel)
set_option maxRecDepth 20000 in
theorem w_634 : (Jvm.Cond.selects "FilmCans$Day" ({ cls := "FilmCans$Day", name := "cansThatServe", desc := "(I)I" } : Jvm.MethodName) ({ cls := "FilmCans$Day", name := "cansThatServe", desc := "(I)I" } : Jvm.MethodName)) ∈ wAll := wAll_of (List.mem_of_getElem? (i := 634) (by decide +kernel)) (by decide +kernel)
set_option maxRecDepth 20000 in
theorem w_635 : (Jvm.Cond.code ({ cls := "FilmCans$Day", name := "cansThatServe", desc := "(I)I" } : Jvm.MethodName) prog_3_method_15_code (4 : Nat) (Option.some Jvm.ClassFile.FieldType.int)) ∈ wAll := wAll_of (List.mem_of_getElem? (i := 635) (by decide +kernel)) (by decide +kernel)
set_option maxRecDepth 20000 in
theorem w_636 : (Jvm.Cond.methodLink "FilmCans$Day" (97 : Nat) ({ cls := "FilmCans$Day", name := "serves", desc := "(II)Z" } : Jvm.MethodName)) ∈ wAll := wAll_of (List.mem_of_getElem? (i := 636) (by decide +kernel)) (by decide +kernel)
set_option maxRecDepth 20000 in
theorem w_645 : (Jvm.Cond.methodLink "FilmCans" (237 : Nat) ({ cls := "FilmCans$Day", name := "feetOnShelf", desc := "()I" } : Jvm.MethodName)) ∈ wAll := wAll_of (List.mem_of_getElem? (i := 645) (by decide +kernel)) (by decide +kernel)
set_option maxRecDepth 20000 in
theorem w_646 : (Jvm.Cond.instanceMethod ({ cls := "FilmCans$Day", name := "feetOnShelf", desc := "()I" } : Jvm.MethodName)) ∈ wAll := wAll_of (List.mem_of_getElem? (i := 646) (by decide +kernel)) (by decide +kernel)
set_option maxRecDepth 20000 in
theorem w_647 : (Jvm.Cond.selects "FilmCans$Day" ({ cls := "FilmCans$Day", name := "feetOnShelf", desc := "()I" } : Jvm.MethodName) ({ cls := "FilmCans$Day", name := "feetOnShelf", desc := "()I" } : Jvm.MethodName)) ∈ wAll := wAll_of (List.mem_of_getElem? (i := 647) (by decide +kernel)) (by decide +kernel)
set_option maxRecDepth 20000 in
theorem w_648 : (Jvm.Cond.code ({ cls := "FilmCans$Day", name := "feetOnShelf", desc := "()I" } : Jvm.MethodName) prog_3_method_17_code (3 : Nat) (Option.some Jvm.ClassFile.FieldType.int)) ∈ wAll := wAll_of (List.mem_of_getElem? (i := 648) (by decide +kernel)) (by decide +kernel)
set_option maxRecDepth 20000 in
theorem w_649 : (Jvm.Cond.methodLink "FilmCans" (247 : Nat) ({ cls := "FilmCans$Day", name := "feetThatWait", desc := "()I" } : Jvm.MethodName)) ∈ wAll := wAll_of (List.mem_of_getElem? (i := 649) (by decide +kernel)) (by decide +kernel)
set_option maxRecDepth 20000 in
theorem w_654 : (Jvm.Cond.methodLink "FilmCans" (253 : Nat) ({ cls := "FilmCans$Laboratory", name := "leastBatches", desc := "(LFilmCans$Day;)I" } : Jvm.MethodName)) ∈ wAll := wAll_of (List.mem_of_getElem? (i := 654) (by decide +kernel)) (by decide +kernel)
set_option maxRecDepth 20000 in
theorem w_655 : (Jvm.Cond.instanceMethod ({ cls := "FilmCans$Laboratory", name := "leastBatches", desc := "(LFilmCans$Day;)I" } : Jvm.MethodName)) ∈ wAll := wAll_of (List.mem_of_getElem? (i := 655) (by decide +kernel)) (by decide +kernel)
set_option maxRecDepth 20000 in
theorem w_656 : (Jvm.Cond.selects "FilmCans$Laboratory" ({ cls := "FilmCans$Laboratory", name := "leastBatches", desc := "(LFilmCans$Day;)I" } : Jvm.MethodName) ({ cls := "FilmCans$Laboratory", name := "leastBatches", desc := "(LFilmCans$Day;)I" } : Jvm.MethodName)) ∈ wAll := wAll_of (List.mem_of_getElem? (i := 656) (by decide +kernel)) (by decide +kernel)
set_option maxRecDepth 20000 in
theorem w_657 : (Jvm.Cond.code ({ cls := "FilmCans$Laboratory", name := "leastBatches", desc := "(LFilmCans$Day;)I" } : Jvm.MethodName) prog_6_method_4_code (5 : Nat) (Option.some Jvm.ClassFile.FieldType.int)) ∈ wAll := wAll_of (List.mem_of_getElem? (i := 657) (by decide +kernel)) (by decide +kernel)
set_option maxRecDepth 20000 in
theorem w_658 : (Jvm.Cond.methodLink "FilmCans$Laboratory" (43 : Nat) ({ cls := "FilmCans$Laboratory", name := "sumUp", desc := "(LFilmCans$Day;)V" } : Jvm.MethodName)) ∈ wAll := wAll_of (List.mem_of_getElem? (i := 658) (by decide +kernel)) (by decide +kernel)
set_option maxRecDepth 20000 in
theorem w_660 : (Jvm.Cond.instanceMethod ({ cls := "FilmCans$Laboratory", name := "sumUp", desc := "(LFilmCans$Day;)V" } : Jvm.MethodName)) ∈ wAll := wAll_of (List.mem_of_getElem? (i := 660) (by decide +kernel)) (by decide +kernel)
set_option maxRecDepth 20000 in
theorem w_661 : (Jvm.Cond.code ({ cls := "FilmCans$Laboratory", name := "sumUp", desc := "(LFilmCans$Day;)V" } : Jvm.MethodName) prog_6_method_6_code (5 : Nat) (Option.none : Option Jvm.ClassFile.FieldType)) ∈ wAll := wAll_of (List.mem_of_getElem? (i := 661) (by decide +kernel)) (by decide +kernel)
set_option maxRecDepth 20000 in
theorem w_662 : (Jvm.Cond.methodLink "FilmCans$Laboratory" (47 : Nat) ({ cls := "FilmCans$Laboratory", name := "reversalRolls", desc := "(LFilmCans$Day;)I" } : Jvm.MethodName)) ∈ wAll := wAll_of (List.mem_of_getElem? (i := 662) (by decide +kernel)) (by decide +kernel)
set_option maxRecDepth 20000 in
theorem w_664 : (Jvm.Cond.instanceMethod ({ cls := "FilmCans$Laboratory", name := "reversalRolls", desc := "(LFilmCans$Day;)I" } : Jvm.MethodName)) ∈ wAll := wAll_of (List.mem_of_getElem? (i := 664) (by decide +kernel)) (by decide +kernel)
set_option maxRecDepth 20000 in
theorem w_665 : (Jvm.Cond.code ({ cls := "FilmCans$Laboratory", name := "reversalRolls", desc := "(LFilmCans$Day;)I" } : Jvm.MethodName) prog_6_method_7_code (4 : Nat) (Option.some Jvm.ClassFile.FieldType.int)) ∈ wAll := wAll_of (List.mem_of_getElem? (i := 665) (by decide +kernel)) (by decide +kernel)
set_option maxRecDepth 20000 in
theorem w_666 : (Jvm.Cond.methodLink "FilmCans$Laboratory" (51 : Nat) ({ cls := "FilmCans$Laboratory", name := "leastOf", desc := "(III)I" } : Jvm.MethodName)) ∈ wAll := wAll_of (List.mem_of_getElem? (i := 666) (by decide +kernel)) (by decide +kernel)
set_option maxRecDepth 20000 in
theorem w_668 : (Jvm.Cond.instanceMethod ({ cls := "FilmCans$Laboratory", name := "leastOf", desc := "(III)I" } : Jvm.MethodName)) ∈ wAll := wAll_of (List.mem_of_getElem? (i := 668) (by decide +kernel)) (by decide +kernel)
set_option maxRecDepth 20000 in
theorem w_669 : (Jvm.Cond.code ({ cls := "FilmCans$Laboratory", name := "leastOf", desc := "(III)I" } : Jvm.MethodName) prog_6_method_5_code (11 : Nat) (Option.some Jvm.ClassFile.FieldType.int)) ∈ wAll := wAll_of (List.mem_of_getElem? (i := 669) (by decide +kernel)) (by decide +kernel)
set_option maxRecDepth 20000 in
theorem w_675 : (Jvm.Cond.methodLink "FilmCans" (256 : Nat) ({ cls := "FilmCans$Kinds", name := "isOf", desc := "(II)Z" } : Jvm.MethodName)) ∈ wAll := wAll_of (List.mem_of_getElem? (i := 675) (by decide +kernel)) (by decide +kernel)
set_option maxRecDepth 20000 in
theorem w_680 : (Jvm.Cond.methodLink "FilmCans" (259 : Nat) ({ cls := "FilmCans$Day", name := "openTakes", desc := "()I" } : Jvm.MethodName)) ∈ wAll := wAll_of (List.mem_of_getElem? (i := 680) (by decide +kernel)) (by decide +kernel)
set_option maxRecDepth 20000 in
theorem w_681 : (Jvm.Cond.instanceMethod ({ cls := "FilmCans$Day", name := "openTakes", desc := "()I" } : Jvm.MethodName)) ∈ wAll := wAll_of (List.mem_of_getElem? (i := 681) (by decide +kernel)) (by decide +kernel)
set_option maxRecDepth 20000 in
theorem w_682 : (Jvm.Cond.selects "FilmCans$Day" ({ cls := "FilmCans$Day", name := "openTakes", desc := "()I" } : Jvm.MethodName) ({ cls := "FilmCans$Day", name := "openTakes", desc := "()I" } : Jvm.MethodName)) ∈ wAll := wAll_of (List.mem_of_getElem? (i := 682) (by decide +kernel)) (by decide +kernel)
set_option maxRecDepth 20000 in
theorem w_683 : (Jvm.Cond.code ({ cls := "FilmCans$Day", name := "openTakes", desc := "()I" } : Jvm.MethodName) prog_3_method_12_code (1 : Nat) (Option.some Jvm.ClassFile.FieldType.int)) ∈ wAll := wAll_of (List.mem_of_getElem? (i := 683) (by decide +kernel)) (by decide +kernel)
set_option maxRecDepth 20000 in
theorem w_684 : (Jvm.Cond.methodLink "FilmCans$Day" (93 : Nat) ({ cls := "FilmCans$Day", name := "takesShotOn", desc := "(I)I" } : Jvm.MethodName)) ∈ wAll := wAll_of (List.mem_of_getElem? (i := 684) (by decide +kernel)) (by decide +kernel)
set_option maxRecDepth 20000 in
theorem w_685 : (Jvm.Cond.methodLink "FilmCans" (262 : Nat) ({ cls := "FilmCans$Day", name := "isRoom", desc := "(I)Z" } : Jvm.MethodName)) ∈ wAll := wAll_of (List.mem_of_getElem? (i := 685) (by decide +kernel)) (by decide +kernel)
set_option maxRecDepth 20000 in
theorem w_686 : (Jvm.Cond.instanceMethod ({ cls := "FilmCans$Day", name := "isRoom", desc := "(I)Z" } : Jvm.MethodName)) ∈ wAll := wAll_of (List.mem_of_getElem? (i := 686) (by decide +kernel)) (by decide +kernel)
set_option maxRecDepth 20000 in
theorem w_687 : (Jvm.Cond.selects "FilmCans$Day" ({ cls := "FilmCans$Day", name := "isRoom", desc := "(I)Z" } : Jvm.MethodName) ({ cls := "FilmCans$Day", name := "isRoom", desc := "(I)Z" } : Jvm.MethodName)) ∈ wAll := wAll_of (List.mem_of_getElem? (i := 687) (by decide +kernel)) (by decide +kernel)
set_option maxRecDepth 20000 in
theorem w_688 : (Jvm.Cond.code ({ cls := "FilmCans$Day", name := "isRoom", desc := "(I)Z" } : Jvm.MethodName) prog_3_method_8_code (2 : Nat) (Option.some Jvm.ClassFile.FieldType.boolean)) ∈ wAll := wAll_of (List.mem_of_getElem? (i := 688) (by decide +kernel)) (by decide +kernel)
set_option maxRecDepth 20000 in
theorem w_689 : (Jvm.Cond.methodLink "FilmCans" (265 : Nat) ({ cls := "FilmCans$Rooms", name := "lookAt", desc := "(LFilmCans$Day;)V" } : Jvm.MethodName)) ∈ wAll := wAll_of (List.mem_of_getElem? (i := 689) (by decide +kernel)) (by decide +kernel)
set_option maxRecDepth 20000 in
theorem w_690 : (Jvm.Cond.instanceMethod ({ cls := "FilmCans$Rooms", name := "lookAt", desc := "(LFilmCans$Day;)V" } : Jvm.MethodName)) ∈ wAll := wAll_of (List.mem_of_getElem? (i := 690) (by decide +kernel)) (by decide +kernel)
set_option maxRecDepth 20000 in
theorem w_691 : (Jvm.Cond.selects "FilmCans$Rooms" ({ cls := "FilmCans$Rooms", name := "lookAt", desc := "(LFilmCans$Day;)V" } : Jvm.MethodName) ({ cls := "FilmCans$Rooms", name := "lookAt", desc := "(LFilmCans$Day;)V" } : Jvm.MethodName)) ∈ wAll := wAll_of (List.mem_of_getElem? (i := 691) (by decide +kernel)) (by decide +kernel)
set_option maxRecDepth 20000 in
theorem w_692 : (Jvm.Cond.code ({ cls := "FilmCans$Rooms", name := "lookAt", desc := "(LFilmCans$Day;)V" } : Jvm.MethodName) prog_8_method_2_code (3 : Nat) (Option.none : Option Jvm.ClassFile.FieldType)) ∈ wAll := wAll_of (List.mem_of_getElem? (i := 692) (by decide +kernel)) (by decide +kernel)
set_option maxRecDepth 20000 in
theorem w_693 : (Jvm.Cond.methodLink "FilmCans$Rooms" (41 : Nat) ({ cls := "FilmCans$Day", name := "rooms", desc := "()I" } : Jvm.MethodName)) ∈ wAll := wAll_of (List.mem_of_getElem? (i := 693) (by decide +kernel)) (by decide +kernel)
set_option maxRecDepth 20000 in
theorem w_694 : (Jvm.Cond.instanceMethod ({ cls := "FilmCans$Day", name := "rooms", desc := "()I" } : Jvm.MethodName)) ∈ wAll := wAll_of (List.mem_of_getElem? (i := 694) (by decide +kernel)) (by decide +kernel)
set_option maxRecDepth 20000 in
theorem w_695 : (Jvm.Cond.selects "FilmCans$Day" ({ cls := "FilmCans$Day", name := "rooms", desc := "()I" } : Jvm.MethodName) ({ cls := "FilmCans$Day", name := "rooms", desc := "()I" } : Jvm.MethodName)) ∈ wAll := wAll_of (List.mem_of_getElem? (i := 695) (by decide +kernel)) (by decide +kernel)
set_option maxRecDepth 20000 in
theorem w_696 : (Jvm.Cond.code ({ cls := "FilmCans$Day", name := "rooms", desc := "()I" } : Jvm.MethodName) prog_3_method_16_code (3 : Nat) (Option.some Jvm.ClassFile.FieldType.int)) ∈ wAll := wAll_of (List.mem_of_getElem? (i := 696) (by decide +kernel)) (by decide +kernel)
set_option maxRecDepth 20000 in
theorem w_697 : (Jvm.Cond.methodLink "FilmCans$Day" (100 : Nat) ({ cls := "FilmCans$Day", name := "isRoom", desc := "(I)Z" } : Jvm.MethodName)) ∈ wAll := wAll_of (List.mem_of_getElem? (i := 697) (by decide +kernel)) (by decide +kernel)
set_option maxRecDepth 20000 in
theorem w_698 : (Jvm.Cond.methodLink "FilmCans$Rooms" (51 : Nat) ({ cls := "FilmCans$Day", name := "openTakes", desc := "()I" } : Jvm.MethodName)) ∈ wAll := wAll_of (List.mem_of_getElem? (i := 698) (by decide +kernel)) (by decide +kernel)
set_option maxRecDepth 20000 in
theorem w_699 : (Jvm.Cond.methodLink "FilmCans$Rooms" (57 : Nat) ({ cls := "FilmCans$Rooms", name := "lookAtCan", desc := "(LFilmCans$Day;I)V" } : Jvm.MethodName)) ∈ wAll := wAll_of (List.mem_of_getElem? (i := 699) (by decide +kernel)) (by decide +kernel)
set_option maxRecDepth 20000 in
theorem w_701 : (Jvm.Cond.instanceMethod ({ cls := "FilmCans$Rooms", name := "lookAtCan", desc := "(LFilmCans$Day;I)V" } : Jvm.MethodName)) ∈ wAll := wAll_of (List.mem_of_getElem? (i := 701) (by decide +kernel)) (by decide +kernel)
set_option maxRecDepth 20000 in
theorem w_702 : (Jvm.Cond.code ({ cls := "FilmCans$Rooms", name := "lookAtCan", desc := "(LFilmCans$Day;I)V" } : Jvm.MethodName) prog_8_method_3_code (5 : Nat) (Option.none : Option Jvm.ClassFile.FieldType)) ∈ wAll := wAll_of (List.mem_of_getElem? (i := 702) (by decide +kernel)) (by decide +kernel)
set_option maxRecDepth 20000 in
theorem w_703 : (Jvm.Cond.methodLink "FilmCans$Rooms" (69 : Nat) ({ cls := "FilmCans$Rooms", name := "has", desc := "(I)Z" } : Jvm.MethodName)) ∈ wAll := wAll_of (List.mem_of_getElem? (i := 703) (by decide +kernel)) (by decide +kernel)
set_option maxRecDepth 20000 in
theorem w_704 : (Jvm.Cond.instanceMethod ({ cls := "FilmCans$Rooms", name := "has", desc := "(I)Z" } : Jvm.MethodName)) ∈ wAll := wAll_of (List.mem_of_getElem? (i := 704) (by decide +kernel)) (by decide +kernel)
set_option maxRecDepth 20000 in
theorem w_705 : (Jvm.Cond.selects "FilmCans$Rooms" ({ cls := "FilmCans$Rooms", name := "has", desc := "(I)Z" } : Jvm.MethodName) ({ cls := "FilmCans$Rooms", name := "has", desc := "(I)Z" } : Jvm.MethodName)) ∈ wAll := wAll_of (List.mem_of_getElem? (i := 705) (by decide +kernel)) (by decide +kernel)
set_option maxRecDepth 20000 in
theorem w_706 : (Jvm.Cond.code ({ cls := "FilmCans$Rooms", name := "has", desc := "(I)Z" } : Jvm.MethodName) prog_8_method_7_code (2 : Nat) (Option.some Jvm.ClassFile.FieldType.boolean)) ∈ wAll := wAll_of (List.mem_of_getElem? (i := 706) (by decide +kernel)) (by decide +kernel)
set_option maxRecDepth 20000 in
theorem w_707 : (Jvm.Cond.methodLink "FilmCans$Rooms" (78 : Nat) ({ cls := "FilmCans$Kinds", name := "leastKept", desc := "(II)I" } : Jvm.MethodName)) ∈ wAll := wAll_of (List.mem_of_getElem? (i := 707) (by decide +kernel)) (by decide +kernel)
set_option maxRecDepth 20000 in
theorem w_708 : (Jvm.Cond.methodLink "FilmCans$Rooms" (90 : Nat) ({ cls := "FilmCans$Kinds", name := "leadOf", desc := "(II)I" } : Jvm.MethodName)) ∈ wAll := wAll_of (List.mem_of_getElem? (i := 708) (by decide +kernel)) (by decide +kernel)
set_option maxRecDepth 20000 in
theorem w_709 : (Jvm.Cond.methodLink "FilmCans$Rooms" (93 : Nat) ({ cls := "FilmCans$Kinds", name := "slateOf", desc := "(I)I" } : Jvm.MethodName)) ∈ wAll := wAll_of (List.mem_of_getElem? (i := 709) (by decide +kernel)) (by decide +kernel)
set_option maxRecDepth 20000 in
theorem w_710 : (Jvm.Cond.constant "FilmCans$Rooms" (97 : Nat) (-1000000 : Int32)) ∈ wAll := wAll_of (List.mem_of_getElem? (i := 710) (by decide +kernel)) (by decide +kernel)
set_option maxRecDepth 20000 in
theorem w_711 : (Jvm.Cond.methodLink "FilmCans$Rooms" (98 : Nat) ({ cls := "FilmCans$Day", name := "takesServedBy", desc := "(I)I" } : Jvm.MethodName)) ∈ wAll := wAll_of (List.mem_of_getElem? (i := 711) (by decide +kernel)) (by decide +kernel)
set_option maxRecDepth 20000 in
theorem w_712 : (Jvm.Cond.instanceMethod ({ cls := "FilmCans$Day", name := "takesServedBy", desc := "(I)I" } : Jvm.MethodName)) ∈ wAll := wAll_of (List.mem_of_getElem? (i := 712) (by decide +kernel)) (by decide +kernel)
set_option maxRecDepth 20000 in
theorem w_713 : (Jvm.Cond.selects "FilmCans$Day" ({ cls := "FilmCans$Day", name := "takesServedBy", desc := "(I)I" } : Jvm.MethodName) ({ cls := "FilmCans$Day", name := "takesServedBy", desc := "(I)I" } : Jvm.MethodName)) ∈ wAll := wAll_of (List.mem_of_getElem? (i := 713) (by decide +kernel)) (by decide +kernel)
set_option maxRecDepth 20000 in
theorem w_714 : (Jvm.Cond.code ({ cls := "FilmCans$Day", name := "takesServedBy", desc := "(I)I" } : Jvm.MethodName) prog_3_method_14_code (4 : Nat) (Option.some Jvm.ClassFile.FieldType.int)) ∈ wAll := wAll_of (List.mem_of_getElem? (i := 714) (by decide +kernel)) (by decide +kernel)
set_option maxRecDepth 20000 in
theorem w_715 : (Jvm.Cond.methodLink "FilmCans$Rooms" (61 : Nat) ({ cls := "FilmCans$Rooms", name := "isOpen", desc := "(I)Z" } : Jvm.MethodName)) ∈ wAll := wAll_of (List.mem_of_getElem? (i := 715) (by decide +kernel)) (by decide +kernel)
set_option maxRecDepth 20000 in
theorem w_717 : (Jvm.Cond.instanceMethod ({ cls := "FilmCans$Rooms", name := "isOpen", desc := "(I)Z" } : Jvm.MethodName)) ∈ wAll := wAll_of (List.mem_of_getElem? (i := 717) (by decide +kernel)) (by decide +kernel)
set_option maxRecDepth 20000 in
theorem w_718 : (Jvm.Cond.code ({ cls := "FilmCans$Rooms", name := "isOpen", desc := "(I)Z" } : Jvm.MethodName) prog_8_method_8_code (2 : Nat) (Option.some Jvm.ClassFile.FieldType.boolean)) ∈ wAll := wAll_of (List.mem_of_getElem? (i := 718) (by decide +kernel)) (by decide +kernel)
set_option maxRecDepth 20000 in
theorem w_719 : (Jvm.Cond.methodLink "FilmCans$Rooms" (66 : Nat) ({ cls := "FilmCans$Rooms", name := "measure", desc := "()V" } : Jvm.MethodName)) ∈ wAll := wAll_of (List.mem_of_getElem? (i := 719) (by decide +kernel)) (by decide +kernel)
set_option maxRecDepth 20000 in
theorem w_721 : (Jvm.Cond.instanceMethod ({ cls := "FilmCans$Rooms", name := "measure", desc := "()V" } : Jvm.MethodName)) ∈ wAll := wAll_of (List.mem_of_getElem? (i := 721) (by decide +kernel)) (by decide +kernel)
set_option maxRecDepth 20000 in
theorem w_722 : (Jvm.Cond.code ({ cls := "FilmCans$Rooms", name := "measure", desc := "()V" } : Jvm.MethodName) prog_8_method_5_code (4 : Nat) (Option.none : Option Jvm.ClassFile.FieldType)) ∈ wAll := wAll_of (List.mem_of_getElem? (i := 722) (by decide +kernel)) (by decide +kernel)
set_option maxRecDepth 20000 in
theorem w_723 : (Jvm.Cond.methodLink "FilmCans$Rooms" (110 : Nat) ({ cls := "java/util/Arrays", name := "fill", desc := "([II)V" } : Jvm.MethodName)) ∈ wAll := wAll_of (List.mem_of_getElem? (i := 723) (by decide +kernel)) (by decide +kernel)
set_option maxRecDepth 20000 in
theorem w_724 : (Jvm.Cond.static ({ cls := "java/util/Arrays", name := "fill", desc := "([II)V" } : Jvm.MethodName)) ∈ wAll := wAll_of (List.mem_of_getElem? (i := 724) (by decide +kernel)) (by decide +kernel)
set_option maxRecDepth 20000 in
theorem w_725 : (Jvm.Cond.code ({ cls := "java/util/Arrays", name := "fill", desc := "([II)V" } : Jvm.MethodName) prog_15_method_103_code (4 : Nat) (Option.none : Option Jvm.ClassFile.FieldType)) ∈ wAll := wAll_of (List.mem_of_getElem? (i := 725) (by decide +kernel)) (by decide +kernel)
set_option maxRecDepth 20000 in
theorem w_726 : (Jvm.Cond.methodLink "FilmCans$Rooms" (116 : Nat) ({ cls := "FilmCans$Rooms", name := "measureEnds", desc := "(I)V" } : Jvm.MethodName)) ∈ wAll := wAll_of (List.mem_of_getElem? (i := 726) (by decide +kernel)) (by decide +kernel)
set_option maxRecDepth 20000 in
theorem w_728 : (Jvm.Cond.instanceMethod ({ cls := "FilmCans$Rooms", name := "measureEnds", desc := "(I)V" } : Jvm.MethodName)) ∈ wAll := wAll_of (List.mem_of_getElem? (i := 728) (by decide +kernel)) (by decide +kernel)
set_option maxRecDepth 20000 in
theorem w_729 : (Jvm.Cond.code ({ cls := "FilmCans$Rooms", name := "measureEnds", desc := "(I)V" } : Jvm.MethodName) prog_8_method_6_code (4 : Nat) (Option.none : Option Jvm.ClassFile.FieldType)) ∈ wAll := wAll_of (List.mem_of_getElem? (i := 729) (by decide +kernel)) (by decide +kernel)
set_option maxRecDepth 20000 in
theorem w_730 : (Jvm.Cond.methodLink "FilmCans$Rooms" (101 : Nat) ({ cls := "java/lang/Integer", name := "bitCount", desc := "(I)I" } : Jvm.MethodName)) ∈ wAll := wAll_of (List.mem_of_getElem? (i := 730) (by decide +kernel)) (by decide +kernel)
set_option maxRecDepth 20000 in
theorem w_731 : (Jvm.Cond.static ({ cls := "java/lang/Integer", name := "bitCount", desc := "(I)I" } : Jvm.MethodName)) ∈ wAll := wAll_of (List.mem_of_getElem? (i := 731) (by decide +kernel)) (by decide +kernel)
set_option maxRecDepth 20000 in
theorem w_732 : (Jvm.Cond.code ({ cls := "java/lang/Integer", name := "bitCount", desc := "(I)I" } : Jvm.MethodName) prog_12_method_49_code (1 : Nat) (Option.some Jvm.ClassFile.FieldType.int)) ∈ wAll := wAll_of (List.mem_of_getElem? (i := 732) (by decide +kernel)) (by decide +kernel)
set_option maxRecDepth 20000 in
theorem w_733 : (Jvm.Cond.constant "java/lang/Integer" (265 : Nat) (1431655765 : Int32)) ∈ wAll := wAll_of (List.mem_of_getElem? (i := 733) (by decide +kernel)) (by decide +kernel)
set_option maxRecDepth 20000 in
theorem w_734 : (Jvm.Cond.constant "java/lang/Integer" (266 : Nat) (858993459 : Int32)) ∈ wAll := wAll_of (List.mem_of_getElem? (i := 734) (by decide +kernel)) (by decide +kernel)
set_option maxRecDepth 20000 in
theorem w_735 : (Jvm.Cond.constant "java/lang/Integer" (267 : Nat) (252645135 : Int32)) ∈ wAll := wAll_of (List.mem_of_getElem? (i := 735) (by decide +kernel)) (by decide +kernel)
set_option maxRecDepth 20000 in
theorem w_736 : (Jvm.Cond.methodLink "FilmCans" (268 : Nat) ({ cls := "FilmCans$Rooms", name := "holds", desc := "(II)Z" } : Jvm.MethodName)) ∈ wAll := wAll_of (List.mem_of_getElem? (i := 736) (by decide +kernel)) (by decide +kernel)
set_option maxRecDepth 20000 in
theorem w_737 : (Jvm.Cond.instanceMethod ({ cls := "FilmCans$Rooms", name := "holds", desc := "(II)Z" } : Jvm.MethodName)) ∈ wAll := wAll_of (List.mem_of_getElem? (i := 737) (by decide +kernel)) (by decide +kernel)
set_option maxRecDepth 20000 in
theorem w_738 : (Jvm.Cond.selects "FilmCans$Rooms" ({ cls := "FilmCans$Rooms", name := "holds", desc := "(II)Z" } : Jvm.MethodName) ({ cls := "FilmCans$Rooms", name := "holds", desc := "(II)Z" } : Jvm.MethodName)) ∈ wAll := wAll_of (List.mem_of_getElem? (i := 738) (by decide +kernel)) (by decide +kernel)
set_option maxRecDepth 20000 in
theorem w_739 : (Jvm.Cond.code ({ cls := "FilmCans$Rooms", name := "holds", desc := "(II)Z" } : Jvm.MethodName) prog_8_method_9_code (3 : Nat) (Option.some Jvm.ClassFile.FieldType.boolean)) ∈ wAll := wAll_of (List.mem_of_getElem? (i := 739) (by decide +kernel)) (by decide +kernel)
set_option maxRecDepth 20000 in
theorem w_744 : (Jvm.Cond.methodLink "FilmCans" (275 : Nat) ({ cls := "FilmCans", name := "isZeroOrOne", desc := "(I)Z" } : Jvm.MethodName)) ∈ wAll := wAll_of (List.mem_of_getElem? (i := 744) (by decide +kernel)) (by decide +kernel)
set_option maxRecDepth 20000 in
theorem w_745 : (Jvm.Cond.static ({ cls := "FilmCans", name := "isZeroOrOne", desc := "(I)Z" } : Jvm.MethodName)) ∈ wAll := wAll_of (List.mem_of_getElem? (i := 745) (by decide +kernel)) (by decide +kernel)
set_option maxRecDepth 20000 in
theorem w_746 : (Jvm.Cond.code ({ cls := "FilmCans", name := "isZeroOrOne", desc := "(I)Z" } : Jvm.MethodName) prog_1_method_39_code (1 : Nat) (Option.some Jvm.ClassFile.FieldType.boolean)) ∈ wAll := wAll_of (List.mem_of_getElem? (i := 746) (by decide +kernel)) (by decide +kernel)
set_option maxRecDepth 20000 in
theorem w_747 : (Jvm.Cond.methodLink "FilmCans" (278 : Nat) ({ cls := "FilmCans", name := "placeBest", desc := "()Z" } : Jvm.MethodName)) ∈ wAll := wAll_of (List.mem_of_getElem? (i := 747) (by decide +kernel)) (by decide +kernel)
set_option maxRecDepth 20000 in
theorem w_749 : (Jvm.Cond.instanceMethod ({ cls := "FilmCans", name := "placeBest", desc := "()Z" } : Jvm.MethodName)) ∈ wAll := wAll_of (List.mem_of_getElem? (i := 749) (by decide +kernel)) (by decide +kernel)
set_option maxRecDepth 20000 in
theorem w_750 : (Jvm.Cond.code ({ cls := "FilmCans", name := "placeBest", desc := "()Z" } : Jvm.MethodName) prog_1_method_40_code (1 : Nat) (Option.some Jvm.ClassFile.FieldType.boolean)) ∈ wAll := wAll_of (List.mem_of_getElem? (i := 750) (by decide +kernel)) (by decide +kernel)
set_option maxRecDepth 20000 in
theorem w_751 : (Jvm.Cond.methodLink "FilmCans" (353 : Nat) ({ cls := "FilmCans$Best", name := "place", desc := "(LFilmCans$Rooms;)Z" } : Jvm.MethodName)) ∈ wAll := wAll_of (List.mem_of_getElem? (i := 751) (by decide +kernel)) (by decide +kernel)
set_option maxRecDepth 20000 in
theorem w_752 : (Jvm.Cond.instanceMethod ({ cls := "FilmCans$Best", name := "place", desc := "(LFilmCans$Rooms;)Z" } : Jvm.MethodName)) ∈ wAll := wAll_of (List.mem_of_getElem? (i := 752) (by decide +kernel)) (by decide +kernel)
set_option maxRecDepth 20000 in
theorem w_753 : (Jvm.Cond.selects "FilmCans$Best" ({ cls := "FilmCans$Best", name := "place", desc := "(LFilmCans$Rooms;)Z" } : Jvm.MethodName) ({ cls := "FilmCans$Best", name := "place", desc := "(LFilmCans$Rooms;)Z" } : Jvm.MethodName)) ∈ wAll := wAll_of (List.mem_of_getElem? (i := 753) (by decide +kernel)) (by decide +kernel)
set_option maxRecDepth 20000 in
theorem w_754 : (Jvm.Cond.code ({ cls := "FilmCans$Best", name := "place", desc := "(LFilmCans$Rooms;)Z" } : Jvm.MethodName) prog_2_method_2_code (5 : Nat) (Option.some Jvm.ClassFile.FieldType.boolean)) ∈ wAll := wAll_of (List.mem_of_getElem? (i := 754) (by decide +kernel)) (by decide +kernel)
set_option maxRecDepth 20000 in
theorem w_755 : (Jvm.Cond.constant "FilmCans$Best" (16 : Nat) (1000000 : Int32)) ∈ wAll := wAll_of (List.mem_of_getElem? (i := 755) (by decide +kernel)) (by decide +kernel)
set_option maxRecDepth 20000 in
theorem w_756 : (Jvm.Cond.methodLink "FilmCans$Best" (17 : Nat) ({ cls := "java/util/Arrays", name := "fill", desc := "([II)V" } : Jvm.MethodName)) ∈ wAll := wAll_of (List.mem_of_getElem? (i := 756) (by decide +kernel)) (by decide +kernel)
set_option maxRecDepth 20000 in
theorem w_757 : (Jvm.Cond.methodLink "FilmCans$Best" (23 : Nat) ({ cls := "java/lang/System", name := "arraycopy", desc := "(Ljava/lang/Object;ILjava/lang/Object;II)V" } : Jvm.MethodName)) ∈ wAll := wAll_of (List.mem_of_getElem? (i := 757) (by decide +kernel)) (by decide +kernel)
set_option maxRecDepth 20000 in
theorem w_758 : (Jvm.Cond.methodLink "FilmCans$Best" (29 : Nat) ({ cls := "FilmCans$Best", name := nm_best3, desc := "(LFilmCans$Rooms;II)V" } : Jvm.MethodName)) ∈ wAll := wAll_of (List.mem_of_getElem? (i := 758) (by decide +kernel)) (by decide +kernel)
set_option maxRecDepth 20000 in
theorem w_760 : (Jvm.Cond.instanceMethod ({ cls := "FilmCans$Best", name := nm_best3, desc := "(LFilmCans$Rooms;II)V" } : Jvm.MethodName)) ∈ wAll := wAll_of (List.mem_of_getElem? (i := 760) (by decide +kernel)) (by decide +kernel)
set_option maxRecDepth 20000 in
theorem w_761 : (Jvm.Cond.code ({ cls := "FilmCans$Best", name := nm_best3, desc := "(LFilmCans$Rooms;II)V" } : Jvm.MethodName) prog_2_method_3_code (6 : Nat) (Option.none : Option Jvm.ClassFile.FieldType)) ∈ wAll := wAll_of (List.mem_of_getElem? (i := 761) (by decide +kernel)) (by decide +kernel)
set_option maxRecDepth 20000 in
theorem w_762 : (Jvm.Cond.methodLink "FilmCans$Best" (43 : Nat) ({ cls := "FilmCans$Rooms", name := "holds", desc := "(II)Z" } : Jvm.MethodName)) ∈ wAll := wAll_of (List.mem_of_getElem? (i := 762) (by decide +kernel)) (by decide +kernel)
set_option maxRecDepth 20000 in
theorem w_763 : (Jvm.Cond.methodLink "FilmCans$Best" (47 : Nat) ({ cls := "FilmCans$Best", name := "priceOf", desc := "(LFilmCans$Rooms;II)I" } : Jvm.MethodName)) ∈ wAll := wAll_of (List.mem_of_getElem? (i := 763) (by decide +kernel)) (by decide +kernel)
set_option maxRecDepth 20000 in
theorem w_764 : (Jvm.Cond.static ({ cls := "FilmCans$Best", name := "priceOf", desc := "(LFilmCans$Rooms;II)I" } : Jvm.MethodName)) ∈ wAll := wAll_of (List.mem_of_getElem? (i := 764) (by decide +kernel)) (by decide +kernel)
set_option maxRecDepth 20000 in
theorem w_765 : (Jvm.Cond.code ({ cls := "FilmCans$Best", name := "priceOf", desc := "(LFilmCans$Rooms;II)I" } : Jvm.MethodName) prog_2_method_7_code (3 : Nat) (Option.some Jvm.ClassFile.FieldType.int)) ∈ wAll := wAll_of (List.mem_of_getElem? (i := 765) (by decide +kernel)) (by decide +kernel)
set_option maxRecDepth 20000 in
theorem w_766 : (Jvm.Cond.methodLink "FilmCans$Best" (72 : Nat) ({ cls := "FilmCans$Rooms", name := "lossOf", desc := "(II)I" } : Jvm.MethodName)) ∈ wAll := wAll_of (List.mem_of_getElem? (i := 766) (by decide +kernel)) (by decide +kernel)
set_option maxRecDepth 20000 in
theorem w_767 : (Jvm.Cond.instanceMethod ({ cls := "FilmCans$Rooms", name := "lossOf", desc := "(II)I" } : Jvm.MethodName)) ∈ wAll := wAll_of (List.mem_of_getElem? (i := 767) (by decide +kernel)) (by decide +kernel)
set_option maxRecDepth 20000 in
theorem w_768 : (Jvm.Cond.selects "FilmCans$Rooms" ({ cls := "FilmCans$Rooms", name := "lossOf", desc := "(II)I" } : Jvm.MethodName) ({ cls := "FilmCans$Rooms", name := "lossOf", desc := "(II)I" } : Jvm.MethodName)) ∈ wAll := wAll_of (List.mem_of_getElem? (i := 768) (by decide +kernel)) (by decide +kernel)
set_option maxRecDepth 20000 in
theorem w_769 : (Jvm.Cond.code ({ cls := "FilmCans$Rooms", name := "lossOf", desc := "(II)I" } : Jvm.MethodName) prog_8_method_10_code (4 : Nat) (Option.some Jvm.ClassFile.FieldType.int)) ∈ wAll := wAll_of (List.mem_of_getElem? (i := 769) (by decide +kernel)) (by decide +kernel)
set_option maxRecDepth 20000 in
theorem w_770 : (Jvm.Cond.methodLink "FilmCans$Best" (51 : Nat) ({ cls := "FilmCans$Best", name := "spread", desc := "(IIII)V" } : Jvm.MethodName)) ∈ wAll := wAll_of (List.mem_of_getElem? (i := 770) (by decide +kernel)) (by decide +kernel)
set_option maxRecDepth 20000 in
theorem w_772 : (Jvm.Cond.instanceMethod ({ cls := "FilmCans$Best", name := "spread", desc := "(IIII)V" } : Jvm.MethodName)) ∈ wAll := wAll_of (List.mem_of_getElem? (i := 772) (by decide +kernel)) (by decide +kernel)
set_option maxRecDepth 20000 in
theorem w_773 : (Jvm.Cond.code ({ cls := "FilmCans$Best", name := "spread", desc := "(IIII)V" } : Jvm.MethodName) prog_2_method_4_code (9 : Nat) (Option.none : Option Jvm.ClassFile.FieldType)) ∈ wAll := wAll_of (List.mem_of_getElem? (i := 773) (by decide +kernel)) (by decide +kernel)
set_option maxRecDepth 20000 in
theorem w_775 : (Jvm.Cond.methodLink "FilmCans$Best" (39 : Nat) ({ cls := "FilmCans$Best", name := "choose", desc := "(LFilmCans$Rooms;)Z" } : Jvm.MethodName)) ∈ wAll := wAll_of (List.mem_of_getElem? (i := 775) (by decide +kernel)) (by decide +kernel)
set_option maxRecDepth 20000 in
theorem w_777 : (Jvm.Cond.instanceMethod ({ cls := "FilmCans$Best", name := "choose", desc := "(LFilmCans$Rooms;)Z" } : Jvm.MethodName)) ∈ wAll := wAll_of (List.mem_of_getElem? (i := 777) (by decide +kernel)) (by decide +kernel)
set_option maxRecDepth 20000 in
theorem w_778 : (Jvm.Cond.code ({ cls := "FilmCans$Best", name := "choose", desc := "(LFilmCans$Rooms;)Z" } : Jvm.MethodName) prog_2_method_5_code (5 : Nat) (Option.some Jvm.ClassFile.FieldType.boolean)) ∈ wAll := wAll_of (List.mem_of_getElem? (i := 778) (by decide +kernel)) (by decide +kernel)
set_option maxRecDepth 20000 in
theorem w_779 : (Jvm.Cond.methodLink "FilmCans$Best" (65 : Nat) ({ cls := "FilmCans$Best", name := "cheapestSet", desc := "(LFilmCans$Rooms;II)I" } : Jvm.MethodName)) ∈ wAll := wAll_of (List.mem_of_getElem? (i := 779) (by decide +kernel)) (by decide +kernel)
set_option maxRecDepth 20000 in
theorem w_781 : (Jvm.Cond.instanceMethod ({ cls := "FilmCans$Best", name := "cheapestSet", desc := "(LFilmCans$Rooms;II)I" } : Jvm.MethodName)) ∈ wAll := wAll_of (List.mem_of_getElem? (i := 781) (by decide +kernel)) (by decide +kernel)
set_option maxRecDepth 20000 in
theorem w_782 : (Jvm.Cond.code ({ cls := "FilmCans$Best", name := "cheapestSet", desc := "(LFilmCans$Rooms;II)I" } : Jvm.MethodName) prog_2_method_6_code (8 : Nat) (Option.some Jvm.ClassFile.FieldType.int)) ∈ wAll := wAll_of (List.mem_of_getElem? (i := 782) (by decide +kernel)) (by decide +kernel)
set_option maxRecDepth 20000 in
theorem w_783 : (Jvm.Cond.constant "FilmCans$Best" (68 : Nat) (-1000000 : Int32)) ∈ wAll := wAll_of (List.mem_of_getElem? (i := 783) (by decide +kernel)) (by decide +kernel)
set_option maxRecDepth 20000 in
theorem w_784 : (Jvm.Cond.methodLink "FilmCans" (281 : Nat) ({ cls := "FilmCans", name := "wholeAnswer", desc := "(ZI)I" } : Jvm.MethodName)) ∈ wAll := wAll_of (List.mem_of_getElem? (i := 784) (by decide +kernel)) (by decide +kernel)
set_option maxRecDepth 20000 in
theorem w_786 : (Jvm.Cond.instanceMethod ({ cls := "FilmCans", name := "wholeAnswer", desc := "(ZI)I" } : Jvm.MethodName)) ∈ wAll := wAll_of (List.mem_of_getElem? (i := 786) (by decide +kernel)) (by decide +kernel)
set_option maxRecDepth 20000 in
theorem w_787 : (Jvm.Cond.code ({ cls := "FilmCans", name := "wholeAnswer", desc := "(ZI)I" } : Jvm.MethodName) prog_1_method_42_code (3 : Nat) (Option.some Jvm.ClassFile.FieldType.int)) ∈ wAll := wAll_of (List.mem_of_getElem? (i := 787) (by decide +kernel)) (by decide +kernel)
set_option maxRecDepth 20000 in
theorem w_788 : (Jvm.Cond.methodLink "FilmCans" (355 : Nat) ({ cls := "FilmCans$Rooms", name := "losses", desc := "()I" } : Jvm.MethodName)) ∈ wAll := wAll_of (List.mem_of_getElem? (i := 788) (by decide +kernel)) (by decide +kernel)
set_option maxRecDepth 20000 in
theorem w_789 : (Jvm.Cond.instanceMethod ({ cls := "FilmCans$Rooms", name := "losses", desc := "()I" } : Jvm.MethodName)) ∈ wAll := wAll_of (List.mem_of_getElem? (i := 789) (by decide +kernel)) (by decide +kernel)
set_option maxRecDepth 20000 in
theorem w_790 : (Jvm.Cond.selects "FilmCans$Rooms" ({ cls := "FilmCans$Rooms", name := "losses", desc := "()I" } : Jvm.MethodName) ({ cls := "FilmCans$Rooms", name := "losses", desc := "()I" } : Jvm.MethodName)) ∈ wAll := wAll_of (List.mem_of_getElem? (i := 790) (by decide +kernel)) (by decide +kernel)
set_option maxRecDepth 20000 in
theorem w_791 : (Jvm.Cond.code ({ cls := "FilmCans$Rooms", name := "losses", desc := "()I" } : Jvm.MethodName) prog_8_method_11_code (3 : Nat) (Option.some Jvm.ClassFile.FieldType.int)) ∈ wAll := wAll_of (List.mem_of_getElem? (i := 791) (by decide +kernel)) (by decide +kernel)
set_option maxRecDepth 20000 in
theorem w_792 : (Jvm.Cond.methodLink "FilmCans$Rooms" (120 : Nat) ({ cls := "FilmCans$Rooms", name := "lossOf", desc := "(II)I" } : Jvm.MethodName)) ∈ wAll := wAll_of (List.mem_of_getElem? (i := 792) (by decide +kernel)) (by decide +kernel)
set_option maxRecDepth 20000 in
theorem w_793 : (Jvm.Cond.methodLink "FilmCans" (367 : Nat) ({ cls := "FilmCans$Rooms", name := "used", desc := "()I" } : Jvm.MethodName)) ∈ wAll := wAll_of (List.mem_of_getElem? (i := 793) (by decide +kernel)) (by decide +kernel)
set_option maxRecDepth 20000 in
theorem w_794 : (Jvm.Cond.instanceMethod ({ cls := "FilmCans$Rooms", name := "used", desc := "()I" } : Jvm.MethodName)) ∈ wAll := wAll_of (List.mem_of_getElem? (i := 794) (by decide +kernel)) (by decide +kernel)
set_option maxRecDepth 20000 in
theorem w_795 : (Jvm.Cond.selects "FilmCans$Rooms" ({ cls := "FilmCans$Rooms", name := "used", desc := "()I" } : Jvm.MethodName) ({ cls := "FilmCans$Rooms", name := "used", desc := "()I" } : Jvm.MethodName)) ∈ wAll := wAll_of (List.mem_of_getElem? (i := 795) (by decide +kernel)) (by decide +kernel)
set_option maxRecDepth 20000 in
theorem w_796 : (Jvm.Cond.code ({ cls := "FilmCans$Rooms", name := "used", desc := "()I" } : Jvm.MethodName) prog_8_method_12_code (3 : Nat) (Option.some Jvm.ClassFile.FieldType.int)) ∈ wAll := wAll_of (List.mem_of_getElem? (i := 796) (by decide +kernel)) (by decide +kernel)
set_option maxRecDepth 20000 in
theorem w_805 : (Jvm.Cond.methodLink "FilmCans" (288 : Nat) ({ cls := "FilmCans", name := "placeByRule", desc := "(I)Z" } : Jvm.MethodName)) ∈ wAll := wAll_of (List.mem_of_getElem? (i := 805) (by decide +kernel)) (by decide +kernel)
set_option maxRecDepth 20000 in
theorem w_807 : (Jvm.Cond.instanceMethod ({ cls := "FilmCans", name := "placeByRule", desc := "(I)Z" } : Jvm.MethodName)) ∈ wAll := wAll_of (List.mem_of_getElem? (i := 807) (by decide +kernel)) (by decide +kernel)
set_option maxRecDepth 20000 in
theorem w_808 : (Jvm.Cond.code ({ cls := "FilmCans", name := "placeByRule", desc := "(I)Z" } : Jvm.MethodName) prog_1_method_41_code (2 : Nat) (Option.some Jvm.ClassFile.FieldType.boolean)) ∈ wAll := wAll_of (List.mem_of_getElem? (i := 808) (by decide +kernel)) (by decide +kernel)
set_option maxRecDepth 20000 in
theorem w_809 : (Jvm.Cond.methodLink "FilmCans" (363 : Nat) ({ cls := "FilmCans$Rooms", name := "placeRising", desc := "(Z)Z" } : Jvm.MethodName)) ∈ wAll := wAll_of (List.mem_of_getElem? (i := 809) (by decide +kernel)) (by decide +kernel)
set_option maxRecDepth 20000 in
theorem w_810 : (Jvm.Cond.instanceMethod ({ cls := "FilmCans$Rooms", name := "placeRising", desc := "(Z)Z" } : Jvm.MethodName)) ∈ wAll := wAll_of (List.mem_of_getElem? (i := 810) (by decide +kernel)) (by decide +kernel)
set_option maxRecDepth 20000 in
theorem w_811 : (Jvm.Cond.selects "FilmCans$Rooms" ({ cls := "FilmCans$Rooms", name := "placeRising", desc := "(Z)Z" } : Jvm.MethodName) ({ cls := "FilmCans$Rooms", name := "placeRising", desc := "(Z)Z" } : Jvm.MethodName)) ∈ wAll := wAll_of (List.mem_of_getElem? (i := 811) (by decide +kernel)) (by decide +kernel)
set_option maxRecDepth 20000 in
theorem w_812 : (Jvm.Cond.code ({ cls := "FilmCans$Rooms", name := "placeRising", desc := "(Z)Z" } : Jvm.MethodName) prog_8_method_13_code (4 : Nat) (Option.some Jvm.ClassFile.FieldType.boolean)) ∈ wAll := wAll_of (List.mem_of_getElem? (i := 812) (by decide +kernel)) (by decide +kernel)
set_option maxRecDepth 20000 in
theorem w_813 : (Jvm.Cond.methodLink "FilmCans$Rooms" (123 : Nat) ({ cls := "FilmCans$Rooms", name := "tightestFor", desc := "(I)I" } : Jvm.MethodName)) ∈ wAll := wAll_of (List.mem_of_getElem? (i := 813) (by decide +kernel)) (by decide +kernel)
set_option maxRecDepth 20000 in
theorem w_815 : (Jvm.Cond.instanceMethod ({ cls := "FilmCans$Rooms", name := "tightestFor", desc := "(I)I" } : Jvm.MethodName)) ∈ wAll := wAll_of (List.mem_of_getElem? (i := 815) (by decide +kernel)) (by decide +kernel)
set_option maxRecDepth 20000 in
theorem w_816 : (Jvm.Cond.code ({ cls := "FilmCans$Rooms", name := "tightestFor", desc := "(I)I" } : Jvm.MethodName) prog_8_method_15_code (6 : Nat) (Option.some Jvm.ClassFile.FieldType.int)) ∈ wAll := wAll_of (List.mem_of_getElem? (i := 816) (by decide +kernel)) (by decide +kernel)
set_option maxRecDepth 20000 in
theorem w_817 : (Jvm.Cond.methodLink "FilmCans$Rooms" (126 : Nat) ({ cls := "FilmCans$Rooms", name := "firstFor", desc := "(I)I" } : Jvm.MethodName)) ∈ wAll := wAll_of (List.mem_of_getElem? (i := 817) (by decide +kernel)) (by decide +kernel)
set_option maxRecDepth 20000 in
theorem w_819 : (Jvm.Cond.instanceMethod ({ cls := "FilmCans$Rooms", name := "firstFor", desc := "(I)I" } : Jvm.MethodName)) ∈ wAll := wAll_of (List.mem_of_getElem? (i := 819) (by decide +kernel)) (by decide +kernel)
set_option maxRecDepth 20000 in
theorem w_820 : (Jvm.Cond.code ({ cls := "FilmCans$Rooms", name := "firstFor", desc := "(I)I" } : Jvm.MethodName) prog_8_method_14_code (3 : Nat) (Option.some Jvm.ClassFile.FieldType.int)) ∈ wAll := wAll_of (List.mem_of_getElem? (i := 820) (by decide +kernel)) (by decide +kernel)
set_option maxRecDepth 20000 in
theorem w_821 : (Jvm.Cond.methodLink "FilmCans$Rooms" (129 : Nat) ({ cls := "FilmCans$Rooms", name := "holds", desc := "(II)Z" } : Jvm.MethodName)) ∈ wAll := wAll_of (List.mem_of_getElem? (i := 821) (by decide +kernel)) (by decide +kernel)
set_option maxRecDepth 20000 in
theorem w_830 : (Jvm.Cond.methodLink "FilmCans" (291 : Nat) ({ cls := "FilmCans", name := "lookAhead", desc := "()V" } : Jvm.MethodName)) ∈ wAll := wAll_of (List.mem_of_getElem? (i := 830) (by decide +kernel)) (by decide +kernel)
set_option maxRecDepth 20000 in
theorem w_832 : (Jvm.Cond.instanceMethod ({ cls := "FilmCans", name := "lookAhead", desc := "()V" } : Jvm.MethodName)) ∈ wAll := wAll_of (List.mem_of_getElem? (i := 832) (by decide +kernel)) (by decide +kernel)
set_option maxRecDepth 20000 in
theorem w_833 : (Jvm.Cond.code ({ cls := "FilmCans", name := "lookAhead", desc := "()V" } : Jvm.MethodName) prog_1_method_43_code (1 : Nat) (Option.none : Option Jvm.ClassFile.FieldType)) ∈ wAll := wAll_of (List.mem_of_getElem? (i := 833) (by decide +kernel)) (by decide +kernel)
set_option maxRecDepth 20000 in
theorem w_834 : (Jvm.Cond.methodLink "FilmCans" (370 : Nat) ({ cls := "FilmCans$Reach", name := "work", desc := "(LFilmCans$Rooms;)V" } : Jvm.MethodName)) ∈ wAll := wAll_of (List.mem_of_getElem? (i := 834) (by decide +kernel)) (by decide +kernel)
set_option maxRecDepth 20000 in
theorem w_835 : (Jvm.Cond.instanceMethod ({ cls := "FilmCans$Reach", name := "work", desc := "(LFilmCans$Rooms;)V" } : Jvm.MethodName)) ∈ wAll := wAll_of (List.mem_of_getElem? (i := 835) (by decide +kernel)) (by decide +kernel)
set_option maxRecDepth 20000 in
theorem w_836 : (Jvm.Cond.selects "FilmCans$Reach" ({ cls := "FilmCans$Reach", name := "work", desc := "(LFilmCans$Rooms;)V" } : Jvm.MethodName) ({ cls := "FilmCans$Reach", name := "work", desc := "(LFilmCans$Rooms;)V" } : Jvm.MethodName)) ∈ wAll := wAll_of (List.mem_of_getElem? (i := 836) (by decide +kernel)) (by decide +kernel)
set_option maxRecDepth 20000 in
theorem w_837 : (Jvm.Cond.code ({ cls := "FilmCans$Reach", name := "work", desc := "(LFilmCans$Rooms;)V" } : Jvm.MethodName) prog_7_method_2_code (3 : Nat) (Option.none : Option Jvm.ClassFile.FieldType)) ∈ wAll := wAll_of (List.mem_of_getElem? (i := 837) (by decide +kernel)) (by decide +kernel)
set_option maxRecDepth 20000 in
theorem w_838 : (Jvm.Cond.constantLong "FilmCans$Reach" (19 : Nat) (-1 : Int64)) ∈ wAll := wAll_of (List.mem_of_getElem? (i := 838) (by decide +kernel)) (by decide +kernel)
set_option maxRecDepth 20000 in
theorem w_839 : (Jvm.Cond.methodLink "FilmCans$Reach" (27 : Nat) ({ cls := "FilmCans$Reach", name := "holdersOf", desc := "(LFilmCans$Rooms;I)I" } : Jvm.MethodName)) ∈ wAll := wAll_of (List.mem_of_getElem? (i := 839) (by decide +kernel)) (by decide +kernel)
set_option maxRecDepth 20000 in
theorem w_841 : (Jvm.Cond.instanceMethod ({ cls := "FilmCans$Reach", name := "holdersOf", desc := "(LFilmCans$Rooms;I)I" } : Jvm.MethodName)) ∈ wAll := wAll_of (List.mem_of_getElem? (i := 841) (by decide +kernel)) (by decide +kernel)
set_option maxRecDepth 20000 in
theorem w_842 : (Jvm.Cond.code ({ cls := "FilmCans$Reach", name := "holdersOf", desc := "(LFilmCans$Rooms;I)I" } : Jvm.MethodName) prog_7_method_3_code (5 : Nat) (Option.some Jvm.ClassFile.FieldType.int)) ∈ wAll := wAll_of (List.mem_of_getElem? (i := 842) (by decide +kernel)) (by decide +kernel)
set_option maxRecDepth 20000 in
theorem w_843 : (Jvm.Cond.methodLink "FilmCans$Reach" (35 : Nat) ({ cls := "FilmCans$Rooms", name := "holds", desc := "(II)Z" } : Jvm.MethodName)) ∈ wAll := wAll_of (List.mem_of_getElem? (i := 843) (by decide +kernel)) (by decide +kernel)
set_option maxRecDepth 20000 in
theorem w_844 : (Jvm.Cond.methodLink "FilmCans$Reach" (31 : Nat) ({ cls := "FilmCans$Reach", name := "roomSetsFor", desc := "(I)J" } : Jvm.MethodName)) ∈ wAll := wAll_of (List.mem_of_getElem? (i := 844) (by decide +kernel)) (by decide +kernel)
set_option maxRecDepth 20000 in
theorem w_846 : (Jvm.Cond.instanceMethod ({ cls := "FilmCans$Reach", name := "roomSetsFor", desc := "(I)J" } : Jvm.MethodName)) ∈ wAll := wAll_of (List.mem_of_getElem? (i := 846) (by decide +kernel)) (by decide +kernel)
set_option maxRecDepth 20000 in
theorem w_847 : (Jvm.Cond.code ({ cls := "FilmCans$Reach", name := "roomSetsFor", desc := "(I)J" } : Jvm.MethodName) prog_7_method_4_code (7 : Nat) (Option.some Jvm.ClassFile.FieldType.long)) ∈ wAll := wAll_of (List.mem_of_getElem? (i := 847) (by decide +kernel)) (by decide +kernel)
set_option maxRecDepth 20000 in
theorem w_848 : (Jvm.Cond.methodLink "FilmCans$Reach" (39 : Nat) ({ cls := "FilmCans$Reach", name := "withOneMore", desc := "(JI)J" } : Jvm.MethodName)) ∈ wAll := wAll_of (List.mem_of_getElem? (i := 848) (by decide +kernel)) (by decide +kernel)
set_option maxRecDepth 20000 in
theorem w_850 : (Jvm.Cond.instanceMethod ({ cls := "FilmCans$Reach", name := "withOneMore", desc := "(JI)J" } : Jvm.MethodName)) ∈ wAll := wAll_of (List.mem_of_getElem? (i := 850) (by decide +kernel)) (by decide +kernel)
set_option maxRecDepth 20000 in
theorem w_851 : (Jvm.Cond.code ({ cls := "FilmCans$Reach", name := "withOneMore", desc := "(JI)J" } : Jvm.MethodName) prog_7_method_5_code (7 : Nat) (Option.some Jvm.ClassFile.FieldType.long)) ∈ wAll := wAll_of (List.mem_of_getElem? (i := 851) (by decide +kernel)) (by decide +kernel)
set_option maxRecDepth 20000 in
theorem w_852 : (Jvm.Cond.fieldLink "FilmCans$Reach" (43 : Nat) "FilmCans$Reach" "WITHOUT" "[J") ∈ wAll := wAll_of (List.mem_of_getElem? (i := 852) (by decide +kernel)) (by decide +kernel)
set_option maxRecDepth 20000 in
theorem w_854 : (Jvm.Cond.methodLink "FilmCans" (294 : Nat) ({ cls := "FilmCans$Reach", name := "longestOf", desc := "(ILFilmCans$Rooms;)I" } : Jvm.MethodName)) ∈ wAll := wAll_of (List.mem_of_getElem? (i := 854) (by decide +kernel)) (by decide +kernel)
set_option maxRecDepth 20000 in
theorem w_855 : (Jvm.Cond.instanceMethod ({ cls := "FilmCans$Reach", name := "longestOf", desc := "(ILFilmCans$Rooms;)I" } : Jvm.MethodName)) ∈ wAll := wAll_of (List.mem_of_getElem? (i := 855) (by decide +kernel)) (by decide +kernel)
set_option maxRecDepth 20000 in
theorem w_856 : (Jvm.Cond.selects "FilmCans$Reach" ({ cls := "FilmCans$Reach", name := "longestOf", desc := "(ILFilmCans$Rooms;)I" } : Jvm.MethodName) ({ cls := "FilmCans$Reach", name := "longestOf", desc := "(ILFilmCans$Rooms;)I" } : Jvm.MethodName)) ∈ wAll := wAll_of (List.mem_of_getElem? (i := 856) (by decide +kernel)) (by decide +kernel)
set_option maxRecDepth 20000 in
theorem w_857 : (Jvm.Cond.code ({ cls := "FilmCans$Reach", name := "longestOf", desc := "(ILFilmCans$Rooms;)I" } : Jvm.MethodName) prog_7_method_10_code (7 : Nat) (Option.some Jvm.ClassFile.FieldType.int)) ∈ wAll := wAll_of (List.mem_of_getElem? (i := 857) (by decide +kernel)) (by decide +kernel)
set_option maxRecDepth 20000 in
theorem w_858 : (Jvm.Cond.methodLink "FilmCans$Reach" (66 : Nat) ({ cls := "FilmCans$Reach", name := "longestOn", desc := "(IIILFilmCans$Rooms;)I" } : Jvm.MethodName)) ∈ wAll := wAll_of (List.mem_of_getElem? (i := 858) (by decide +kernel)) (by decide +kernel)
set_option maxRecDepth 20000 in
theorem w_860 : (Jvm.Cond.instanceMethod ({ cls := "FilmCans$Reach", name := "longestOn", desc := "(IIILFilmCans$Rooms;)I" } : Jvm.MethodName)) ∈ wAll := wAll_of (List.mem_of_getElem? (i := 860) (by decide +kernel)) (by decide +kernel)
set_option maxRecDepth 20000 in
theorem w_861 : (Jvm.Cond.code ({ cls := "FilmCans$Reach", name := "longestOn", desc := "(IIILFilmCans$Rooms;)I" } : Jvm.MethodName) prog_7_method_11_code (7 : Nat) (Option.some Jvm.ClassFile.FieldType.int)) ∈ wAll := wAll_of (List.mem_of_getElem? (i := 861) (by decide +kernel)) (by decide +kernel)
set_option maxRecDepth 20000 in
theorem w_862 : (Jvm.Cond.methodLink "FilmCans$Reach" (46 : Nat) ({ cls := "FilmCans$Reach", name := "isPlaced", desc := "(II)Z" } : Jvm.MethodName)) ∈ wAll := wAll_of (List.mem_of_getElem? (i := 862) (by decide +kernel)) (by decide +kernel)
set_option maxRecDepth 20000 in
theorem w_864 : (Jvm.Cond.instanceMethod ({ cls := "FilmCans$Reach", name := "isPlaced", desc := "(II)Z" } : Jvm.MethodName)) ∈ wAll := wAll_of (List.mem_of_getElem? (i := 864) (by decide +kernel)) (by decide +kernel)
set_option maxRecDepth 20000 in
theorem w_865 : (Jvm.Cond.code ({ cls := "FilmCans$Reach", name := "isPlaced", desc := "(II)Z" } : Jvm.MethodName) prog_7_method_6_code (3 : Nat) (Option.some Jvm.ClassFile.FieldType.boolean)) ∈ wAll := wAll_of (List.mem_of_getElem? (i := 865) (by decide +kernel)) (by decide +kernel)
set_option maxRecDepth 20000 in
theorem w_872 : (Jvm.Cond.methodLink "FilmCans" (303 : Nat) ({ cls := "FilmCans$Reach", name := "canPlaceAll", desc := "(LFilmCans$Rooms;)Z" } : Jvm.MethodName)) ∈ wAll := wAll_of (List.mem_of_getElem? (i := 872) (by decide +kernel)) (by decide +kernel)
set_option maxRecDepth 20000 in
theorem w_873 : (Jvm.Cond.instanceMethod ({ cls := "FilmCans$Reach", name := "canPlaceAll", desc := "(LFilmCans$Rooms;)Z" } : Jvm.MethodName)) ∈ wAll := wAll_of (List.mem_of_getElem? (i := 873) (by decide +kernel)) (by decide +kernel)
set_option maxRecDepth 20000 in
theorem w_874 : (Jvm.Cond.selects "FilmCans$Reach" ({ cls := "FilmCans$Reach", name := "canPlaceAll", desc := "(LFilmCans$Rooms;)Z" } : Jvm.MethodName) ({ cls := "FilmCans$Reach", name := "canPlaceAll", desc := "(LFilmCans$Rooms;)Z" } : Jvm.MethodName)) ∈ wAll := wAll_of (List.mem_of_getElem? (i := 874) (by decide +kernel)) (by decide +kernel)
set_option maxRecDepth 20000 in
theorem w_875 : (Jvm.Cond.code ({ cls := "FilmCans$Reach", name := "canPlaceAll", desc := "(LFilmCans$Rooms;)Z" } : Jvm.MethodName) prog_7_method_7_code (2 : Nat) (Option.some Jvm.ClassFile.FieldType.boolean)) ∈ wAll := wAll_of (List.mem_of_getElem? (i := 875) (by decide +kernel)) (by decide +kernel)
set_option maxRecDepth 20000 in
theorem w_876 : (Jvm.Cond.methodLink "FilmCans" (307 : Nat) ({ cls := "FilmCans$Kinds", name := "leadOf", desc := "(II)I" } : Jvm.MethodName)) ∈ wAll := wAll_of (List.mem_of_getElem? (i := 876) (by decide +kernel)) (by decide +kernel)
set_option maxRecDepth 20000 in
theorem w_877 : (Jvm.Cond.methodLink "FilmCans" (309 : Nat) ({ cls := "FilmCans$Day", name := "takesServedBy", desc := "(I)I" } : Jvm.MethodName)) ∈ wAll := wAll_of (List.mem_of_getElem? (i := 877) (by decide +kernel)) (by decide +kernel)
set_option maxRecDepth 20000 in
theorem w_878 : (Jvm.Cond.methodLink "FilmCans" (312 : Nat) ({ cls := "FilmCans$Reach", name := "leastRest", desc := "(LFilmCans$Rooms;III)I" } : Jvm.MethodName)) ∈ wAll := wAll_of (List.mem_of_getElem? (i := 878) (by decide +kernel)) (by decide +kernel)
set_option maxRecDepth 20000 in
theorem w_879 : (Jvm.Cond.instanceMethod ({ cls := "FilmCans$Reach", name := "leastRest", desc := "(LFilmCans$Rooms;III)I" } : Jvm.MethodName)) ∈ wAll := wAll_of (List.mem_of_getElem? (i := 879) (by decide +kernel)) (by decide +kernel)
set_option maxRecDepth 20000 in
theorem w_880 : (Jvm.Cond.selects "FilmCans$Reach" ({ cls := "FilmCans$Reach", name := "leastRest", desc := "(LFilmCans$Rooms;III)I" } : Jvm.MethodName) ({ cls := "FilmCans$Reach", name := "leastRest", desc := "(LFilmCans$Rooms;III)I" } : Jvm.MethodName)) ∈ wAll := wAll_of (List.mem_of_getElem? (i := 880) (by decide +kernel)) (by decide +kernel)
set_option maxRecDepth 20000 in
theorem w_881 : (Jvm.Cond.code ({ cls := "FilmCans$Reach", name := "leastRest", desc := "(LFilmCans$Rooms;III)I" } : Jvm.MethodName) prog_7_method_12_code (8 : Nat) (Option.some Jvm.ClassFile.FieldType.int)) ∈ wAll := wAll_of (List.mem_of_getElem? (i := 881) (by decide +kernel)) (by decide +kernel)
set_option maxRecDepth 20000 in
theorem w_882 : (Jvm.Cond.methodLink "FilmCans$Reach" (56 : Nat) ({ cls := "java/lang/Integer", name := "bitCount", desc := "(I)I" } : Jvm.MethodName)) ∈ wAll := wAll_of (List.mem_of_getElem? (i := 882) (by decide +kernel)) (by decide +kernel)
set_option maxRecDepth 20000 in
theorem w_888 : (Jvm.Cond.methodLink "FilmCans" (316 : Nat) ({ cls := "FilmCans$Reach", name := "roomsNeeded", desc := "(LFilmCans$Rooms;)I" } : Jvm.MethodName)) ∈ wAll := wAll_of (List.mem_of_getElem? (i := 888) (by decide +kernel)) (by decide +kernel)
set_option maxRecDepth 20000 in
theorem w_889 : (Jvm.Cond.instanceMethod ({ cls := "FilmCans$Reach", name := "roomsNeeded", desc := "(LFilmCans$Rooms;)I" } : Jvm.MethodName)) ∈ wAll := wAll_of (List.mem_of_getElem? (i := 889) (by decide +kernel)) (by decide +kernel)
set_option maxRecDepth 20000 in
theorem w_890 : (Jvm.Cond.selects "FilmCans$Reach" ({ cls := "FilmCans$Reach", name := "roomsNeeded", desc := "(LFilmCans$Rooms;)I" } : Jvm.MethodName) ({ cls := "FilmCans$Reach", name := "roomsNeeded", desc := "(LFilmCans$Rooms;)I" } : Jvm.MethodName)) ∈ wAll := wAll_of (List.mem_of_getElem? (i := 890) (by decide +kernel)) (by decide +kernel)
set_option maxRecDepth 20000 in
theorem w_891 : (Jvm.Cond.code ({ cls := "FilmCans$Reach", name := "roomsNeeded", desc := "(LFilmCans$Rooms;)I" } : Jvm.MethodName) prog_7_method_8_code (4 : Nat) (Option.some Jvm.ClassFile.FieldType.int)) ∈ wAll := wAll_of (List.mem_of_getElem? (i := 891) (by decide +kernel)) (by decide +kernel)
set_option maxRecDepth 20000 in
theorem w_892 : (Jvm.Cond.methodLink "FilmCans$Reach" (49 : Nat) ({ cls := "FilmCans$Rooms", name := "has", desc := "(I)Z" } : Jvm.MethodName)) ∈ wAll := wAll_of (List.mem_of_getElem? (i := 892) (by decide +kernel)) (by decide +kernel)
set_option maxRecDepth 20000 in
theorem w_897 : (Jvm.Cond.constantLong "FilmCans" (320 : Nat) (-1000002 : Int64)) ∈ wAll := wAll_of (List.mem_of_getElem? (i := 897) (by decide +kernel)) (by decide +kernel)
set_option maxRecDepth 20000 in
theorem w_898 : (Jvm.Cond.constantLong "FilmCans" (322 : Nat) (-1000001 : Int64)) ∈ wAll := wAll_of (List.mem_of_getElem? (i := 898) (by decide +kernel)) (by decide +kernel)
set_option maxRecDepth 20000 in
theorem w_899 : (Jvm.Cond.methodLink "FilmCans" (324 : Nat) ({ cls := "FilmCans$Reach", name := "casesAmongTens", desc := "(LFilmCans$Rooms;I)J" } : Jvm.MethodName)) ∈ wAll := wAll_of (List.mem_of_getElem? (i := 899) (by decide +kernel)) (by decide +kernel)
set_option maxRecDepth 20000 in
theorem w_900 : (Jvm.Cond.instanceMethod ({ cls := "FilmCans$Reach", name := "casesAmongTens", desc := "(LFilmCans$Rooms;I)J" } : Jvm.MethodName)) ∈ wAll := wAll_of (List.mem_of_getElem? (i := 900) (by decide +kernel)) (by decide +kernel)
set_option maxRecDepth 20000 in
theorem w_901 : (Jvm.Cond.selects "FilmCans$Reach" ({ cls := "FilmCans$Reach", name := "casesAmongTens", desc := "(LFilmCans$Rooms;I)J" } : Jvm.MethodName) ({ cls := "FilmCans$Reach", name := "casesAmongTens", desc := "(LFilmCans$Rooms;I)J" } : Jvm.MethodName)) ∈ wAll := wAll_of (List.mem_of_getElem? (i := 901) (by decide +kernel)) (by decide +kernel)
set_option maxRecDepth 20000 in
theorem w_902 : (Jvm.Cond.code ({ cls := "FilmCans$Reach", name := "casesAmongTens", desc := "(LFilmCans$Rooms;I)J" } : Jvm.MethodName) prog_7_method_9_code (7 : Nat) (Option.some Jvm.ClassFile.FieldType.long)) ∈ wAll := wAll_of (List.mem_of_getElem? (i := 902) (by decide +kernel)) (by decide +kernel)
set_option maxRecDepth 20000 in
theorem w_904 : (Jvm.Cond.static ({ cls := "FilmCans", name := "power", desc := "(II)J" } : Jvm.MethodName)) ∈ wAll := wAll_of (List.mem_of_getElem? (i := 904) (by decide +kernel)) (by decide +kernel)
set_option maxRecDepth 20000 in
theorem w_905 : (Jvm.Cond.code ({ cls := "FilmCans", name := "power", desc := "(II)J" } : Jvm.MethodName) prog_1_method_44_code (5 : Nat) (Option.some Jvm.ClassFile.FieldType.long)) ∈ wAll := wAll_of (List.mem_of_getElem? (i := 905) (by decide +kernel)) (by decide +kernel)
set_option maxRecDepth 20000 in
theorem w_906 : (Jvm.Cond.methodLink "FilmCans" (331 : Nat) ({ cls := "java/lang/Integer", name := "bitCount", desc := "(I)I" } : Jvm.MethodName)) ∈ wAll := wAll_of (List.mem_of_getElem? (i := 906) (by decide +kernel)) (by decide +kernel)
set_option maxRecDepth 20000 in
theorem w_907 : (Jvm.Cond.methodLink "FilmCans" (336 : Nat) ({ cls := "FilmCans", name := "power", desc := "(II)J" } : Jvm.MethodName)) ∈ wAll := wAll_of (List.mem_of_getElem? (i := 907) (by decide +kernel)) (by decide +kernel)
set_option maxRecDepth 20000 in
theorem w_908 : (Jvm.Cond.methodLink "FilmCans" (340 : Nat) ({ cls := "FilmCans", name := "greatestDivisor", desc := "(JJ)J" } : Jvm.MethodName)) ∈ wAll := wAll_of (List.mem_of_getElem? (i := 908) (by decide +kernel)) (by decide +kernel)
set_option maxRecDepth 20000 in
theorem w_909 : (Jvm.Cond.static ({ cls := "FilmCans", name := "greatestDivisor", desc := "(JJ)J" } : Jvm.MethodName)) ∈ wAll := wAll_of (List.mem_of_getElem? (i := 909) (by decide +kernel)) (by decide +kernel)
set_option maxRecDepth 20000 in
theorem w_910 : (Jvm.Cond.code ({ cls := "FilmCans", name := "greatestDivisor", desc := "(JJ)J" } : Jvm.MethodName) prog_1_method_45_code (7 : Nat) (Option.some Jvm.ClassFile.FieldType.long)) ∈ wAll := wAll_of (List.mem_of_getElem? (i := 910) (by decide +kernel)) (by decide +kernel)
set_option maxRecDepth 20000 in
theorem w_915 : (Jvm.Cond.constant "FilmCans" (344 : Nat) (999999 : Int32)) ∈ wAll := wAll_of (List.mem_of_getElem? (i := 915) (by decide +kernel)) (by decide +kernel)
set_option maxRecDepth 20000 in
theorem w_916 : (Jvm.Cond.constantLong "FilmCans" (345 : Nat) (16807 : Int64)) ∈ wAll := wAll_of (List.mem_of_getElem? (i := 916) (by decide +kernel)) (by decide +kernel)
set_option maxRecDepth 20000 in
theorem w_917 : (Jvm.Cond.constantLong "FilmCans" (347 : Nat) (2147483647 : Int64)) ∈ wAll := wAll_of (List.mem_of_getElem? (i := 917) (by decide +kernel)) (by decide +kernel)
set_option maxRecDepth 20000 in
theorem w_918 : (Jvm.Cond.methodLink "FilmCans" (349 : Nat) ({ cls := "FilmCans$Rooms", name := "drawLength", desc := "(J)V" } : Jvm.MethodName)) ∈ wAll := wAll_of (List.mem_of_getElem? (i := 918) (by decide +kernel)) (by decide +kernel)
set_option maxRecDepth 20000 in
theorem w_919 : (Jvm.Cond.instanceMethod ({ cls := "FilmCans$Rooms", name := "drawLength", desc := "(J)V" } : Jvm.MethodName)) ∈ wAll := wAll_of (List.mem_of_getElem? (i := 919) (by decide +kernel)) (by decide +kernel)
set_option maxRecDepth 20000 in
theorem w_920 : (Jvm.Cond.selects "FilmCans$Rooms" ({ cls := "FilmCans$Rooms", name := "drawLength", desc := "(J)V" } : Jvm.MethodName) ({ cls := "FilmCans$Rooms", name := "drawLength", desc := "(J)V" } : Jvm.MethodName)) ∈ wAll := wAll_of (List.mem_of_getElem? (i := 920) (by decide +kernel)) (by decide +kernel)
set_option maxRecDepth 20000 in
theorem w_921 : (Jvm.Cond.code ({ cls := "FilmCans$Rooms", name := "drawLength", desc := "(J)V" } : Jvm.MethodName) prog_8_method_4_code (6 : Nat) (Option.none : Option Jvm.ClassFile.FieldType)) ∈ wAll := wAll_of (List.mem_of_getElem? (i := 921) (by decide +kernel)) (by decide +kernel)
set_option maxRecDepth 20000 in
theorem w_922 : (Jvm.Cond.constantLong "FilmCans$Rooms" (106 : Nat) (16 : Int64)) ∈ wAll := wAll_of (List.mem_of_getElem? (i := 922) (by decide +kernel)) (by decide +kernel)
set_option maxRecDepth 20000 in
theorem w_923 : (Jvm.Cond.constantLong "FilmCans$Rooms" (108 : Nat) (60 : Int64)) ∈ wAll := wAll_of (List.mem_of_getElem? (i := 923) (by decide +kernel)) (by decide +kernel)
set_option maxRecDepth 20000 in
theorem w_936 : (Jvm.Cond.methodLink "FilmCans" (361 : Nat) ({ cls := "FilmCans$Day", name := "rooms", desc := "()I" } : Jvm.MethodName)) ∈ wAll := wAll_of (List.mem_of_getElem? (i := 936) (by decide +kernel)) (by decide +kernel)
set_option maxRecDepth 20000 in
theorem w_943 : (Jvm.Cond.fieldLink "FilmCansModel" (7 : Nat) "FilmCansModel" "now" "[I") ∈ wAll := wAll_of (List.mem_of_getElem? (i := 943) (by decide +kernel)) (by decide +kernel)
set_option maxRecDepth 20000 in
theorem w_944 : (Jvm.Cond.fieldLink "FilmCansModel" (13 : Nat) "FilmCansModel" "draft" "[I") ∈ wAll := wAll_of (List.mem_of_getElem? (i := 944) (by decide +kernel)) (by decide +kernel)
set_option maxRecDepth 20000 in
theorem w_945 : (Jvm.Cond.fieldLink "FilmCansModel" (16 : Nat) "FilmCansModel" "past" "[I") ∈ wAll := wAll_of (List.mem_of_getElem? (i := 945) (by decide +kernel)) (by decide +kernel)
set_option maxRecDepth 20000 in
theorem w_946 : (Jvm.Cond.fieldLink "FilmCansModel" (179 : Nat) "FilmCansModel" "acts" "I") ∈ wAll := wAll_of (List.mem_of_getElem? (i := 946) (by decide +kernel)) (by decide +kernel)
set_option maxRecDepth 20000 in
theorem w_947 : (Jvm.Cond.fieldLink "FilmCansModel" (19 : Nat) "FilmCansModel" "images" "[I") ∈ wAll := wAll_of (List.mem_of_getElem? (i := 947) (by decide +kernel)) (by decide +kernel)
set_option maxRecDepth 20000 in
theorem w_948 : (Jvm.Cond.fieldLink "FilmCansModel" (22 : Nat) "FilmCansModel" "kept" "[Z") ∈ wAll := wAll_of (List.mem_of_getElem? (i := 948) (by decide +kernel)) (by decide +kernel)
set_option maxRecDepth 20000 in
theorem w_949 : (Jvm.Cond.fieldLink "FilmCansModel" (26 : Nat) "FilmCansModel" "tape" "[I") ∈ wAll := wAll_of (List.mem_of_getElem? (i := 949) (by decide +kernel)) (by decide +kernel)
set_option maxRecDepth 20000 in
theorem w_950 : (Jvm.Cond.fieldLink "FilmCansModel" (97 : Nat) "FilmCansModel" "taped" "I") ∈ wAll := wAll_of (List.mem_of_getElem? (i := 950) (by decide +kernel)) (by decide +kernel)
set_option maxRecDepth 20000 in
theorem w_951 : (Jvm.Cond.fieldLink "FilmCansModel" (101 : Nat) "FilmCansModel" "at" "I") ∈ wAll := wAll_of (List.mem_of_getElem? (i := 951) (by decide +kernel)) (by decide +kernel)
set_option maxRecDepth 20000 in
theorem w_952 : (Jvm.Cond.fieldLink "FilmCansModel" (104 : Nat) "FilmCansModel" "start" "I") ∈ wAll := wAll_of (List.mem_of_getElem? (i := 952) (by decide +kernel)) (by decide +kernel)
set_option maxRecDepth 20000 in
theorem w_953 : (Jvm.Cond.fieldLink "FilmCansModel" (121 : Nat) "FilmCansModel" "token" "I") ∈ wAll := wAll_of (List.mem_of_getElem? (i := 953) (by decide +kernel)) (by decide +kernel)
set_option maxRecDepth 20000 in
theorem w_954 : (Jvm.Cond.fieldLink "FilmCansModel" (110 : Nat) "FilmCansModel" "value" "I") ∈ wAll := wAll_of (List.mem_of_getElem? (i := 954) (by decide +kernel)) (by decide +kernel)
set_option maxRecDepth 20000 in
theorem w_955 : (Jvm.Cond.fieldLink "FilmCansModel" (124 : Nat) "FilmCansModel" "fault" "I") ∈ wAll := wAll_of (List.mem_of_getElem? (i := 955) (by decide +kernel)) (by decide +kernel)
set_option maxRecDepth 20000 in
theorem w_956 : (Jvm.Cond.fieldLink "FilmCansModel" (127 : Nat) "FilmCansModel" "place" "I") ∈ wAll := wAll_of (List.mem_of_getElem? (i := 956) (by decide +kernel)) (by decide +kernel)
set_option maxRecDepth 20000 in
theorem w_957 : (Jvm.Cond.fieldLink "FilmCansModel" (171 : Nat) "FilmCansModel" "latest" "I") ∈ wAll := wAll_of (List.mem_of_getElem? (i := 957) (by decide +kernel)) (by decide +kernel)
set_option maxRecDepth 20000 in
theorem w_958 : (Jvm.Cond.fieldLink "FilmCansModel" (29 : Nat) "FilmCansModel" "loss" "[I") ∈ wAll := wAll_of (List.mem_of_getElem? (i := 958) (by decide +kernel)) (by decide +kernel)
set_option maxRecDepth 20000 in
theorem w_959 : (Jvm.Cond.fieldLink "FilmCansModel" (32 : Nat) "FilmCansModel" "rooms" "[I") ∈ wAll := wAll_of (List.mem_of_getElem? (i := 959) (by decide +kernel)) (by decide +kernel)
set_option maxRecDepth 20000 in
theorem w_960 : (Jvm.Cond.fieldLink "FilmCansModel" (35 : Nat) "FilmCansModel" "plan" "[I") ∈ wAll := wAll_of (List.mem_of_getElem? (i := 960) (by decide +kernel)) (by decide +kernel)
set_option maxRecDepth 20000 in
theorem w_961 : (Jvm.Cond.fieldLink "FilmCansModel" (38 : Nat) "FilmCansModel" "filled" "[I") ∈ wAll := wAll_of (List.mem_of_getElem? (i := 961) (by decide +kernel)) (by decide +kernel)
set_option maxRecDepth 20000 in
theorem w_962 : (Jvm.Cond.fieldLink "FilmCansModel" (41 : Nat) "FilmCansModel" "family" "[I") ∈ wAll := wAll_of (List.mem_of_getElem? (i := 962) (by decide +kernel)) (by decide +kernel)
set_option maxRecDepth 20000 in
theorem w_963 : (Jvm.Cond.fieldLink "FilmCansModel" (44 : Nat) "FilmCansModel" "few" "[I") ∈ wAll := wAll_of (List.mem_of_getElem? (i := 963) (by decide +kernel)) (by decide +kernel)
set_option maxRecDepth 20000 in
theorem w_1012 : (Jvm.Cond.constantLong "FilmCansModel" (154 : Nat) (255 : Int64)) ∈ wAll := wAll_of (List.mem_of_getElem? (i := 1012) (by decide +kernel)) (by decide +kernel)
set_option maxRecDepth 20000 in
theorem w_1013 : (Jvm.Cond.methodLink "FilmCansModel" (47 : Nat) ({ cls := "FilmCansModel", name := "in", desc := "(JJJ)Z" } : Jvm.MethodName)) ∈ wAll := wAll_of (List.mem_of_getElem? (i := 1013) (by decide +kernel)) (by decide +kernel)
set_option maxRecDepth 20000 in
theorem w_1014 : (Jvm.Cond.static ({ cls := "FilmCansModel", name := "in", desc := "(JJJ)Z" } : Jvm.MethodName)) ∈ wAll := wAll_of (List.mem_of_getElem? (i := 1014) (by decide +kernel)) (by decide +kernel)
set_option maxRecDepth 20000 in
theorem w_1015 : (Jvm.Cond.code ({ cls := "FilmCansModel", name := "in", desc := "(JJJ)Z" } : Jvm.MethodName) prog_11_method_3_code (6 : Nat) (Option.some Jvm.ClassFile.FieldType.boolean)) ∈ wAll := wAll_of (List.mem_of_getElem? (i := 1015) (by decide +kernel)) (by decide +kernel)
set_option maxRecDepth 20000 in
theorem w_1016 : (Jvm.Cond.constant "FilmCansModel" (156 : Nat) (-1000001 : Int32)) ∈ wAll := wAll_of (List.mem_of_getElem? (i := 1016) (by decide +kernel)) (by decide +kernel)
set_option maxRecDepth 20000 in
theorem w_1017 : (Jvm.Cond.constant "FilmCansModel" (157 : Nat) (-1000003 : Int32)) ∈ wAll := wAll_of (List.mem_of_getElem? (i := 1017) (by decide +kernel)) (by decide +kernel)
set_option maxRecDepth 20000 in
theorem w_1022 : (Jvm.Cond.methodLink "FilmCansModel" (130 : Nat) ({ cls := "FilmCansModel", name := "next", desc := "()V" } : Jvm.MethodName)) ∈ wAll := wAll_of (List.mem_of_getElem? (i := 1022) (by decide +kernel)) (by decide +kernel)
set_option maxRecDepth 20000 in
theorem w_1024 : (Jvm.Cond.instanceMethod ({ cls := "FilmCansModel", name := "next", desc := "()V" } : Jvm.MethodName)) ∈ wAll := wAll_of (List.mem_of_getElem? (i := 1024) (by decide +kernel)) (by decide +kernel)
set_option maxRecDepth 20000 in
theorem w_1025 : (Jvm.Cond.code ({ cls := "FilmCansModel", name := "next", desc := "()V" } : Jvm.MethodName) prog_11_method_25_code (2 : Nat) (Option.none : Option Jvm.ClassFile.FieldType)) ∈ wAll := wAll_of (List.mem_of_getElem? (i := 1025) (by decide +kernel)) (by decide +kernel)
set_option maxRecDepth 20000 in
theorem w_1026 : (Jvm.Cond.methodLink "FilmCansModel" (107 : Nat) ({ cls := "FilmCansModel", name := "byteAt", desc := "(I)I" } : Jvm.MethodName)) ∈ wAll := wAll_of (List.mem_of_getElem? (i := 1026) (by decide +kernel)) (by decide +kernel)
set_option maxRecDepth 20000 in
theorem w_1028 : (Jvm.Cond.instanceMethod ({ cls := "FilmCansModel", name := "byteAt", desc := "(I)I" } : Jvm.MethodName)) ∈ wAll := wAll_of (List.mem_of_getElem? (i := 1028) (by decide +kernel)) (by decide +kernel)
set_option maxRecDepth 20000 in
theorem w_1029 : (Jvm.Cond.code ({ cls := "FilmCansModel", name := "byteAt", desc := "(I)I" } : Jvm.MethodName) prog_11_method_24_code (2 : Nat) (Option.some Jvm.ClassFile.FieldType.int)) ∈ wAll := wAll_of (List.mem_of_getElem? (i := 1029) (by decide +kernel)) (by decide +kernel)
set_option maxRecDepth 20000 in
theorem w_1030 : (Jvm.Cond.constantLong "FilmCansModel" (113 : Nat) (97 : Int64)) ∈ wAll := wAll_of (List.mem_of_getElem? (i := 1030) (by decide +kernel)) (by decide +kernel)
set_option maxRecDepth 20000 in
theorem w_1031 : (Jvm.Cond.constantLong "FilmCansModel" (115 : Nat) (122 : Int64)) ∈ wAll := wAll_of (List.mem_of_getElem? (i := 1031) (by decide +kernel)) (by decide +kernel)
set_option maxRecDepth 20000 in
theorem w_1032 : (Jvm.Cond.constantLong "FilmCansModel" (117 : Nat) (48 : Int64)) ∈ wAll := wAll_of (List.mem_of_getElem? (i := 1032) (by decide +kernel)) (by decide +kernel)
set_option maxRecDepth 20000 in
theorem w_1033 : (Jvm.Cond.constantLong "FilmCansModel" (119 : Nat) (57 : Int64)) ∈ wAll := wAll_of (List.mem_of_getElem? (i := 1033) (by decide +kernel)) (by decide +kernel)
set_option maxRecDepth 20000 in
theorem w_1034 : (Jvm.Cond.methodLink "FilmCansModel" (158 : Nat) ({ cls := "FilmCansModel", name := "letter", desc := "(I)V" } : Jvm.MethodName)) ∈ wAll := wAll_of (List.mem_of_getElem? (i := 1034) (by decide +kernel)) (by decide +kernel)
set_option maxRecDepth 20000 in
theorem w_1036 : (Jvm.Cond.instanceMethod ({ cls := "FilmCansModel", name := "letter", desc := "(I)V" } : Jvm.MethodName)) ∈ wAll := wAll_of (List.mem_of_getElem? (i := 1036) (by decide +kernel)) (by decide +kernel)
set_option maxRecDepth 20000 in
theorem w_1037 : (Jvm.Cond.code ({ cls := "FilmCansModel", name := "letter", desc := "(I)V" } : Jvm.MethodName) prog_11_method_30_code (2 : Nat) (Option.none : Option Jvm.ClassFile.FieldType)) ∈ wAll := wAll_of (List.mem_of_getElem? (i := 1037) (by decide +kernel)) (by decide +kernel)
set_option maxRecDepth 20000 in
theorem w_1038 : (Jvm.Cond.methodLink "FilmCansModel" (133 : Nat) ({ cls := "FilmCansModel", name := "bad", desc := "(I)V" } : Jvm.MethodName)) ∈ wAll := wAll_of (List.mem_of_getElem? (i := 1038) (by decide +kernel)) (by decide +kernel)
set_option maxRecDepth 20000 in
theorem w_1040 : (Jvm.Cond.instanceMethod ({ cls := "FilmCansModel", name := "bad", desc := "(I)V" } : Jvm.MethodName)) ∈ wAll := wAll_of (List.mem_of_getElem? (i := 1040) (by decide +kernel)) (by decide +kernel)
set_option maxRecDepth 20000 in
theorem w_1041 : (Jvm.Cond.code ({ cls := "FilmCansModel", name := "bad", desc := "(I)V" } : Jvm.MethodName) prog_11_method_26_code (2 : Nat) (Option.none : Option Jvm.ClassFile.FieldType)) ∈ wAll := wAll_of (List.mem_of_getElem? (i := 1041) (by decide +kernel)) (by decide +kernel)
set_option maxRecDepth 20000 in
theorem w_1042 : (Jvm.Cond.methodLink "FilmCansModel" (137 : Nat) ({ cls := "FilmCansModel", name := "goesOn", desc := "()V" } : Jvm.MethodName)) ∈ wAll := wAll_of (List.mem_of_getElem? (i := 1042) (by decide +kernel)) (by decide +kernel)
set_option maxRecDepth 20000 in
theorem w_1044 : (Jvm.Cond.instanceMethod ({ cls := "FilmCansModel", name := "goesOn", desc := "()V" } : Jvm.MethodName)) ∈ wAll := wAll_of (List.mem_of_getElem? (i := 1044) (by decide +kernel)) (by decide +kernel)
set_option maxRecDepth 20000 in
theorem w_1045 : (Jvm.Cond.code ({ cls := "FilmCansModel", name := "goesOn", desc := "()V" } : Jvm.MethodName) prog_11_method_27_code (1 : Nat) (Option.none : Option Jvm.ClassFile.FieldType)) ∈ wAll := wAll_of (List.mem_of_getElem? (i := 1045) (by decide +kernel)) (by decide +kernel)
set_option maxRecDepth 20000 in
theorem w_1046 : (Jvm.Cond.methodLink "FilmCansModel" (143 : Nat) ({ cls := "FilmCansModel", name := "number", desc := "(II)I" } : Jvm.MethodName)) ∈ wAll := wAll_of (List.mem_of_getElem? (i := 1046) (by decide +kernel)) (by decide +kernel)
set_option maxRecDepth 20000 in
theorem w_1048 : (Jvm.Cond.instanceMethod ({ cls := "FilmCansModel", name := "number", desc := "(II)I" } : Jvm.MethodName)) ∈ wAll := wAll_of (List.mem_of_getElem? (i := 1048) (by decide +kernel)) (by decide +kernel)
set_option maxRecDepth 20000 in
theorem w_1049 : (Jvm.Cond.code ({ cls := "FilmCansModel", name := "number", desc := "(II)I" } : Jvm.MethodName) prog_11_method_28_code (4 : Nat) (Option.some Jvm.ClassFile.FieldType.int)) ∈ wAll := wAll_of (List.mem_of_getElem? (i := 1049) (by decide +kernel)) (by decide +kernel)
set_option maxRecDepth 20000 in
theorem w_1050 : (Jvm.Cond.methodLink "FilmCansModel" (147 : Nat) ({ cls := "FilmCansModel", name := "sign", desc := "(I)V" } : Jvm.MethodName)) ∈ wAll := wAll_of (List.mem_of_getElem? (i := 1050) (by decide +kernel)) (by decide +kernel)
set_option maxRecDepth 20000 in
theorem w_1052 : (Jvm.Cond.instanceMethod ({ cls := "FilmCansModel", name := "sign", desc := "(I)V" } : Jvm.MethodName)) ∈ wAll := wAll_of (List.mem_of_getElem? (i := 1052) (by decide +kernel)) (by decide +kernel)
set_option maxRecDepth 20000 in
theorem w_1053 : (Jvm.Cond.code ({ cls := "FilmCansModel", name := "sign", desc := "(I)V" } : Jvm.MethodName) prog_11_method_29_code (2 : Nat) (Option.none : Option Jvm.ClassFile.FieldType)) ∈ wAll := wAll_of (List.mem_of_getElem? (i := 1053) (by decide +kernel)) (by decide +kernel)
set_option maxRecDepth 20000 in
theorem w_1054 : (Jvm.Cond.methodLink "FilmCansModel" (161 : Nat) ({ cls := "FilmCansModel", name := "isCanTold", desc := "()Z" } : Jvm.MethodName)) ∈ wAll := wAll_of (List.mem_of_getElem? (i := 1054) (by decide +kernel)) (by decide +kernel)
set_option maxRecDepth 20000 in
theorem w_1056 : (Jvm.Cond.instanceMethod ({ cls := "FilmCansModel", name := "isCanTold", desc := "()Z" } : Jvm.MethodName)) ∈ wAll := wAll_of (List.mem_of_getElem? (i := 1056) (by decide +kernel)) (by decide +kernel)
set_option maxRecDepth 20000 in
theorem w_1057 : (Jvm.Cond.code ({ cls := "FilmCansModel", name := "isCanTold", desc := "()Z" } : Jvm.MethodName) prog_11_method_32_code (1 : Nat) (Option.some Jvm.ClassFile.FieldType.boolean)) ∈ wAll := wAll_of (List.mem_of_getElem? (i := 1057) (by decide +kernel)) (by decide +kernel)
set_option maxRecDepth 20000 in
theorem w_1058 : (Jvm.Cond.methodLink "FilmCansModel" (140 : Nat) ({ cls := "FilmCansModel", name := "kindOf", desc := "(I)I" } : Jvm.MethodName)) ∈ wAll := wAll_of (List.mem_of_getElem? (i := 1058) (by decide +kernel)) (by decide +kernel)
set_option maxRecDepth 20000 in
theorem w_1059 : (Jvm.Cond.static ({ cls := "FilmCansModel", name := "kindOf", desc := "(I)I" } : Jvm.MethodName)) ∈ wAll := wAll_of (List.mem_of_getElem? (i := 1059) (by decide +kernel)) (by decide +kernel)
set_option maxRecDepth 20000 in
theorem w_1060 : (Jvm.Cond.code ({ cls := "FilmCansModel", name := "kindOf", desc := "(I)I" } : Jvm.MethodName) prog_11_method_31_code (1 : Nat) (Option.some Jvm.ClassFile.FieldType.int)) ∈ wAll := wAll_of (List.mem_of_getElem? (i := 1060) (by decide +kernel)) (by decide +kernel)
set_option maxRecDepth 20000 in
theorem w_1061 : (Jvm.Cond.methodLink "FilmCansModel" (165 : Nat) ({ cls := "FilmCansModel", name := "readsCan", desc := "()V" } : Jvm.MethodName)) ∈ wAll := wAll_of (List.mem_of_getElem? (i := 1061) (by decide +kernel)) (by decide +kernel)
set_option maxRecDepth 20000 in
theorem w_1063 : (Jvm.Cond.instanceMethod ({ cls := "FilmCansModel", name := "readsCan", desc := "()V" } : Jvm.MethodName)) ∈ wAll := wAll_of (List.mem_of_getElem? (i := 1063) (by decide +kernel)) (by decide +kernel)
set_option maxRecDepth 20000 in
theorem w_1064 : (Jvm.Cond.code ({ cls := "FilmCansModel", name := "readsCan", desc := "()V" } : Jvm.MethodName) prog_11_method_33_code (3 : Nat) (Option.none : Option Jvm.ClassFile.FieldType)) ∈ wAll := wAll_of (List.mem_of_getElem? (i := 1064) (by decide +kernel)) (by decide +kernel)
set_option maxRecDepth 20000 in
theorem w_1065 : (Jvm.Cond.methodLink "FilmCansModel" (150 : Nat) ({ cls := "FilmCansModel", name := "adds", desc := "([III)V" } : Jvm.MethodName)) ∈ wAll := wAll_of (List.mem_of_getElem? (i := 1065) (by decide +kernel)) (by decide +kernel)
set_option maxRecDepth 20000 in
theorem w_1066 : (Jvm.Cond.static ({ cls := "FilmCansModel", name := "adds", desc := "([III)V" } : Jvm.MethodName)) ∈ wAll := wAll_of (List.mem_of_getElem? (i := 1066) (by decide +kernel)) (by decide +kernel)
set_option maxRecDepth 20000 in
theorem w_1067 : (Jvm.Cond.code ({ cls := "FilmCansModel", name := "adds", desc := "([III)V" } : Jvm.MethodName) prog_11_method_35_code (4 : Nat) (Option.none : Option Jvm.ClassFile.FieldType)) ∈ wAll := wAll_of (List.mem_of_getElem? (i := 1067) (by decide +kernel)) (by decide +kernel)
set_option maxRecDepth 20000 in
theorem w_1068 : (Jvm.Cond.methodLink "FilmCansModel" (168 : Nat) ({ cls := "FilmCansModel", name := "readsTake", desc := "()V" } : Jvm.MethodName)) ∈ wAll := wAll_of (List.mem_of_getElem? (i := 1068) (by decide +kernel)) (by decide +kernel)
set_option maxRecDepth 20000 in
theorem w_1070 : (Jvm.Cond.instanceMethod ({ cls := "FilmCansModel", name := "readsTake", desc := "()V" } : Jvm.MethodName)) ∈ wAll := wAll_of (List.mem_of_getElem? (i := 1070) (by decide +kernel)) (by decide +kernel)
set_option maxRecDepth 20000 in
theorem w_1071 : (Jvm.Cond.code ({ cls := "FilmCansModel", name := "readsTake", desc := "()V" } : Jvm.MethodName) prog_11_method_34_code (4 : Nat) (Option.none : Option Jvm.ClassFile.FieldType)) ∈ wAll := wAll_of (List.mem_of_getElem? (i := 1071) (by decide +kernel)) (by decide +kernel)
set_option maxRecDepth 20000 in
theorem w_1072 : (Jvm.Cond.constant "FilmCansModel" (174 : Nat) (-1000100 : Int32)) ∈ wAll := wAll_of (List.mem_of_getElem? (i := 1072) (by decide +kernel)) (by decide +kernel)
set_option maxRecDepth 20000 in
theorem w_1073 : (Jvm.Cond.methodLink "FilmCansModel" (175 : Nat) ({ cls := "FilmCansModel", name := "copies", desc := "([II[II)V" } : Jvm.MethodName)) ∈ wAll := wAll_of (List.mem_of_getElem? (i := 1073) (by decide +kernel)) (by decide +kernel)
set_option maxRecDepth 20000 in
theorem w_1074 : (Jvm.Cond.static ({ cls := "FilmCansModel", name := "copies", desc := "([II[II)V" } : Jvm.MethodName)) ∈ wAll := wAll_of (List.mem_of_getElem? (i := 1074) (by decide +kernel)) (by decide +kernel)
set_option maxRecDepth 20000 in
theorem w_1075 : (Jvm.Cond.code ({ cls := "FilmCansModel", name := "copies", desc := "([II[II)V" } : Jvm.MethodName) prog_11_method_5_code (5 : Nat) (Option.none : Option Jvm.ClassFile.FieldType)) ∈ wAll := wAll_of (List.mem_of_getElem? (i := 1075) (by decide +kernel)) (by decide +kernel)
set_option maxRecDepth 20000 in
theorem w_1084 : (Jvm.Cond.constant "FilmCansModel" (182 : Nat) (-1000002 : Int32)) ∈ wAll := wAll_of (List.mem_of_getElem? (i := 1084) (by decide +kernel)) (by decide +kernel)
set_option maxRecDepth 20000 in
theorem w_1089 : (Jvm.Cond.methodLink "FilmCansModel" (183 : Nat) ({ cls := "FilmCansModel", name := "isCan", desc := "(I)Z" } : Jvm.MethodName)) ∈ wAll := wAll_of (List.mem_of_getElem? (i := 1089) (by decide +kernel)) (by decide +kernel)
set_option maxRecDepth 20000 in
theorem w_1091 : (Jvm.Cond.instanceMethod ({ cls := "FilmCansModel", name := "isCan", desc := "(I)Z" } : Jvm.MethodName)) ∈ wAll := wAll_of (List.mem_of_getElem? (i := 1091) (by decide +kernel)) (by decide +kernel)
set_option maxRecDepth 20000 in
theorem w_1092 : (Jvm.Cond.code ({ cls := "FilmCansModel", name := "isCan", desc := "(I)Z" } : Jvm.MethodName) prog_11_method_7_code (2 : Nat) (Option.some Jvm.ClassFile.FieldType.boolean)) ∈ wAll := wAll_of (List.mem_of_getElem? (i := 1092) (by decide +kernel)) (by decide +kernel)
set_option maxRecDepth 20000 in
theorem w_1093 : (Jvm.Cond.methodLink "FilmCansModel" (63 : Nat) ({ cls := "FilmCansModel", name := "where", desc := "([II)I" } : Jvm.MethodName)) ∈ wAll := wAll_of (List.mem_of_getElem? (i := 1093) (by decide +kernel)) (by decide +kernel)
set_option maxRecDepth 20000 in
theorem w_1094 : (Jvm.Cond.static ({ cls := "FilmCansModel", name := "where", desc := "([II)I" } : Jvm.MethodName)) ∈ wAll := wAll_of (List.mem_of_getElem? (i := 1094) (by decide +kernel)) (by decide +kernel)
set_option maxRecDepth 20000 in
theorem w_1095 : (Jvm.Cond.code ({ cls := "FilmCansModel", name := "where", desc := "([II)I" } : Jvm.MethodName) prog_11_method_11_code (2 : Nat) (Option.some Jvm.ClassFile.FieldType.int)) ∈ wAll := wAll_of (List.mem_of_getElem? (i := 1095) (by decide +kernel)) (by decide +kernel)
set_option maxRecDepth 20000 in
theorem w_1096 : (Jvm.Cond.methodLink "FilmCansModel" (70 : Nat) ({ cls := "FilmCansModel", name := "feet", desc := "([II)I" } : Jvm.MethodName)) ∈ wAll := wAll_of (List.mem_of_getElem? (i := 1096) (by decide +kernel)) (by decide +kernel)
set_option maxRecDepth 20000 in
theorem w_1097 : (Jvm.Cond.static ({ cls := "FilmCansModel", name := "feet", desc := "([II)I" } : Jvm.MethodName)) ∈ wAll := wAll_of (List.mem_of_getElem? (i := 1097) (by decide +kernel)) (by decide +kernel)
set_option maxRecDepth 20000 in
theorem w_1098 : (Jvm.Cond.code ({ cls := "FilmCansModel", name := "feet", desc := "([II)I" } : Jvm.MethodName) prog_11_method_10_code (2 : Nat) (Option.some Jvm.ClassFile.FieldType.int)) ∈ wAll := wAll_of (List.mem_of_getElem? (i := 1098) (by decide +kernel)) (by decide +kernel)
set_option maxRecDepth 20000 in
theorem w_1099 : (Jvm.Cond.methodLink "FilmCansModel" (73 : Nat) ({ cls := "FilmCansModel", name := "lead", desc := "([II)I" } : Jvm.MethodName)) ∈ wAll := wAll_of (List.mem_of_getElem? (i := 1099) (by decide +kernel)) (by decide +kernel)
set_option maxRecDepth 20000 in
theorem w_1100 : (Jvm.Cond.static ({ cls := "FilmCansModel", name := "lead", desc := "([II)I" } : Jvm.MethodName)) ∈ wAll := wAll_of (List.mem_of_getElem? (i := 1100) (by decide +kernel)) (by decide +kernel)
set_option maxRecDepth 20000 in
theorem w_1101 : (Jvm.Cond.code ({ cls := "FilmCansModel", name := "lead", desc := "([II)I" } : Jvm.MethodName) prog_11_method_15_code (2 : Nat) (Option.some Jvm.ClassFile.FieldType.int)) ∈ wAll := wAll_of (List.mem_of_getElem? (i := 1101) (by decide +kernel)) (by decide +kernel)
set_option maxRecDepth 20000 in
theorem w_1102 : (Jvm.Cond.methodLink "FilmCansModel" (51 : Nat) ({ cls := "FilmCansModel", name := "kind", desc := "([II)I" } : Jvm.MethodName)) ∈ wAll := wAll_of (List.mem_of_getElem? (i := 1102) (by decide +kernel)) (by decide +kernel)
set_option maxRecDepth 20000 in
theorem w_1103 : (Jvm.Cond.static ({ cls := "FilmCansModel", name := "kind", desc := "([II)I" } : Jvm.MethodName)) ∈ wAll := wAll_of (List.mem_of_getElem? (i := 1103) (by decide +kernel)) (by decide +kernel)
set_option maxRecDepth 20000 in
theorem w_1104 : (Jvm.Cond.code ({ cls := "FilmCansModel", name := "kind", desc := "([II)I" } : Jvm.MethodName) prog_11_method_9_code (2 : Nat) (Option.some Jvm.ClassFile.FieldType.int)) ∈ wAll := wAll_of (List.mem_of_getElem? (i := 1104) (by decide +kernel)) (by decide +kernel)
set_option maxRecDepth 20000 in
theorem w_1105 : (Jvm.Cond.methodLink "FilmCansModel" (187 : Nat) ({ cls := "FilmCansModel", name := "notes", desc := "()V" } : Jvm.MethodName)) ∈ wAll := wAll_of (List.mem_of_getElem? (i := 1105) (by decide +kernel)) (by decide +kernel)
set_option maxRecDepth 20000 in
theorem w_1107 : (Jvm.Cond.instanceMethod ({ cls := "FilmCansModel", name := "notes", desc := "()V" } : Jvm.MethodName)) ∈ wAll := wAll_of (List.mem_of_getElem? (i := 1107) (by decide +kernel)) (by decide +kernel)
set_option maxRecDepth 20000 in
theorem w_1108 : (Jvm.Cond.code ({ cls := "FilmCansModel", name := "notes", desc := "()V" } : Jvm.MethodName) prog_11_method_39_code (2 : Nat) (Option.none : Option Jvm.ClassFile.FieldType)) ∈ wAll := wAll_of (List.mem_of_getElem? (i := 1108) (by decide +kernel)) (by decide +kernel)
set_option maxRecDepth 20000 in
theorem w_1113 : (Jvm.Cond.methodLink "FilmCansModel" (190 : Nat) ({ cls := "FilmCansModel", name := "isTake", desc := "(I)Z" } : Jvm.MethodName)) ∈ wAll := wAll_of (List.mem_of_getElem? (i := 1113) (by decide +kernel)) (by decide +kernel)
set_option maxRecDepth 20000 in
theorem w_1115 : (Jvm.Cond.instanceMethod ({ cls := "FilmCansModel", name := "isTake", desc := "(I)Z" } : Jvm.MethodName)) ∈ wAll := wAll_of (List.mem_of_getElem? (i := 1115) (by decide +kernel)) (by decide +kernel)
set_option maxRecDepth 20000 in
theorem w_1116 : (Jvm.Cond.code ({ cls := "FilmCansModel", name := "isTake", desc := "(I)Z" } : Jvm.MethodName) prog_11_method_8_code (2 : Nat) (Option.some Jvm.ClassFile.FieldType.boolean)) ∈ wAll := wAll_of (List.mem_of_getElem? (i := 1116) (by decide +kernel)) (by decide +kernel)
set_option maxRecDepth 20000 in
theorem w_1117 : (Jvm.Cond.methodLink "FilmCansModel" (66 : Nat) ({ cls := "FilmCansModel", name := "isOpen", desc := "([II)Z" } : Jvm.MethodName)) ∈ wAll := wAll_of (List.mem_of_getElem? (i := 1117) (by decide +kernel)) (by decide +kernel)
set_option maxRecDepth 20000 in
theorem w_1118 : (Jvm.Cond.static ({ cls := "FilmCansModel", name := "isOpen", desc := "([II)Z" } : Jvm.MethodName)) ∈ wAll := wAll_of (List.mem_of_getElem? (i := 1118) (by decide +kernel)) (by decide +kernel)
set_option maxRecDepth 20000 in
theorem w_1119 : (Jvm.Cond.code ({ cls := "FilmCansModel", name := "isOpen", desc := "([II)Z" } : Jvm.MethodName) prog_11_method_12_code (2 : Nat) (Option.some Jvm.ClassFile.FieldType.boolean)) ∈ wAll := wAll_of (List.mem_of_getElem? (i := 1119) (by decide +kernel)) (by decide +kernel)
set_option maxRecDepth 20000 in
theorem w_1120 : (Jvm.Cond.methodLink "FilmCansModel" (79 : Nat) ({ cls := "FilmCansModel", name := "serves", desc := "([III)Z" } : Jvm.MethodName)) ∈ wAll := wAll_of (List.mem_of_getElem? (i := 1120) (by decide +kernel)) (by decide +kernel)
set_option maxRecDepth 20000 in
theorem w_1121 : (Jvm.Cond.static ({ cls := "FilmCansModel", name := "serves", desc := "([III)Z" } : Jvm.MethodName)) ∈ wAll := wAll_of (List.mem_of_getElem? (i := 1121) (by decide +kernel)) (by decide +kernel)
set_option maxRecDepth 20000 in
theorem w_1122 : (Jvm.Cond.code ({ cls := "FilmCansModel", name := "serves", desc := "([III)Z" } : Jvm.MethodName) prog_11_method_14_code (3 : Nat) (Option.some Jvm.ClassFile.FieldType.boolean)) ∈ wAll := wAll_of (List.mem_of_getElem? (i := 1122) (by decide +kernel)) (by decide +kernel)
set_option maxRecDepth 20000 in
theorem w_1123 : (Jvm.Cond.methodLink "FilmCansModel" (55 : Nat) ({ cls := "FilmCansModel", name := "isOf", desc := "(II)Z" } : Jvm.MethodName)) ∈ wAll := wAll_of (List.mem_of_getElem? (i := 1123) (by decide +kernel)) (by decide +kernel)
set_option maxRecDepth 20000 in
theorem w_1124 : (Jvm.Cond.static ({ cls := "FilmCansModel", name := "isOf", desc := "(II)Z" } : Jvm.MethodName)) ∈ wAll := wAll_of (List.mem_of_getElem? (i := 1124) (by decide +kernel)) (by decide +kernel)
set_option maxRecDepth 20000 in
theorem w_1125 : (Jvm.Cond.code ({ cls := "FilmCansModel", name := "isOf", desc := "(II)Z" } : Jvm.MethodName) prog_11_method_13_code (2 : Nat) (Option.some Jvm.ClassFile.FieldType.boolean)) ∈ wAll := wAll_of (List.mem_of_getElem? (i := 1125) (by decide +kernel)) (by decide +kernel)
set_option maxRecDepth 20000 in
theorem w_1126 : (Jvm.Cond.methodLink "FilmCansModel" (83 : Nat) ({ cls := "FilmCansModel", name := "slate", desc := "([II)I" } : Jvm.MethodName)) ∈ wAll := wAll_of (List.mem_of_getElem? (i := 1126) (by decide +kernel)) (by decide +kernel)
set_option maxRecDepth 20000 in
theorem w_1127 : (Jvm.Cond.static ({ cls := "FilmCansModel", name := "slate", desc := "([II)I" } : Jvm.MethodName)) ∈ wAll := wAll_of (List.mem_of_getElem? (i := 1127) (by decide +kernel)) (by decide +kernel)
set_option maxRecDepth 20000 in
theorem w_1128 : (Jvm.Cond.code ({ cls := "FilmCansModel", name := "slate", desc := "([II)I" } : Jvm.MethodName) prog_11_method_16_code (2 : Nat) (Option.some Jvm.ClassFile.FieldType.int)) ∈ wAll := wAll_of (List.mem_of_getElem? (i := 1128) (by decide +kernel)) (by decide +kernel)
set_option maxRecDepth 20000 in
theorem w_1133 : (Jvm.Cond.methodLink "FilmCansModel" (94 : Nat) ({ cls := "FilmCansModel", name := "isKept", desc := "([III)Z" } : Jvm.MethodName)) ∈ wAll := wAll_of (List.mem_of_getElem? (i := 1133) (by decide +kernel)) (by decide +kernel)
set_option maxRecDepth 20000 in
theorem w_1134 : (Jvm.Cond.static ({ cls := "FilmCansModel", name := "isKept", desc := "([III)Z" } : Jvm.MethodName)) ∈ wAll := wAll_of (List.mem_of_getElem? (i := 1134) (by decide +kernel)) (by decide +kernel)
set_option maxRecDepth 20000 in
theorem w_1135 : (Jvm.Cond.code ({ cls := "FilmCansModel", name := "isKept", desc := "([III)Z" } : Jvm.MethodName) prog_11_method_18_code (3 : Nat) (Option.some Jvm.ClassFile.FieldType.boolean)) ∈ wAll := wAll_of (List.mem_of_getElem? (i := 1135) (by decide +kernel)) (by decide +kernel)
set_option maxRecDepth 20000 in
theorem w_1136 : (Jvm.Cond.methodLink "FilmCansModel" (60 : Nat) ({ cls := "FilmCansModel", name := "leastEnd", desc := "([II)I" } : Jvm.MethodName)) ∈ wAll := wAll_of (List.mem_of_getElem? (i := 1136) (by decide +kernel)) (by decide +kernel)
set_option maxRecDepth 20000 in
theorem w_1137 : (Jvm.Cond.static ({ cls := "FilmCansModel", name := "leastEnd", desc := "([II)I" } : Jvm.MethodName)) ∈ wAll := wAll_of (List.mem_of_getElem? (i := 1137) (by decide +kernel)) (by decide +kernel)
set_option maxRecDepth 20000 in
theorem w_1138 : (Jvm.Cond.code ({ cls := "FilmCansModel", name := "leastEnd", desc := "([II)I" } : Jvm.MethodName) prog_11_method_17_code (3 : Nat) (Option.some Jvm.ClassFile.FieldType.int)) ∈ wAll := wAll_of (List.mem_of_getElem? (i := 1138) (by decide +kernel)) (by decide +kernel)
set_option maxRecDepth 20000 in
theorem w_1139 : (Jvm.Cond.constant "FilmCansModel" (59 : Nat) (-1000000 : Int32)) ∈ wAll := wAll_of (List.mem_of_getElem? (i := 1139) (by decide +kernel)) (by decide +kernel)
set_option maxRecDepth 20000 in
theorem w_1144 : (Jvm.Cond.methodLink "FilmCansModel" (193 : Nat) ({ cls := "FilmCansModel", name := "batched", desc := "()I" } : Jvm.MethodName)) ∈ wAll := wAll_of (List.mem_of_getElem? (i := 1144) (by decide +kernel)) (by decide +kernel)
set_option maxRecDepth 20000 in
theorem w_1146 : (Jvm.Cond.instanceMethod ({ cls := "FilmCansModel", name := "batched", desc := "()I" } : Jvm.MethodName)) ∈ wAll := wAll_of (List.mem_of_getElem? (i := 1146) (by decide +kernel)) (by decide +kernel)
set_option maxRecDepth 20000 in
theorem w_1147 : (Jvm.Cond.code ({ cls := "FilmCansModel", name := "batched", desc := "()I" } : Jvm.MethodName) prog_11_method_44_code (7 : Nat) (Option.some Jvm.ClassFile.FieldType.int)) ∈ wAll := wAll_of (List.mem_of_getElem? (i := 1147) (by decide +kernel)) (by decide +kernel)
set_option maxRecDepth 20000 in
theorem w_1148 : (Jvm.Cond.methodLink "FilmCansModel" (197 : Nat) ({ cls := "FilmCansModel", name := "waiting", desc := "()I" } : Jvm.MethodName)) ∈ wAll := wAll_of (List.mem_of_getElem? (i := 1148) (by decide +kernel)) (by decide +kernel)
set_option maxRecDepth 20000 in
theorem w_1150 : (Jvm.Cond.instanceMethod ({ cls := "FilmCansModel", name := "waiting", desc := "()I" } : Jvm.MethodName)) ∈ wAll := wAll_of (List.mem_of_getElem? (i := 1150) (by decide +kernel)) (by decide +kernel)
set_option maxRecDepth 20000 in
theorem w_1151 : (Jvm.Cond.code ({ cls := "FilmCansModel", name := "waiting", desc := "()I" } : Jvm.MethodName) prog_11_method_45_code (3 : Nat) (Option.some Jvm.ClassFile.FieldType.int)) ∈ wAll := wAll_of (List.mem_of_getElem? (i := 1151) (by decide +kernel)) (by decide +kernel)
set_option maxRecDepth 20000 in
theorem w_1160 : (Jvm.Cond.methodLink "FilmCansModel" (200 : Nat) ({ cls := "FilmCansModel", name := "isBook", desc := "()Z" } : Jvm.MethodName)) ∈ wAll := wAll_of (List.mem_of_getElem? (i := 1160) (by decide +kernel)) (by decide +kernel)
set_option maxRecDepth 20000 in
theorem w_1162 : (Jvm.Cond.instanceMethod ({ cls := "FilmCansModel", name := "isBook", desc := "()Z" } : Jvm.MethodName)) ∈ wAll := wAll_of (List.mem_of_getElem? (i := 1162) (by decide +kernel)) (by decide +kernel)
set_option maxRecDepth 20000 in
theorem w_1163 : (Jvm.Cond.code ({ cls := "FilmCansModel", name := "isBook", desc := "()Z" } : Jvm.MethodName) prog_11_method_6_code (1 : Nat) (Option.some Jvm.ClassFile.FieldType.boolean)) ∈ wAll := wAll_of (List.mem_of_getElem? (i := 1163) (by decide +kernel)) (by decide +kernel)
set_option maxRecDepth 20000 in
theorem w_1164 : (Jvm.Cond.constantLong "FilmCansModel" (203 : Nat) (5 : Int64)) ∈ wAll := wAll_of (List.mem_of_getElem? (i := 1164) (by decide +kernel)) (by decide +kernel)
set_option maxRecDepth 20000 in
theorem w_1165 : (Jvm.Cond.constantLong "FilmCansModel" (205 : Nat) (99 : Int64)) ∈ wAll := wAll_of (List.mem_of_getElem? (i := 1165) (by decide +kernel)) (by decide +kernel)
set_option maxRecDepth 20000 in
theorem w_1170 : (Jvm.Cond.constantLong "FilmCansModel" (207 : Nat) (60 : Int64)) ∈ wAll := wAll_of (List.mem_of_getElem? (i := 1170) (by decide +kernel)) (by decide +kernel)
set_option maxRecDepth 20000 in
theorem w_1183 : (Jvm.Cond.constantLong "FilmCansModel" (209 : Nat) (9 : Int64)) ∈ wAll := wAll_of (List.mem_of_getElem? (i := 1183) (by decide +kernel)) (by decide +kernel)
set_option maxRecDepth 20000 in
theorem w_1184 : (Jvm.Cond.constantLong "FilmCansModel" (211 : Nat) (40 : Int64)) ∈ wAll := wAll_of (List.mem_of_getElem? (i := 1184) (by decide +kernel)) (by decide +kernel)
set_option maxRecDepth 20000 in
theorem w_1185 : (Jvm.Cond.constantLong "FilmCansModel" (213 : Nat) (10 : Int64)) ∈ wAll := wAll_of (List.mem_of_getElem? (i := 1185) (by decide +kernel)) (by decide +kernel)
set_option maxRecDepth 20000 in
theorem w_1186 : (Jvm.Cond.constantLong "FilmCansModel" (215 : Nat) (20 : Int64)) ∈ wAll := wAll_of (List.mem_of_getElem? (i := 1186) (by decide +kernel)) (by decide +kernel)
set_option maxRecDepth 20000 in
theorem w_1191 : (Jvm.Cond.methodLink "FilmCansModel" (217 : Nat) ({ cls := "FilmCansModel", name := "shotOn", desc := "(I)I" } : Jvm.MethodName)) ∈ wAll := wAll_of (List.mem_of_getElem? (i := 1191) (by decide +kernel)) (by decide +kernel)
set_option maxRecDepth 20000 in
theorem w_1193 : (Jvm.Cond.instanceMethod ({ cls := "FilmCansModel", name := "shotOn", desc := "(I)I" } : Jvm.MethodName)) ∈ wAll := wAll_of (List.mem_of_getElem? (i := 1193) (by decide +kernel)) (by decide +kernel)
set_option maxRecDepth 20000 in
theorem w_1194 : (Jvm.Cond.code ({ cls := "FilmCansModel", name := "shotOn", desc := "(I)I" } : Jvm.MethodName) prog_11_method_53_code (4 : Nat) (Option.some Jvm.ClassFile.FieldType.int)) ∈ wAll := wAll_of (List.mem_of_getElem? (i := 1194) (by decide +kernel)) (by decide +kernel)
set_option maxRecDepth 20000 in
theorem w_1199 : (Jvm.Cond.methodLink "FilmCansModel" (220 : Nat) ({ cls := "FilmCansModel", name := "serving", desc := "(I)I" } : Jvm.MethodName)) ∈ wAll := wAll_of (List.mem_of_getElem? (i := 1199) (by decide +kernel)) (by decide +kernel)
set_option maxRecDepth 20000 in
theorem w_1201 : (Jvm.Cond.instanceMethod ({ cls := "FilmCansModel", name := "serving", desc := "(I)I" } : Jvm.MethodName)) ∈ wAll := wAll_of (List.mem_of_getElem? (i := 1201) (by decide +kernel)) (by decide +kernel)
set_option maxRecDepth 20000 in
theorem w_1202 : (Jvm.Cond.code ({ cls := "FilmCansModel", name := "serving", desc := "(I)I" } : Jvm.MethodName) prog_11_method_55_code (4 : Nat) (Option.some Jvm.ClassFile.FieldType.int)) ∈ wAll := wAll_of (List.mem_of_getElem? (i := 1202) (by decide +kernel)) (by decide +kernel)
set_option maxRecDepth 20000 in
theorem w_1207 : (Jvm.Cond.constantLong "FilmCansModel" (223 : Nat) (2 : Int64)) ∈ wAll := wAll_of (List.mem_of_getElem? (i := 1207) (by decide +kernel)) (by decide +kernel)
set_option maxRecDepth 20000 in
theorem w_1212 : (Jvm.Cond.methodLink "FilmCansModel" (225 : Nat) ({ cls := "FilmCansModel", name := "onShelf", desc := "()I" } : Jvm.MethodName)) ∈ wAll := wAll_of (List.mem_of_getElem? (i := 1212) (by decide +kernel)) (by decide +kernel)
set_option maxRecDepth 20000 in
theorem w_1214 : (Jvm.Cond.instanceMethod ({ cls := "FilmCansModel", name := "onShelf", desc := "()I" } : Jvm.MethodName)) ∈ wAll := wAll_of (List.mem_of_getElem? (i := 1214) (by decide +kernel)) (by decide +kernel)
set_option maxRecDepth 20000 in
theorem w_1215 : (Jvm.Cond.code ({ cls := "FilmCansModel", name := "onShelf", desc := "()I" } : Jvm.MethodName) prog_11_method_58_code (3 : Nat) (Option.some Jvm.ClassFile.FieldType.int)) ∈ wAll := wAll_of (List.mem_of_getElem? (i := 1215) (by decide +kernel)) (by decide +kernel)
set_option maxRecDepth 20000 in
theorem w_1220 : (Jvm.Cond.methodLink "FilmCansModel" (231 : Nat) ({ cls := "FilmCansModel", name := "fewest", desc := "()I" } : Jvm.MethodName)) ∈ wAll := wAll_of (List.mem_of_getElem? (i := 1220) (by decide +kernel)) (by decide +kernel)
set_option maxRecDepth 20000 in
theorem w_1222 : (Jvm.Cond.instanceMethod ({ cls := "FilmCansModel", name := "fewest", desc := "()I" } : Jvm.MethodName)) ∈ wAll := wAll_of (List.mem_of_getElem? (i := 1222) (by decide +kernel)) (by decide +kernel)
set_option maxRecDepth 20000 in
theorem w_1223 : (Jvm.Cond.code ({ cls := "FilmCansModel", name := "fewest", desc := "()I" } : Jvm.MethodName) prog_11_method_61_code (5 : Nat) (Option.some Jvm.ClassFile.FieldType.int)) ∈ wAll := wAll_of (List.mem_of_getElem? (i := 1223) (by decide +kernel)) (by decide +kernel)
set_option maxRecDepth 20000 in
theorem w_1224 : (Jvm.Cond.methodLink "FilmCansModel" (228 : Nat) ({ cls := "FilmCansModel", name := "isBatch", desc := "(I)Z" } : Jvm.MethodName)) ∈ wAll := wAll_of (List.mem_of_getElem? (i := 1224) (by decide +kernel)) (by decide +kernel)
set_option maxRecDepth 20000 in
theorem w_1226 : (Jvm.Cond.instanceMethod ({ cls := "FilmCansModel", name := "isBatch", desc := "(I)Z" } : Jvm.MethodName)) ∈ wAll := wAll_of (List.mem_of_getElem? (i := 1226) (by decide +kernel)) (by decide +kernel)
set_option maxRecDepth 20000 in
theorem w_1227 : (Jvm.Cond.code ({ cls := "FilmCansModel", name := "isBatch", desc := "(I)Z" } : Jvm.MethodName) prog_11_method_60_code (5 : Nat) (Option.some Jvm.ClassFile.FieldType.boolean)) ∈ wAll := wAll_of (List.mem_of_getElem? (i := 1227) (by decide +kernel)) (by decide +kernel)
set_option maxRecDepth 20000 in
theorem w_1228 : (Jvm.Cond.methodLink "FilmCansModel" (76 : Nat) ({ cls := "FilmCansModel", name := "has", desc := "(II)Z" } : Jvm.MethodName)) ∈ wAll := wAll_of (List.mem_of_getElem? (i := 1228) (by decide +kernel)) (by decide +kernel)
set_option maxRecDepth 20000 in
theorem w_1229 : (Jvm.Cond.static ({ cls := "FilmCansModel", name := "has", desc := "(II)Z" } : Jvm.MethodName)) ∈ wAll := wAll_of (List.mem_of_getElem? (i := 1229) (by decide +kernel)) (by decide +kernel)
set_option maxRecDepth 20000 in
theorem w_1230 : (Jvm.Cond.code ({ cls := "FilmCansModel", name := "has", desc := "(II)Z" } : Jvm.MethodName) prog_11_method_4_code (2 : Nat) (Option.some Jvm.ClassFile.FieldType.boolean)) ∈ wAll := wAll_of (List.mem_of_getElem? (i := 1230) (by decide +kernel)) (by decide +kernel)
set_option maxRecDepth 20000 in
theorem w_1239 : (Jvm.Cond.methodLink "FilmCansModel" (234 : Nat) ({ cls := "FilmCansModel", name := "openOnes", desc := "([I)I" } : Jvm.MethodName)) ∈ wAll := wAll_of (List.mem_of_getElem? (i := 1239) (by decide +kernel)) (by decide +kernel)
set_option maxRecDepth 20000 in
theorem w_1240 : (Jvm.Cond.static ({ cls := "FilmCansModel", name := "openOnes", desc := "([I)I" } : Jvm.MethodName)) ∈ wAll := wAll_of (List.mem_of_getElem? (i := 1240) (by decide +kernel)) (by decide +kernel)
set_option maxRecDepth 20000 in
theorem w_1241 : (Jvm.Cond.code ({ cls := "FilmCansModel", name := "openOnes", desc := "([I)I" } : Jvm.MethodName) prog_11_method_20_code (3 : Nat) (Option.some Jvm.ClassFile.FieldType.int)) ∈ wAll := wAll_of (List.mem_of_getElem? (i := 1241) (by decide +kernel)) (by decide +kernel)
set_option maxRecDepth 20000 in
theorem w_1242 : (Jvm.Cond.methodLink "FilmCansModel" (86 : Nat) ({ cls := "FilmCansModel", name := "left", desc := "([III)I" } : Jvm.MethodName)) ∈ wAll := wAll_of (List.mem_of_getElem? (i := 1242) (by decide +kernel)) (by decide +kernel)
set_option maxRecDepth 20000 in
theorem w_1243 : (Jvm.Cond.static ({ cls := "FilmCansModel", name := "left", desc := "([III)I" } : Jvm.MethodName)) ∈ wAll := wAll_of (List.mem_of_getElem? (i := 1243) (by decide +kernel)) (by decide +kernel)
set_option maxRecDepth 20000 in
theorem w_1244 : (Jvm.Cond.code ({ cls := "FilmCansModel", name := "left", desc := "([III)I" } : Jvm.MethodName) prog_11_method_21_code (6 : Nat) (Option.some Jvm.ClassFile.FieldType.int)) ∈ wAll := wAll_of (List.mem_of_getElem? (i := 1244) (by decide +kernel)) (by decide +kernel)
set_option maxRecDepth 20000 in
theorem w_1245 : (Jvm.Cond.methodLink "FilmCansModel" (238 : Nat) ({ cls := "FilmCansModel", name := "isRoom", desc := "([II)Z" } : Jvm.MethodName)) ∈ wAll := wAll_of (List.mem_of_getElem? (i := 1245) (by decide +kernel)) (by decide +kernel)
set_option maxRecDepth 20000 in
theorem w_1246 : (Jvm.Cond.static ({ cls := "FilmCansModel", name := "isRoom", desc := "([II)Z" } : Jvm.MethodName)) ∈ wAll := wAll_of (List.mem_of_getElem? (i := 1246) (by decide +kernel)) (by decide +kernel)
set_option maxRecDepth 20000 in
theorem w_1247 : (Jvm.Cond.code ({ cls := "FilmCansModel", name := "isRoom", desc := "([II)Z" } : Jvm.MethodName) prog_11_method_19_code (2 : Nat) (Option.some Jvm.ClassFile.FieldType.boolean)) ∈ wAll := wAll_of (List.mem_of_getElem? (i := 1247) (by decide +kernel)) (by decide +kernel)
set_option maxRecDepth 20000 in
theorem w_1252 : (Jvm.Cond.methodLink "FilmCansModel" (257 : Nat) ({ cls := "FilmCansModel", name := "best", desc := "([I)Z" } : Jvm.MethodName)) ∈ wAll := wAll_of (List.mem_of_getElem? (i := 1252) (by decide +kernel)) (by decide +kernel)
set_option maxRecDepth 20000 in
theorem w_1254 : (Jvm.Cond.instanceMethod ({ cls := "FilmCansModel", name := "best", desc := "([I)Z" } : Jvm.MethodName)) ∈ wAll := wAll_of (List.mem_of_getElem? (i := 1254) (by decide +kernel)) (by decide +kernel)
set_option maxRecDepth 20000 in
theorem w_1255 : (Jvm.Cond.code ({ cls := "FilmCansModel", name := "best", desc := "([I)Z" } : Jvm.MethodName) prog_11_method_68_code (4 : Nat) (Option.some Jvm.ClassFile.FieldType.boolean)) ∈ wAll := wAll_of (List.mem_of_getElem? (i := 1255) (by decide +kernel)) (by decide +kernel)
set_option maxRecDepth 20000 in
theorem w_1256 : (Jvm.Cond.methodLink "FilmCansModel" (251 : Nat) ({ cls := "FilmCansModel", name := "canBePlaced", desc := "([II)Z" } : Jvm.MethodName)) ∈ wAll := wAll_of (List.mem_of_getElem? (i := 1256) (by decide +kernel)) (by decide +kernel)
set_option maxRecDepth 20000 in
theorem w_1258 : (Jvm.Cond.instanceMethod ({ cls := "FilmCansModel", name := "canBePlaced", desc := "([II)Z" } : Jvm.MethodName)) ∈ wAll := wAll_of (List.mem_of_getElem? (i := 1258) (by decide +kernel)) (by decide +kernel)
set_option maxRecDepth 20000 in
theorem w_1259 : (Jvm.Cond.code ({ cls := "FilmCansModel", name := "canBePlaced", desc := "([II)Z" } : Jvm.MethodName) prog_11_method_67_code (3 : Nat) (Option.some Jvm.ClassFile.FieldType.boolean)) ∈ wAll := wAll_of (List.mem_of_getElem? (i := 1259) (by decide +kernel)) (by decide +kernel)
set_option maxRecDepth 20000 in
theorem w_1260 : (Jvm.Cond.methodLink "FilmCansModel" (248 : Nat) ({ cls := "FilmCansModel", name := "plans", desc := "([III)V" } : Jvm.MethodName)) ∈ wAll := wAll_of (List.mem_of_getElem? (i := 1260) (by decide +kernel)) (by decide +kernel)
set_option maxRecDepth 20000 in
theorem w_1262 : (Jvm.Cond.instanceMethod ({ cls := "FilmCansModel", name := "plans", desc := "([III)V" } : Jvm.MethodName)) ∈ wAll := wAll_of (List.mem_of_getElem? (i := 1262) (by decide +kernel)) (by decide +kernel)
set_option maxRecDepth 20000 in
theorem w_1263 : (Jvm.Cond.code ({ cls := "FilmCansModel", name := "plans", desc := "([III)V" } : Jvm.MethodName) prog_11_method_65_code (6 : Nat) (Option.none : Option Jvm.ClassFile.FieldType)) ∈ wAll := wAll_of (List.mem_of_getElem? (i := 1263) (by decide +kernel)) (by decide +kernel)
set_option maxRecDepth 20000 in
theorem w_1264 : (Jvm.Cond.methodLink "FilmCansModel" (241 : Nat) ({ cls := "FilmCansModel", name := "weighs", desc := "([IIIZ)V" } : Jvm.MethodName)) ∈ wAll := wAll_of (List.mem_of_getElem? (i := 1264) (by decide +kernel)) (by decide +kernel)
set_option maxRecDepth 20000 in
theorem w_1266 : (Jvm.Cond.instanceMethod ({ cls := "FilmCansModel", name := "weighs", desc := "([IIIZ)V" } : Jvm.MethodName)) ∈ wAll := wAll_of (List.mem_of_getElem? (i := 1266) (by decide +kernel)) (by decide +kernel)
set_option maxRecDepth 20000 in
theorem w_1267 : (Jvm.Cond.code ({ cls := "FilmCansModel", name := "weighs", desc := "([IIIZ)V" } : Jvm.MethodName) prog_11_method_66_code (11 : Nat) (Option.none : Option Jvm.ClassFile.FieldType)) ∈ wAll := wAll_of (List.mem_of_getElem? (i := 1267) (by decide +kernel)) (by decide +kernel)
set_option maxRecDepth 20000 in
theorem w_1268 : (Jvm.Cond.methodLink "FilmCansModel" (245 : Nat) ({ cls := "FilmCansModel", name := "lossOf", desc := "([III)I" } : Jvm.MethodName)) ∈ wAll := wAll_of (List.mem_of_getElem? (i := 1268) (by decide +kernel)) (by decide +kernel)
set_option maxRecDepth 20000 in
theorem w_1269 : (Jvm.Cond.static ({ cls := "FilmCansModel", name := "lossOf", desc := "([III)I" } : Jvm.MethodName)) ∈ wAll := wAll_of (List.mem_of_getElem? (i := 1269) (by decide +kernel)) (by decide +kernel)
set_option maxRecDepth 20000 in
theorem w_1270 : (Jvm.Cond.code ({ cls := "FilmCansModel", name := "lossOf", desc := "([III)I" } : Jvm.MethodName) prog_11_method_23_code (4 : Nat) (Option.some Jvm.ClassFile.FieldType.int)) ∈ wAll := wAll_of (List.mem_of_getElem? (i := 1270) (by decide +kernel)) (by decide +kernel)
set_option maxRecDepth 20000 in
theorem w_1271 : (Jvm.Cond.methodLink "FilmCansModel" (90 : Nat) ({ cls := "FilmCansModel", name := "ones", desc := "(I)I" } : Jvm.MethodName)) ∈ wAll := wAll_of (List.mem_of_getElem? (i := 1271) (by decide +kernel)) (by decide +kernel)
set_option maxRecDepth 20000 in
theorem w_1272 : (Jvm.Cond.static ({ cls := "FilmCansModel", name := "ones", desc := "(I)I" } : Jvm.MethodName)) ∈ wAll := wAll_of (List.mem_of_getElem? (i := 1272) (by decide +kernel)) (by decide +kernel)
set_option maxRecDepth 20000 in
theorem w_1273 : (Jvm.Cond.code ({ cls := "FilmCansModel", name := "ones", desc := "(I)I" } : Jvm.MethodName) prog_11_method_22_code (3 : Nat) (Option.some Jvm.ClassFile.FieldType.int)) ∈ wAll := wAll_of (List.mem_of_getElem? (i := 1273) (by decide +kernel)) (by decide +kernel)
set_option maxRecDepth 20000 in
theorem w_1274 : (Jvm.Cond.methodLink "FilmCansModel" (254 : Nat) ({ cls := "FilmCansModel", name := "leastAt", desc := "([III)I" } : Jvm.MethodName)) ∈ wAll := wAll_of (List.mem_of_getElem? (i := 1274) (by decide +kernel)) (by decide +kernel)
set_option maxRecDepth 20000 in
theorem w_1276 : (Jvm.Cond.instanceMethod ({ cls := "FilmCansModel", name := "leastAt", desc := "([III)I" } : Jvm.MethodName)) ∈ wAll := wAll_of (List.mem_of_getElem? (i := 1276) (by decide +kernel)) (by decide +kernel)
set_option maxRecDepth 20000 in
theorem w_1277 : (Jvm.Cond.code ({ cls := "FilmCansModel", name := "leastAt", desc := "([III)I" } : Jvm.MethodName) prog_11_method_69_code (9 : Nat) (Option.some Jvm.ClassFile.FieldType.int)) ∈ wAll := wAll_of (List.mem_of_getElem? (i := 1277) (by decide +kernel)) (by decide +kernel)
set_option maxRecDepth 20000 in
theorem w_1278 : (Jvm.Cond.methodLink "FilmCansModel" (261 : Nat) ({ cls := "FilmCansModel", name := "lossOfPlan", desc := "()I" } : Jvm.MethodName)) ∈ wAll := wAll_of (List.mem_of_getElem? (i := 1278) (by decide +kernel)) (by decide +kernel)
set_option maxRecDepth 20000 in
theorem w_1280 : (Jvm.Cond.instanceMethod ({ cls := "FilmCansModel", name := "lossOfPlan", desc := "()I" } : Jvm.MethodName)) ∈ wAll := wAll_of (List.mem_of_getElem? (i := 1280) (by decide +kernel)) (by decide +kernel)
set_option maxRecDepth 20000 in
theorem w_1281 : (Jvm.Cond.code ({ cls := "FilmCansModel", name := "lossOfPlan", desc := "()I" } : Jvm.MethodName) prog_11_method_70_code (3 : Nat) (Option.some Jvm.ClassFile.FieldType.int)) ∈ wAll := wAll_of (List.mem_of_getElem? (i := 1281) (by decide +kernel)) (by decide +kernel)
set_option maxRecDepth 20000 in
theorem w_1282 : (Jvm.Cond.methodLink "FilmCansModel" (264 : Nat) ({ cls := "FilmCansModel", name := "roomsOfPlan", desc := "()I" } : Jvm.MethodName)) ∈ wAll := wAll_of (List.mem_of_getElem? (i := 1282) (by decide +kernel)) (by decide +kernel)
set_option maxRecDepth 20000 in
theorem w_1284 : (Jvm.Cond.instanceMethod ({ cls := "FilmCansModel", name := "roomsOfPlan", desc := "()I" } : Jvm.MethodName)) ∈ wAll := wAll_of (List.mem_of_getElem? (i := 1284) (by decide +kernel)) (by decide +kernel)
set_option maxRecDepth 20000 in
theorem w_1285 : (Jvm.Cond.code ({ cls := "FilmCansModel", name := "roomsOfPlan", desc := "()I" } : Jvm.MethodName) prog_11_method_71_code (3 : Nat) (Option.some Jvm.ClassFile.FieldType.int)) ∈ wAll := wAll_of (List.mem_of_getElem? (i := 1285) (by decide +kernel)) (by decide +kernel)
set_option maxRecDepth 20000 in
theorem w_1294 : (Jvm.Cond.methodLink "FilmCansModel" (270 : Nat) ({ cls := "FilmCansModel", name := "puts", desc := "(I)Z" } : Jvm.MethodName)) ∈ wAll := wAll_of (List.mem_of_getElem? (i := 1294) (by decide +kernel)) (by decide +kernel)
set_option maxRecDepth 20000 in
theorem w_1296 : (Jvm.Cond.instanceMethod ({ cls := "FilmCansModel", name := "puts", desc := "(I)Z" } : Jvm.MethodName)) ∈ wAll := wAll_of (List.mem_of_getElem? (i := 1296) (by decide +kernel)) (by decide +kernel)
set_option maxRecDepth 20000 in
theorem w_1297 : (Jvm.Cond.code ({ cls := "FilmCansModel", name := "puts", desc := "(I)Z" } : Jvm.MethodName) prog_11_method_74_code (4 : Nat) (Option.some Jvm.ClassFile.FieldType.boolean)) ∈ wAll := wAll_of (List.mem_of_getElem? (i := 1297) (by decide +kernel)) (by decide +kernel)
set_option maxRecDepth 20000 in
theorem w_1298 : (Jvm.Cond.methodLink "FilmCansModel" (267 : Nat) ({ cls := "FilmCansModel", name := "roomFor", desc := "(II)I" } : Jvm.MethodName)) ∈ wAll := wAll_of (List.mem_of_getElem? (i := 1298) (by decide +kernel)) (by decide +kernel)
set_option maxRecDepth 20000 in
theorem w_1300 : (Jvm.Cond.instanceMethod ({ cls := "FilmCansModel", name := "roomFor", desc := "(II)I" } : Jvm.MethodName)) ∈ wAll := wAll_of (List.mem_of_getElem? (i := 1300) (by decide +kernel)) (by decide +kernel)
set_option maxRecDepth 20000 in
theorem w_1301 : (Jvm.Cond.code ({ cls := "FilmCansModel", name := "roomFor", desc := "(II)I" } : Jvm.MethodName) prog_11_method_75_code (7 : Nat) (Option.some Jvm.ClassFile.FieldType.int)) ∈ wAll := wAll_of (List.mem_of_getElem? (i := 1301) (by decide +kernel)) (by decide +kernel)
set_option maxRecDepth 20000 in
theorem w_1322 : (Jvm.Cond.constantLong "FilmCansModel" (273 : Nat) (-1000002 : Int64)) ∈ wAll := wAll_of (List.mem_of_getElem? (i := 1322) (by decide +kernel)) (by decide +kernel)
set_option maxRecDepth 20000 in
theorem w_1323 : (Jvm.Cond.constantLong "FilmCansModel" (275 : Nat) (-1000001 : Int64)) ∈ wAll := wAll_of (List.mem_of_getElem? (i := 1323) (by decide +kernel)) (by decide +kernel)
set_option maxRecDepth 20000 in
theorem w_1324 : (Jvm.Cond.methodLink "FilmCansModel" (277 : Nat) ({ cls := "FilmCansModel", name := "gcd", desc := "(JJ)J" } : Jvm.MethodName)) ∈ wAll := wAll_of (List.mem_of_getElem? (i := 1324) (by decide +kernel)) (by decide +kernel)
set_option maxRecDepth 20000 in
theorem w_1325 : (Jvm.Cond.static ({ cls := "FilmCansModel", name := "gcd", desc := "(JJ)J" } : Jvm.MethodName)) ∈ wAll := wAll_of (List.mem_of_getElem? (i := 1325) (by decide +kernel)) (by decide +kernel)
set_option maxRecDepth 20000 in
theorem w_1326 : (Jvm.Cond.code ({ cls := "FilmCansModel", name := "gcd", desc := "(JJ)J" } : Jvm.MethodName) prog_11_method_81_code (10 : Nat) (Option.some Jvm.ClassFile.FieldType.long)) ∈ wAll := wAll_of (List.mem_of_getElem? (i := 1326) (by decide +kernel)) (by decide +kernel)
set_option maxRecDepth 20000 in
theorem w_1331 : (Jvm.Cond.constantLong "FilmCansModel" (281 : Nat) (999999 : Int64)) ∈ wAll := wAll_of (List.mem_of_getElem? (i := 1331) (by decide +kernel)) (by decide +kernel)
set_option maxRecDepth 20000 in
theorem w_1332 : (Jvm.Cond.constantLong "FilmCansModel" (283 : Nat) (16807 : Int64)) ∈ wAll := wAll_of (List.mem_of_getElem? (i := 1332) (by decide +kernel)) (by decide +kernel)
set_option maxRecDepth 20000 in
theorem w_1333 : (Jvm.Cond.constantLong "FilmCansModel" (285 : Nat) (2147483647 : Int64)) ∈ wAll := wAll_of (List.mem_of_getElem? (i := 1333) (by decide +kernel)) (by decide +kernel)
set_option maxRecDepth 20000 in
theorem w_1334 : (Jvm.Cond.methodLink "FilmCansModel" (287 : Nat) ({ cls := "FilmCansModel", name := "nth", desc := "(IJ)I" } : Jvm.MethodName)) ∈ wAll := wAll_of (List.mem_of_getElem? (i := 1334) (by decide +kernel)) (by decide +kernel)
set_option maxRecDepth 20000 in
theorem w_1335 : (Jvm.Cond.static ({ cls := "FilmCansModel", name := "nth", desc := "(IJ)I" } : Jvm.MethodName)) ∈ wAll := wAll_of (List.mem_of_getElem? (i := 1335) (by decide +kernel)) (by decide +kernel)
set_option maxRecDepth 20000 in
theorem w_1336 : (Jvm.Cond.code ({ cls := "FilmCansModel", name := "nth", desc := "(IJ)I" } : Jvm.MethodName) prog_11_method_83_code (6 : Nat) (Option.some Jvm.ClassFile.FieldType.int)) ∈ wAll := wAll_of (List.mem_of_getElem? (i := 1336) (by decide +kernel)) (by decide +kernel)
set_option maxRecDepth 20000 in
theorem w_1337 : (Jvm.Cond.constantLong "FilmCansModel" (291 : Nat) (16 : Int64)) ∈ wAll := wAll_of (List.mem_of_getElem? (i := 1337) (by decide +kernel)) (by decide +kernel)
set_option maxRecDepth 20000 in
theorem wm_cd494 : Cond.code Lib.Math.min.name Lib.Math.min.code 2 (some .int) ∈ wAll := wAll_of (List.mem_of_getElem? (i := 494) (by decide +kernel)) (by decide +kernel)
set_option maxRecDepth 20000 in
theorem wm_cd545 : Cond.code Lib.Math.max.name Lib.Math.max.code 2 (some .int) ∈ wAll := wAll_of (List.mem_of_getElem? (i := 545) (by decide +kernel)) (by decide +kernel)
set_option maxRecDepth 20000 in
theorem wm_ml492 : Cond.methodLink RX2 29 Lib.Math.min.name ∈ wAll := wAll_of (List.mem_of_getElem? (i := 492) (by decide +kernel)) (by decide +kernel)
set_option maxRecDepth 20000 in
theorem wm_ml543 : Cond.methodLink RX3 24 Lib.Math.max.name ∈ wAll := wAll_of (List.mem_of_getElem? (i := 543) (by decide +kernel)) (by decide +kernel)
set_option maxRecDepth 20000 in
theorem wm_ml670 : Cond.methodLink RX4 55 Lib.Math.min.name ∈ wAll := wAll_of (List.mem_of_getElem? (i := 670) (by decide +kernel)) (by decide +kernel)
set_option maxRecDepth 20000 in
theorem wm_ml774 : Cond.methodLink RX0 55 Lib.Math.min.name ∈ wAll := wAll_of (List.mem_of_getElem? (i := 774) (by decide +kernel)) (by decide +kernel)
set_option maxRecDepth 20000 in
theorem wm_ml866 : Cond.methodLink RX5 70 Lib.Math.max.name ∈ wAll := wAll_of (List.mem_of_getElem? (i := 866) (by decide +kernel)) (by decide +kernel)
set_option maxRecDepth 20000 in
theorem wm_ml867 : Cond.methodLink RX8 298 Lib.Math.min.name ∈ wAll := wAll_of (List.mem_of_getElem? (i := 867) (by decide +kernel)) (by decide +kernel)
set_option maxRecDepth 20000 in
theorem wm_ml883 : Cond.methodLink RX5 83 Lib.Math.min.name ∈ wAll := wAll_of (List.mem_of_getElem? (i := 883) (by decide +kernel)) (by decide +kernel)
set_option maxRecDepth 20000 in
theorem wm_st493 : Cond.static Lib.Math.min.name ∈ wAll := wAll_of (List.mem_of_getElem? (i := 493) (by decide +kernel)) (by decide +kernel)
set_option maxRecDepth 20000 in
theorem wm_st544 : Cond.static Lib.Math.max.name ∈ wAll := wAll_of (List.mem_of_getElem? (i := 544) (by decide +kernel)) (by decide +kernel)
theorem fRX7_15 : FlI RX7 15 6 1 := ⟨_, _, _, tyX7, rfl, uw_7, tyX7_ok, nmX7, by decide, rfl, rfl, w_95, rfl, (by decide : parseFieldDescriptor "I" = some .int), by decide⟩
theorem fRX7_9 : FlR RX7 9 6 0 := ⟨_, _, _, rfl, uw_7, by decide, rfl, rfl, w_94, by decide⟩
theorem fRX8_10 : FlR RX8 10 7 0 := ⟨_, _, _, rfl, uw_8, by decide, rfl, rfl, w_327, by decide⟩
theorem fRX8_70 : FlI RX8 70 6 1 := ⟨_, _, _, tyX7, rfl, uw_7, tyX7_ok, nmX7, by decide, rfl, rfl, w_96, rfl, (by decide : parseFieldDescriptor "I" = some .int), by decide⟩
theorem fRX1_50 : FlI RX1 50 1 0 := ⟨_, _, _, tyX1, rfl, uw_1, tyX1_ok, nmX1, by decide, rfl, rfl, w_118, rfl, (by decide : parseFieldDescriptor "I" = some .int), by decide⟩
theorem fRX1_53 : FlI RX1 53 1 1 := ⟨_, _, _, tyX1, rfl, uw_1, tyX1_ok, nmX1, by decide, rfl, rfl, w_121, rfl, (by decide : parseFieldDescriptor "I" = some .int), by decide⟩
theorem fRX1_56 : FlI RX1 56 1 2 := ⟨_, _, _, tyX1, rfl, uw_1, tyX1_ok, nmX1, by decide, rfl, rfl, w_125, rfl, (by decide : parseFieldDescriptor "I" = some .int), by decide⟩
theorem fRX1_10 : FlI RX1 10 1 3 := ⟨_, _, _, tyX1, rfl, uw_1, tyX1_ok, nmX1, by decide, rfl, rfl, w_127, rfl, (by decide : parseFieldDescriptor "I" = some .int), by decide⟩
theorem fRX1_59 : FlI RX1 59 1 4 := ⟨_, _, _, tyX1, rfl, uw_1, tyX1_ok, nmX1, by decide, rfl, rfl, w_130, rfl, (by decide : parseFieldDescriptor "I" = some .int), by decide⟩
theorem fRX1_62 : FlI RX1 62 1 5 := ⟨_, _, _, tyX1, rfl, uw_1, tyX1_ok, nmX1, by decide, rfl, rfl, w_132, rfl, (by decide : parseFieldDescriptor "I" = some .int), by decide⟩
theorem fRX1_65 : FlI RX1 65 1 6 := ⟨_, _, _, tyX1, rfl, uw_1, tyX1_ok, nmX1, by decide, rfl, rfl, w_134, rfl, (by decide : parseFieldDescriptor "I" = some .int), by decide⟩
theorem fRX1_68 : FlI RX1 68 1 7 := ⟨_, _, _, tyX1, rfl, uw_1, tyX1_ok, nmX1, by decide, rfl, rfl, w_136, rfl, (by decide : parseFieldDescriptor "I" = some .int), by decide⟩
theorem fRX1_71 : FlI RX1 71 1 8 := ⟨_, _, _, tyX1, rfl, uw_1, tyX1_ok, nmX1, by decide, rfl, rfl, w_138, rfl, (by decide : parseFieldDescriptor "I" = some .int), by decide⟩
theorem fRX7_19 : FlI RX7 19 6 2 := ⟨_, _, _, tyX7, rfl, uw_7, tyX7_ok, nmX7, by decide, rfl, rfl, w_97, rfl, (by decide : parseFieldDescriptor "I" = some .int), by decide⟩
theorem fRX7_92 : FlI RX7 92 6 3 := ⟨_, _, _, tyX7, rfl, uw_7, tyX7_ok, nmX7, by decide, rfl, rfl, w_100, rfl, (by decide : parseFieldDescriptor "I" = some .int), by decide⟩
theorem fRX7_52 : FlR RX7 52 1 9 := ⟨_, _, _, rfl, uw_1, by decide, rfl, rfl, w_143, by decide⟩
theorem fRX1_20 : FlR RX1 20 1 10 := ⟨_, _, _, rfl, uw_1, by decide, rfl, rfl, w_145, by decide⟩
theorem fRX1_23 : FlR RX1 23 1 11 := ⟨_, _, _, rfl, uw_1, by decide, rfl, rfl, w_148, by decide⟩
theorem fRX1_26 : FlR RX1 26 1 12 := ⟨_, _, _, rfl, uw_1, by decide, rfl, rfl, w_151, by decide⟩
theorem fRX1_29 : FlR RX1 29 1 13 := ⟨_, _, _, rfl, uw_1, by decide, rfl, rfl, w_153, by decide⟩
theorem fRX7_68 : FlI RX7 68 1 0 := ⟨_, _, _, tyX1, rfl, uw_1, tyX1_ok, nmX1, by decide, rfl, rfl, w_120, rfl, (by decide : parseFieldDescriptor "I" = some .int), by decide⟩
theorem fRX1_32 : FlR RX1 32 1 14 := ⟨_, _, _, rfl, uw_1, by decide, rfl, rfl, w_155, by decide⟩
theorem fRX1_35 : FlR RX1 35 1 15 := ⟨_, _, _, rfl, uw_1, by decide, rfl, rfl, w_157, by decide⟩
theorem fRX1_38 : FlR RX1 38 1 16 := ⟨_, _, _, rfl, uw_1, by decide, rfl, rfl, w_160, by decide⟩
theorem fRX7_80 : FlI RX7 80 1 1 := ⟨_, _, _, tyX1, rfl, uw_1, tyX1_ok, nmX1, by decide, rfl, rfl, w_122, rfl, (by decide : parseFieldDescriptor "I" = some .int), by decide⟩
theorem fRX1_16 : FlR RX1 16 1 9 := ⟨_, _, _, rfl, uw_1, by decide, rfl, rfl, w_140, by decide⟩
theorem fRX1_41 : FlR RX1 41 1 17 := ⟨_, _, _, rfl, uw_1, by decide, rfl, rfl, w_162, by decide⟩
theorem fRX1_44 : FlR RX1 44 1 18 := ⟨_, _, _, rfl, uw_1, by decide, rfl, rfl, w_164, by decide⟩
theorem fRX1_47 : FlR RX1 47 1 19 := ⟨_, _, _, rfl, uw_1, by decide, rfl, rfl, w_167, by decide⟩
theorem fRX2_26 : FlI RX2 26 2 2 := ⟨_, _, _, tyX2, rfl, uw_2, tyX2_ok, nmX2, by decide, rfl, rfl, w_222, rfl, (by decide : parseFieldDescriptor "I" = some .int), by decide⟩
theorem fRX8_23 : FlR RX8 23 7 2 := ⟨_, _, _, rfl, uw_8, by decide, rfl, rfl, w_329, by decide⟩
theorem fRX8_19 : FlR RX8 19 7 1 := ⟨_, _, _, rfl, uw_8, by decide, rfl, rfl, w_328, by decide⟩
theorem fRX8_29 : FlR RX8 29 7 3 := ⟨_, _, _, rfl, uw_8, by decide, rfl, rfl, w_330, by decide⟩
theorem fRX8_90 : FlI RX8 90 1 0 := ⟨_, _, _, tyX1, rfl, uw_1, tyX1_ok, nmX1, by decide, rfl, rfl, w_119, rfl, (by decide : parseFieldDescriptor "I" = some .int), by decide⟩
theorem fRX8_80 : FlI RX8 80 6 2 := ⟨_, _, _, tyX7, rfl, uw_7, tyX7_ok, nmX7, by decide, rfl, rfl, w_98, rfl, (by decide : parseFieldDescriptor "I" = some .int), by decide⟩
theorem fRX8_93 : FlI RX8 93 6 3 := ⟨_, _, _, tyX7, rfl, uw_7, tyX7_ok, nmX7, by decide, rfl, rfl, w_99, rfl, (by decide : parseFieldDescriptor "I" = some .int), by decide⟩
theorem fRX2_18 : FlI RX2 18 2 1 := ⟨_, _, _, tyX2, rfl, uw_2, tyX2_ok, nmX2, by decide, rfl, rfl, w_221, rfl, (by decide : parseFieldDescriptor "I" = some .int), by decide⟩
theorem fRX2_11 : FlR RX2 11 2 0 := ⟨_, _, _, rfl, uw_2, by decide, rfl, rfl, w_220, by decide⟩
theorem fRX8_99 : FlI RX8 99 2 2 := ⟨_, _, _, tyX2, rfl, uw_2, tyX2_ok, nmX2, by decide, rfl, rfl, w_223, rfl, (by decide : parseFieldDescriptor "I" = some .int), by decide⟩
theorem fRX8_106 : FlI RX8 106 1 3 := ⟨_, _, _, tyX1, rfl, uw_1, tyX1_ok, nmX1, by decide, rfl, rfl, w_129, rfl, (by decide : parseFieldDescriptor "I" = some .int), by decide⟩
theorem fRX8_110 : FlR RX8 110 1 12 := ⟨_, _, _, rfl, uw_1, by decide, rfl, rfl, w_152, by decide⟩
theorem fRX8_114 : FlR RX8 114 1 11 := ⟨_, _, _, rfl, uw_1, by decide, rfl, rfl, w_150, by decide⟩
theorem fRX8_138 : FlR RX8 138 1 15 := ⟨_, _, _, rfl, uw_1, by decide, rfl, rfl, w_159, by decide⟩
theorem fRX8_141 : FlR RX8 141 1 10 := ⟨_, _, _, rfl, uw_1, by decide, rfl, rfl, w_147, by decide⟩
theorem fRX8_153 : FlI RX8 153 1 4 := ⟨_, _, _, tyX1, rfl, uw_1, tyX1_ok, nmX1, by decide, rfl, rfl, w_131, rfl, (by decide : parseFieldDescriptor "I" = some .int), by decide⟩
theorem fRX8_156 : FlI RX8 156 1 2 := ⟨_, _, _, tyX1, rfl, uw_1, tyX1_ok, nmX1, by decide, rfl, rfl, w_126, rfl, (by decide : parseFieldDescriptor "I" = some .int), by decide⟩
theorem fRX4_15 : FlR RX4 15 3 1 := ⟨_, _, _, rfl, uw_4, by decide, rfl, rfl, w_238, by decide⟩
theorem fRX4_34 : FlR RX4 34 1 19 := ⟨_, _, _, rfl, uw_1, by decide, rfl, rfl, w_168, by decide⟩
theorem fRX4_9 : FlR RX4 9 3 0 := ⟨_, _, _, rfl, uw_4, by decide, rfl, rfl, w_237, by decide⟩
theorem fRX4_37 : FlR RX4 37 1 18 := ⟨_, _, _, rfl, uw_1, by decide, rfl, rfl, w_165, by decide⟩
theorem fRX4_40 : FlR RX4 40 1 9 := ⟨_, _, _, rfl, uw_1, by decide, rfl, rfl, w_142, by decide⟩
theorem fRX4_24 : FlI RX4 24 1 2 := ⟨_, _, _, tyX1, rfl, uw_1, tyX1_ok, nmX1, by decide, rfl, rfl, w_124, rfl, (by decide : parseFieldDescriptor "I" = some .int), by decide⟩
theorem fRX8_40 : FlR RX8 40 7 5 := ⟨_, _, _, rfl, uw_8, by decide, rfl, rfl, w_332, by decide⟩
theorem fRX8_169 : FlR RX8 169 1 16 := ⟨_, _, _, rfl, uw_1, by decide, rfl, rfl, w_161, by decide⟩
theorem fRX8_195 : FlI RX8 195 1 1 := ⟨_, _, _, tyX1, rfl, uw_1, tyX1_ok, nmX1, by decide, rfl, rfl, w_123, rfl, (by decide : parseFieldDescriptor "I" = some .int), by decide⟩
theorem fRX8_201 : FlR RX8 201 1 14 := ⟨_, _, _, rfl, uw_1, by decide, rfl, rfl, w_156, by decide⟩
theorem fRX8_210 : FlR RX8 210 1 9 := ⟨_, _, _, rfl, uw_1, by decide, rfl, rfl, w_144, by decide⟩
theorem fRX8_213 : FlR RX8 213 1 13 := ⟨_, _, _, rfl, uw_1, by decide, rfl, rfl, w_154, by decide⟩
theorem fRX8_225 : FlR RX8 225 1 17 := ⟨_, _, _, rfl, uw_1, by decide, rfl, rfl, w_163, by decide⟩
theorem fRX8_228 : FlR RX8 228 1 18 := ⟨_, _, _, rfl, uw_1, by decide, rfl, rfl, w_166, by decide⟩
theorem fRX8_231 : FlR RX8 231 1 19 := ⟨_, _, _, rfl, uw_1, by decide, rfl, rfl, w_169, by decide⟩
theorem fRX8_234 : FlI RX8 234 1 5 := ⟨_, _, _, tyX1, rfl, uw_1, tyX1_ok, nmX1, by decide, rfl, rfl, w_133, rfl, (by decide : parseFieldDescriptor "I" = some .int), by decide⟩
theorem fRX8_241 : FlI RX8 241 1 6 := ⟨_, _, _, tyX1, rfl, uw_1, tyX1_ok, nmX1, by decide, rfl, rfl, w_135, rfl, (by decide : parseFieldDescriptor "I" = some .int), by decide⟩
theorem fRX8_244 : FlI RX8 244 1 7 := ⟨_, _, _, tyX1, rfl, uw_1, tyX1_ok, nmX1, by decide, rfl, rfl, w_137, rfl, (by decide : parseFieldDescriptor "I" = some .int), by decide⟩
theorem fRX8_250 : FlI RX8 250 1 8 := ⟨_, _, _, tyX1, rfl, uw_1, tyX1_ok, nmX1, by decide, rfl, rfl, w_139, rfl, (by decide : parseFieldDescriptor "I" = some .int), by decide⟩
theorem fRX4_18 : FlR RX4 18 3 2 := ⟨_, _, _, rfl, uw_4, by decide, rfl, rfl, w_239, by decide⟩
theorem fRX4_21 : FlR RX4 21 3 3 := ⟨_, _, _, rfl, uw_4, by decide, rfl, rfl, w_240, by decide⟩
theorem fRX6_47 : FlI RX6 47 5 0 := ⟨_, _, _, tyX6, rfl, uw_6, tyX6_ok, nmX6, by decide, rfl, rfl, w_258, rfl, (by decide : parseFieldDescriptor "I" = some .int), by decide⟩
theorem fRX6_24 : FlR RX6 24 5 6 := ⟨_, _, _, rfl, uw_6, by decide, rfl, rfl, w_268, by decide⟩
theorem fRX6_72 : FlR RX6 72 1 10 := ⟨_, _, _, rfl, uw_1, by decide, rfl, rfl, w_146, by decide⟩
theorem fRX6_75 : FlR RX6 75 1 9 := ⟨_, _, _, rfl, uw_1, by decide, rfl, rfl, w_141, by decide⟩
theorem fRX6_9 : FlR RX6 9 5 2 := ⟨_, _, _, rfl, uw_6, by decide, rfl, rfl, w_264, by decide⟩
theorem fRX6_84 : FlR RX6 84 1 11 := ⟨_, _, _, rfl, uw_1, by decide, rfl, rfl, w_149, by decide⟩
theorem fRX6_15 : FlR RX6 15 5 3 := ⟨_, _, _, rfl, uw_6, by decide, rfl, rfl, w_265, by decide⟩
theorem fRX6_87 : FlI RX6 87 1 3 := ⟨_, _, _, tyX1, rfl, uw_1, tyX1_ok, nmX1, by decide, rfl, rfl, w_128, rfl, (by decide : parseFieldDescriptor "I" = some .int), by decide⟩
theorem fRX6_18 : FlR RX6 18 5 4 := ⟨_, _, _, rfl, uw_6, by decide, rfl, rfl, w_266, by decide⟩
theorem fRX6_21 : FlR RX6 21 5 5 := ⟨_, _, _, rfl, uw_6, by decide, rfl, rfl, w_267, by decide⟩
theorem fRX6_54 : FlI RX6 54 5 1 := ⟨_, _, _, tyX6, rfl, uw_6, tyX6_ok, nmX6, by decide, rfl, rfl, w_261, rfl, (by decide : parseFieldDescriptor "I" = some .int), by decide⟩
theorem fRX6_35 : FlR RX6 35 5 9 := ⟨_, _, _, rfl, uw_6, by decide, rfl, rfl, w_273, by decide⟩
theorem fRX6_30 : FlR RX6 30 5 8 := ⟨_, _, _, rfl, uw_6, by decide, rfl, rfl, w_271, by decide⟩
theorem fRX6_27 : FlR RX6 27 5 7 := ⟨_, _, _, rfl, uw_6, by decide, rfl, rfl, w_270, by decide⟩
theorem fRX6_65 : FlR RX6 65 1 15 := ⟨_, _, _, rfl, uw_1, by decide, rfl, rfl, w_158, by decide⟩
theorem fRX8_47 : FlR RX8 47 7 6 := ⟨_, _, _, rfl, uw_8, by decide, rfl, rfl, w_333, by decide⟩
theorem fRX8_271 : FlR RX8 271 5 9 := ⟨_, _, _, rfl, uw_6, by decide, rfl, rfl, w_275, by decide⟩
theorem fRX0_11 : FlR RX0 11 0 0 := ⟨_, _, _, rfl, uw_0, by decide, rfl, rfl, w_309, by decide⟩
theorem fRX0_33 : FlR RX0 33 5 6 := ⟨_, _, _, rfl, uw_6, by decide, rfl, rfl, w_269, by decide⟩
theorem fRX0_61 : FlI RX0 61 5 1 := ⟨_, _, _, tyX6, rfl, uw_6, tyX6_ok, nmX6, by decide, rfl, rfl, w_263, rfl, (by decide : parseFieldDescriptor "I" = some .int), by decide⟩
theorem fRX0_69 : FlR RX0 69 5 10 := ⟨_, _, _, rfl, uw_6, by decide, rfl, rfl, w_277, by decide⟩
theorem fRX8_54 : FlR RX8 54 7 7 := ⟨_, _, _, rfl, uw_8, by decide, rfl, rfl, w_334, by decide⟩
theorem fRX6_38 : FlR RX6 38 5 10 := ⟨_, _, _, rfl, uw_6, by decide, rfl, rfl, w_276, by decide⟩
theorem fRX8_285 : FlR RX8 285 5 10 := ⟨_, _, _, rfl, uw_6, by decide, rfl, rfl, w_278, by decide⟩
theorem fRX5_9 : FlR RX5 9 4 0 := ⟨_, _, _, rfl, uw_5, by decide, rfl, rfl, w_319, by decide⟩
theorem fRX5_15 : FlR RX5 15 4 1 := ⟨_, _, _, rfl, uw_5, by decide, rfl, rfl, w_320, by decide⟩
theorem fRX5_21 : FlI RX5 21 5 1 := ⟨_, _, _, tyX6, rfl, uw_6, tyX6_ok, nmX6, by decide, rfl, rfl, w_262, rfl, (by decide : parseFieldDescriptor "I" = some .int), by decide⟩
theorem fRX8_61 : FlR RX8 61 7 8 := ⟨_, _, _, rfl, uw_8, by decide, rfl, rfl, w_335, by decide⟩
theorem fRX5_76 : FlR RX5 76 5 9 := ⟨_, _, _, rfl, uw_6, by decide, rfl, rfl, w_274, by decide⟩
theorem fRX5_80 : FlR RX5 80 5 8 := ⟨_, _, _, rfl, uw_6, by decide, rfl, rfl, w_272, by decide⟩
theorem fRX5_53 : FlI RX5 53 5 0 := ⟨_, _, _, tyX6, rfl, uw_6, tyX6_ok, nmX6, by decide, rfl, rfl, w_259, rfl, (by decide : parseFieldDescriptor "I" = some .int), by decide⟩
theorem fRX8_328 : FlI RX8 328 5 0 := ⟨_, _, _, tyX6, rfl, uw_6, tyX6_ok, nmX6, by decide, rfl, rfl, w_260, rfl, (by decide : parseFieldDescriptor "I" = some .int), by decide⟩
theorem fRX8_33 : FlR RX8 33 7 4 := ⟨_, _, _, rfl, uw_8, by decide, rfl, rfl, w_331, by decide⟩
theorem fRX9_7 : FlR RX9 7 8 0 := ⟨_, _, _, rfl, uw_9, by decide, rfl, rfl, w_943, by decide⟩
theorem fRX9_97 : FlI RX9 97 8 7 := ⟨_, _, _, tyX9, rfl, uw_9, tyX9_ok, nmX9, by decide, rfl, rfl, w_950, rfl, (by decide : parseFieldDescriptor "I" = some .int), by decide⟩
theorem fRX9_26 : FlR RX9 26 8 6 := ⟨_, _, _, rfl, uw_9, by decide, rfl, rfl, w_949, by decide⟩
theorem fRX9_101 : FlI RX9 101 8 8 := ⟨_, _, _, tyX9, rfl, uw_9, tyX9_ok, nmX9, by decide, rfl, rfl, w_951, rfl, (by decide : parseFieldDescriptor "I" = some .int), by decide⟩
theorem fRX9_104 : FlI RX9 104 8 9 := ⟨_, _, _, tyX9, rfl, uw_9, tyX9_ok, nmX9, by decide, rfl, rfl, w_952, rfl, (by decide : parseFieldDescriptor "I" = some .int), by decide⟩
theorem fRX9_110 : FlI RX9 110 8 11 := ⟨_, _, _, tyX9, rfl, uw_9, tyX9_ok, nmX9, by decide, rfl, rfl, w_954, rfl, (by decide : parseFieldDescriptor "I" = some .int), by decide⟩
theorem fRX9_121 : FlI RX9 121 8 10 := ⟨_, _, _, tyX9, rfl, uw_9, tyX9_ok, nmX9, by decide, rfl, rfl, w_953, rfl, (by decide : parseFieldDescriptor "I" = some .int), by decide⟩
theorem fRX9_124 : FlI RX9 124 8 12 := ⟨_, _, _, tyX9, rfl, uw_9, tyX9_ok, nmX9, by decide, rfl, rfl, w_955, rfl, (by decide : parseFieldDescriptor "I" = some .int), by decide⟩
theorem fRX9_127 : FlI RX9 127 8 13 := ⟨_, _, _, tyX9, rfl, uw_9, tyX9_ok, nmX9, by decide, rfl, rfl, w_956, rfl, (by decide : parseFieldDescriptor "I" = some .int), by decide⟩
theorem fRX9_13 : FlR RX9 13 8 1 := ⟨_, _, _, rfl, uw_9, by decide, rfl, rfl, w_944, by decide⟩
theorem fRX9_179 : FlI RX9 179 8 3 := ⟨_, _, _, tyX9, rfl, uw_9, tyX9_ok, nmX9, by decide, rfl, rfl, w_946, rfl, (by decide : parseFieldDescriptor "I" = some .int), by decide⟩
theorem fRX9_171 : FlI RX9 171 8 14 := ⟨_, _, _, tyX9, rfl, uw_9, tyX9_ok, nmX9, by decide, rfl, rfl, w_957, rfl, (by decide : parseFieldDescriptor "I" = some .int), by decide⟩
theorem fRX9_16 : FlR RX9 16 8 2 := ⟨_, _, _, rfl, uw_9, by decide, rfl, rfl, w_945, by decide⟩
theorem fRX9_38 : FlR RX9 38 8 18 := ⟨_, _, _, rfl, uw_9, by decide, rfl, rfl, w_961, by decide⟩
theorem fRX9_41 : FlR RX9 41 8 19 := ⟨_, _, _, rfl, uw_9, by decide, rfl, rfl, w_962, by decide⟩
theorem fRX9_44 : FlR RX9 44 8 20 := ⟨_, _, _, rfl, uw_9, by decide, rfl, rfl, w_963, by decide⟩
theorem fRX9_29 : FlR RX9 29 8 15 := ⟨_, _, _, rfl, uw_9, by decide, rfl, rfl, w_958, by decide⟩
theorem fRX9_32 : FlR RX9 32 8 16 := ⟨_, _, _, rfl, uw_9, by decide, rfl, rfl, w_959, by decide⟩
theorem fRX9_35 : FlR RX9 35 8 17 := ⟨_, _, _, rfl, uw_9, by decide, rfl, rfl, w_960, by decide⟩
theorem fRX9_19 : FlR RX9 19 8 4 := ⟨_, _, _, rfl, uw_9, by decide, rfl, rfl, w_947, by decide⟩
theorem fRX9_22 : FlR RX9 22 8 5 := ⟨_, _, _, rfl, uw_9, by decide, rfl, rfl, w_948, by decide⟩
theorem mRX8_66 : ClV RX8 66 yX7_append cX7_append 2 (some .boolean) 1 := ⟨w_360, w_361, w_362, w_67, w_363, by decide, by decide, by decide +kernel⟩
theorem mRX7_89 : ClV RX7 89 yX7_byteAt cX7_byteAt 2 (some .int) 1 := ⟨w_389, w_391, w_3, w_67, w_392, by decide, by decide, by decide +kernel⟩
theorem mRX7_55 : ClV RX7 55 yX7_next cX7_next 1 (some .int) 0 := ⟨w_385, w_387, w_2, w_67, w_388, by decide, by decide, by decide +kernel⟩
theorem mRX7_71 : ClV RX7 71 yX7_refuse cX7_refuse 2 (some .boolean) 1 := ⟨w_394, w_396, w_4, w_67, w_397, by decide, by decide, by decide +kernel⟩
theorem mRX7_86 : ClV RX7 86 yX7_figuresFrom cX7_figuresFrom 3 (some .int) 1 := ⟨w_406, w_408, w_6, w_67, w_409, by decide, by decide, by decide +kernel⟩
theorem mRX7_37 : ClV RX7 37 yX7_pass cX7_pass 2 (some .boolean) 1 := ⟨w_381, w_383, w_1, w_67, w_384, by decide, by decide, by decide +kernel⟩
theorem mRX7_47 : ClV RX7 47 yX7_readNumber cX7_readNumber 6 (some .int) 2 := ⟨w_402, w_404, w_5, w_67, w_405, by decide, by decide, by decide +kernel⟩
theorem mRX7_59 : ClS RX7 59 yX3_ofLetter cX3_ofLetter 1 (some .int) 1 := ⟨w_414, w_415, w_75, w_416, by decide, by decide, by decide +kernel⟩
theorem mRX7_74 : ClV RX7 74 yX1_addCan cX1_addCan 4 (some .int) 2 := ⟨w_422, w_423, w_424, w_68, w_425, by decide, by decide, by decide +kernel⟩
theorem mRX7_65 : ClV RX7 65 yX7_readCan cX7_readCan 4 (some .boolean) 1 := ⟨w_418, w_420, w_8, w_67, w_421, by decide, by decide, by decide +kernel⟩
theorem mRX7_83 : ClV RX7 83 yX1_addTake cX1_addTake 4 (some .int) 2 := ⟨w_434, w_435, w_436, w_68, w_437, by decide, by decide, by decide +kernel⟩
theorem mRX7_77 : ClV RX7 77 yX7_readTake cX7_readTake 4 (some .boolean) 1 := ⟨w_430, w_432, w_10, w_67, w_433, by decide, by decide, by decide +kernel⟩
theorem mRX7_22 : ClV RX7 22 yX1_clear cX1_clear 1 none 0 := ⟨w_373, w_374, w_375, w_68, w_376, by decide, by decide, by decide +kernel⟩
theorem mRX7_27 : ClV RX7 27 yX7_readLaws cX7_readLaws 4 (some .boolean) 1 := ⟨w_377, w_379, w_0, w_67, w_380, by decide, by decide, by decide +kernel⟩
theorem mRX7_31 : ClV RX7 31 yX7_readCans cX7_readCans 3 (some .boolean) 1 := ⟨w_410, w_412, w_7, w_67, w_413, by decide, by decide, by decide +kernel⟩
theorem mRX7_34 : ClV RX7 34 yX7_readTakes cX7_readTakes 3 (some .boolean) 1 := ⟨w_426, w_428, w_9, w_67, w_429, by decide, by decide, by decide +kernel⟩
theorem mRX8_75 : ClV RX8 75 yX7_readInto cX7_readInto 3 (some .boolean) 1 := ⟨w_369, w_370, w_371, w_67, w_372, by decide, by decide, by decide +kernel⟩
theorem mRX8_83 : ClV RX8 83 yX1_copyFrom cX1_copyFrom 2 none 1 := ⟨w_439, w_440, w_441, w_68, w_442, by decide, by decide, by decide +kernel⟩
theorem mRX8_87 : ClV RX8 87 yX2_forget cX2_forget 1 none 0 := ⟨w_446, w_447, w_448, w_69, w_449, by decide, by decide, by decide +kernel⟩
theorem mRX2_22 : ClV RX2 22 yX1_copyFrom cX1_copyFrom 2 none 1 := ⟨w_462, w_440, w_441, w_68, w_442, by decide, by decide, by decide +kernel⟩
theorem mRX8_96 : ClV RX8 96 yX2_stepBack cX2_stepBack 2 (some .boolean) 1 := ⟨w_458, w_459, w_460, w_69, w_461, by decide, by decide, by decide +kernel⟩
theorem mRX3_15 : ClS RX3 15 yX3_isKind cX3_isKind 1 (some .boolean) 1 := ⟨w_483, w_484, w_75, w_485, by decide, by decide, by decide +kernel⟩
theorem mRX3_19 : ClS RX3 19 yX3_isOf cX3_isOf 2 (some .boolean) 2 := ⟨w_480, w_481, w_75, w_482, by decide, by decide, by decide +kernel⟩
theorem mRX1_86 : ClS RX1 86 yX3_leadOf cX3_leadOf 2 (some .int) 2 := ⟨w_477, w_478, w_75, w_479, by decide, by decide, by decide +kernel⟩
theorem mRX1_104 : ClV RX1 104 yX1_leadOf cX1_leadOf 2 (some .int) 1 := ⟨w_499, w_474, w_475, w_68, w_476, by decide, by decide, by decide +kernel⟩
theorem mRX8_103 : ClV RX8 103 yX1_hasCan cX1_hasCan 2 (some .boolean) 1 := ⟨w_468, w_469, w_470, w_68, w_471, by decide, by decide, by decide +kernel⟩
theorem mRX8_117 : ClV RX8 117 yX1_leadOf cX1_leadOf 2 (some .int) 1 := ⟨w_473, w_474, w_475, w_68, w_476, by decide, by decide, by decide +kernel⟩
theorem mRX8_121 : ClV RX8 121 yX2_keep cX2_keep 2 none 1 := ⟨w_488, w_489, w_490, w_69, w_491, by decide, by decide, by decide +kernel⟩
theorem mRX8_124 : ClV RX8 124 yX1_thread cX1_thread 3 none 1 := ⟨w_495, w_496, w_497, w_68, w_498, by decide, by decide, by decide +kernel⟩
theorem mRX1_80 : ClS RX1 80 yX3_isOf cX3_isOf 2 (some .boolean) 2 := ⟨w_516, w_481, w_75, w_482, by decide, by decide, by decide +kernel⟩
theorem mRX1_106 : ClS RX1 106 yX3_slateOf cX3_slateOf 1 (some .int) 1 := ⟨w_524, w_518, w_75, w_519, by decide, by decide, by decide +kernel⟩
theorem mRX8_128 : ClV RX8 128 yX1_hasTake cX1_hasTake 2 (some .boolean) 1 := ⟨w_504, w_505, w_506, w_68, w_507, by decide, by decide, by decide +kernel⟩
theorem mRX8_131 : ClV RX8 131 yX1_isOpen cX1_isOpen 2 (some .boolean) 1 := ⟨w_508, w_509, w_510, w_68, w_511, by decide, by decide, by decide +kernel⟩
theorem mRX8_134 : ClV RX8 134 yX1_serves cX1_serves 3 (some .boolean) 2 := ⟨w_512, w_513, w_514, w_68, w_515, by decide, by decide, by decide +kernel⟩
theorem mRX8_144 : ClS RX8 144 yX3_slateOf cX3_slateOf 1 (some .int) 1 := ⟨w_517, w_518, w_75, w_519, by decide, by decide, by decide +kernel⟩
theorem mRX8_149 : ClV RX8 149 yX1_expose cX1_expose 5 none 2 := ⟨w_520, w_521, w_522, w_68, w_523, by decide, by decide, by decide +kernel⟩
theorem mRX1_90 : ClS RX1 90 yX3_leastKept cX3_leastKept 2 (some .int) 2 := ⟨w_540, w_541, w_75, w_542, by decide, by decide, by decide +kernel⟩
theorem mRX1_112 : ClV RX1 112 yX1_leastKeptOf cX1_leastKeptOf 2 (some .int) 1 := ⟨w_536, w_537, w_538, w_68, w_539, by decide, by decide, by decide +kernel⟩
theorem mRX1_115 : ClS RX1 115 yX3_isKept cX3_isKept 2 (some .boolean) 2 := ⟨w_546, w_547, w_75, w_548, by decide, by decide, by decide +kernel⟩
theorem mRX1_109 : ClS RX1 109 yX3_familyOf cX3_familyOf 1 (some .int) 1 := ⟨w_533, w_534, w_75, w_535, by decide, by decide, by decide +kernel⟩
theorem mRX8_159 : ClV RX8 159 yX1_takeOut cX1_takeOut 2 none 1 := ⟨w_529, w_530, w_531, w_68, w_532, by decide, by decide, by decide +kernel⟩
theorem mRX4_30 : ClV RX4 30 yX4_firstWithRoom cX4_firstWithRoom 5 (some .int) 3 := ⟨w_557, w_559, w_11, w_70, w_560, by decide, by decide, by decide +kernel⟩
theorem mRX1_118 : ClV RX1 118 yX1_feetThatWait cX1_feetThatWait 3 (some .int) 0 := ⟨w_565, w_566, w_567, w_68, w_568, by decide, by decide, by decide +kernel⟩
theorem mRX8_162 : ClV RX8 162 yX4_byLab cX4_byLab 5 (some .int) 1 := ⟨w_553, w_554, w_555, w_70, w_556, by decide, by decide, by decide +kernel⟩
theorem mRX8_166 : ClV RX8 166 yX1_develop cX1_develop 2 none 1 := ⟨w_561, w_562, w_563, w_68, w_564, by decide, by decide, by decide +kernel⟩
theorem mRX8_172 : ClV RX8 172 yX1_reopen cX1_reopen 2 none 1 := ⟨w_573, w_574, w_575, w_68, w_576, by decide, by decide, by decide +kernel⟩
theorem mRX8_358 : ClV RX8 358 yX1_isEmpty cX1_isEmpty 1 (some .boolean) 0 := ⟨w_585, w_586, w_587, w_68, w_588, by decide, by decide, by decide +kernel⟩
theorem mRX8_189 : ClS RX8 189 yX3_isKind cX3_isKind 1 (some .boolean) 1 := ⟨w_592, w_484, w_75, w_485, by decide, by decide, by decide +kernel⟩
theorem mRX8_175 : ClV RX8 175 yX8_hasNoBook cX8_hasNoBook 1 (some .boolean) 0 := ⟨w_581, w_583, w_12, w_66, w_584, by decide, by decide, by decide +kernel⟩
theorem mRX8_179 : ClS RX8 179 yX8_isCanKind cX8_isCanKind 1 (some .boolean) 1 := ⟨w_589, w_590, w_66, w_591, by decide, by decide, by decide +kernel⟩
theorem mRX8_182 : ClS RX8 182 yX8_isCanFeet cX8_isCanFeet 1 (some .boolean) 1 := ⟨w_593, w_594, w_66, w_595, by decide, by decide, by decide +kernel⟩
theorem mRX8_185 : ClV RX8 185 yX1_addCan cX1_addCan 4 (some .int) 2 := ⟨w_596, w_423, w_424, w_68, w_425, by decide, by decide, by decide +kernel⟩
theorem mRX8_192 : ClS RX8 192 yX8_isTakeFeet cX8_isTakeFeet 1 (some .boolean) 1 := ⟨w_601, w_602, w_66, w_603, by decide, by decide, by decide +kernel⟩
theorem mRX8_198 : ClV RX8 198 yX1_addTake cX1_addTake 4 (some .int) 2 := ⟨w_604, w_435, w_436, w_68, w_437, by decide, by decide, by decide +kernel⟩
theorem mRX8_216 : ClV RX8 216 yX1_takesShotOn cX1_takesShotOn 4 (some .int) 1 := ⟨w_623, w_624, w_625, w_68, w_626, by decide, by decide, by decide +kernel⟩
theorem mRX8_219 : ClV RX8 219 yX1_leastKeptOf cX1_leastKeptOf 2 (some .int) 1 := ⟨w_627, w_537, w_538, w_68, w_539, by decide, by decide, by decide +kernel⟩
theorem mRX1_97 : ClV RX1 97 yX1_serves cX1_serves 3 (some .boolean) 2 := ⟨w_636, w_513, w_514, w_68, w_515, by decide, by decide, by decide +kernel⟩
theorem mRX8_222 : ClV RX8 222 yX1_cansThatServe cX1_cansThatServe 4 (some .int) 1 := ⟨w_632, w_633, w_634, w_68, w_635, by decide, by decide, by decide +kernel⟩
theorem mRX8_237 : ClV RX8 237 yX1_feetOnShelf cX1_feetOnShelf 3 (some .int) 0 := ⟨w_645, w_646, w_647, w_68, w_648, by decide, by decide, by decide +kernel⟩
theorem mRX8_247 : ClV RX8 247 yX1_feetThatWait cX1_feetThatWait 3 (some .int) 0 := ⟨w_649, w_566, w_567, w_68, w_568, by decide, by decide, by decide +kernel⟩
theorem mRX4_43 : ClV RX4 43 yX4_sumUp cX4_sumUp 5 none 1 := ⟨w_658, w_660, w_13, w_70, w_661, by decide, by decide, by decide +kernel⟩
theorem mRX4_47 : ClV RX4 47 yX4_reversalRolls cX4_reversalRolls 4 (some .int) 1 := ⟨w_662, w_664, w_14, w_70, w_665, by decide, by decide, by decide +kernel⟩
theorem mRX4_51 : ClV RX4 51 yX4_leastOf cX4_leastOf 11 (some .int) 3 := ⟨w_666, w_668, w_15, w_70, w_669, by decide, by decide, by decide +kernel⟩
theorem mRX8_253 : ClV RX8 253 yX4_leastBatches cX4_leastBatches 5 (some .int) 1 := ⟨w_654, w_655, w_656, w_70, w_657, by decide, by decide, by decide +kernel⟩
theorem mRX8_256 : ClS RX8 256 yX3_isOf cX3_isOf 2 (some .boolean) 2 := ⟨w_675, w_481, w_75, w_482, by decide, by decide, by decide +kernel⟩
theorem mRX1_93 : ClV RX1 93 yX1_takesShotOn cX1_takesShotOn 4 (some .int) 1 := ⟨w_684, w_624, w_625, w_68, w_626, by decide, by decide, by decide +kernel⟩
theorem mRX1_100 : ClV RX1 100 yX1_isRoom cX1_isRoom 2 (some .boolean) 1 := ⟨w_697, w_686, w_687, w_68, w_688, by decide, by decide, by decide +kernel⟩
theorem mRX6_69 : ClV RX6 69 yX6_has cX6_has 2 (some .boolean) 1 := ⟨w_703, w_704, w_705, w_71, w_706, by decide, by decide, by decide +kernel⟩
theorem mRX6_78 : ClS RX6 78 yX3_leastKept cX3_leastKept 2 (some .int) 2 := ⟨w_707, w_541, w_75, w_542, by decide, by decide, by decide +kernel⟩
theorem mRX6_90 : ClS RX6 90 yX3_leadOf cX3_leadOf 2 (some .int) 2 := ⟨w_708, w_478, w_75, w_479, by decide, by decide, by decide +kernel⟩
theorem mRX6_93 : ClS RX6 93 yX3_slateOf cX3_slateOf 1 (some .int) 1 := ⟨w_709, w_518, w_75, w_519, by decide, by decide, by decide +kernel⟩
theorem mRX6_98 : ClV RX6 98 yX1_takesServedBy cX1_takesServedBy 4 (some .int) 1 := ⟨w_711, w_712, w_713, w_68, w_714, by decide, by decide, by decide +kernel⟩
theorem mRX6_101 : ClS RX6 101 yJ6_bitCount_0f7a4 cJ6_bitCount_0f7a4 1 (some .int) 1 := ⟨w_730, w_731, w_79, w_732, by decide, by decide, by decide +kernel⟩
theorem mRX6_110 : ClS RX6 110 yJ7_fill_53178 cJ7_fill_53178 4 none 2 := ⟨w_723, w_724, w_78, w_725, by decide, by decide, by decide +kernel⟩
theorem mRX6_116 : ClV RX6 116 yX6_measureEnds cX6_measureEnds 4 none 1 := ⟨w_726, w_728, w_19, w_71, w_729, by decide, by decide, by decide +kernel⟩
theorem mRX6_41 : ClV RX6 41 yX1_rooms cX1_rooms 3 (some .int) 0 := ⟨w_693, w_694, w_695, w_68, w_696, by decide, by decide, by decide +kernel⟩
theorem mRX6_51 : ClV RX6 51 yX1_openTakes cX1_openTakes 1 (some .int) 0 := ⟨w_698, w_681, w_682, w_68, w_683, by decide, by decide, by decide +kernel⟩
theorem mRX6_66 : ClV RX6 66 yX6_measure cX6_measure 4 none 0 := ⟨w_719, w_721, w_18, w_71, w_722, by decide, by decide, by decide +kernel⟩
theorem mRX6_61 : ClV RX6 61 yX6_isOpen cX6_isOpen 2 (some .boolean) 1 := ⟨w_715, w_717, w_17, w_71, w_718, by decide, by decide, by decide +kernel⟩
theorem mRX6_57 : ClV RX6 57 yX6_lookAtCan cX6_lookAtCan 5 none 2 := ⟨w_699, w_701, w_16, w_71, w_702, by decide, by decide, by decide +kernel⟩
theorem mRX8_259 : ClV RX8 259 yX1_openTakes cX1_openTakes 1 (some .int) 0 := ⟨w_680, w_681, w_682, w_68, w_683, by decide, by decide, by decide +kernel⟩
theorem mRX8_262 : ClV RX8 262 yX1_isRoom cX1_isRoom 2 (some .boolean) 1 := ⟨w_685, w_686, w_687, w_68, w_688, by decide, by decide, by decide +kernel⟩
theorem mRX8_265 : ClV RX8 265 yX6_lookAt cX6_lookAt 3 none 1 := ⟨w_689, w_690, w_691, w_71, w_692, by decide, by decide, by decide +kernel⟩
theorem mRX8_268 : ClV RX8 268 yX6_holds cX6_holds 3 (some .boolean) 2 := ⟨w_736, w_737, w_738, w_71, w_739, by decide, by decide, by decide +kernel⟩
theorem mRX0_72 : ClV RX0 72 yX6_lossOf cX6_lossOf 4 (some .int) 2 := ⟨w_766, w_767, w_768, w_71, w_769, by decide, by decide, by decide +kernel⟩
theorem mRX0_43 : ClV RX0 43 yX6_holds cX6_holds 3 (some .boolean) 2 := ⟨w_762, w_737, w_738, w_71, w_739, by decide, by decide, by decide +kernel⟩
theorem mRX0_47 : ClS RX0 47 yX0_priceOf cX0_priceOf 3 (some .int) 3 := ⟨w_763, w_764, w_72, w_765, by decide, by decide, by decide +kernel⟩
theorem mRX0_51 : ClV RX0 51 yX0_spread cX0_spread 9 none 4 := ⟨w_770, w_772, w_22, w_72, w_773, by decide, by decide, by decide +kernel⟩
theorem mRX0_65 : ClV RX0 65 yX0_cheapestSet cX0_cheapestSet 8 (some .int) 3 := ⟨w_779, w_781, w_24, w_72, w_782, by decide, by decide, by decide +kernel⟩
theorem mRX0_17 : ClS RX0 17 yJ7_fill_53178 cJ7_fill_53178 4 none 2 := ⟨w_756, w_724, w_78, w_725, by decide, by decide, by decide +kernel⟩
theorem mRX0_39 : ClV RX0 39 yX0_choose cX0_choose 5 (some .boolean) 1 := ⟨w_775, w_777, w_23, w_72, w_778, by decide, by decide, by decide +kernel⟩
theorem mRX0_29 : ClV RX0 29 yX0_admit cX0_admit 6 none 3 := ⟨w_758, w_760, w_21, w_72, w_761, by decide, by decide, by decide +kernel⟩
theorem mRX8_353 : ClV RX8 353 yX0_place cX0_place 5 (some .boolean) 1 := ⟨w_751, w_752, w_753, w_72, w_754, by decide, by decide, by decide +kernel⟩
theorem mRX6_120 : ClV RX6 120 yX6_lossOf cX6_lossOf 4 (some .int) 2 := ⟨w_792, w_767, w_768, w_71, w_769, by decide, by decide, by decide +kernel⟩
theorem mRX8_367 : ClV RX8 367 yX6_used cX6_used 3 (some .int) 0 := ⟨w_793, w_794, w_795, w_71, w_796, by decide, by decide, by decide +kernel⟩
theorem mRX8_355 : ClV RX8 355 yX6_losses cX6_losses 3 (some .int) 0 := ⟨w_788, w_789, w_790, w_71, w_791, by decide, by decide, by decide +kernel⟩
theorem mRX8_275 : ClS RX8 275 yX8_isZeroOrOne cX8_isZeroOrOne 1 (some .boolean) 1 := ⟨w_744, w_745, w_66, w_746, by decide, by decide, by decide +kernel⟩
theorem mRX8_278 : ClV RX8 278 yX8_placeBest cX8_placeBest 1 (some .boolean) 0 := ⟨w_747, w_749, w_20, w_66, w_750, by decide, by decide, by decide +kernel⟩
theorem mRX8_281 : ClV RX8 281 yX8_wholeAnswer cX8_wholeAnswer 3 (some .int) 2 := ⟨w_784, w_786, w_25, w_66, w_787, by decide, by decide, by decide +kernel⟩
theorem mRX6_129 : ClV RX6 129 yX6_holds cX6_holds 3 (some .boolean) 2 := ⟨w_821, w_737, w_738, w_71, w_739, by decide, by decide, by decide +kernel⟩
theorem mRX6_126 : ClV RX6 126 yX6_firstFor cX6_firstFor 3 (some .int) 1 := ⟨w_817, w_819, w_28, w_71, w_820, by decide, by decide, by decide +kernel⟩
theorem mRX6_123 : ClV RX6 123 yX6_tightestFor cX6_tightestFor 6 (some .int) 1 := ⟨w_813, w_815, w_27, w_71, w_816, by decide, by decide, by decide +kernel⟩
theorem mRX8_363 : ClV RX8 363 yX6_placeRising cX6_placeRising 4 (some .boolean) 1 := ⟨w_809, w_810, w_811, w_71, w_812, by decide, by decide, by decide +kernel⟩
theorem mRX8_288 : ClV RX8 288 yX8_placeByRule cX8_placeByRule 2 (some .boolean) 1 := ⟨w_805, w_807, w_26, w_66, w_808, by decide, by decide, by decide +kernel⟩
theorem mRX5_35 : ClV RX5 35 yX6_holds cX6_holds 3 (some .boolean) 2 := ⟨w_843, w_737, w_738, w_71, w_739, by decide, by decide, by decide +kernel⟩
theorem mRX5_39 : ClV RX5 39 yX5_withOneMore cX5_withOneMore 7 (some .long) 2 := ⟨w_848, w_850, w_32, w_73, w_851, by decide, by decide, by decide +kernel⟩
theorem mRX5_27 : ClV RX5 27 yX5_holdersOf cX5_holdersOf 5 (some .int) 2 := ⟨w_839, w_841, w_30, w_73, w_842, by decide, by decide, by decide +kernel⟩
theorem mRX5_31 : ClV RX5 31 yX5_roomSetsFor cX5_roomSetsFor 7 (some .long) 1 := ⟨w_844, w_846, w_31, w_73, w_847, by decide, by decide, by decide +kernel⟩
theorem mRX8_370 : ClV RX8 370 yX5_work cX5_work 3 none 1 := ⟨w_834, w_835, w_836, w_73, w_837, by decide, by decide, by decide +kernel⟩
theorem mRX5_46 : ClV RX5 46 yX5_isPlaced cX5_isPlaced 3 (some .boolean) 2 := ⟨w_862, w_864, w_34, w_73, w_865, by decide, by decide, by decide +kernel⟩
theorem mRX5_66 : ClV RX5 66 yX5_longestOn cX5_longestOn 7 (some .int) 4 := ⟨w_858, w_860, w_33, w_73, w_861, by decide, by decide, by decide +kernel⟩
theorem mRX8_291 : ClV RX8 291 yX8_lookAhead cX8_lookAhead 1 none 0 := ⟨w_830, w_832, w_29, w_66, w_833, by decide, by decide, by decide +kernel⟩
theorem mRX8_294 : ClV RX8 294 yX5_longestOf cX5_longestOf 7 (some .int) 2 := ⟨w_854, w_855, w_856, w_73, w_857, by decide, by decide, by decide +kernel⟩
theorem mRX5_56 : ClS RX5 56 yJ6_bitCount_0f7a4 cJ6_bitCount_0f7a4 1 (some .int) 1 := ⟨w_882, w_731, w_79, w_732, by decide, by decide, by decide +kernel⟩
theorem mRX8_303 : ClV RX8 303 yX5_canPlaceAll cX5_canPlaceAll 2 (some .boolean) 1 := ⟨w_872, w_873, w_874, w_73, w_875, by decide, by decide, by decide +kernel⟩
theorem mRX8_307 : ClS RX8 307 yX3_leadOf cX3_leadOf 2 (some .int) 2 := ⟨w_876, w_478, w_75, w_479, by decide, by decide, by decide +kernel⟩
theorem mRX8_309 : ClV RX8 309 yX1_takesServedBy cX1_takesServedBy 4 (some .int) 1 := ⟨w_877, w_712, w_713, w_68, w_714, by decide, by decide, by decide +kernel⟩
theorem mRX8_312 : ClV RX8 312 yX5_leastRest cX5_leastRest 8 (some .int) 4 := ⟨w_878, w_879, w_880, w_73, w_881, by decide, by decide, by decide +kernel⟩
theorem mRX5_49 : ClV RX5 49 yX6_has cX6_has 2 (some .boolean) 1 := ⟨w_892, w_704, w_705, w_71, w_706, by decide, by decide, by decide +kernel⟩
theorem mRX8_316 : ClV RX8 316 yX5_roomsNeeded cX5_roomsNeeded 4 (some .int) 1 := ⟨w_888, w_889, w_890, w_73, w_891, by decide, by decide, by decide +kernel⟩
theorem mRX5_62 : ClN RX5 62 yX8_power "FilmCans" cX8_power 5 (some .long) 2 := ⟨(by decide +kernel), w_904, w_66, w_905, by decide, by decide, by decide +kernel⟩
theorem mRX8_324 : ClV RX8 324 yX5_casesAmongTens cX5_casesAmongTens 7 (some .long) 2 := ⟨w_899, w_900, w_901, w_73, w_902, by decide, by decide, by decide +kernel⟩
theorem mRX8_331 : ClS RX8 331 yJ6_bitCount_0f7a4 cJ6_bitCount_0f7a4 1 (some .int) 1 := ⟨w_906, w_731, w_79, w_732, by decide, by decide, by decide +kernel⟩
theorem mRX8_336 : ClS RX8 336 yX8_power cX8_power 5 (some .long) 2 := ⟨w_907, w_904, w_66, w_905, by decide, by decide, by decide +kernel⟩
theorem mRX8_340 : ClS RX8 340 yX8_greatestDivisor cX8_greatestDivisor 7 (some .long) 2 := ⟨w_908, w_909, w_66, w_910, by decide, by decide, by decide +kernel⟩
theorem mRX8_349 : ClV RX8 349 yX6_drawLength cX6_drawLength 6 none 1 := ⟨w_918, w_919, w_920, w_71, w_921, by decide, by decide, by decide +kernel⟩
theorem mRX8_361 : ClV RX8 361 yX1_rooms cX1_rooms 3 (some .int) 0 := ⟨w_936, w_694, w_695, w_68, w_696, by decide, by decide, by decide +kernel⟩
theorem mRX9_47 : ClS RX9 47 yX9_in cX9_in 6 (some .boolean) 3 := ⟨w_1013, w_1014, w_74, w_1015, by decide, by decide, by decide +kernel⟩
theorem mRX9_51 : ClS RX9 51 yX9_kind cX9_kind 2 (some .int) 2 := ⟨w_1102, w_1103, w_74, w_1104, by decide, by decide, by decide +kernel⟩
theorem mRX9_55 : ClS RX9 55 yX9_isOf cX9_isOf 2 (some .boolean) 2 := ⟨w_1123, w_1124, w_74, w_1125, by decide, by decide, by decide +kernel⟩
theorem mRX9_60 : ClS RX9 60 yX9_leastEnd cX9_leastEnd 3 (some .int) 2 := ⟨w_1136, w_1137, w_74, w_1138, by decide, by decide, by decide +kernel⟩
theorem mRX9_63 : ClS RX9 63 yX9_where cX9_where 2 (some .int) 2 := ⟨w_1093, w_1094, w_74, w_1095, by decide, by decide, by decide +kernel⟩
theorem mRX9_66 : ClS RX9 66 yX9_isOpen cX9_isOpen 2 (some .boolean) 2 := ⟨w_1117, w_1118, w_74, w_1119, by decide, by decide, by decide +kernel⟩
theorem mRX9_70 : ClS RX9 70 yX9_feet cX9_feet 2 (some .int) 2 := ⟨w_1096, w_1097, w_74, w_1098, by decide, by decide, by decide +kernel⟩
theorem mRX9_76 : ClS RX9 76 yX9_has cX9_has 2 (some .boolean) 2 := ⟨w_1228, w_1229, w_74, w_1230, by decide, by decide, by decide +kernel⟩
theorem mRX9_83 : ClS RX9 83 yX9_slate cX9_slate 2 (some .int) 2 := ⟨w_1126, w_1127, w_74, w_1128, by decide, by decide, by decide +kernel⟩
theorem mRX9_79 : ClS RX9 79 yX9_serves cX9_serves 3 (some .boolean) 3 := ⟨w_1120, w_1121, w_74, w_1122, by decide, by decide, by decide +kernel⟩
theorem mRX9_73 : ClS RX9 73 yX9_lead cX9_lead 2 (some .int) 2 := ⟨w_1099, w_1100, w_74, w_1101, by decide, by decide, by decide +kernel⟩
theorem mRX9_86 : ClS RX9 86 yX9_left cX9_left 6 (some .int) 3 := ⟨w_1242, w_1243, w_74, w_1244, by decide, by decide, by decide +kernel⟩
theorem mRX9_90 : ClS RX9 90 yX9_ones cX9_ones 3 (some .int) 1 := ⟨w_1271, w_1272, w_74, w_1273, by decide, by decide, by decide +kernel⟩
theorem mRX9_94 : ClS RX9 94 yX9_isKept cX9_isKept 3 (some .boolean) 3 := ⟨w_1133, w_1134, w_74, w_1135, by decide, by decide, by decide +kernel⟩
theorem mRX9_107 : ClV RX9 107 yX9_byteAt cX9_byteAt 2 (some .int) 1 := ⟨w_1026, w_1028, w_36, w_74, w_1029, by decide, by decide, by decide +kernel⟩
theorem mRX9_130 : ClV RX9 130 yX9_next cX9_next 2 none 0 := ⟨w_1022, w_1024, w_35, w_74, w_1025, by decide, by decide, by decide +kernel⟩
theorem mRX9_137 : ClV RX9 137 yX9_goesOn cX9_goesOn 1 none 0 := ⟨w_1042, w_1044, w_39, w_74, w_1045, by decide, by decide, by decide +kernel⟩
theorem mRX9_133 : ClV RX9 133 yX9_bad cX9_bad 2 none 1 := ⟨w_1038, w_1040, w_38, w_74, w_1041, by decide, by decide, by decide +kernel⟩
theorem mRX9_140 : ClS RX9 140 yX9_kindOf cX9_kindOf 1 (some .int) 1 := ⟨w_1058, w_1059, w_74, w_1060, by decide, by decide, by decide +kernel⟩
theorem mRX9_143 : ClV RX9 143 yX9_number cX9_number 4 (some .int) 2 := ⟨w_1046, w_1048, w_40, w_74, w_1049, by decide, by decide, by decide +kernel⟩
theorem mRX9_147 : ClV RX9 147 yX9_sign cX9_sign 2 none 1 := ⟨w_1050, w_1052, w_41, w_74, w_1053, by decide, by decide, by decide +kernel⟩
theorem mRX9_150 : ClS RX9 150 yX9_adds cX9_adds 4 none 3 := ⟨w_1065, w_1066, w_74, w_1067, by decide, by decide, by decide +kernel⟩
theorem mRX9_158 : ClV RX9 158 yX9_letter cX9_letter 2 none 1 := ⟨w_1034, w_1036, w_37, w_74, w_1037, by decide, by decide, by decide +kernel⟩
theorem mRX9_161 : ClV RX9 161 yX9_isCanTold cX9_isCanTold 1 (some .boolean) 0 := ⟨w_1054, w_1056, w_42, w_74, w_1057, by decide, by decide, by decide +kernel⟩
theorem mRX9_175 : ClS RX9 175 yX9_copies cX9_copies 5 none 4 := ⟨w_1073, w_1074, w_74, w_1075, by decide, by decide, by decide +kernel⟩
theorem mRX9_168 : ClV RX9 168 yX9_readsTake cX9_readsTake 4 none 0 := ⟨w_1068, w_1070, w_44, w_74, w_1071, by decide, by decide, by decide +kernel⟩
theorem mRX9_165 : ClV RX9 165 yX9_readsCan cX9_readsCan 3 none 0 := ⟨w_1061, w_1063, w_43, w_74, w_1064, by decide, by decide, by decide +kernel⟩
theorem mRX9_183 : ClV RX9 183 yX9_isCan cX9_isCan 2 (some .boolean) 1 := ⟨w_1089, w_1091, w_45, w_74, w_1092, by decide, by decide, by decide +kernel⟩
theorem mRX9_187 : ClV RX9 187 yX9_notes cX9_notes 2 none 0 := ⟨w_1105, w_1107, w_46, w_74, w_1108, by decide, by decide, by decide +kernel⟩
theorem mRX9_190 : ClV RX9 190 yX9_isTake cX9_isTake 2 (some .boolean) 1 := ⟨w_1113, w_1115, w_47, w_74, w_1116, by decide, by decide, by decide +kernel⟩
theorem mRX9_193 : ClV RX9 193 yX9_batched cX9_batched 7 (some .int) 0 := ⟨w_1144, w_1146, w_48, w_74, w_1147, by decide, by decide, by decide +kernel⟩
theorem mRX9_197 : ClV RX9 197 yX9_waiting cX9_waiting 3 (some .int) 0 := ⟨w_1148, w_1150, w_49, w_74, w_1151, by decide, by decide, by decide +kernel⟩
theorem mRX9_200 : ClV RX9 200 yX9_isBook cX9_isBook 1 (some .boolean) 0 := ⟨w_1160, w_1162, w_50, w_74, w_1163, by decide, by decide, by decide +kernel⟩
theorem mRX9_217 : ClV RX9 217 yX9_shotOn cX9_shotOn 4 (some .int) 1 := ⟨w_1191, w_1193, w_51, w_74, w_1194, by decide, by decide, by decide +kernel⟩
theorem mRX9_220 : ClV RX9 220 yX9_serving cX9_serving 4 (some .int) 1 := ⟨w_1199, w_1201, w_52, w_74, w_1202, by decide, by decide, by decide +kernel⟩
theorem mRX9_225 : ClV RX9 225 yX9_onShelf cX9_onShelf 3 (some .int) 0 := ⟨w_1212, w_1214, w_53, w_74, w_1215, by decide, by decide, by decide +kernel⟩
theorem mRX9_228 : ClV RX9 228 yX9_isBatch cX9_isBatch 5 (some .boolean) 1 := ⟨w_1224, w_1226, w_55, w_74, w_1227, by decide, by decide, by decide +kernel⟩
theorem mRX9_231 : ClV RX9 231 yX9_fewest cX9_fewest 5 (some .int) 0 := ⟨w_1220, w_1222, w_54, w_74, w_1223, by decide, by decide, by decide +kernel⟩
theorem mRX9_234 : ClS RX9 234 yX9_openOnes cX9_openOnes 3 (some .int) 1 := ⟨w_1239, w_1240, w_74, w_1241, by decide, by decide, by decide +kernel⟩
theorem mRX9_238 : ClS RX9 238 yX9_isRoom cX9_isRoom 2 (some .boolean) 2 := ⟨w_1245, w_1246, w_74, w_1247, by decide, by decide, by decide +kernel⟩
theorem mRX9_245 : ClS RX9 245 yX9_lossOf cX9_lossOf 4 (some .int) 3 := ⟨w_1268, w_1269, w_74, w_1270, by decide, by decide, by decide +kernel⟩
theorem mRX9_241 : ClV RX9 241 yX9_weighs cX9_weighs 11 none 4 := ⟨w_1264, w_1266, w_59, w_74, w_1267, by decide, by decide, by decide +kernel⟩
theorem mRX9_248 : ClV RX9 248 yX9_plans cX9_plans 6 none 3 := ⟨w_1260, w_1262, w_58, w_74, w_1263, by decide, by decide, by decide +kernel⟩
theorem mRX9_251 : ClV RX9 251 yX9_canBePlaced cX9_canBePlaced 3 (some .boolean) 2 := ⟨w_1256, w_1258, w_57, w_74, w_1259, by decide, by decide, by decide +kernel⟩
theorem mRX9_254 : ClV RX9 254 yX9_leastAt cX9_leastAt 9 (some .int) 3 := ⟨w_1274, w_1276, w_60, w_74, w_1277, by decide, by decide, by decide +kernel⟩
theorem mRX9_257 : ClV RX9 257 yX9_best cX9_best 4 (some .boolean) 1 := ⟨w_1252, w_1254, w_56, w_74, w_1255, by decide, by decide, by decide +kernel⟩
theorem mRX9_264 : ClV RX9 264 yX9_roomsOfPlan cX9_roomsOfPlan 3 (some .int) 0 := ⟨w_1282, w_1284, w_62, w_74, w_1285, by decide, by decide, by decide +kernel⟩
theorem mRX9_261 : ClV RX9 261 yX9_lossOfPlan cX9_lossOfPlan 3 (some .int) 0 := ⟨w_1278, w_1280, w_61, w_74, w_1281, by decide, by decide, by decide +kernel⟩
theorem mRX9_267 : ClV RX9 267 yX9_roomFor cX9_roomFor 7 (some .int) 2 := ⟨w_1298, w_1300, w_64, w_74, w_1301, by decide, by decide, by decide +kernel⟩
theorem mRX9_270 : ClV RX9 270 yX9_puts cX9_puts 4 (some .boolean) 1 := ⟨w_1294, w_1296, w_63, w_74, w_1297, by decide, by decide, by decide +kernel⟩
theorem mRX9_277 : ClS RX9 277 yX9_gcd cX9_gcd 10 (some .long) 2 := ⟨w_1324, w_1325, w_74, w_1326, by decide, by decide, by decide +kernel⟩
theorem mRX9_287 : ClS RX9 287 yX9_nth cX9_nth 6 (some .int) 2 := ⟨w_1334, w_1335, w_74, w_1336, by decide, by decide, by decide +kernel⟩
theorem r_0_0 : rf 0 0 = 1 := by decide +kernel
theorem r_0_1 : rf 0 1 = 3 := by decide +kernel
theorem r_0_2 : rf 0 2 = 15 := by decide +kernel
theorem r_0_3 : rf 0 3 = 27 := by decide +kernel
theorem r_0_4 : rf 0 4 = 269 := by decide +kernel
theorem r_0_5 : rf 0 5 = 294 := by decide +kernel
theorem r_0_6 : rf 0 6 = 299 := by decide +kernel
theorem r_0_7 : rf 0 7 = 315 := by decide +kernel
theorem r_0_8 : rf 0 8 = 323 := by decide +kernel
theorem r_1_0 : rf 1 0 = 2 := by decide +kernel
theorem r_3_9 : rf 3 9 = 4 := by decide +kernel
theorem r_3_10 : rf 3 10 = 5 := by decide +kernel
theorem r_3_11 : rf 3 11 = 6 := by decide +kernel
theorem r_3_12 : rf 3 12 = 7 := by decide +kernel
theorem r_3_13 : rf 3 13 = 8 := by decide +kernel
theorem r_3_14 : rf 3 14 = 9 := by decide +kernel
theorem r_3_15 : rf 3 15 = 10 := by decide +kernel
theorem r_3_16 : rf 3 16 = 11 := by decide +kernel
theorem r_3_17 : rf 3 17 = 12 := by decide +kernel
theorem r_3_18 : rf 3 18 = 13 := by decide +kernel
theorem r_3_19 : rf 3 19 = 14 := by decide +kernel
theorem r_27_0 : rf 27 0 = 28 := by decide +kernel
theorem r_294_0 : rf 294 0 = 295 := by decide +kernel
theorem r_294_1 : rf 294 1 = 296 := by decide +kernel
theorem r_294_2 : rf 294 2 = 297 := by decide +kernel
theorem r_294_3 : rf 294 3 = 298 := by decide +kernel
theorem r_299_2 : rf 299 2 = 300 := by decide +kernel
theorem r_299_3 : rf 299 3 = 301 := by decide +kernel
theorem r_299_4 : rf 299 4 = 302 := by decide +kernel
theorem r_299_5 : rf 299 5 = 303 := by decide +kernel
theorem r_299_6 : rf 299 6 = 304 := by decide +kernel
theorem r_299_7 : rf 299 7 = 305 := by decide +kernel
theorem r_299_8 : rf 299 8 = 306 := by decide +kernel
theorem r_299_9 : rf 299 9 = 307 := by decide +kernel
theorem r_299_10 : rf 299 10 = 314 := by decide +kernel
theorem r_315_0 : rf 315 0 = 316 := by decide +kernel
theorem r_323_0 : rf 323 0 = 324 := by decide +kernel
theorem r_323_1 : rf 323 1 = 325 := by decide +kernel
theorem r_326_0 : rf 326 0 = 327 := by decide +kernel
theorem r_326_1 : rf 326 1 = 328 := by decide +kernel
theorem r_326_2 : rf 326 2 = 329 := by decide +kernel
theorem r_326_4 : rf 326 4 = 330 := by decide +kernel
theorem r_326_5 : rf 326 5 = 331 := by decide +kernel
theorem r_326_6 : rf 326 6 = 332 := by decide +kernel
theorem r_326_15 : rf 326 15 = 333 := by decide +kernel
theorem r_326_16 : rf 326 16 = 334 := by decide +kernel
theorem r_326_17 : rf 326 17 = 335 := by decide +kernel
theorem r_326_18 : rf 326 18 = 336 := by decide +kernel
theorem r_326_19 : rf 326 19 = 337 := by decide +kernel
theorem r_326_20 : rf 326 20 = 338 := by decide +kernel
theorem l_2 : ln 2 = 110 := by decide +kernel
theorem l_4 : ln 4 = 4 := by decide +kernel
theorem l_5 : ln 5 = 6 := by decide +kernel
theorem l_6 : ln 6 = 6 := by decide +kernel
theorem l_7 : ln 7 = 6 := by decide +kernel
theorem l_8 : ln 8 = 6 := by decide +kernel
theorem l_9 : ln 9 = 8 := by decide +kernel
theorem l_10 : ln 10 = 8 := by decide +kernel
theorem l_11 : ln 11 = 8 := by decide +kernel
theorem l_12 : ln 12 = 8 := by decide +kernel
theorem l_13 : ln 13 = 8 := by decide +kernel
theorem l_14 : ln 14 = 8 := by decide +kernel
theorem l_28 : ln 28 = 20 := by decide +kernel
theorem l_269 : ln 269 = 2 := by decide +kernel
theorem l_295 : ln 295 = 8 := by decide +kernel
theorem l_296 : ln 296 = 8 := by decide +kernel
theorem l_297 : ln 297 = 256 := by decide +kernel
theorem l_298 : ln 298 = 256 := by decide +kernel
theorem l_300 : ln 300 = 6 := by decide +kernel
theorem l_301 : ln 301 = 6 := by decide +kernel
theorem l_302 : ln 302 = 6 := by decide +kernel
theorem l_303 : ln 303 = 6 := by decide +kernel
theorem l_304 : ln 304 = 6 := by decide +kernel
theorem l_305 : ln 305 = 8 := by decide +kernel
theorem l_306 : ln 306 = 256 := by decide +kernel
theorem l_307 : ln 307 = 6 := by decide +kernel
theorem l_314 : ln 314 = 6 := by decide +kernel
theorem l_316 : ln 316 = 6 := by decide +kernel
theorem l_324 : ln 324 = 256 := by decide +kernel
theorem l_325 : ln 325 = 256 := by decide +kernel
theorem l_327 : ln 327 = 89 := by decide +kernel
theorem l_328 : ln 328 = 89 := by decide +kernel
theorem l_329 : ln 329 = 1780 := by decide +kernel
theorem l_331 : ln 331 = 2 := by decide +kernel
theorem l_332 : ln 332 = 110 := by decide +kernel
theorem l_333 : ln 333 = 2048 := by decide +kernel
theorem l_334 : ln 334 = 2048 := by decide +kernel
theorem l_335 : ln 335 = 7 := by decide +kernel
theorem l_336 : ln 336 = 8 := by decide +kernel
theorem l_337 : ln 337 = 8 := by decide +kernel
theorem l_338 : ln 338 = 256 := by decide +kernel
