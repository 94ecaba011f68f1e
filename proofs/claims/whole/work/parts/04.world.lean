/-! the world: every cell that the law makes, by its number in the order of making; ints and longs by cell and place -/
abbrev Mem : Type := (Nat → Nat → Int32) × (Nat → Nat → Int64)
def gi (M : Mem) (k i : Nat) : Int32 := M.1 k i
def gl (M : Mem) (k i : Nat) : Int64 := M.2 k i
def uI (M : Mem) (k i : Nat) (v : Int32) : Mem := (fun a j => if a = k ∧ j = i then v else M.1 a j, M.2)
def uL (M : Mem) (k i : Nat) (v : Int64) : Mem := (M.1, fun a j => if a = k ∧ j = i then v else M.2 a j)
def cpI (M : Mem) (a0 sp a dp n : Nat) : Mem := (fun b j => if b = a then va_cpy (M.1 a0) (M.1 a) sp dp n j else M.1 b j, M.2)
def kdT : List Nat := [7, 6, 9, 1, 9, 9, 9, 9, 9, 9, 9, 9, 9, 9, 9, 1, 9, 9, 9, 9, 9, 9, 9, 9, 9, 9, 9, 2, 12, 1, 9, 9, 9, 9, 9, 9, 9, 9, 9, 9, 9, 1, 9, 9, 9, 9, 9, 9, 9, 9, 9, 9, 9, 1, 9, 9, 9, 9, 9, 9, 9, 9, 9, 9, 9, 1, 9, 9, 9, 9, 9, 9, 9, 9, 9, 9, 9, 1, 9, 9, 9, 9, 9, 9, 9, 9, 9, 9, 9, 1, 9, 9, 9, 9, 9, 9, 9, 9, 9, 9, 9, 1, 9, 9, 9, 9, 9, 9, 9, 9, 9, 9, 9, 1, 9, 9, 9, 9, 9, 9, 9, 9, 9, 9, 9, 1, 9, 9, 9, 9, 9, 9, 9, 9, 9, 9, 9, 1, 9, 9, 9, 9, 9, 9, 9, 9, 9, 9, 9, 1, 9, 9, 9, 9, 9, 9, 9, 9, 9, 9, 9, 1, 9, 9, 9, 9, 9, 9, 9, 9, 9, 9, 9, 1, 9, 9, 9, 9, 9, 9, 9, 9, 9, 9, 9, 1, 9, 9, 9, 9, 9, 9, 9, 9, 9, 9, 9, 1, 9, 9, 9, 9, 9, 9, 9, 9, 9, 9, 9, 1, 9, 9, 9, 9, 9, 9, 9, 9, 9, 9, 9, 1, 9, 9, 9, 9, 9, 9, 9, 9, 9, 9, 9, 1, 9, 9, 9, 9, 9, 9, 9, 9, 9, 9, 9, 1, 9, 9, 9, 9, 9, 9, 9, 9, 9, 9, 9, 1, 9, 9, 9, 9, 9, 9, 9, 9, 9, 9, 9, 12, 1, 9, 9, 9, 9, 9, 9, 9, 9, 9, 9, 9, 1, 9, 9, 9, 9, 9, 9, 9, 9, 9, 9, 9, 3, 9, 9, 9, 9, 5, 9, 9, 9, 9, 9, 9, 9, 13, 9, 9, 9, 9, 9, 9, 9, 0, 13, 9, 9, 9, 9, 9, 9, 4, 10, 9, 8, 9, 9, 9, 9, 11, 9, 9, 9, 9, 9, 9, 9]
def lnT : List Nat := [0, 0, 110, 0, 4, 6, 6, 6, 6, 8, 8, 8, 8, 8, 8, 0, 4, 6, 6, 6, 6, 8, 8, 8, 8, 8, 8, 0, 20, 0, 4, 6, 6, 6, 6, 8, 8, 8, 8, 8, 8, 0, 4, 6, 6, 6, 6, 8, 8, 8, 8, 8, 8, 0, 4, 6, 6, 6, 6, 8, 8, 8, 8, 8, 8, 0, 4, 6, 6, 6, 6, 8, 8, 8, 8, 8, 8, 0, 4, 6, 6, 6, 6, 8, 8, 8, 8, 8, 8, 0, 4, 6, 6, 6, 6, 8, 8, 8, 8, 8, 8, 0, 4, 6, 6, 6, 6, 8, 8, 8, 8, 8, 8, 0, 4, 6, 6, 6, 6, 8, 8, 8, 8, 8, 8, 0, 4, 6, 6, 6, 6, 8, 8, 8, 8, 8, 8, 0, 4, 6, 6, 6, 6, 8, 8, 8, 8, 8, 8, 0, 4, 6, 6, 6, 6, 8, 8, 8, 8, 8, 8, 0, 4, 6, 6, 6, 6, 8, 8, 8, 8, 8, 8, 0, 4, 6, 6, 6, 6, 8, 8, 8, 8, 8, 8, 0, 4, 6, 6, 6, 6, 8, 8, 8, 8, 8, 8, 0, 4, 6, 6, 6, 6, 8, 8, 8, 8, 8, 8, 0, 4, 6, 6, 6, 6, 8, 8, 8, 8, 8, 8, 0, 4, 6, 6, 6, 6, 8, 8, 8, 8, 8, 8, 0, 4, 6, 6, 6, 6, 8, 8, 8, 8, 8, 8, 0, 4, 6, 6, 6, 6, 8, 8, 8, 8, 8, 8, 0, 4, 6, 6, 6, 6, 8, 8, 8, 8, 8, 8, 2, 0, 4, 6, 6, 6, 6, 8, 8, 8, 8, 8, 8, 0, 4, 6, 6, 6, 6, 8, 8, 8, 8, 8, 8, 0, 8, 8, 256, 256, 0, 6, 6, 6, 6, 6, 8, 256, 6, 256, 256, 256, 256, 256, 256, 6, 0, 6, 256, 256, 256, 256, 256, 256, 0, 256, 256, 0, 89, 89, 1780, 178, 2, 110, 2048, 2048, 7, 8, 8, 256]
def rfT : List (List Nat) := [[1, 3, 15, 27, 269, 294, 299, 315, 323], [2, 0, 0, 0], [], [0, 0, 0, 0, 0, 0, 0, 0, 0, 4, 5, 6, 7, 8, 9, 10, 11, 12, 13, 14], [], [], [], [], [], [], [], [], [], [], [], [0, 0, 0, 0, 0, 0, 0, 0, 0, 16, 17, 18, 19, 20, 21, 22, 23, 24, 25, 26], [], [], [], [], [], [], [], [], [], [], [], [28, 0, 0], [29, 41, 53, 65, 77, 89, 101, 113, 125, 137, 149, 161, 173, 185, 197, 209, 221, 233, 245, 257], [0, 0, 0, 0, 0, 0, 0, 0, 0, 30, 31, 32, 33, 34, 35, 36, 37, 38, 39, 40], [], [], [], [], [], [], [], [], [], [], [], [0, 0, 0, 0, 0, 0, 0, 0, 0, 42, 43, 44, 45, 46, 47, 48, 49, 50, 51, 52], [], [], [], [], [], [], [], [], [], [], [], [0, 0, 0, 0, 0, 0, 0, 0, 0, 54, 55, 56, 57, 58, 59, 60, 61, 62, 63, 64], [], [], [], [], [], [], [], [], [], [], [], [0, 0, 0, 0, 0, 0, 0, 0, 0, 66, 67, 68, 69, 70, 71, 72, 73, 74, 75, 76], [], [], [], [], [], [], [], [], [], [], [], [0, 0, 0, 0, 0, 0, 0, 0, 0, 78, 79, 80, 81, 82, 83, 84, 85, 86, 87, 88], [], [], [], [], [], [], [], [], [], [], [], [0, 0, 0, 0, 0, 0, 0, 0, 0, 90, 91, 92, 93, 94, 95, 96, 97, 98, 99, 100], [], [], [], [], [], [], [], [], [], [], [], [0, 0, 0, 0, 0, 0, 0, 0, 0, 102, 103, 104, 105, 106, 107, 108, 109, 110, 111, 112], [], [], [], [], [], [], [], [], [], [], [], [0, 0, 0, 0, 0, 0, 0, 0, 0, 114, 115, 116, 117, 118, 119, 120, 121, 122, 123, 124], [], [], [], [], [], [], [], [], [], [], [], [0, 0, 0, 0, 0, 0, 0, 0, 0, 126, 127, 128, 129, 130, 131, 132, 133, 134, 135, 136], [], [], [], [], [], [], [], [], [], [], [], [0, 0, 0, 0, 0, 0, 0, 0, 0, 138, 139, 140, 141, 142, 143, 144, 145, 146, 147, 148], [], [], [], [], [], [], [], [], [], [], [], [0, 0, 0, 0, 0, 0, 0, 0, 0, 150, 151, 152, 153, 154, 155, 156, 157, 158, 159, 160], [], [], [], [], [], [], [], [], [], [], [], [0, 0, 0, 0, 0, 0, 0, 0, 0, 162, 163, 164, 165, 166, 167, 168, 169, 170, 171, 172], [], [], [], [], [], [], [], [], [], [], [], [0, 0, 0, 0, 0, 0, 0, 0, 0, 174, 175, 176, 177, 178, 179, 180, 181, 182, 183, 184], [], [], [], [], [], [], [], [], [], [], [], [0, 0, 0, 0, 0, 0, 0, 0, 0, 186, 187, 188, 189, 190, 191, 192, 193, 194, 195, 196], [], [], [], [], [], [], [], [], [], [], [], [0, 0, 0, 0, 0, 0, 0, 0, 0, 198, 199, 200, 201, 202, 203, 204, 205, 206, 207, 208], [], [], [], [], [], [], [], [], [], [], [], [0, 0, 0, 0, 0, 0, 0, 0, 0, 210, 211, 212, 213, 214, 215, 216, 217, 218, 219, 220], [], [], [], [], [], [], [], [], [], [], [], [0, 0, 0, 0, 0, 0, 0, 0, 0, 222, 223, 224, 225, 226, 227, 228, 229, 230, 231, 232], [], [], [], [], [], [], [], [], [], [], [], [0, 0, 0, 0, 0, 0, 0, 0, 0, 234, 235, 236, 237, 238, 239, 240, 241, 242, 243, 244], [], [], [], [], [], [], [], [], [], [], [], [0, 0, 0, 0, 0, 0, 0, 0, 0, 246, 247, 248, 249, 250, 251, 252, 253, 254, 255, 256], [], [], [], [], [], [], [], [], [], [], [], [0, 0, 0, 0, 0, 0, 0, 0, 0, 258, 259, 260, 261, 262, 263, 264, 265, 266, 267, 268], [], [], [], [], [], [], [], [], [], [], [], [270, 282], [0, 0, 0, 0, 0, 0, 0, 0, 0, 271, 272, 273, 274, 275, 276, 277, 278, 279, 280, 281], [], [], [], [], [], [], [], [], [], [], [], [0, 0, 0, 0, 0, 0, 0, 0, 0, 283, 284, 285, 286, 287, 288, 289, 290, 291, 292, 293], [], [], [], [], [], [], [], [], [], [], [], [295, 296, 297, 298], [], [], [], [], [0, 0, 300, 301, 302, 303, 304, 305, 306, 307, 314], [], [], [], [], [], [], [], [308, 309, 310, 311, 312, 313], [], [], [], [], [], [], [], [316], [317, 318, 319, 320, 321, 322], [], [], [], [], [], [], [324, 325], [], [], [327, 328, 329, 0, 330, 331, 332, 0, 0, 0, 0, 0, 0, 0, 0, 333, 334, 335, 336, 337, 338], [], [], [], [], [], [], [], [], [], [], [], []]
def kd (k : Nat) : Nat := kdT.getD k 99
def ln (k : Nat) : Nat := lnT.getD k 0
def rf (k f : Nat) : Nat := (rfT.getD k []).getD f 0
def nflT : List Nat := [1, 20, 3, 4, 2, 11, 4, 9, 21]
def fintT : List (List Bool) := [[false], [true, true, true, true, true, true, true, true, true, false, false, false, false, false, false, false, false, false, false, false], [false, true, true], [false, false, false, false], [false, false], [true, true, false, false, false, false, false, false, false, false, false], [false, true, true, true], [false, false, false, false, false, false, false, false, false], [false, false, false, true, false, false, false, true, true, true, true, true, true, true, true, false, false, false, false, false, false]]
def nfl (c : Nat) : Nat := nflT.getD c 0
def fint (c f : Nat) : Bool := (fintT.getD c []).getD f false
def NN : Nat := 339
abbrev En : Type := va_G × Nat × (Nat → ClassId) × (Nat → Nat)
def ad (E : En) (k : Nat) : Nat := E.2.1 + k
def AE (E : En) : Nat → Prop := fun q => E.2.1 ≤ q
def cel (E : En) (P : Nat → Nat → Option Nat) (M : Mem) (k : Nat) : va_E :=
  if kd k = 9 then .inl (E.2.2.1 0, ln k, .inl (M.1 k))
  else if kd k = 10 then .inl (E.2.2.1 1, ln k, .inr (.inl (M.2 k)))
  else if kd k = 11 then .inl (E.2.2.1 2, ln k, .inl (M.1 k))
  else if kd k = 12 then .inl (E.2.2.1 3, ln k, .inr (.inr (.inr (.inr (fun j => (P k j).map (ad E))))))
  else if kd k = 13 then .inl (E.2.2.1 4, ln k, .inr (.inr (.inr (.inr (fun j => (P k j).map (ad E))))))
  else .inr (kd k, (List.range (nfl (kd k))).map (fun f => if fint (kd k) f = true then .int (M.1 k f) else va_rf ((P k f).map (ad E))))
def wl (E : En) (n : Nat) (P : Nat → Nat → Option Nat) (M : Mem) : va_W := (List.range n).map (fun k => (ad E k, cel E P M k))
def PF (k f : Nat) : Option Nat := some (rf k f)
def tysE (E : En) : List (ClassId × FieldType) := [(E.2.2.1 0, .int), (E.2.2.1 1, .long), (E.2.2.1 2, .boolean), (E.2.2.1 3, .object "FilmCans$Day"), (E.2.2.1 4, .array .int)]
theorem wl_get {E : En} {n : Nat} {P : Nat → Nat → Option Nat} {M : Mem} {k : Nat} (h : k < n) : (wl E n P M)[k]? = some (ad E k, cel E P M k) := by
  simp [wl, h]
theorem wl_len {E : En} {n : Nat} {P : Nat → Nat → Option Nat} {M : Mem} : (wl E n P M).length = n := by simp [wl]
theorem wl_D {E : En} {n : Nat} {P : Nat → Nat → Option Nat} {M : Mem} : va_D (AE E) (wl E n P M) := by
  refine ⟨fun i j p q hi hj he => ?_, fun k q hk => ?_⟩
  · have h1 : i < n := by have := (List.getElem?_eq_some_iff.mp hi).1; rwa [wl_len] at this
    have h2 : j < n := by have := (List.getElem?_eq_some_iff.mp hj).1; rwa [wl_len] at this
    rw [wl_get h1] at hi
    rw [wl_get h2] at hj
    cases hi; cases hj
    simp only [ad] at he
    omega
  · have h1 : k < n := by have := (List.getElem?_eq_some_iff.mp hk).1; rwa [wl_len] at this
    rw [wl_get h1] at hk
    cases hk
    show E.2.1 ≤ E.2.1 + k
    omega
theorem wl_set {E : En} {n : Nat} {P P' : Nat → Nat → Option Nat} {M M' : Mem} {k : Nat} {e : va_E} (ho : ∀ j, j ≠ k → cel E P' M' j = cel E P M j) (he : cel E P' M' k = e) : (wl E n P M).set k (ad E k, e) = wl E n P' M' := by
  apply List.ext_getElem?
  intro j
  rw [List.getElem?_set]
  by_cases hj : k = j
  · subst hj
    by_cases hk : k < n
    · rw [if_pos rfl, wl_len, if_pos hk, wl_get hk, he]
    · simp [wl_len, hk, wl]
  · rw [if_neg hj]
    by_cases hk : j < n
    · rw [wl_get hk, wl_get hk, ho j (fun q => hj q.symm)]
    · simp [wl, hk]
section
variable {E : En} {P : Nat → Nat → Option Nat} {M : Mem} {k : Nat}
theorem cel_I (h : kd k = 9) : cel E P M k = .inl (E.2.2.1 0, ln k, .inl (M.1 k)) := by simp [cel, h]
theorem cel_J (h : kd k = 10) : cel E P M k = .inl (E.2.2.1 1, ln k, .inr (.inl (M.2 k))) := by simp [cel, h]
theorem cel_Z (h : kd k = 11) : cel E P M k = .inl (E.2.2.1 2, ln k, .inl (M.1 k)) := by simp [cel, h]
theorem cel_Y (h : kd k = 12) : cel E P M k = .inl (E.2.2.1 3, ln k, .inr (.inr (.inr (.inr (fun j => (P k j).map (ad E)))))) := by simp [cel, h]
theorem cel_A (h : kd k = 13) : cel E P M k = .inl (E.2.2.1 4, ln k, .inr (.inr (.inr (.inr (fun j => (P k j).map (ad E)))))) := by simp [cel, h]
theorem cel_O {c : Nat} (h : kd k = c) (hc : c < 9) : cel E P M k = .inr (c, (List.range (nfl c)).map (fun f => if fint c f = true then .int (M.1 k f) else va_rf ((P k f).map (ad E)))) := by
  subst h
  simp only [cel]
  rw [if_neg (by omega), if_neg (by omega), if_neg (by omega), if_neg (by omega), if_neg (by omega)]
theorem cel_ne {M' : Mem} {j : Nat} (h1 : M'.1 j = M.1 j) (h2 : M'.2 j = M.2 j) : cel E P M' j = cel E P M j := by
  simp only [cel, h1, h2]
theorem uI_ne {i j : Nat} {v : Int32} (h : j ≠ k) : (uI M k i v).1 j = M.1 j := by
  funext q
  simp [uI, h]
theorem uI_eq {i : Nat} {v : Int32} : (uI M k i v).1 k = upd (M.1 k) i v := by
  funext q
  simp [uI, upd]
theorem uL_ne {i j : Nat} {v : Int64} (h : j ≠ k) : (uL M k i v).2 j = M.2 j := by
  funext q
  simp [uL, h]
theorem uL_eq {i : Nat} {v : Int64} : (uL M k i v).2 k = vp_updL (M.2 k) i v := by
  funext q
  simp [uL, vp_updL]
theorem wl_uI {n i : Nat} {v : Int32} {e : va_E} (he : cel E P (uI M k i v) k = e) : (wl E n P M).set k (ad E k, e) = wl E n P (uI M k i v) := wl_set (fun _ hj => cel_ne (uI_ne hj) rfl) he
theorem wl_uL {n i : Nat} {v : Int64} {e : va_E} (he : cel E P (uL M k i v) k = e) : (wl E n P M).set k (ad E k, e) = wl E n P (uL M k i v) := wl_set (fun _ hj => cel_ne rfl (uL_ne hj)) he
theorem wl_cp {n a0 sp dp q : Nat} {e : va_E} (he : cel E P (cpI M a0 sp k dp q) k = e) : (wl E n P M).set k (ad E k, e) = wl E n P (cpI M a0 sp k dp q) := wl_set (fun _ hj => cel_ne (by funext z; simp [cpI, hj]) rfl) he
end
theorem cel_putI {E : En} {P : Nat → Nat → Option Nat} {M : Mem} {k c f : Nat} {v : Int32} (h : kd k = c) (hc : c < 9) (hf : f < nfl c) (hi : fint c f = true) : cel E P (uI M k f v) k = .inr (c, ((List.range (nfl c)).map (fun f => if fint c f = true then Value.int (M.1 k f) else va_rf ((P k f).map (ad E)))).set f (.int v)) := by
  rw [cel_O h hc]
  congr 2
  apply List.ext_getElem?
  intro j
  rw [List.getElem?_set]
  by_cases hj : f = j
  · subst hj
    simp [hf, hi, uI]
  · rw [if_neg hj]
    by_cases hk : j < nfl c
    · simp [hk, uI, Ne.symm hj]
    · simp [hk]
/-! the four static rows -/
def cLL : Nat → Int32 := fun j => ([0, 1, 10, 0] : List Int32).getD j 0
def cLM : Nat → Int32 := fun j => ([9, 40, 99, 20] : List Int32).getD j 0
def cIS : Nat → Int32 := fun j => ([1, 3, 7, 11, 17, 49] : List Int32).getD j 0
def cWO : Nat → Int64 := fun j => ([0x5555555555555555, 0x3333333333333333, 0x0f0f0f0f0f0f0f0f, 0x00ff00ff00ff00ff, 0x0000ffff0000ffff, 0x00000000ffffffff] : List Int64).getD j 0
/-! what holds of the machine around the world -/
def nmL : List (String × Nat × MethodName × String) := [("FilmCans", 9, ⟨"FilmCans$Tape", "<init>", "()V"⟩, "FilmCans"), ("FilmCans", 18, ⟨"FilmCans$Day", "<init>", "()V"⟩, "FilmCans"), ("FilmCans$History", 17, ⟨"FilmCans$Day", "<init>", "()V"⟩, "FilmCans"), ("FilmCans", 39, ⟨"FilmCans$Laboratory", "<init>", "()V"⟩, "FilmCans"), ("FilmCans", 46, ⟨"FilmCans$Rooms", "<init>", "()V"⟩, "FilmCans"), ("FilmCans", 53, ⟨"FilmCans$Best", "<init>", "()V"⟩, "FilmCans"), ("FilmCans", 60, ⟨"FilmCans$Reach", "<init>", "()V"⟩, "FilmCans"), ("FilmCans$Reach", 62, ⟨"FilmCans", "power", "(II)J"⟩, "FilmCans")]
def nfL : List (String × Nat × String × String × String × String) := [("FilmCans$Tape", 41, "FilmCans", "LAW_LEAST", "[I", "FilmCans"), ("FilmCans$Tape", 44, "FilmCans", "LAW_MOST", "[I", "FilmCans")]
def VS (E : En) (U : State) (H : Heap) : Prop :=
  va_K E.1 vwCl (tysE E) U ∧ (∀ q ∈ nmL, va_Nw (.methodLinkNest q.1 q.2.1 q.2.2.1 q.2.2.2) U) ∧ (∀ q ∈ nfL, va_Nw (.fieldLinkNest q.1 q.2.1 q.2.2.1 q.2.2.2.1 q.2.2.2.2.1 q.2.2.2.2.2) U) ∧
  (va_Z "FilmCans" "LAW_LEAST" "[I" (.ref (E.2.2.2 0)) (AE E) U H ∧ va_T .int (E.2.2.2 0) 4 (fun j => .int (cLL j)) (AE E) U H) ∧
  (va_Z "FilmCans" "LAW_MOST" "[I" (.ref (E.2.2.2 1)) (AE E) U H ∧ va_T .int (E.2.2.2 1) 4 (fun j => .int (cLM j)) (AE E) U H) ∧
  (va_Z "FilmCans$Kinds" "IS" "[I" (.ref (E.2.2.2 2)) (AE E) U H ∧ va_T .int (E.2.2.2 2) 6 (fun j => .int (cIS j)) (AE E) U H) ∧
  (va_Z "FilmCans$Reach" "WITHOUT" "[J" (.ref (E.2.2.2 3)) (AE E) U H ∧ va_T .long (E.2.2.2 3) 6 (fun j => .long (cWO j)) (AE E) U H)
theorem VS.warm {E : En} {s U : State} {H : Heap} (hW : s.WarmedH U.vm) (h : VS E s H) : VS E U H := by
  obtain ⟨h1, h2, h3, ⟨a1, a2⟩, ⟨b1, b2⟩, ⟨c1, c2⟩, ⟨d1, d2⟩⟩ := h
  exact ⟨h1.moved hW.alike, fun q hq => va_Nw.warmM hW (h2 q hq), fun q hq => va_Nw.warmF hW (h3 q hq), ⟨va_Z.moved hW.alike a1, va_T.moved hW.alike a2⟩, ⟨va_Z.moved hW.alike b1, va_T.moved hW.alike b2⟩, ⟨va_Z.moved hW.alike c1, va_T.moved hW.alike c2⟩, ⟨va_Z.moved hW.alike d1, va_T.moved hW.alike d2⟩⟩
theorem VS.kept {E : En} {U : State} {H H1 : Heap} (hq : ∀ a : Nat, a < H.size → ¬ AE E a → H1[a]? = H[a]?) (h : VS E U H) : VS E U H1 := by
  obtain ⟨h1, h2, h3, ⟨a1, a2⟩, ⟨b1, b2⟩, ⟨c1, c2⟩, ⟨d1, d2⟩⟩ := h
  exact ⟨h1, h2, h3, ⟨a1.kept hq, a2.kept hq⟩, ⟨b1.kept hq, b2.kept hq⟩, ⟨c1.kept hq, c2.kept hq⟩, ⟨d1.kept hq, d2.kept hq⟩⟩
theorem VS.same {E : En} {u U : State} {H : Heap} (hv : u.vm = U.vm) (h : VS E u H) : VS E U H := by
  have ha : u.vm.Alike U.vm := by rw [hv]; exact Vm.Alike.refl _
  obtain ⟨h1, h2, h3, ⟨a1, a2⟩, ⟨b1, b2⟩, ⟨c1, c2⟩, ⟨d1, d2⟩⟩ := h
  exact ⟨h1.moved ha, fun q hq => va_Nw.same rfl hv (h2 q hq), fun q hq => va_Nw.same rfl hv (h3 q hq), ⟨va_Z.moved ha a1, va_T.moved ha a2⟩, ⟨va_Z.moved ha b1, va_T.moved ha b2⟩, ⟨va_Z.moved ha c1, va_T.moved ha c2⟩, ⟨va_Z.moved ha d1, va_T.moved ha d2⟩⟩
def WS (E : En) (M : Mem) (U : State) : Prop := va_P E.1 vwCl (wl E NN PF M) U.heap ∧ VS E U U.heap
def wAll : List Cond := lw_tbl.filter goodWord
theorem wAll_of {w : Cond} (h : w ∈ lw_tbl) (hg : goodWord w = true) : w ∈ wAll := List.mem_filter.mpr ⟨h, hg⟩
theorem wAll_good {ws : List Cond} (h : ∀ w ∈ ws, w ∈ wAll) : GoodIn wAll ws := fun w hw => ⟨h w hw, good_of_word (List.mem_filter.mp (h w hw)).2⟩
theorem wAll_code {y : MethodName} {bytes : ByteArray} {n : Nat} {rt : Option FieldType} (h : Cond.code y bytes n rt ∈ wAll) : GoodIn wAll (Cond.code y bytes n rt :: wAll) := wAll_good fun w hw => (List.mem_cons.mp hw).elim (fun e => e ▸ h) (fun h => h)
/-! the walk's context and judgement -/
abbrev ZT : Type := Program × Launch × Env × Room × State × MethodId × Array Value × List Frame × Method × Code × Nat × Nat
abbrev zp (Z : ZT) : Program := Z.1
abbrev zl (Z : ZT) : Launch := Z.2.1
abbrev ze (Z : ZT) : Env := Z.2.2.1
abbrev zR (Z : ZT) : Room := Z.2.2.2.1
abbrev zs (Z : ZT) : State := Z.2.2.2.2.1
abbrev zm (Z : ZT) : MethodId := Z.2.2.2.2.2.1
abbrev za (Z : ZT) : Array Value := Z.2.2.2.2.2.2.1
abbrev zb (Z : ZT) : List Frame := Z.2.2.2.2.2.2.2.1
abbrev zt (Z : ZT) : Method := Z.2.2.2.2.2.2.2.2.1
abbrev zc (Z : ZT) : Code := Z.2.2.2.2.2.2.2.2.2.1
abbrev zk (Z : ZT) : Nat := Z.2.2.2.2.2.2.2.2.2.2.1
abbrev zn (Z : ZT) : Nat := Z.2.2.2.2.2.2.2.2.2.2.2
def Cx (Z : ZT) (E : En) (nL : Nat) (cc : ByteArray) (own : String) (rt : Option FieldType) (fr lo : Nat) : Prop :=
  (zp Z).tables.exec = Jvm.exec ∧ (zc Z).code = cc ∧ (zc Z).maxLocals = nL ∧ (zs Z).vm.findClass own = some (zm Z).cls ∧ (∀ w ∈ wAll, w.before (za Z) (zs Z) = true) ∧ VS E (zs Z) (zs Z).heap ∧ ((zt Z).locks = false ∧ zk Z ≤ (zR Z).cells ∧ zn Z ≤ (zR Z).slots) ∧ (zt Z).sig.returnType = rt ∧ fr ≤ (zR Z).frames ∧ lo ≤ (zR Z).locals
def Kj {ρ : Type} (Z : ZT) (E : En) (nL : Nat) (Qf : ρ → Mem → State → Prop) (o : Option (ρ × Mem)) (M : Mem) (pc : Nat) (lv : List (Nat × Value)) (st : List Value) : Prop :=
  ∀ (r : ρ) (M' : Mem), o = some (r, M') → ∀ (H : Heap) (locs : List Loc) (ls : Array Slot), va_P E.1 vwCl (wl E NN PF M) H → va_S (AE E) (zs Z).heap H locs → lv_has ls nL lv → W (zp Z) (zl Z) (ze Z) (zR Z) (zs Z) (zm Z) (za Z) (zb Z) (zt Z) (zc Z) H locs (zk Z) (zn Z) (Qf r M') (F0 (zm Z) pc ls st)
def CI (E : En) (r : Int32) (M' : Mem) : Array Value → State → Outcome → State → Prop := va_Qi (fun (r' : Int32) (u : Mem) => r' = r ∧ u = M') (fun u t => WS E u t) (AE E)
def CL (E : En) (r : Int64) (M' : Mem) : Array Value → State → Outcome → State → Prop := va_Ql (fun (r' : Int64) (u : Mem) => r' = r ∧ u = M') (fun u t => WS E u t) (AE E)
def CV (E : En) (M' : Mem) : Array Value → State → Outcome → State → Prop := va_Qv (fun (u : Mem) => u = M') (fun u t => WS E u t) (AE E)
def QI (Z : ZT) (E : En) : Int32 → Mem → State → Prop := fun r M' => MQ (zb Z) (CI E r M') (za Z) (zs Z) (zk Z) (zn Z) (AE E)
def QL (Z : ZT) (E : En) : Int64 → Mem → State → Prop := fun r M' => MQ (zb Z) (CL E r M') (za Z) (zs Z) (zk Z) (zn Z) (AE E)
def QV (Z : ZT) (E : En) : Unit → Mem → State → Prop := fun _ M' => MQ (zb Z) (CV E M') (za Z) (zs Z) (zk Z) (zn Z) (AE E)
abbrev rmO (fr lo : Nat) : Room := { frames := fr, cells := 0, slots := 0, locals := lo }
def MI (l : Launch) (E : En) (y : MethodName) (bytes : ByteArray) (n : Nat) (rt : Option FieldType) (fr lo : Nat) (vs : List Value) (M : Mem) (o : Option (Int32 × Mem)) : Prop := ∀ (r : Int32) (M' : Mem), o = some (r, M') → Met l y (Cond.code y bytes n rt :: wAll) (rmO fr lo) (va_Pc vs (WS E M)) (CI E r M') 0 0 (AE E)
def ML (l : Launch) (E : En) (y : MethodName) (bytes : ByteArray) (n : Nat) (rt : Option FieldType) (fr lo : Nat) (vs : List Value) (M : Mem) (o : Option (Int64 × Mem)) : Prop := ∀ (r : Int64) (M' : Mem), o = some (r, M') → Met l y (Cond.code y bytes n rt :: wAll) (rmO fr lo) (va_Pc vs (WS E M)) (CL E r M') 0 0 (AE E)
def MV (l : Launch) (E : En) (y : MethodName) (bytes : ByteArray) (n : Nat) (rt : Option FieldType) (fr lo : Nat) (vs : List Value) (M : Mem) (o : Option (Unit × Mem)) : Prop := ∀ (r : Unit) (M' : Mem), o = some (r, M') → Met l y (Cond.code y bytes n rt :: wAll) (rmO fr lo) (va_Pc vs (WS E M)) (CV E M') 0 0 (AE E)
def inb (i : Int32) (n : Nat) : Bool := decide (0 ≤ i.toInt) && decide (i.toInt < (n : Int))
def ix (i : Int32) : Nat := i.toNatClampNeg
def gd {α : Type} (b : Bool) (o : Option α) : Option α := if b = true then o else none
def bd {ρ σ : Type} (o : Option (ρ × Mem)) (f : ρ → Mem → Option (σ × Mem)) : Option (σ × Mem) := match o with
  | none => none
  | some (r, M) => f r M
theorem inb_in {i : Int32} {n : Nat} (h : inb i n = true) : vp_in i n := by
  simp only [inb, Bool.and_eq_true, decide_eq_true_eq] at h
  exact vp_in_iff.mpr h
theorem AE_new {E : En} {Z : ZT} {H : Heap} {M : Mem} (h : va_P E.1 vwCl (wl E NN PF M) H) : E.2.1 + NN ≤ H.size := by
  have h1 := h (NN - 1) _ (wl_get (by decide))
  have h2 := va_at.lt h1
  simp only [ad] at h2
  have : NN = 339 := rfl
  omega
