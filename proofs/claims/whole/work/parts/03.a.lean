/-! THE X LAYER: one world for the whole run: the cells from b on, N of them, f j the j-th; rows of the machine over it -/
def gT : List Cond := lw_tbl.filter goodWord
theorem gT_at {w : Cond} (i : Nat) (h : lw_tbl[i]? = some w) (hg : goodWord w = true) : w ∈ gT := List.mem_filter.mpr ⟨List.mem_of_getElem? h, hg⟩
theorem gT_good {w : Cond} (h : w ∈ gT) : (w.onTables && w.keeps) = true ∨ ∃ ty, w = .arrayClass ty := good_of_word (List.mem_filter.mp h).2
theorem gT_sub (ws : List Cond) (ps : List Nat) (hp : ws = ps.filterMap (fun i => lw_tbl[i]?)) (h : ws.all goodWord = true) : ∀ w ∈ ws, w ∈ gT := by
  intro w hw
  have h1 := List.all_eq_true.mp h w hw
  rw [hp] at hw
  obtain ⟨i, -, hi⟩ := List.mem_filterMap.mp hw
  exact gT_at i hi h1
def xws (y : MethodName) (cc : ByteArray) (n : Nat) (r : Option FieldType) : List Cond := .code y cc n r :: gT
theorem xws_in {y : MethodName} {cc : ByteArray} {n : Nat} {r : Option FieldType} (h : Cond.code y cc n r ∈ gT) : GoodIn gT (xws y cc n r) := fun w hw => by
  rcases List.mem_cons.mp hw with rfl | hw
  · exact ⟨h, gT_good h⟩
  · exact ⟨hw, gT_good hw⟩
theorem xws_V {own C : String} {idx : Nat} {y : MethodName} {cc : ByteArray} {n : Nat} {r : Option FieldType} (h1 : Cond.methodLink own idx y ∈ gT) (h2 : Cond.instanceMethod y ∈ gT) (h3 : Cond.selects C y y ∈ gT) (h4 : Cond.initialized C ∈ gT) (h5 : Cond.code y cc n r ∈ gT) : GoodIn gT (wsV own idx C y (xws y cc n r)) := fun w hw => by
  rcases List.mem_append.mp hw with hw | hw
  · have hm : w ∈ gT := by
      simp only [List.mem_cons, List.not_mem_nil, or_false] at hw
      rcases hw with rfl | rfl | rfl | rfl
      · exact h1
      · exact h2
      · exact h3
      · exact h4
    exact ⟨hm, gT_good hm⟩
  · exact xws_in h5 w hw
theorem xws_S {own : String} {idx : Nat} {y : MethodName} {cc : ByteArray} {n : Nat} {r : Option FieldType} (h1 : Cond.methodLink own idx y ∈ gT) (h2 : Cond.static y ∈ gT) (h4 : Cond.initialized y.cls ∈ gT) (h5 : Cond.code y cc n r ∈ gT) : GoodIn gT (va_wsS own idx y (xws y cc n r)) := fun w hw => by
  rcases List.mem_append.mp hw with hw | hw
  · have hm : w ∈ gT := by
      simp only [List.mem_cons, List.not_mem_nil, or_false] at hw
      rcases hw with rfl | rfl | rfl
      · exact h1
      · exact h2
      · exact h4
    exact ⟨hm, gT_good hm⟩
  · exact xws_in h5 w hw
/-- the arrays' classes -/
abbrev xtys (cy : Nat → ClassId) : List (ClassId × FieldType) := [(cy 0, .int), (cy 1, .long), (cy 2, .byte), (cy 3, .boolean), (cy 4, .object "SnoringWells$Land"), (cy 5, .object "SnoringWells$Page"), (cy 6, .object "SnoringWells$Tray")]

abbrev nJS : Nat := 33
def lenJS : List Nat := [13, 4, 5, 5, 5, 4, 5, 6, 5, 4, 5, 3, 2, 2, 2, 2, 1, 4, 5, 4, 3, 2, 12, 13, 12, 19, 17, 12, 22, 9, 13, 13, 17]
def bytJS : List (List Int32) := [[111, 117, 116, 32, 111, 102, 32, 98, 111, 117, 110, 100, 115], [119, 101, 108, 108], [101, 118, 101, 114, 121], [97, 119, 97, 107, 101], [115, 104, 105, 102, 116], [100, 101, 101, 112], [119, 97, 116, 101, 114], [98, 101, 115, 105, 100, 101], [104, 111, 117, 115, 101], [102, 114, 111, 109], [119, 97, 107, 101, 115], [110, 111, 116], [100, 97], [100, 98], [119, 97], [119, 98], [110], [104, 111, 117, 114], [112, 104, 97, 115, 101], [109, 97, 110, 121], [97, 110, 100], [111, 114], [110, 111, 32, 115, 117, 99, 104, 32, 119, 101, 108, 108], [110, 111, 32, 115, 117, 99, 104, 32, 104, 111, 117, 115, 101], [110, 111, 32, 115, 117, 99, 104, 32, 116, 114, 97, 121], [116, 104, 101, 32, 116, 114, 97, 121, 32, 105, 115, 32, 109, 105, 115, 115, 105, 110, 103], [111, 116, 104, 101, 114, 115, 32, 116, 104, 97, 110, 32, 119, 101, 108, 108, 115], [98, 111, 116, 104, 32, 97, 114, 101, 32, 111, 110, 101], [110, 111, 116, 32, 98, 101, 115, 105, 100, 101, 32, 111, 110, 101, 32, 97, 110, 111, 116, 104, 101, 114], [110, 111, 32, 115, 110, 111, 114, 101, 115], [110, 111, 32, 115, 117, 99, 104, 32, 112, 108, 97, 99, 101], [110, 111, 32, 115, 117, 99, 104, 32, 105, 109, 97, 103, 101], [110, 111, 32, 105, 109, 97, 103, 101, 32, 119, 97, 115, 32, 109, 97, 100, 101]]
def strT : List (String × Nat × String × Nat) := [("SnoringWells", 434, "out of bounds", 0), ("SnoringWells$Reader", 71, "well", 1), ("SnoringWells$Reader", 107, "every", 2), ("SnoringWells$Reader", 116, "awake", 3), ("SnoringWells$Reader", 118, "shift", 4), ("SnoringWells$Reader", 124, "deep", 5), ("SnoringWells$Reader", 126, "water", 6), ("SnoringWells$Reader", 80, "beside", 7), ("SnoringWells$Reader", 85, "house", 8), ("SnoringWells$Reader", 142, "from", 9), ("SnoringWells$Reader", 90, "wakes", 10), ("SnoringWells$Reader", 176, "not", 11), ("SnoringWells$Reader", 200, "da", 12), ("SnoringWells$Reader", 202, "db", 13), ("SnoringWells$Reader", 204, "wa", 14), ("SnoringWells$Reader", 206, "wb", 15), ("SnoringWells$Reader", 208, "n", 16), ("SnoringWells$Reader", 95, "hour", 17), ("SnoringWells$Reader", 210, "phase", 18), ("SnoringWells$Reader", 212, "many", 19), ("SnoringWells$Reader", 174, "and", 20), ("SnoringWells$Reader", 165, "or", 21), ("SnoringWells", 420, "no such well", 22), ("SnoringWells", 423, "no such house", 23), ("SnoringWells", 436, "no such tray", 24), ("SnoringWells", 441, "the tray is missing", 25), ("SnoringWells", 427, "others than wells", 26), ("SnoringWells", 432, "both are one", 27), ("SnoringWells", 430, "not beside one another", 28), ("SnoringWells", 447, "no snores", 29), ("SnoringWells", 374, "no such place", 30), ("SnoringWells", 449, "no such image", 31), ("SnoringWells", 399, "no image was made", 32), ("SnoringWellsModel", 210, "well", 1), ("SnoringWellsModel", 192, "every", 2), ("SnoringWellsModel", 198, "awake", 3), ("SnoringWellsModel", 200, "shift", 4), ("SnoringWellsModel", 202, "deep", 5), ("SnoringWellsModel", 203, "water", 6), ("SnoringWellsModel", 215, "house", 8), ("SnoringWellsModel", 208, "from", 9), ("SnoringWellsModel", 220, "beside", 7), ("SnoringWellsModel", 175, "hour", 17), ("SnoringWellsModel", 225, "wakes", 10), ("SnoringWellsModel", 142, "not", 11), ("SnoringWellsModel", 165, "da", 12), ("SnoringWellsModel", 167, "db", 13), ("SnoringWellsModel", 169, "wa", 14), ("SnoringWellsModel", 171, "wb", 15), ("SnoringWellsModel", 173, "n", 16), ("SnoringWellsModel", 177, "phase", 18), ("SnoringWellsModel", 179, "many", 19), ("SnoringWellsModel", 140, "and", 20), ("SnoringWellsModel", 132, "or", 21)]
def nestW : List Cond := [.methodLinkNest "SnoringWells" 23 ⟨"SnoringWells$Rounds", "<init>", "()V"⟩ "SnoringWells", .methodLinkNest "SnoringWells" 30 ⟨"SnoringWells$Snores", "<init>", "()V"⟩ "SnoringWells", .methodLinkNest "SnoringWells" 37 ⟨"SnoringWells$Hills", "<init>", "()V"⟩ "SnoringWells", .fieldLinkNest "SnoringWells$Hills" 24 "SnoringWells" "NO_LAW" "[I" "SnoringWells", .fieldLinkNest "SnoringWells$Land" 41 "SnoringWells$Hills" "round" "[I" "SnoringWells", .methodLinkNest "SnoringWells" 53 ⟨"SnoringWells$Tray", "<init>", "()V"⟩ "SnoringWells", .methodLinkNest "SnoringWells$Land" 57 ⟨"SnoringWells", "has", "(II)Z"⟩ "SnoringWells", .methodLinkNest "SnoringWells$Noise" 38 ⟨"SnoringWells", "has", "(II)Z"⟩ "SnoringWells", .methodLinkNest "SnoringWells$Deeds" 104 ⟨"SnoringWells", "has", "(II)Z"⟩ "SnoringWells", .methodLinkNest "SnoringWells$Rounds" 42 ⟨"SnoringWells", "has", "(II)Z"⟩ "SnoringWells", .methodLinkNest "SnoringWells$Plans" 60 ⟨"SnoringWells", "has", "(II)Z"⟩ "SnoringWells", .methodLinkNest "SnoringWells$Reader" 56 ⟨"SnoringWells$Hills", "<init>", "()V"⟩ "SnoringWells", .methodLinkNest "SnoringWells$Snores" 39 ⟨"SnoringWells", "has", "(II)Z"⟩ "SnoringWells"]
theorem nestW_kind : ∀ w ∈ nestW, (∃ a i b n d h, w = .fieldLinkNest a i b n d h) ∨ (∃ a i y h, w = .methodLinkNest a i y h) := by
  intro w hw
  simp only [nestW, List.mem_cons, List.not_mem_nil, or_false] at hw
  rcases hw with rfl | rfl | rfl | rfl | rfl | rfl | rfl | rfl | rfl | rfl | rfl | rfl | rfl
  · exact Or.inr ⟨_, _, _, _, rfl⟩
  · exact Or.inr ⟨_, _, _, _, rfl⟩
  · exact Or.inr ⟨_, _, _, _, rfl⟩
  · exact Or.inl ⟨_, _, _, _, _, _, rfl⟩
  · exact Or.inl ⟨_, _, _, _, _, _, rfl⟩
  · exact Or.inr ⟨_, _, _, _, rfl⟩
  · exact Or.inr ⟨_, _, _, _, rfl⟩
  · exact Or.inr ⟨_, _, _, _, rfl⟩
  · exact Or.inr ⟨_, _, _, _, rfl⟩
  · exact Or.inr ⟨_, _, _, _, rfl⟩
  · exact Or.inr ⟨_, _, _, _, rfl⟩
  · exact Or.inr ⟨_, _, _, _, rfl⟩
  · exact Or.inr ⟨_, _, _, _, rfl⟩

def kc : List (List Nat) := [[2], [0, 0, 0, 0, 2, 2, 2, 2, 2, 2, 2, 2, 2], [2, 0, 0, 2, 2], [0], [2, 0, 2, 2, 2, 2], [2, 0, 0, 0, 2], [2, 2, 2, 2], [0, 0, 0, 2, 2, 0, 0, 0, 0, 0, 0, 2, 0], [2, 2, 2, 0, 0, 0], [0, 0, 0, 0, 2], [0, 0, 0, 2], [2, 2, 2, 2, 2, 2, 2, 2, 2, 2], [2, 2, 2, 2, 0, 2, 0, 0, 0, 0, 0, 0, 0, 0, 0, 0, 0, 2, 2, 0, 2, 2, 2, 2, 1, 0, 2, 2, 2]]
