/-! names: the printed text of NAMES (names, fields, codes) -/
def RX0 : String := "GutterPages$Balloon"
def TX0 : u_T := fun k => match k with
  | 0 => ("GutterPages$Balloon", "number", "I", true)
  | 1 => ("GutterPages$Balloon", "letters", "I", true)
  | 2 => ("GutterPages$Balloon", "laid", "LGutterPages$Box;", true)
  | 3 => ("GutterPages$Balloon", "tried", "LGutterPages$Box;", true)
  | 4 => ("GutterPages$Balloon", "home", "LGutterPages$Panel;", false)
  | 5 => ("GutterPages$Balloon", "answered", "LGutterPages$Balloon;", false)
  | _ => ("GutterPages$Balloon", "gone", "Z", false)
def tyX0 : Nat → FieldType := fun k => match k with
  | 0 => .int
  | 1 => .int
  | 2 => .object "GutterPages$Box"
  | 3 => .object "GutterPages$Box"
  | 4 => .object "GutterPages$Panel"
  | 5 => .object "GutterPages$Balloon"
  | _ => .boolean
abbrev wsX00 : List Cond := u_ws RX0 TX0 7
theorem nmX0 : ∀ a, a < 7 → ∀ b, b < 7 → a ≠ b → (TX0 a).2.1 ≠ (TX0 b).2.1 := by decide +kernel
theorem tyX0_ok : ∀ k, k < 7 → parseFieldDescriptor (TX0 k).2.2.1 = some (tyX0 k) := by decide +kernel
abbrev cX0_init : ByteArray := prog_2_method_1_code
def yX0_init : MethodName := ⟨RX0, "<init>", "(ILGutterPages$Panel;I)V"⟩
abbrev cX0_goTo : ByteArray := prog_2_method_2_code
def yX0_goTo : MethodName := ⟨RX0, "goTo", "(LGutterPages$Panel;I)V"⟩
abbrev cX0_readingKey : ByteArray := prog_2_method_3_code
def yX0_readingKey : MethodName := ⟨RX0, "readingKey", "()I"⟩
abbrev cX0_liesBefore : ByteArray := prog_2_method_4_code
def yX0_liesBefore : MethodName := ⟨RX0, "liesBefore", "(LGutterPages$Balloon;)Z"⟩
abbrev cX0_isNearer : ByteArray := prog_2_method_5_code
def yX0_isNearer : MethodName := ⟨RX0, "isNearer", "(LGutterPages$Box;LGutterPages$Box;IZ)Z"⟩
def RX1 : String := "GutterPages$Box"
def TX1 : u_T := fun k => match k with
  | 0 => ("GutterPages$Box", "left", "I", false)
  | 1 => ("GutterPages$Box", "top", "I", false)
  | 2 => ("GutterPages$Box", "width", "I", false)
  | _ => ("GutterPages$Box", "height", "I", false)
def tyX1 : Nat → FieldType := fun k => match k with
  | 0 => .int
  | 1 => .int
  | 2 => .int
  | _ => .int
abbrev wsX10 : List Cond := u_ws RX1 TX1 4
theorem nmX1 : ∀ a, a < 4 → ∀ b, b < 4 → a ≠ b → (TX1 a).2.1 ≠ (TX1 b).2.1 := by decide +kernel
theorem tyX1_ok : ∀ k, k < 4 → parseFieldDescriptor (TX1 k).2.2.1 = some (tyX1 k) := by decide +kernel
abbrev cX1_init : ByteArray := prog_3_method_1_code
def yX1_init : MethodName := ⟨RX1, "<init>", "()V"⟩
abbrev cX1_set : ByteArray := prog_3_method_2_code
def yX1_set : MethodName := ⟨RX1, "set", "(LGutterPages$Box;)V"⟩
abbrev cX1_isLike : ByteArray := prog_3_method_3_code
def yX1_isLike : MethodName := ⟨RX1, "isLike", "(LGutterPages$Box;)Z"⟩
abbrev cX1_holds : ByteArray := prog_3_method_4_code
def yX1_holds : MethodName := ⟨RX1, "holds", "(II)Z"⟩
abbrev cX1_measure : ByteArray := prog_3_method_5_code
def yX1_measure : MethodName := ⟨RX1, "measure", "(I)I"⟩
def RX2 : String := "GutterPages$Face"
def TX2 : u_T := fun k => match k with
  | 0 => ("GutterPages$Face", "column", "I", true)
  | 1 => ("GutterPages$Face", "width", "I", true)
  | _ => ("GutterPages$Face", "height", "I", true)
def tyX2 : Nat → FieldType := fun k => match k with
  | 0 => .int
  | 1 => .int
  | _ => .int
abbrev wsX20 : List Cond := u_ws RX2 TX2 3
theorem nmX2 : ∀ a, a < 3 → ∀ b, b < 3 → a ≠ b → (TX2 a).2.1 ≠ (TX2 b).2.1 := by decide +kernel
theorem tyX2_ok : ∀ k, k < 3 → parseFieldDescriptor (TX2 k).2.2.1 = some (tyX2 k) := by decide +kernel
abbrev cX2_init : ByteArray := prog_4_method_1_code
def yX2_init : MethodName := ⟨RX2, "<init>", "(III)V"⟩
def RX3 : String := "GutterPages$Layout"
def TX3 : u_T := fun k => match k with
  | 0 => ("GutterPages$Layout", "growth", "[I", true)
  | _ => ("GutterPages$Layout", "taken", "[I", true)
def tyX3 : Nat → FieldType := fun k => match k with
  | 0 => .array .int
  | _ => .array .int
abbrev wsX30 : List Cond := u_ws RX3 TX3 2
theorem nmX3 : ∀ a, a < 2 → ∀ b, b < 2 → a ≠ b → (TX3 a).2.1 ≠ (TX3 b).2.1 := by decide +kernel
theorem tyX3_ok : ∀ k, k < 2 → parseFieldDescriptor (TX3 k).2.2.1 = some (tyX3 k) := by decide +kernel
abbrev cX3_init : ByteArray := prog_5_method_1_code
def yX3_init : MethodName := ⟨RX3, "<init>", "()V"⟩
abbrev cX3_tryPage : ByteArray := prog_5_method_2_code
def yX3_tryPage : MethodName := ⟨RX3, "tryPage", "(LGutterPages$Page;)Z"⟩
abbrev cX3_shareWidth : ByteArray := prog_5_method_3_code
def yX3_shareWidth : MethodName := ⟨RX3, "shareWidth", "(LGutterPages$Page;III)V"⟩
abbrev cX3_heightOfRow : ByteArray := prog_5_method_4_code
def yX3_heightOfRow : MethodName := ⟨RX3, "heightOfRow", "(LGutterPages$Page;II)I"⟩
abbrev cX3_fitsInto : ByteArray := prog_5_method_5_code
def yX3_fitsInto : MethodName := ⟨RX3, "fitsInto", "(ILGutterPages$Page;II)Z"⟩
abbrev cX3_putRow : ByteArray := prog_5_method_6_code
def yX3_putRow : MethodName := ⟨RX3, "putRow", "(LGutterPages$Page;III)V"⟩
abbrev cX3_placeBalloons : ByteArray := prog_5_method_7_code
def yX3_placeBalloons : MethodName := ⟨RX3, "placeBalloons", "(LGutterPages$Panel;)Z"⟩
abbrev cX3_growthOf : ByteArray := prog_5_method_8_code
def yX3_growthOf : MethodName := ⟨RX3, "growthOf", "(LGutterPages$Page;)I"⟩
abbrev cX3_takeFaces : ByteArray := prog_5_method_9_code
def yX3_takeFaces : MethodName := ⟨RX3, "takeFaces", "(LGutterPages$Panel;)V"⟩
abbrev cX3_take : ByteArray := prog_5_method_10_code
def yX3_take : MethodName := ⟨RX3, "take", "(IIII)V"⟩
abbrev cX3_findSpot : ByteArray := prog_5_method_11_code
def yX3_findSpot : MethodName := ⟨RX3, "findSpot", "(LGutterPages$Box;IILGutterPages$Box;Z)Z"⟩
abbrev cX3_takenBetween : ByteArray := prog_5_method_12_code
def yX3_takenBetween : MethodName := ⟨RX3, "takenBetween", "(II)I"⟩
abbrev cX3_bitsOf : ByteArray := prog_5_method_13_code
def yX3_bitsOf : MethodName := ⟨RX3, "bitsOf", "(II)I"⟩
def RX4 : String := "GutterPages$Page"
def TX4 : u_T := fun k => match k with
  | 0 => ("GutterPages$Page", "number", "I", true)
  | 1 => ("GutterPages$Page", "row", "Ljava/util/ArrayList;", true)
  | 2 => ("GutterPages$Page", "tongue", "I", false)
  | 3 => ("GutterPages$Page", "rowCount", "I", false)
  | 4 => ("GutterPages$Page", "triedRowCount", "I", false)
  | _ => ("GutterPages$Page", "joined", "Z", false)
def tyX4 : Nat → FieldType := fun k => match k with
  | 0 => .int
  | 1 => .object "java/util/ArrayList"
  | 2 => .int
  | 3 => .int
  | 4 => .int
  | _ => .boolean
abbrev wsX40 : List Cond := u_ws RX4 TX4 6
theorem nmX4 : ∀ a, a < 6 → ∀ b, b < 6 → a ≠ b → (TX4 a).2.1 ≠ (TX4 b).2.1 := by decide +kernel
theorem tyX4_ok : ∀ k, k < 6 → parseFieldDescriptor (TX4 k).2.2.1 = some (tyX4 k) := by decide +kernel
abbrev cX4_init : ByteArray := prog_6_method_1_code
def yX4_init : MethodName := ⟨RX4, "<init>", "(I)V"⟩
abbrev cX4_isFromRight : ByteArray := prog_6_method_2_code
def yX4_isFromRight : MethodName := ⟨RX4, "isFromRight", "()Z"⟩
abbrev cX4_indexOf : ByteArray := prog_6_method_3_code
def yX4_indexOf : MethodName := ⟨RX4, "indexOf", "(LGutterPages$Panel;)I"⟩
abbrev cX4_takeOut : ByteArray := prog_6_method_4_code
def yX4_takeOut : MethodName := ⟨RX4, "takeOut", "(I)V"⟩
abbrev cX4_putIn : ByteArray := prog_6_method_5_code
def yX4_putIn : MethodName := ⟨RX4, "putIn", "(ILGutterPages$Panel;)V"⟩
abbrev cX4_keepTrial : ByteArray := prog_6_method_6_code
def yX4_keepTrial : MethodName := ⟨RX4, "keepTrial", "()I"⟩
def RX5 : String := "GutterPages$Panel"
def TX5 : u_T := fun k => match k with
  | 0 => ("GutterPages$Panel", "number", "I", true)
  | 1 => ("GutterPages$Panel", "home", "LGutterPages$Page;", true)
  | 2 => ("GutterPages$Panel", "weight", "I", true)
  | 3 => ("GutterPages$Panel", "leastWidth", "I", true)
  | 4 => ("GutterPages$Panel", "leastHeight", "I", true)
  | 5 => ("GutterPages$Panel", "faces", "Ljava/util/ArrayList;", true)
  | 6 => ("GutterPages$Panel", "row", "Ljava/util/ArrayList;", true)
  | 7 => ("GutterPages$Panel", "laid", "LGutterPages$Box;", true)
  | 8 => ("GutterPages$Panel", "tried", "LGutterPages$Box;", true)
  | 9 => ("GutterPages$Panel", "rowNumber", "I", false)
  | 10 => ("GutterPages$Panel", "triedRowNumber", "I", false)
  | _ => ("GutterPages$Panel", "gone", "Z", false)
def tyX5 : Nat → FieldType := fun k => match k with
  | 0 => .int
  | 1 => .object "GutterPages$Page"
  | 2 => .int
  | 3 => .int
  | 4 => .int
  | 5 => .object "java/util/ArrayList"
  | 6 => .object "java/util/ArrayList"
  | 7 => .object "GutterPages$Box"
  | 8 => .object "GutterPages$Box"
  | 9 => .int
  | 10 => .int
  | _ => .boolean
abbrev wsX50 : List Cond := u_ws RX5 TX5 12
theorem nmX5 : ∀ a, a < 12 → ∀ b, b < 12 → a ≠ b → (TX5 a).2.1 ≠ (TX5 b).2.1 := by decide +kernel
theorem tyX5_ok : ∀ k, k < 12 → parseFieldDescriptor (TX5 k).2.2.1 = some (tyX5 k) := by decide +kernel
abbrev cX5_init : ByteArray := prog_7_method_1_code
def yX5_init : MethodName := ⟨RX5, "<init>", "(ILGutterPages$Page;III)V"⟩
abbrev cX5_indexOf : ByteArray := prog_7_method_2_code
def yX5_indexOf : MethodName := ⟨RX5, "indexOf", "(LGutterPages$Balloon;)I"⟩
abbrev cX5_takeOut : ByteArray := prog_7_method_3_code
def yX5_takeOut : MethodName := ⟨RX5, "takeOut", "(I)V"⟩
abbrev cX5_putIn : ByteArray := prog_7_method_4_code
def yX5_putIn : MethodName := ⟨RX5, "putIn", "(ILGutterPages$Balloon;)V"⟩
abbrev cX5_dropLastFace : ByteArray := prog_7_method_5_code
def yX5_dropLastFace : MethodName := ⟨RX5, "dropLastFace", "()V"⟩
abbrev cX5_hasFaceAt : ByteArray := prog_7_method_6_code
def yX5_hasFaceAt : MethodName := ⟨RX5, "hasFaceAt", "(II)Z"⟩
abbrev cX5_keepTrial : ByteArray := prog_7_method_7_code
def yX5_keepTrial : MethodName := ⟨RX5, "keepTrial", "()V"⟩
abbrev cX5_leave : ByteArray := prog_7_method_8_code
def yX5_leave : MethodName := ⟨RX5, "leave", "()V"⟩
def RX6 : String := "GutterPages$Reader"
def TX6 : u_T := fun k => match k with
  | 0 => ("GutterPages$Reader", "kept", "[LGutterPages$Panel;", true)
  | 1 => ("GutterPages$Reader", "keptCount", "I", false)
  | _ => ("GutterPages$Reader", "at", "LGutterPages$Panel;", false)
def tyX6 : Nat → FieldType := fun k => match k with
  | 0 => .array (.object "GutterPages$Panel")
  | 1 => .int
  | _ => .object "GutterPages$Panel"
abbrev wsX60 : List Cond := u_ws RX6 TX6 3
theorem nmX6 : ∀ a, a < 3 → ∀ b, b < 3 → a ≠ b → (TX6 a).2.1 ≠ (TX6 b).2.1 := by decide +kernel
theorem tyX6_ok : ∀ k, k < 3 → parseFieldDescriptor (TX6 k).2.2.1 = some (tyX6 k) := by decide +kernel
abbrev cX6_init : ByteArray := prog_8_method_1_code
def yX6_init : MethodName := ⟨RX6, "<init>", "()V"⟩
abbrev cX6_beginAt : ByteArray := prog_8_method_2_code
def yX6_beginAt : MethodName := ⟨RX6, "beginAt", "(LGutterPages$Panel;)V"⟩
abbrev cX6_goTo : ByteArray := prog_8_method_3_code
def yX6_goTo : MethodName := ⟨RX6, "goTo", "(LGutterPages$Panel;)V"⟩
abbrev cX6_goBack : ByteArray := prog_8_method_4_code
def yX6_goBack : MethodName := ⟨RX6, "goBack", "()Z"⟩
abbrev cX6_forget : ByteArray := prog_8_method_5_code
def yX6_forget : MethodName := ⟨RX6, "forget", "(LGutterPages$Panel;LGutterPages$Panel;)V"⟩
def RX7 : String := "GutterPages"
def TX7 : u_T := fun k => match k with
  | 0 => ("GutterPages", "book", "Ljava/util/ArrayList;", true)
  | 1 => ("GutterPages", "everyPanel", "Ljava/util/ArrayList;", true)
  | 2 => ("GutterPages", "everyBalloon", "Ljava/util/ArrayList;", true)
  | 3 => ("GutterPages", "layout", "LGutterPages$Layout;", true)
  | _ => ("GutterPages", "reader", "LGutterPages$Reader;", true)
def tyX7 : Nat → FieldType := fun k => match k with
  | 0 => .object "java/util/ArrayList"
  | 1 => .object "java/util/ArrayList"
  | 2 => .object "java/util/ArrayList"
  | 3 => .object "GutterPages$Layout"
  | _ => .object "GutterPages$Reader"
abbrev wsX70 : List Cond := u_ws RX7 TX7 5
theorem nmX7 : ∀ a, a < 5 → ∀ b, b < 5 → a ≠ b → (TX7 a).2.1 ≠ (TX7 b).2.1 := by decide +kernel
theorem tyX7_ok : ∀ k, k < 5 → parseFieldDescriptor (TX7 k).2.2.1 = some (tyX7 k) := by decide +kernel
abbrev cX7_init : ByteArray := prog_1_method_1_code
def yX7_init : MethodName := ⟨RX7, "<init>", "()V"⟩
abbrev cX7_page : ByteArray := prog_1_method_2_code
def yX7_page : MethodName := ⟨RX7, "page", "()I"⟩
abbrev cX7_panel : ByteArray := prog_1_method_3_code
def yX7_panel : MethodName := ⟨RX7, "panel", "(IIIII)I"⟩
abbrev cX7_movePanel : ByteArray := prog_1_method_4_code
def yX7_movePanel : MethodName := ⟨RX7, "movePanel", "(II)I"⟩
abbrev cX7_cutPanel : ByteArray := prog_1_method_5_code
def yX7_cutPanel : MethodName := ⟨RX7, "cutPanel", "(I)I"⟩
abbrev cX7_face : ByteArray := prog_1_method_6_code
def yX7_face : MethodName := ⟨RX7, "face", "(IIII)I"⟩
abbrev cX7_balloon : ByteArray := prog_1_method_7_code
def yX7_balloon : MethodName := ⟨RX7, "balloon", "(III)I"⟩
abbrev cX7_moveBalloon : ByteArray := prog_1_method_8_code
def yX7_moveBalloon : MethodName := ⟨RX7, "moveBalloon", "(III)V"⟩
abbrev cX7_cutBalloon : ByteArray := prog_1_method_9_code
def yX7_cutBalloon : MethodName := ⟨RX7, "cutBalloon", "(I)I"⟩
abbrev cX7_answer : ByteArray := prog_1_method_10_code
def yX7_answer : MethodName := ⟨RX7, "answer", "(II)I"⟩
abbrev cX7_translate : ByteArray := prog_1_method_11_code
def yX7_translate : MethodName := ⟨RX7, "translate", "(II)I"⟩
abbrev cX7_setGrowth : ByteArray := prog_1_method_12_code
def yX7_setGrowth : MethodName := ⟨RX7, "setGrowth", "(II)I"⟩
abbrev cX7_pages : ByteArray := prog_1_method_13_code
def yX7_pages : MethodName := ⟨RX7, "pages", "()I"⟩
abbrev cX7_rows : ByteArray := prog_1_method_14_code
def yX7_rows : MethodName := ⟨RX7, "rows", "(I)I"⟩
abbrev cX7_panels : ByteArray := prog_1_method_15_code
def yX7_panels : MethodName := ⟨RX7, "panels", "(I)I"⟩
abbrev cX7_panelAt : ByteArray := prog_1_method_16_code
def yX7_panelAt : MethodName := ⟨RX7, "panelAt", "(II)I"⟩
abbrev cX7_lies : ByteArray := prog_1_method_17_code
def yX7_lies : MethodName := ⟨RX7, "lies", "(II)I"⟩
abbrev cX7_floats : ByteArray := prog_1_method_18_code
def yX7_floats : MethodName := ⟨RX7, "floats", "(II)I"⟩
abbrev cX7_cell : ByteArray := prog_1_method_19_code
def yX7_cell : MethodName := ⟨RX7, "cell", "(III)I"⟩
abbrev cX7_balloons : ByteArray := prog_1_method_20_code
def yX7_balloons : MethodName := ⟨RX7, "balloons", "()I"⟩
abbrev cX7_read : ByteArray := prog_1_method_21_code
def yX7_read : MethodName := ⟨RX7, "read", "(I)I"⟩
abbrev cX7_placeOf : ByteArray := prog_1_method_22_code
def yX7_placeOf : MethodName := ⟨RX7, "placeOf", "(I)I"⟩
abbrev cX7_placeByPairs : ByteArray := prog_1_method_23_code
def yX7_placeByPairs : MethodName := ⟨RX7, "placeByPairs", "(I)I"⟩
abbrev cX7_depth : ByteArray := prog_1_method_24_code
def yX7_depth : MethodName := ⟨RX7, "depth", "(I)I"⟩
abbrev cX7_spread : ByteArray := prog_1_method_25_code
def yX7_spread : MethodName := ⟨RX7, "spread", "(I)Z"⟩
abbrev cX7_leaves : ByteArray := prog_1_method_26_code
def yX7_leaves : MethodName := ⟨RX7, "leaves", "(I)I"⟩
abbrev cX7_leaf : ByteArray := prog_1_method_27_code
def yX7_leaf : MethodName := ⟨RX7, "leaf", "(II)I"⟩
abbrev cX7_beside : ByteArray := prog_1_method_28_code
def yX7_beside : MethodName := ⟨RX7, "beside", "(II)I"⟩
abbrev cX7_sheet : ByteArray := prog_1_method_29_code
def yX7_sheet : MethodName := ⟨RX7, "sheet", "(II)I"⟩
abbrev cX7_open : ByteArray := prog_1_method_30_code
def yX7_open : MethodName := ⟨RX7, "open", "()I"⟩
abbrev cX7_forth : ByteArray := prog_1_method_31_code
def yX7_forth : MethodName := ⟨RX7, "forth", "()I"⟩
abbrev cX7_jump : ByteArray := prog_1_method_32_code
def yX7_jump : MethodName := ⟨RX7, "jump", "(I)I"⟩
abbrev cX7_back : ByteArray := prog_1_method_33_code
def yX7_back : MethodName := ⟨RX7, "back", "()I"⟩
abbrev cX7_here : ByteArray := prog_1_method_34_code
def yX7_here : MethodName := ⟨RX7, "here", "()I"⟩
abbrev cX7_needPage : ByteArray := prog_1_method_35_code
def yX7_needPage : MethodName := ⟨RX7, "needPage", "(I)LGutterPages$Page;"⟩
abbrev cX7_needPanel : ByteArray := prog_1_method_36_code
def yX7_needPanel : MethodName := ⟨RX7, "needPanel", "(I)LGutterPages$Panel;"⟩
abbrev cX7_needBalloon : ByteArray := prog_1_method_37_code
def yX7_needBalloon : MethodName := ⟨RX7, "needBalloon", "(I)LGutterPages$Balloon;"⟩
abbrev cX7_needPlace : ByteArray := prog_1_method_38_code
def yX7_needPlace : MethodName := ⟨RX7, "needPlace", "(II)V"⟩
abbrev cX7_needWithin : ByteArray := prog_1_method_39_code
def yX7_needWithin : MethodName := ⟨RX7, "needWithin", "(III)V"⟩
abbrev cX7_needSignature : ByteArray := prog_1_method_40_code
def yX7_needSignature : MethodName := ⟨RX7, "needSignature", "(I)V"⟩
abbrev cX7_balloonReadAt : ByteArray := prog_1_method_41_code
def yX7_balloonReadAt : MethodName := ⟨RX7, "balloonReadAt", "(I)LGutterPages$Balloon;"⟩
abbrev cX7_countReadBefore : ByteArray := prog_1_method_42_code
def yX7_countReadBefore : MethodName := ⟨RX7, "countReadBefore", "(LGutterPages$Balloon;)I"⟩
abbrev cX7_answersComeLater : ByteArray := prog_1_method_43_code
def yX7_answersComeLater : MethodName := ⟨RX7, "answersComeLater", "()Z"⟩
abbrev cX7_isAnswered : ByteArray := prog_1_method_44_code
def yX7_isAnswered : MethodName := ⟨RX7, "isAnswered", "(LGutterPages$Balloon;)Z"⟩
abbrev cX7_isAnsweredFromElsewhere : ByteArray := prog_1_method_45_code
def yX7_isAnsweredFromElsewhere : MethodName := ⟨RX7, "isAnsweredFromElsewhere", "(LGutterPages$Panel;)Z"⟩
abbrev cX7_readBehind : ByteArray := prog_1_method_46_code
def yX7_readBehind : MethodName := ⟨RX7, "readBehind", "(LGutterPages$Panel;)LGutterPages$Panel;"⟩
abbrev cX7_readAheadOf : ByteArray := prog_1_method_47_code
def yX7_readAheadOf : MethodName := ⟨RX7, "readAheadOf", "(LGutterPages$Panel;)LGutterPages$Panel;"⟩
abbrev cX7_numberOf : ByteArray := prog_1_method_48_code
def yX7_numberOf : MethodName := ⟨RX7, "numberOf", "(LGutterPages$Panel;)I"⟩
abbrev cX7_isSpread : ByteArray := prog_1_method_49_code
def yX7_isSpread : MethodName := ⟨RX7, "isSpread", "(I)Z"⟩
abbrev cX7_leafOf : ByteArray := prog_1_method_50_code
def yX7_leafOf : MethodName := ⟨RX7, "leafOf", "(II)I"⟩
abbrev cX7_leafOfSpread : ByteArray := prog_1_method_51_code
def yX7_leafOfSpread : MethodName := ⟨RX7, "leafOfSpread", "(III)I"⟩
abbrev cX7_roundedUp : ByteArray := prog_1_method_52_code
def yX7_roundedUp : MethodName := ⟨RX7, "roundedUp", "(II)I"⟩
abbrev cX7_remainder : ByteArray := prog_1_method_53_code
def yX7_remainder : MethodName := ⟨RX7, "remainder", "(II)I"⟩
abbrev cX7_turned : ByteArray := prog_1_method_54_code
def yX7_turned : MethodName := ⟨RX7, "turned", "(IIIZ)I"⟩
def RX8 : String := "GutterPagesModel"
def TX8 : u_T := fun k => match k with
  | 0 => ("GutterPagesModel", "thrown", "I", false)
  | 1 => ("GutterPagesModel", "pageMany", "I", false)
  | 2 => ("GutterPagesModel", "panelMany", "I", false)
  | 3 => ("GutterPagesModel", "balloonMany", "I", false)
  | 4 => ("GutterPagesModel", "tongues", "[I", true)
  | 5 => ("GutterPagesModel", "counts", "[I", true)
  | 6 => ("GutterPagesModel", "rowOf", "[I", true)
  | 7 => ("GutterPagesModel", "spreads", "[Z", true)
  | 8 => ("GutterPagesModel", "growths", "[I", true)
  | 9 => ("GutterPagesModel", "pageOf", "[I", true)
  | 10 => ("GutterPagesModel", "weights", "[I", true)
  | 11 => ("GutterPagesModel", "widths", "[I", true)
  | 12 => ("GutterPagesModel", "heights", "[I", true)
  | 13 => ("GutterPagesModel", "faceMany", "[I", true)
  | 14 => ("GutterPagesModel", "faces", "[I", true)
  | 15 => ("GutterPagesModel", "held", "[I", true)
  | 16 => ("GutterPagesModel", "holds", "[I", true)
  | 17 => ("GutterPagesModel", "panelOf", "[I", true)
  | 18 => ("GutterPagesModel", "letters", "[I", true)
  | 19 => ("GutterPagesModel", "answers", "[I", true)
  | 20 => ("GutterPagesModel", "lies", "[I", true)
  | 21 => ("GutterPagesModel", "floats", "[I", true)
  | 22 => ("GutterPagesModel", "cells", "[I", true)
  | 23 => ("GutterPagesModel", "rows", "[I", true)
  | 24 => ("GutterPagesModel", "oldTongues", "[I", true)
  | 25 => ("GutterPagesModel", "oldCounts", "[I", true)
  | 26 => ("GutterPagesModel", "oldRowOf", "[I", true)
  | 27 => ("GutterPagesModel", "oldGrowths", "[I", true)
  | 28 => ("GutterPagesModel", "oldPageOf", "[I", true)
  | 29 => ("GutterPagesModel", "oldFaceMany", "[I", true)
  | 30 => ("GutterPagesModel", "oldHeld", "[I", true)
  | 31 => ("GutterPagesModel", "oldHolds", "[I", true)
  | 32 => ("GutterPagesModel", "oldPanelOf", "[I", true)
  | 33 => ("GutterPagesModel", "oldLies", "[I", true)
  | 34 => ("GutterPagesModel", "here", "I", false)
  | 35 => ("GutterPagesModel", "keptMany", "I", false)
  | _ => ("GutterPagesModel", "kept", "[I", true)
def tyX8 : Nat → FieldType := fun k => match k with
  | 0 => .int
  | 1 => .int
  | 2 => .int
  | 3 => .int
  | 4 => .array .int
  | 5 => .array .int
  | 6 => .array .int
  | 7 => .array .boolean
  | 8 => .array .int
  | 9 => .array .int
  | 10 => .array .int
  | 11 => .array .int
  | 12 => .array .int
  | 13 => .array .int
  | 14 => .array .int
  | 15 => .array .int
  | 16 => .array .int
  | 17 => .array .int
  | 18 => .array .int
  | 19 => .array .int
  | 20 => .array .int
  | 21 => .array .int
  | 22 => .array .int
  | 23 => .array .int
  | 24 => .array .int
  | 25 => .array .int
  | 26 => .array .int
  | 27 => .array .int
  | 28 => .array .int
  | 29 => .array .int
  | 30 => .array .int
  | 31 => .array .int
  | 32 => .array .int
  | 33 => .array .int
  | 34 => .int
  | 35 => .int
  | _ => .array .int
abbrev wsX80 : List Cond := u_ws RX8 TX8 37
theorem nmX8 : ∀ a, a < 37 → ∀ b, b < 37 → a ≠ b → (TX8 a).2.1 ≠ (TX8 b).2.1 := by decide +kernel
theorem tyX8_ok : ∀ k, k < 37 → parseFieldDescriptor (TX8 k).2.2.1 = some (tyX8 k) := by decide +kernel
abbrev cX8_init : ByteArray := prog_10_method_1_code
def yX8_init : MethodName := ⟨RX8, "<init>", "()V"⟩
abbrev cX8_thrown : ByteArray := prog_10_method_2_code
def yX8_thrown : MethodName := ⟨RX8, "thrown", "()I"⟩
abbrev cX8_fails : ByteArray := prog_10_method_3_code
def yX8_fails : MethodName := ⟨RX8, "fails", "(I)I"⟩
abbrev cX8_in : ByteArray := prog_10_method_4_code
def yX8_in : MethodName := ⟨RX8, "in", "(III)Z"⟩
abbrev cX8_isPage : ByteArray := prog_10_method_5_code
def yX8_isPage : MethodName := ⟨RX8, "isPage", "(I)Z"⟩
abbrev cX8_isPanel : ByteArray := prog_10_method_6_code
def yX8_isPanel : MethodName := ⟨RX8, "isPanel", "(I)Z"⟩
abbrev cX8_isBalloon : ByteArray := prog_10_method_7_code
def yX8_isBalloon : MethodName := ⟨RX8, "isBalloon", "(I)Z"⟩
abbrev cX8_inserts : ByteArray := prog_10_method_8_code
def yX8_inserts : MethodName := ⟨RX8, "inserts", "([IIIII)V"⟩
abbrev cX8_removes : ByteArray := prog_10_method_9_code
def yX8_removes : MethodName := ⟨RX8, "removes", "([IIII)V"⟩
abbrev cX8_find : ByteArray := prog_10_method_10_code
def yX8_find : MethodName := ⟨RX8, "find", "([III)I"⟩
abbrev cX8_isFromRight : ByteArray := prog_10_method_11_code
def yX8_isFromRight : MethodName := ⟨RX8, "isFromRight", "(I)Z"⟩
abbrev cX8_grown : ByteArray := prog_10_method_12_code
def yX8_grown : MethodName := ⟨RX8, "grown", "(II)I"⟩
abbrev cX8_stands : ByteArray := prog_10_method_13_code
def yX8_stands : MethodName := ⟨RX8, "stands", "(III)V"⟩
abbrev cX8_isFree : ByteArray := prog_10_method_14_code
def yX8_isFree : MethodName := ⟨RX8, "isFree", "(IIIII)Z"⟩
abbrev cX8_places : ByteArray := prog_10_method_15_code
def yX8_places : MethodName := ⟨RX8, "places", "(III)Z"⟩
abbrev cX8_laysRow : ByteArray := prog_10_method_16_code
def yX8_laysRow : MethodName := ⟨RX8, "laysRow", "(IIIII)I"⟩
abbrev cX8_laysPage : ByteArray := prog_10_method_17_code
def yX8_laysPage : MethodName := ⟨RX8, "laysPage", "(I)Z"⟩
abbrev cX8_laysAll : ByteArray := prog_10_method_18_code
def yX8_laysAll : MethodName := ⟨RX8, "laysAll", "()Z"⟩
abbrev cX8_rank : ByteArray := prog_10_method_19_code
def yX8_rank : MethodName := ⟨RX8, "rank", "(I)I"⟩
abbrev cX8_isBefore : ByteArray := prog_10_method_20_code
def yX8_isBefore : MethodName := ⟨RX8, "isBefore", "(II)Z"⟩
abbrev cX8_areAnswered : ByteArray := prog_10_method_21_code
def yX8_areAnswered : MethodName := ⟨RX8, "areAnswered", "()Z"⟩
abbrev cX8_copies : ByteArray := prog_10_method_22_code
def yX8_copies : MethodName := ⟨RX8, "copies", "([I[I)V"⟩
abbrev cX8_keeps : ByteArray := prog_10_method_23_code
def yX8_keeps : MethodName := ⟨RX8, "keeps", "()V"⟩
abbrev cX8_stays : ByteArray := prog_10_method_24_code
def yX8_stays : MethodName := ⟨RX8, "stays", "()Z"⟩
abbrev cX8_changed : ByteArray := prog_10_method_25_code
def yX8_changed : MethodName := ⟨RX8, "changed", "(I)I"⟩
abbrev cX8_page : ByteArray := prog_10_method_26_code
def yX8_page : MethodName := ⟨RX8, "page", "()I"⟩
abbrev cX8_panel : ByteArray := prog_10_method_27_code
def yX8_panel : MethodName := ⟨RX8, "panel", "(IIIII)I"⟩
abbrev cX8_movePanel : ByteArray := prog_10_method_28_code
def yX8_movePanel : MethodName := ⟨RX8, "movePanel", "(II)I"⟩
abbrev cX8_neighbour : ByteArray := prog_10_method_29_code
def yX8_neighbour : MethodName := ⟨RX8, "neighbour", "(II)I"⟩
abbrev cX8_cutPanel : ByteArray := prog_10_method_30_code
def yX8_cutPanel : MethodName := ⟨RX8, "cutPanel", "(I)I"⟩
abbrev cX8_face : ByteArray := prog_10_method_31_code
def yX8_face : MethodName := ⟨RX8, "face", "(IIII)I"⟩
abbrev cX8_balloon : ByteArray := prog_10_method_32_code
def yX8_balloon : MethodName := ⟨RX8, "balloon", "(III)I"⟩
abbrev cX8_moveBalloon : ByteArray := prog_10_method_33_code
def yX8_moveBalloon : MethodName := ⟨RX8, "moveBalloon", "(III)V"⟩
abbrev cX8_cutBalloon : ByteArray := prog_10_method_34_code
def yX8_cutBalloon : MethodName := ⟨RX8, "cutBalloon", "(I)I"⟩
abbrev cX8_answer : ByteArray := prog_10_method_35_code
def yX8_answer : MethodName := ⟨RX8, "answer", "(II)I"⟩
abbrev cX8_translate : ByteArray := prog_10_method_36_code
def yX8_translate : MethodName := ⟨RX8, "translate", "(II)I"⟩
abbrev cX8_setGrowth : ByteArray := prog_10_method_37_code
def yX8_setGrowth : MethodName := ⟨RX8, "setGrowth", "(II)I"⟩
abbrev cX8_pages : ByteArray := prog_10_method_38_code
def yX8_pages : MethodName := ⟨RX8, "pages", "()I"⟩
abbrev cX8_rows : ByteArray := prog_10_method_39_code
def yX8_rows : MethodName := ⟨RX8, "rows", "(I)I"⟩
abbrev cX8_panels : ByteArray := prog_10_method_40_code
def yX8_panels : MethodName := ⟨RX8, "panels", "(I)I"⟩
abbrev cX8_panelAt : ByteArray := prog_10_method_41_code
def yX8_panelAt : MethodName := ⟨RX8, "panelAt", "(II)I"⟩
abbrev cX8_lies : ByteArray := prog_10_method_42_code
def yX8_lies : MethodName := ⟨RX8, "lies", "(II)I"⟩
abbrev cX8_floats : ByteArray := prog_10_method_43_code
def yX8_floats : MethodName := ⟨RX8, "floats", "(II)I"⟩
abbrev cX8_cell : ByteArray := prog_10_method_44_code
def yX8_cell : MethodName := ⟨RX8, "cell", "(III)I"⟩
abbrev cX8_balloons : ByteArray := prog_10_method_45_code
def yX8_balloons : MethodName := ⟨RX8, "balloons", "()I"⟩
abbrev cX8_before : ByteArray := prog_10_method_46_code
def yX8_before : MethodName := ⟨RX8, "before", "(I)I"⟩
abbrev cX8_read : ByteArray := prog_10_method_47_code
def yX8_read : MethodName := ⟨RX8, "read", "(I)I"⟩
abbrev cX8_placeOf : ByteArray := prog_10_method_48_code
def yX8_placeOf : MethodName := ⟨RX8, "placeOf", "(I)I"⟩
abbrev cX8_placeByPairs : ByteArray := prog_10_method_49_code
def yX8_placeByPairs : MethodName := ⟨RX8, "placeByPairs", "(I)I"⟩
abbrev cX8_depth : ByteArray := prog_10_method_50_code
def yX8_depth : MethodName := ⟨RX8, "depth", "(I)I"⟩
abbrev cX8_spread : ByteArray := prog_10_method_51_code
def yX8_spread : MethodName := ⟨RX8, "spread", "(I)Z"⟩
abbrev cX8_isSize : ByteArray := prog_10_method_52_code
def yX8_isSize : MethodName := ⟨RX8, "isSize", "(I)Z"⟩
abbrev cX8_leafOf : ByteArray := prog_10_method_53_code
def yX8_leafOf : MethodName := ⟨RX8, "leafOf", "(II)I"⟩
abbrev cX8_moved : ByteArray := prog_10_method_54_code
def yX8_moved : MethodName := ⟨RX8, "moved", "(III)I"⟩
abbrev cX8_leaves : ByteArray := prog_10_method_55_code
def yX8_leaves : MethodName := ⟨RX8, "leaves", "(I)I"⟩
abbrev cX8_leaf : ByteArray := prog_10_method_56_code
def yX8_leaf : MethodName := ⟨RX8, "leaf", "(II)I"⟩
abbrev cX8_beside : ByteArray := prog_10_method_57_code
def yX8_beside : MethodName := ⟨RX8, "beside", "(II)I"⟩
abbrev cX8_sheet : ByteArray := prog_10_method_58_code
def yX8_sheet : MethodName := ⟨RX8, "sheet", "(II)I"⟩
abbrev cX8_open : ByteArray := prog_10_method_59_code
def yX8_open : MethodName := ⟨RX8, "open", "()I"⟩
abbrev cX8_goesTo : ByteArray := prog_10_method_60_code
def yX8_goesTo : MethodName := ⟨RX8, "goesTo", "(I)V"⟩
abbrev cX8_forth : ByteArray := prog_10_method_61_code
def yX8_forth : MethodName := ⟨RX8, "forth", "()I"⟩
abbrev cX8_jump : ByteArray := prog_10_method_62_code
def yX8_jump : MethodName := ⟨RX8, "jump", "(I)I"⟩
abbrev cX8_back : ByteArray := prog_10_method_63_code
def yX8_back : MethodName := ⟨RX8, "back", "()I"⟩
abbrev cX8_here : ByteArray := prog_10_method_64_code
def yX8_here : MethodName := ⟨RX8, "here", "()I"⟩
def RJx145de : String := "java/io/Serializable"
def TJx145de : u_T := fun k => match k with
  | _ => ("", "", "", false)
def tyJx145de : Nat → FieldType := fun k => match k with
  | _ => .int
abbrev wsJx145de0 : List Cond := u_ws RJx145de TJx145de 0
theorem nmJx145de : ∀ a, a < 0 → ∀ b, b < 0 → a ≠ b → (TJx145de a).2.1 ≠ (TJx145de b).2.1 := by decide +kernel
theorem tyJx145de_ok : ∀ k, k < 0 → parseFieldDescriptor (TJx145de k).2.2.1 = some (tyJx145de k) := by decide +kernel
def RJ5 : String := "java/lang/AbstractStringBuilder"
def TJ5 : u_T := fun k => match k with
  | _ => ("", "", "", false)
def tyJ5 : Nat → FieldType := fun k => match k with
  | _ => .int
abbrev wsJ50 : List Cond := u_ws RJ5 TJ5 0
theorem nmJ5 : ∀ a, a < 0 → ∀ b, b < 0 → a ≠ b → (TJ5 a).2.1 ≠ (TJ5 b).2.1 := by decide +kernel
theorem tyJ5_ok : ∀ k, k < 0 → parseFieldDescriptor (TJ5 k).2.2.1 = some (tyJ5 k) := by decide +kernel
abbrev cJ5_init_d00df : ByteArray := prog_12_method_2_code
def yJ5_init_d00df : MethodName := ⟨RJ5, "<init>", "(I)V"⟩
abbrev cJ5_length_8abf5 : ByteArray := prog_12_method_6_code
def yJ5_length_8abf5 : MethodName := ⟨RJ5, "length", "()I"⟩
abbrev cJ5_ensureCapacityInternal_d00df : ByteArray := prog_12_method_9_code
def yJ5_ensureCapacityInternal_d00df : MethodName := ⟨RJ5, "ensureCapacityInternal", "(I)V"⟩
abbrev cJ5_newCapacity_0f7a4 : ByteArray := prog_12_method_10_code
def yJ5_newCapacity_0f7a4 : MethodName := ⟨RJ5, "newCapacity", "(I)I"⟩
abbrev cJ5_inflate_da8c8 : ByteArray := prog_12_method_11_code
def yJ5_inflate_da8c8 : MethodName := ⟨RJ5, "inflate", "()V"⟩
abbrev cJ5_append_cf1ce : ByteArray := prog_12_method_22_code
def yJ5_append_cf1ce : MethodName := ⟨RJ5, "append", "(Ljava/lang/String;)Ljava/lang/AbstractStringBuilder;"⟩
abbrev cJ5_appendNull_278bc : ByteArray := prog_12_method_26_code
def yJ5_appendNull_278bc : MethodName := ⟨RJ5, "appendNull", "()Ljava/lang/AbstractStringBuilder;"⟩
abbrev cJ5_append_c97b9 : ByteArray := prog_12_method_32_code
def yJ5_append_c97b9 : MethodName := ⟨RJ5, "append", "(I)Ljava/lang/AbstractStringBuilder;"⟩
abbrev cJ5_getValue_6d5f1 : ByteArray := prog_12_method_64_code
def yJ5_getValue_6d5f1 : MethodName := ⟨RJ5, "getValue", "()[B"⟩
abbrev cJ5_isLatin1_aae02 : ByteArray := prog_12_method_68_code
def yJ5_isLatin1_aae02 : MethodName := ⟨RJ5, "isLatin1", "()Z"⟩
abbrev cJ5_inflateIfNeededFor_a7421 : ByteArray := prog_12_method_71_code
def yJ5_inflateIfNeededFor_a7421 : MethodName := ⟨RJ5, "inflateIfNeededFor", "(Ljava/lang/String;)V"⟩
abbrev cJ5_putStringAt_47b60 : ByteArray := prog_12_method_73_code
def yJ5_putStringAt_47b60 : MethodName := ⟨RJ5, "putStringAt", "(ILjava/lang/String;)V"⟩
def RJx2cfe8 : String := "java/lang/Appendable"
def TJx2cfe8 : u_T := fun k => match k with
  | _ => ("", "", "", false)
def tyJx2cfe8 : Nat → FieldType := fun k => match k with
  | _ => .int
abbrev wsJx2cfe80 : List Cond := u_ws RJx2cfe8 TJx2cfe8 0
theorem nmJx2cfe8 : ∀ a, a < 0 → ∀ b, b < 0 → a ≠ b → (TJx2cfe8 a).2.1 ≠ (TJx2cfe8 b).2.1 := by decide +kernel
theorem tyJx2cfe8_ok : ∀ k, k < 0 → parseFieldDescriptor (TJx2cfe8 k).2.2.1 = some (tyJx2cfe8 k) := by decide +kernel
def RJx9f9b0 : String := "java/lang/CharSequence"
def TJx9f9b0 : u_T := fun k => match k with
  | _ => ("", "", "", false)
def tyJx9f9b0 : Nat → FieldType := fun k => match k with
  | _ => .int
abbrev wsJx9f9b00 : List Cond := u_ws RJx9f9b0 TJx9f9b0 0
theorem nmJx9f9b0 : ∀ a, a < 0 → ∀ b, b < 0 → a ≠ b → (TJx9f9b0 a).2.1 ≠ (TJx9f9b0 b).2.1 := by decide +kernel
theorem tyJx9f9b0_ok : ∀ k, k < 0 → parseFieldDescriptor (TJx9f9b0 k).2.2.1 = some (tyJx9f9b0 k) := by decide +kernel
def RJx8e188 : String := "java/lang/Cloneable"
def TJx8e188 : u_T := fun k => match k with
  | _ => ("", "", "", false)
def tyJx8e188 : Nat → FieldType := fun k => match k with
  | _ => .int
abbrev wsJx8e1880 : List Cond := u_ws RJx8e188 TJx8e188 0
theorem nmJx8e188 : ∀ a, a < 0 → ∀ b, b < 0 → a ≠ b → (TJx8e188 a).2.1 ≠ (TJx8e188 b).2.1 := by decide +kernel
theorem tyJx8e188_ok : ∀ k, k < 0 → parseFieldDescriptor (TJx8e188 k).2.2.1 = some (tyJx8e188 k) := by decide +kernel
def RJxb160c : String := "java/lang/Comparable"
def TJxb160c : u_T := fun k => match k with
  | _ => ("", "", "", false)
def tyJxb160c : Nat → FieldType := fun k => match k with
  | _ => .int
abbrev wsJxb160c0 : List Cond := u_ws RJxb160c TJxb160c 0
theorem nmJxb160c : ∀ a, a < 0 → ∀ b, b < 0 → a ≠ b → (TJxb160c a).2.1 ≠ (TJxb160c b).2.1 := by decide +kernel
theorem tyJxb160c_ok : ∀ k, k < 0 → parseFieldDescriptor (TJxb160c k).2.2.1 = some (tyJxb160c k) := by decide +kernel
def RJ6 : String := "java/lang/Integer"
def TJ6 : u_T := fun k => match k with
  | _ => ("", "", "", false)
def tyJ6 : Nat → FieldType := fun k => match k with
  | _ => .int
abbrev wsJ60 : List Cond := u_ws RJ6 TJ6 0
theorem nmJ6 : ∀ a, a < 0 → ∀ b, b < 0 → a ≠ b → (TJ6 a).2.1 ≠ (TJ6 b).2.1 := by decide +kernel
theorem tyJ6_ok : ∀ k, k < 0 → parseFieldDescriptor (TJ6 k).2.2.1 = some (tyJ6 k) := by decide +kernel
abbrev cJ6_getChars_ba4f3 : ByteArray := prog_21_method_12_code
def yJ6_getChars_ba4f3 : MethodName := ⟨RJ6, "getChars", "(II[B)I"⟩
abbrev cJ6_stringSize_0f7a4 : ByteArray := prog_21_method_13_code
def yJ6_stringSize_0f7a4 : MethodName := ⟨RJ6, "stringSize", "(I)I"⟩
def RJxab1ab : String := "java/lang/Iterable"
def TJxab1ab : u_T := fun k => match k with
  | _ => ("", "", "", false)
def tyJxab1ab : Nat → FieldType := fun k => match k with
  | _ => .int
abbrev wsJxab1ab0 : List Cond := u_ws RJxab1ab TJxab1ab 0
theorem nmJxab1ab : ∀ a, a < 0 → ∀ b, b < 0 → a ≠ b → (TJxab1ab a).2.1 ≠ (TJxab1ab b).2.1 := by decide +kernel
theorem tyJxab1ab_ok : ∀ k, k < 0 → parseFieldDescriptor (TJxab1ab k).2.2.1 = some (tyJxab1ab k) := by decide +kernel
def RJ9 : String := "java/lang/Math"
def TJ9 : u_T := fun k => match k with
  | _ => ("", "", "", false)
def tyJ9 : Nat → FieldType := fun k => match k with
  | _ => .int
abbrev wsJ90 : List Cond := u_ws RJ9 TJ9 0
theorem nmJ9 : ∀ a, a < 0 → ∀ b, b < 0 → a ≠ b → (TJ9 a).2.1 ≠ (TJ9 b).2.1 := by decide +kernel
theorem tyJ9_ok : ∀ k, k < 0 → parseFieldDescriptor (TJ9 k).2.2.1 = some (tyJ9 k) := by decide +kernel
abbrev cJ9_max_7cf53 : ByteArray := prog_23_method_65_code
def yJ9_max_7cf53 : MethodName := ⟨RJ9, "max", "(II)I"⟩
abbrev cJ9_min_7cf53 : ByteArray := prog_23_method_69_code
def yJ9_min_7cf53 : MethodName := ⟨RJ9, "min", "(II)I"⟩
def RJxd2413 : String := "java/lang/Number"
def TJxd2413 : u_T := fun k => match k with
  | _ => ("", "", "", false)
def tyJxd2413 : Nat → FieldType := fun k => match k with
  | _ => .int
abbrev wsJxd24130 : List Cond := u_ws RJxd2413 TJxd2413 0
theorem nmJxd2413 : ∀ a, a < 0 → ∀ b, b < 0 → a ≠ b → (TJxd2413 a).2.1 ≠ (TJxd2413 b).2.1 := by decide +kernel
theorem tyJxd2413_ok : ∀ k, k < 0 → parseFieldDescriptor (TJxd2413 k).2.2.1 = some (tyJxd2413 k) := by decide +kernel
def RJ0 : String := "java/lang/String"
def TJ0 : u_T := fun k => match k with
  | 0 => ("java/lang/String", "value", "[B", true)
  | 1 => ("java/lang/String", "coder", "B", true)
  | 2 => ("java/lang/String", "hash", "I", false)
  | _ => ("java/lang/String", "hashIsZero", "Z", false)
def tyJ0 : Nat → FieldType := fun k => match k with
  | 0 => .array .byte
  | 1 => .byte
  | 2 => .int
  | _ => .boolean
abbrev wsJ00 : List Cond := u_ws RJ0 TJ0 4
theorem nmJ0 : ∀ a, a < 4 → ∀ b, b < 4 → a ≠ b → (TJ0 a).2.1 ≠ (TJ0 b).2.1 := by decide +kernel
theorem tyJ0_ok : ∀ k, k < 4 → parseFieldDescriptor (TJ0 k).2.2.1 = some (tyJ0 k) := by decide +kernel
abbrev cJ0_init_81219 : ByteArray := prog_26_method_53_code
def yJ0_init_81219 : MethodName := ⟨RJ0, "<init>", "(Ljava/lang/StringBuilder;)V"⟩
abbrev cJ0_length_8abf5 : ByteArray := prog_26_method_54_code
def yJ0_length_8abf5 : MethodName := ⟨RJ0, "length", "()I"⟩
abbrev cJ0_getBytes_840e7 : ByteArray := prog_26_method_147_code
def yJ0_getBytes_840e7 : MethodName := ⟨RJ0, "getBytes", "([BIB)V"⟩
abbrev cJ0_init_db425 : ByteArray := prog_26_method_150_code
def yJ0_init_db425 : MethodName := ⟨RJ0, "<init>", "(Ljava/lang/AbstractStringBuilder;Ljava/lang/Void;)V"⟩
abbrev cJ0_coder_7d493 : ByteArray := prog_26_method_152_code
def yJ0_coder_7d493 : MethodName := ⟨RJ0, "coder", "()B"⟩
abbrev cJ0_checkBoundsOffCount_cabcc : ByteArray := prog_26_method_157_code
def yJ0_checkBoundsOffCount_cabcc : MethodName := ⟨RJ0, "checkBoundsOffCount", "(III)I"⟩
abbrev cJ0_checkBoundsBeginEnd_23922 : ByteArray := prog_26_method_158_code
def yJ0_checkBoundsBeginEnd_23922 : MethodName := ⟨RJ0, "checkBoundsBeginEnd", "(III)V"⟩
def RJ4 : String := "java/lang/StringBuilder"
def TJ4 : u_T := fun k => match k with
  | 0 => ("java/lang/AbstractStringBuilder", "value", "[B", false)
  | 1 => ("java/lang/AbstractStringBuilder", "coder", "B", false)
  | 2 => ("java/lang/AbstractStringBuilder", "maybeLatin1", "Z", false)
  | _ => ("java/lang/AbstractStringBuilder", "count", "I", false)
def tyJ4 : Nat → FieldType := fun k => match k with
  | 0 => .array .byte
  | 1 => .byte
  | 2 => .boolean
  | _ => .int
abbrev wsJ40 : List Cond := u_ws RJ4 TJ4 4
theorem nmJ4 : ∀ a, a < 4 → ∀ b, b < 4 → a ≠ b → (TJ4 a).2.1 ≠ (TJ4 b).2.1 := by decide +kernel
theorem tyJ4_ok : ∀ k, k < 4 → parseFieldDescriptor (TJ4 k).2.2.1 = some (tyJ4 k) := by decide +kernel
abbrev cJ4_init_da8c8 : ByteArray := prog_27_method_1_code
def yJ4_init_da8c8 : MethodName := ⟨RJ4, "<init>", "()V"⟩
abbrev cJ4_append_15ec4 : ByteArray := prog_27_method_7_code
def yJ4_append_15ec4 : MethodName := ⟨RJ4, "append", "(Ljava/lang/String;)Ljava/lang/StringBuilder;"⟩
abbrev cJ4_append_bf812 : ByteArray := prog_27_method_15_code
def yJ4_append_bf812 : MethodName := ⟨RJ4, "append", "(I)Ljava/lang/StringBuilder;"⟩
abbrev cJ4_toString_0e30d : ByteArray := prog_27_method_42_code
def yJ4_toString_0e30d : MethodName := ⟨RJ4, "toString", "()Ljava/lang/String;"⟩
abbrev cJ4_length_8abf5 : ByteArray := prog_27_method_93_code
def yJ4_length_8abf5 : MethodName := ⟨RJ4, "length", "()I"⟩
def RJ1 : String := "java/lang/StringLatin1"
def TJ1 : u_T := fun k => match k with
  | _ => ("", "", "", false)
def tyJ1 : Nat → FieldType := fun k => match k with
  | _ => .int
abbrev wsJ10 : List Cond := u_ws RJ1 TJ1 0
theorem nmJ1 : ∀ a, a < 0 → ∀ b, b < 0 → a ≠ b → (TJ1 a).2.1 ≠ (TJ1 b).2.1 := by decide +kernel
theorem tyJ1_ok : ∀ k, k < 0 → parseFieldDescriptor (TJ1 k).2.2.1 = some (tyJ1 k) := by decide +kernel
abbrev cJ1_inflate_0e8fd : ByteArray := prog_28_method_50_code
def yJ1_inflate_0e8fd : MethodName := ⟨RJ1, "inflate", "([BI[BII)V"⟩
def RJ2 : String := "java/lang/StringUTF16"
def TJ2 : u_T := fun k => match k with
  | _ => ("", "", "", false)
def tyJ2 : Nat → FieldType := fun k => match k with
  | _ => .int
abbrev wsJ20 : List Cond := u_ws RJ2 TJ2 0
theorem nmJ2 : ∀ a, a < 0 → ∀ b, b < 0 → a ≠ b → (TJ2 a).2.1 ≠ (TJ2 b).2.1 := by decide +kernel
theorem tyJ2_ok : ∀ k, k < 0 → parseFieldDescriptor (TJ2 k).2.2.1 = some (tyJ2 k) := by decide +kernel
abbrev cJ2_newBytesFor_77867 : ByteArray := prog_29_method_2_code
def yJ2_newBytesFor_77867 : MethodName := ⟨RJ2, "newBytesFor", "(I)[B"⟩
abbrev cJ2_newBytesLength_0f7a4 : ByteArray := prog_29_method_3_code
def yJ2_newBytesLength_0f7a4 : MethodName := ⟨RJ2, "newBytesLength", "(I)I"⟩
abbrev cJ2_putChar_b72d1 : ByteArray := prog_29_method_4_code
def yJ2_putChar_b72d1 : MethodName := ⟨RJ2, "putChar", "([BII)V"⟩
abbrev cJ2_getChar_3b067 : ByteArray := prog_29_method_5_code
def yJ2_getChar_3b067 : MethodName := ⟨RJ2, "getChar", "([BI)C"⟩
abbrev cJ2_length_9d52b : ByteArray := prog_29_method_6_code
def yJ2_length_9d52b : MethodName := ⟨RJ2, "length", "([B)I"⟩
abbrev cJ2_coderFromArrayLen_85cad : ByteArray := prog_29_method_15_code
def yJ2_coderFromArrayLen_85cad : MethodName := ⟨RJ2, "coderFromArrayLen", "([BI)B"⟩
abbrev cJ2_compress_39247 : ByteArray := prog_29_method_17_code
def yJ2_compress_39247 : MethodName := ⟨RJ2, "compress", "([BII)[B"⟩
abbrev cJ2_compress_5af95 : ByteArray := prog_29_method_22_code
def yJ2_compress_5af95 : MethodName := ⟨RJ2, "compress", "([BI[BII)I"⟩
abbrev cJ2_getChars_46870 : ByteArray := prog_29_method_77_code
def yJ2_getChars_46870 : MethodName := ⟨RJ2, "getChars", "(III[B)I"⟩
abbrev cJ2_putCharsAt_cd4e5 : ByteArray := prog_29_method_81_code
def yJ2_putCharsAt_cd4e5 : MethodName := ⟨RJ2, "putCharsAt", "([BICCCC)I"⟩
abbrev cJ2_inflate_0e8fd : ByteArray := prog_29_method_86_code
def yJ2_inflate_0e8fd : MethodName := ⟨RJ2, "inflate", "([BI[BII)V"⟩
abbrev cJ2_getChars_ba4f3 : ByteArray := prog_29_method_89_code
def yJ2_getChars_ba4f3 : MethodName := ⟨RJ2, "getChars", "(II[B)I"⟩
abbrev cJ2_checkBoundsBeginEnd_d044e : ByteArray := prog_29_method_93_code
def yJ2_checkBoundsBeginEnd_d044e : MethodName := ⟨RJ2, "checkBoundsBeginEnd", "(II[B)V"⟩
abbrev cJ2_checkBoundsOffCount_d044e : ByteArray := prog_29_method_94_code
def yJ2_checkBoundsOffCount_d044e : MethodName := ⟨RJ2, "checkBoundsOffCount", "(II[B)V"⟩
def RJ10 : String := "java/lang/System"
def TJ10 : u_T := fun k => match k with
  | _ => ("", "", "", false)
def tyJ10 : Nat → FieldType := fun k => match k with
  | _ => .int
abbrev wsJ100 : List Cond := u_ws RJ10 TJ10 0
theorem nmJ10 : ∀ a, a < 0 → ∀ b, b < 0 → a ≠ b → (TJ10 a).2.1 ≠ (TJ10 b).2.1 := by decide +kernel
theorem tyJ10_ok : ∀ k, k < 0 → parseFieldDescriptor (TJ10 k).2.2.1 = some (tyJ10 k) := by decide +kernel
def RJxfd54e : String := "java/lang/constant/Constable"
def TJxfd54e : u_T := fun k => match k with
  | _ => ("", "", "", false)
def tyJxfd54e : Nat → FieldType := fun k => match k with
  | _ => .int
abbrev wsJxfd54e0 : List Cond := u_ws RJxfd54e TJxfd54e 0
theorem nmJxfd54e : ∀ a, a < 0 → ∀ b, b < 0 → a ≠ b → (TJxfd54e a).2.1 ≠ (TJxfd54e b).2.1 := by decide +kernel
theorem tyJxfd54e_ok : ∀ k, k < 0 → parseFieldDescriptor (TJxfd54e k).2.2.1 = some (tyJxfd54e k) := by decide +kernel
def RJx3cf43 : String := "java/lang/constant/ConstantDesc"
def TJx3cf43 : u_T := fun k => match k with
  | _ => ("", "", "", false)
def tyJx3cf43 : Nat → FieldType := fun k => match k with
  | _ => .int
abbrev wsJx3cf430 : List Cond := u_ws RJx3cf43 TJx3cf43 0
theorem nmJx3cf43 : ∀ a, a < 0 → ∀ b, b < 0 → a ≠ b → (TJx3cf43 a).2.1 ≠ (TJx3cf43 b).2.1 := by decide +kernel
theorem tyJx3cf43_ok : ∀ k, k < 0 → parseFieldDescriptor (TJx3cf43 k).2.2.1 = some (tyJx3cf43 k) := by decide +kernel
def RJxa1e45 : String := "java/util/AbstractCollection"
def TJxa1e45 : u_T := fun k => match k with
  | _ => ("", "", "", false)
def tyJxa1e45 : Nat → FieldType := fun k => match k with
  | _ => .int
abbrev wsJxa1e450 : List Cond := u_ws RJxa1e45 TJxa1e45 0
theorem nmJxa1e45 : ∀ a, a < 0 → ∀ b, b < 0 → a ≠ b → (TJxa1e45 a).2.1 ≠ (TJxa1e45 b).2.1 := by decide +kernel
theorem tyJxa1e45_ok : ∀ k, k < 0 → parseFieldDescriptor (TJxa1e45 k).2.2.1 = some (tyJxa1e45 k) := by decide +kernel
abbrev cJxa1e45_init_da8c8 : ByteArray := prog_34_method_1_code
def yJxa1e45_init_da8c8 : MethodName := ⟨RJxa1e45, "<init>", "()V"⟩
def RJxc12de : String := "java/util/AbstractList"
def TJxc12de : u_T := fun k => match k with
  | _ => ("", "", "", false)
def tyJxc12de : Nat → FieldType := fun k => match k with
  | _ => .int
abbrev wsJxc12de0 : List Cond := u_ws RJxc12de TJxc12de 0
theorem nmJxc12de : ∀ a, a < 0 → ∀ b, b < 0 → a ≠ b → (TJxc12de a).2.1 ≠ (TJxc12de b).2.1 := by decide +kernel
theorem tyJxc12de_ok : ∀ k, k < 0 → parseFieldDescriptor (TJxc12de k).2.2.1 = some (tyJxc12de k) := by decide +kernel
abbrev cJxc12de_init_da8c8 : ByteArray := prog_35_method_1_code
def yJxc12de_init_da8c8 : MethodName := ⟨RJxc12de, "<init>", "()V"⟩
def RJx4a65c : String := "java/util/ArrayList"
def TJx4a65c : u_T := fun k => match k with
  | 0 => ("java/util/AbstractList", "modCount", "I", false)
  | 1 => ("java/util/ArrayList", "elementData", "[Ljava/lang/Object;", false)
  | _ => ("java/util/ArrayList", "size", "I", false)
def tyJx4a65c : Nat → FieldType := fun k => match k with
  | 0 => .int
  | 1 => .array (.object "java/lang/Object")
  | _ => .int
abbrev wsJx4a65c0 : List Cond := u_ws RJx4a65c TJx4a65c 3
theorem nmJx4a65c : ∀ a, a < 3 → ∀ b, b < 3 → a ≠ b → (TJx4a65c a).2.1 ≠ (TJx4a65c b).2.1 := by decide +kernel
theorem tyJx4a65c_ok : ∀ k, k < 3 → parseFieldDescriptor (TJx4a65c k).2.2.1 = some (tyJx4a65c k) := by decide +kernel
abbrev cJx4a65c_init_da8c8 : ByteArray := prog_36_method_2_code
def yJx4a65c_init_da8c8 : MethodName := ⟨RJx4a65c, "<init>", "()V"⟩
abbrev cJx4a65c_grow_92f84 : ByteArray := prog_36_method_6_code
def yJx4a65c_grow_92f84 : MethodName := ⟨RJx4a65c, "grow", "(I)[Ljava/lang/Object;"⟩
abbrev cJx4a65c_grow_d5877 : ByteArray := prog_36_method_7_code
def yJx4a65c_grow_d5877 : MethodName := ⟨RJx4a65c, "grow", "()[Ljava/lang/Object;"⟩
abbrev cJx4a65c_size_8abf5 : ByteArray := prog_36_method_8_code
def yJx4a65c_size_8abf5 : MethodName := ⟨RJx4a65c, "size", "()I"⟩
abbrev cJx4a65c_elementData_915e3 : ByteArray := prog_36_method_18_code
def yJx4a65c_elementData_915e3 : MethodName := ⟨RJx4a65c, "elementData", "(I)Ljava/lang/Object;"⟩
abbrev cJx4a65c_get_915e3 : ByteArray := prog_36_method_20_code
def yJx4a65c_get_915e3 : MethodName := ⟨RJx4a65c, "get", "(I)Ljava/lang/Object;"⟩
abbrev cJx4a65c_add_72be8 : ByteArray := prog_36_method_24_code
def yJx4a65c_add_72be8 : MethodName := ⟨RJx4a65c, "add", "(Ljava/lang/Object;[Ljava/lang/Object;I)V"⟩
abbrev cJx4a65c_add_9ea2d : ByteArray := prog_36_method_25_code
def yJx4a65c_add_9ea2d : MethodName := ⟨RJx4a65c, "add", "(Ljava/lang/Object;)Z"⟩
abbrev cJx4a65c_add_7a177 : ByteArray := prog_36_method_26_code
def yJx4a65c_add_7a177 : MethodName := ⟨RJx4a65c, "add", "(ILjava/lang/Object;)V"⟩
abbrev cJx4a65c_remove_915e3 : ByteArray := prog_36_method_29_code
def yJx4a65c_remove_915e3 : MethodName := ⟨RJx4a65c, "remove", "(I)Ljava/lang/Object;"⟩
abbrev cJx4a65c_fastRemove_b59b0 : ByteArray := prog_36_method_39_code
def yJx4a65c_fastRemove_b59b0 : MethodName := ⟨RJx4a65c, "fastRemove", "([Ljava/lang/Object;I)V"⟩
abbrev cJx4a65c_rangeCheckForAdd_d00df : ByteArray := prog_36_method_45_code
def yJx4a65c_rangeCheckForAdd_d00df : MethodName := ⟨RJx4a65c, "rangeCheckForAdd", "(I)V"⟩
abbrev cJx4a65c_outOfBoundsMsg_b52d3 : ByteArray := prog_36_method_46_code
def yJx4a65c_outOfBoundsMsg_b52d3 : MethodName := ⟨RJx4a65c, "outOfBoundsMsg", "(I)Ljava/lang/String;"⟩
def RJ7 : String := "java/util/Arrays"
def TJ7 : u_T := fun k => match k with
  | _ => ("", "", "", false)
def tyJ7 : Nat → FieldType := fun k => match k with
  | _ => .int
abbrev wsJ70 : List Cond := u_ws RJ7 TJ7 0
theorem nmJ7 : ∀ a, a < 0 → ∀ b, b < 0 → a ≠ b → (TJ7 a).2.1 ≠ (TJ7 b).2.1 := by decide +kernel
theorem tyJ7_ok : ∀ k, k < 0 → parseFieldDescriptor (TJ7 k).2.2.1 = some (tyJ7 k) := by decide +kernel
abbrev cJ7_copyOf_1904c : ByteArray := prog_37_method_119_code
def yJ7_copyOf_1904c : MethodName := ⟨RJ7, "copyOf", "([Ljava/lang/Object;I)[Ljava/lang/Object;"⟩
abbrev cJ7_copyOf_6403c : ByteArray := prog_37_method_120_code
def yJ7_copyOf_6403c : MethodName := ⟨RJ7, "copyOf", "([Ljava/lang/Object;ILjava/lang/Class;)[Ljava/lang/Object;"⟩
abbrev cJ7_copyOf_9075b : ByteArray := prog_37_method_121_code
def yJ7_copyOf_9075b : MethodName := ⟨RJ7, "copyOf", "([BI)[B"⟩
abbrev cJ7_checkLength_df160 : ByteArray := prog_37_method_131_code
def yJ7_checkLength_df160 : MethodName := ⟨RJ7, "checkLength", "(II)V"⟩
abbrev cJ7_copyOfRange_39247 : ByteArray := prog_37_method_132_code
def yJ7_copyOfRange_39247 : MethodName := ⟨RJ7, "copyOfRange", "([BII)[B"⟩
abbrev cJ7_copyOfRangeByte_39247 : ByteArray := prog_37_method_133_code
def yJ7_copyOfRangeByte_39247 : MethodName := ⟨RJ7, "copyOfRangeByte", "([BII)[B"⟩
def RJx5ef63 : String := "java/util/Collection"
def TJx5ef63 : u_T := fun k => match k with
  | _ => ("", "", "", false)
def tyJx5ef63 : Nat → FieldType := fun k => match k with
  | _ => .int
abbrev wsJx5ef630 : List Cond := u_ws RJx5ef63 TJx5ef63 0
theorem nmJx5ef63 : ∀ a, a < 0 → ∀ b, b < 0 → a ≠ b → (TJx5ef63 a).2.1 ≠ (TJx5ef63 b).2.1 := by decide +kernel
theorem tyJx5ef63_ok : ∀ k, k < 0 → parseFieldDescriptor (TJx5ef63 k).2.2.1 = some (tyJx5ef63 k) := by decide +kernel
def RJxbd725 : String := "java/util/List"
def TJxbd725 : u_T := fun k => match k with
  | _ => ("", "", "", false)
def tyJxbd725 : Nat → FieldType := fun k => match k with
  | _ => .int
abbrev wsJxbd7250 : List Cond := u_ws RJxbd725 TJxbd725 0
theorem nmJxbd725 : ∀ a, a < 0 → ∀ b, b < 0 → a ≠ b → (TJxbd725 a).2.1 ≠ (TJxbd725 b).2.1 := by decide +kernel
theorem tyJxbd725_ok : ∀ k, k < 0 → parseFieldDescriptor (TJxbd725 k).2.2.1 = some (tyJxbd725 k) := by decide +kernel
def RJ15 : String := "java/util/Objects"
def TJ15 : u_T := fun k => match k with
  | _ => ("", "", "", false)
def tyJ15 : Nat → FieldType := fun k => match k with
  | _ => .int
abbrev wsJ150 : List Cond := u_ws RJ15 TJ15 0
theorem nmJ15 : ∀ a, a < 0 → ∀ b, b < 0 → a ≠ b → (TJ15 a).2.1 ≠ (TJ15 b).2.1 := by decide +kernel
theorem tyJ15_ok : ∀ k, k < 0 → parseFieldDescriptor (TJ15 k).2.2.1 = some (tyJ15 k) := by decide +kernel
abbrev cJ15_checkIndex_7cf53 : ByteArray := prog_40_method_17_code
def yJ15_checkIndex_7cf53 : MethodName := ⟨RJ15, "checkIndex", "(II)I"⟩
def RJxf0a74 : String := "java/util/RandomAccess"
def TJxf0a74 : u_T := fun k => match k with
  | _ => ("", "", "", false)
def tyJxf0a74 : Nat → FieldType := fun k => match k with
  | _ => .int
abbrev wsJxf0a740 : List Cond := u_ws RJxf0a74 TJxf0a74 0
theorem nmJxf0a74 : ∀ a, a < 0 → ∀ b, b < 0 → a ≠ b → (TJxf0a74 a).2.1 ≠ (TJxf0a74 b).2.1 := by decide +kernel
theorem tyJxf0a74_ok : ∀ k, k < 0 → parseFieldDescriptor (TJxf0a74 k).2.2.1 = some (tyJxf0a74 k) := by decide +kernel
def RJxa66e6 : String := "java/util/SequencedCollection"
def TJxa66e6 : u_T := fun k => match k with
  | _ => ("", "", "", false)
def tyJxa66e6 : Nat → FieldType := fun k => match k with
  | _ => .int
abbrev wsJxa66e60 : List Cond := u_ws RJxa66e6 TJxa66e6 0
theorem nmJxa66e6 : ∀ a, a < 0 → ∀ b, b < 0 → a ≠ b → (TJxa66e6 a).2.1 ≠ (TJxa66e6 b).2.1 := by decide +kernel
theorem tyJxa66e6_ok : ∀ k, k < 0 → parseFieldDescriptor (TJxa66e6 k).2.2.1 = some (tyJxa66e6 k) := by decide +kernel
def RJ8 : String := "jdk/internal/util/ArraysSupport"
def TJ8 : u_T := fun k => match k with
  | _ => ("", "", "", false)
def tyJ8 : Nat → FieldType := fun k => match k with
  | _ => .int
abbrev wsJ80 : List Cond := u_ws RJ8 TJ8 0
theorem nmJ8 : ∀ a, a < 0 → ∀ b, b < 0 → a ≠ b → (TJ8 a).2.1 ≠ (TJ8 b).2.1 := by decide +kernel
theorem tyJ8_ok : ∀ k, k < 0 → parseFieldDescriptor (TJ8 k).2.2.1 = some (tyJ8 k) := by decide +kernel
abbrev cJ8_newLength_cabcc : ByteArray := prog_43_method_27_code
def yJ8_newLength_cabcc : MethodName := ⟨RJ8, "newLength", "(III)I"⟩
abbrev cJ8_hugeLength_7cf53 : ByteArray := prog_43_method_28_code
def yJ8_hugeLength_7cf53 : MethodName := ⟨RJ8, "hugeLength", "(II)I"⟩
def RJ3 : String := "jdk/internal/util/Preconditions"
def TJ3 : u_T := fun k => match k with
  | _ => ("", "", "", false)
def tyJ3 : Nat → FieldType := fun k => match k with
  | _ => .int
abbrev wsJ30 : List Cond := u_ws RJ3 TJ3 0
theorem nmJ3 : ∀ a, a < 0 → ∀ b, b < 0 → a ≠ b → (TJ3 a).2.1 ≠ (TJ3 b).2.1 := by decide +kernel
theorem tyJ3_ok : ∀ k, k < 0 → parseFieldDescriptor (TJ3 k).2.2.1 = some (tyJ3 k) := by decide +kernel
abbrev cJ3_checkIndex_8e157 : ByteArray := prog_44_method_11_code
def yJ3_checkIndex_8e157 : MethodName := ⟨RJ3, "checkIndex", "(IILjava/util/function/BiFunction;)I"⟩
abbrev cJ3_checkFromToIndex_8c36e : ByteArray := prog_44_method_12_code
def yJ3_checkFromToIndex_8c36e : MethodName := ⟨RJ3, "checkFromToIndex", "(IIILjava/util/function/BiFunction;)I"⟩
abbrev cJ3_checkFromIndexSize_8c36e : ByteArray := prog_44_method_13_code
def yJ3_checkFromIndexSize_8c36e : MethodName := ⟨RJ3, "checkFromIndexSize", "(IIILjava/util/function/BiFunction;)I"⟩
def RL : String := "GutterPagesLaw"
abbrev cL_page : ByteArray := method_3_code
def yL_page : MethodName := ⟨RL, "page", "(LGutterPages;[J)I"⟩
abbrev cL_panel : ByteArray := method_4_code
def yL_panel : MethodName := ⟨RL, "panel", "(LGutterPages;IIIII[J)I"⟩
abbrev cL_movePanel : ByteArray := method_5_code
def yL_movePanel : MethodName := ⟨RL, "movePanel", "(LGutterPages;II[J)I"⟩
abbrev cL_cutPanel : ByteArray := method_6_code
def yL_cutPanel : MethodName := ⟨RL, "cutPanel", "(LGutterPages;I[J)I"⟩
abbrev cL_face : ByteArray := method_7_code
def yL_face : MethodName := ⟨RL, "face", "(LGutterPages;IIII[J)I"⟩
abbrev cL_balloon : ByteArray := method_8_code
def yL_balloon : MethodName := ⟨RL, "balloon", "(LGutterPages;III[J)I"⟩
abbrev cL_moveBalloon : ByteArray := method_9_code
def yL_moveBalloon : MethodName := ⟨RL, "moveBalloon", "(LGutterPages;III)I"⟩
abbrev cL_cutBalloon : ByteArray := method_10_code
def yL_cutBalloon : MethodName := ⟨RL, "cutBalloon", "(LGutterPages;I[J)I"⟩
abbrev cL_answer : ByteArray := method_11_code
def yL_answer : MethodName := ⟨RL, "answer", "(LGutterPages;II[J)I"⟩
abbrev cL_translate : ByteArray := method_12_code
def yL_translate : MethodName := ⟨RL, "translate", "(LGutterPages;II[J)I"⟩
abbrev cL_setGrowth : ByteArray := method_13_code
def yL_setGrowth : MethodName := ⟨RL, "setGrowth", "(LGutterPages;II[J)I"⟩
abbrev cL_rows : ByteArray := method_14_code
def yL_rows : MethodName := ⟨RL, "rows", "(LGutterPages;I[J)I"⟩
abbrev cL_panels : ByteArray := method_15_code
def yL_panels : MethodName := ⟨RL, "panels", "(LGutterPages;I[J)I"⟩
abbrev cL_panelAt : ByteArray := method_16_code
def yL_panelAt : MethodName := ⟨RL, "panelAt", "(LGutterPages;II[J)I"⟩
abbrev cL_lies : ByteArray := method_17_code
def yL_lies : MethodName := ⟨RL, "lies", "(LGutterPages;II[J)I"⟩
abbrev cL_floats : ByteArray := method_18_code
def yL_floats : MethodName := ⟨RL, "floats", "(LGutterPages;II[J)I"⟩
abbrev cL_cell : ByteArray := method_19_code
def yL_cell : MethodName := ⟨RL, "cell", "(LGutterPages;III[J)I"⟩
abbrev cL_read : ByteArray := method_20_code
def yL_read : MethodName := ⟨RL, "read", "(LGutterPages;I[J)I"⟩
abbrev cL_placeOf : ByteArray := method_21_code
def yL_placeOf : MethodName := ⟨RL, "placeOf", "(LGutterPages;I[J)I"⟩
abbrev cL_placeByPairs : ByteArray := method_22_code
def yL_placeByPairs : MethodName := ⟨RL, "placeByPairs", "(LGutterPages;I[J)I"⟩
abbrev cL_depth : ByteArray := method_23_code
def yL_depth : MethodName := ⟨RL, "depth", "(LGutterPages;I[J)I"⟩
abbrev cL_spread : ByteArray := method_24_code
def yL_spread : MethodName := ⟨RL, "spread", "(LGutterPages;I[J)I"⟩
abbrev cL_leaves : ByteArray := method_25_code
def yL_leaves : MethodName := ⟨RL, "leaves", "(LGutterPages;I[J)I"⟩
abbrev cL_leaf : ByteArray := method_26_code
def yL_leaf : MethodName := ⟨RL, "leaf", "(LGutterPages;II[J)I"⟩
abbrev cL_beside : ByteArray := method_27_code
def yL_beside : MethodName := ⟨RL, "beside", "(LGutterPages;II[J)I"⟩
abbrev cL_sheet : ByteArray := method_28_code
def yL_sheet : MethodName := ⟨RL, "sheet", "(LGutterPages;II[J)I"⟩
abbrev cL_jump : ByteArray := method_29_code
def yL_jump : MethodName := ⟨RL, "jump", "(LGutterPages;I[J)I"⟩
abbrev cL_law : ByteArray := code
def yL_law : MethodName := ⟨RL, "law", "([I)Z"⟩
theorem q_inX0 : ∀ w ∈ wsX00, w ∈ lw_tbl := by decide +kernel
theorem q_inX1 : ∀ w ∈ wsX10, w ∈ lw_tbl := by decide +kernel
theorem q_inX2 : ∀ w ∈ wsX20, w ∈ lw_tbl := by decide +kernel
theorem q_inX3 : ∀ w ∈ wsX30, w ∈ lw_tbl := by decide +kernel
theorem q_inX4 : ∀ w ∈ wsX40, w ∈ lw_tbl := by decide +kernel
theorem q_inX5 : ∀ w ∈ wsX50, w ∈ lw_tbl := by decide +kernel
theorem q_inX6 : ∀ w ∈ wsX60, w ∈ lw_tbl := by decide +kernel
theorem q_inX7 : ∀ w ∈ wsX70, w ∈ lw_tbl := by decide +kernel
theorem q_inX8 : ∀ w ∈ wsX80, w ∈ lw_tbl := by decide +kernel
theorem q_inJL : ∀ w ∈ wsJx4a65c0, w ∈ lw_tbl := by decide +kernel
