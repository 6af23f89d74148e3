/-! names: the printed text of NAMES (names, fields, codes) -/
def RX0 : String := "GutterPages$Balloon"
def TX0 : u_T := fun k => match k with
  | 0 => ("GutterPages$Balloon", "number", "I", true)
  | 1 => ("GutterPages$Balloon", "letters", "I", true)
  | 2 => ("GutterPages$Balloon", "laid", "LGutterPages$Box;", true)
  | 3 => ("GutterPages$Balloon", "tried", "LGutterPages$Box;", true)
  | 4 => ("GutterPages$Balloon", "home", "LGutterPages$Panel;", false)
  | 5 => ("GutterPages$Balloon", "answered", "LGutterPages$Balloon;", false)
  | _ => ("GutterPages$Balloon", "gone", "Z", false)
def tyX0 : Nat → FieldType := fun k => match k with
  | 0 => .int
  | 1 => .int
  | 2 => .object "GutterPages$Box"
  | 3 => .object "GutterPages$Box"
  | 4 => .object "GutterPages$Panel"
  | 5 => .object "GutterPages$Balloon"
  | _ => .boolean
abbrev wsX00 : List Cond := u_ws RX0 TX0 7
theorem nmX0 : ∀ a, a < 7 → ∀ b, b < 7 → a ≠ b → (TX0 a).2.1 ≠ (TX0 b).2.1 := by decide +kernel
theorem tyX0_ok : ∀ k, k < 7 → parseFieldDescriptor (TX0 k).2.2.1 = some (tyX0 k) := by decide +kernel
abbrev cX0_init : ByteArray := prog_2_method_1_code
def yX0_init : MethodName := ⟨RX0, "<init>", "(ILGutterPages$Panel;I)V"⟩
abbrev cX0_goTo : ByteArray := prog_2_method_2_code
def yX0_goTo : MethodName := ⟨RX0, "goTo", "(LGutterPages$Panel;I)V"⟩
abbrev cX0_readingKey : ByteArray := prog_2_method_3_code
def yX0_readingKey : MethodName := ⟨RX0, "readingKey", "()I"⟩
abbrev cX0_liesBefore : ByteArray := prog_2_method_4_code
def yX0_liesBefore : MethodName := ⟨RX0, "liesBefore", "(LGutterPages$Balloon;)Z"⟩
abbrev cX0_isNearer : ByteArray := prog_2_method_5_code
def yX0_isNearer : MethodName := ⟨RX0, "isNearer", "(LGutterPages$Box;LGutterPages$Box;IZ)Z"⟩
def RX1 : String := "GutterPages$Box"
def TX1 : u_T := fun k => match k with
  | 0 => ("GutterPages$Box", "left", "I", false)
  | 1 => ("GutterPages$Box", "top", "I", false)
  | 2 => ("GutterPages$Box", "width", "I", false)
  | _ => ("GutterPages$Box", "height", "I", false)
def tyX1 : Nat → FieldType := fun k => match k with
  | 0 => .int
  | 1 => .int
  | 2 => .int
  | _ => .int
abbrev wsX10 : List Cond := u_ws RX1 TX1 4
theorem nmX1 : ∀ a, a < 4 → ∀ b, b < 4 → a ≠ b → (TX1 a).2.1 ≠ (TX1 b).2.1 := by decide +kernel
theorem tyX1_ok : ∀ k, k < 4 → parseFieldDescriptor (TX1 k).2.2.1 = some (tyX1 k) := by decide +kernel
abbrev cX1_init : ByteArray := prog_3_method_1_code
def yX1_init : MethodName := ⟨RX1, "<init>", "()V"⟩
abbrev cX1_set : ByteArray := prog_3_method_2_code
def yX1_set : MethodName := ⟨RX1, "set", "(LGutterPages$Box;)V"⟩
abbrev cX1_isLike : ByteArray := prog_3_method_3_code
def yX1_isLike : MethodName := ⟨RX1, "isLike", "(LGutterPages$Box;)Z"⟩
abbrev cX1_holds : ByteArray := prog_3_method_4_code
def yX1_holds : MethodName := ⟨RX1, "holds", "(II)Z"⟩
abbrev cX1_measure : ByteArray := prog_3_method_5_code
def yX1_measure : MethodName := ⟨RX1, "measure", "(I)I"⟩
def RX2 : String := "GutterPages$Face"
def TX2 : u_T := fun k => match k with
  | 0 => ("GutterPages$Face", "column", "I", true)
  | 1 => ("GutterPages$Face", "width", "I", true)
  | _ => ("GutterPages$Face", "height", "I", true)
def tyX2 : Nat → FieldType := fun k => match k with
  | 0 => .int
  | 1 => .int
  | _ => .int
abbrev wsX20 : List Cond := u_ws RX2 TX2 3
theorem nmX2 : ∀ a, a < 3 → ∀ b, b < 3 → a ≠ b → (TX2 a).2.1 ≠ (TX2 b).2.1 := by decide +kernel
theorem tyX2_ok : ∀ k, k < 3 → parseFieldDescriptor (TX2 k).2.2.1 = some (tyX2 k) := by decide +kernel
abbrev cX2_init : ByteArray := prog_4_method_1_code
def yX2_init : MethodName := ⟨RX2, "<init>", "(III)V"⟩
def RX3 : String := "GutterPages$Layout"
def TX3 : u_T := fun k => match k with
  | 0 => ("GutterPages$Layout", "growth", "[I", true)
  | _ => ("GutterPages$Layout", "taken", "[I", true)
def tyX3 : Nat → FieldType := fun k => match k with
  | 0 => .array .int
  | _ => .array .int
abbrev wsX30 : List Cond := u_ws RX3 TX3 2
theorem nmX3 : ∀ a, a < 2 → ∀ b, b < 2 → a ≠ b → (TX3 a).2.1 ≠ (TX3 b).2.1 := by decide +kernel
theorem tyX3_ok : ∀ k, k < 2 → parseFieldDescriptor (TX3 k).2.2.1 = some (tyX3 k) := by decide +kernel
abbrev cX3_init : ByteArray := prog_5_method_1_code
def yX3_init : MethodName := ⟨RX3, "<init>", "()V"⟩
abbrev cX3_tryPage : ByteArray := prog_5_method_2_code
def yX3_tryPage : MethodName := ⟨RX3, "tryPage", "(LGutterPages$Page;)Z"⟩
abbrev cX3_shareWidth : ByteArray := prog_5_method_3_code
def yX3_shareWidth : MethodName := ⟨RX3, "shareWidth", "(LGutterPages$Page;III)V"⟩
abbrev cX3_heightOfRow : ByteArray := prog_5_method_4_code
def yX3_heightOfRow : MethodName := ⟨RX3, "heightOfRow", "(LGutterPages$Page;II)I"⟩
abbrev cX3_fitsInto : ByteArray := prog_5_method_5_code
def yX3_fitsInto : MethodName := ⟨RX3, "fitsInto", "(ILGutterPages$Page;II)Z"⟩
abbrev cX3_putRow : ByteArray := prog_5_method_6_code
def yX3_putRow : MethodName := ⟨RX3, "putRow", "(LGutterPages$Page;III)V"⟩
abbrev cX3_placeBalloons : ByteArray := prog_5_method_7_code
def yX3_placeBalloons : MethodName := ⟨RX3, "placeBalloons", "(LGutterPages$Panel;)Z"⟩
abbrev cX3_growthOf : ByteArray := prog_5_method_8_code
def yX3_growthOf : MethodName := ⟨RX3, "growthOf", "(LGutterPages$Page;)I"⟩
abbrev cX3_takeFaces : ByteArray := prog_5_method_9_code
def yX3_takeFaces : MethodName := ⟨RX3, "takeFaces", "(LGutterPages$Panel;)V"⟩
abbrev cX3_take : ByteArray := prog_5_method_10_code
def yX3_take : MethodName := ⟨RX3, "take", "(IIII)V"⟩
abbrev cX3_findSpot : ByteArray := prog_5_method_11_code
def yX3_findSpot : MethodName := ⟨RX3, "findSpot", "(LGutterPages$Box;IILGutterPages$Box;Z)Z"⟩
abbrev cX3_takenBetween : ByteArray := prog_5_method_12_code
def yX3_takenBetween : MethodName := ⟨RX3, "takenBetween", "(II)I"⟩
abbrev cX3_bitsOf : ByteArray := prog_5_method_13_code
def yX3_bitsOf : MethodName := ⟨RX3, "bitsOf", "(II)I"⟩
def RX4 : String := "GutterPages$Page"
def TX4 : u_T := fun k => match k with
  | 0 => ("GutterPages$Page", "number", "I", true)
  | 1 => ("GutterPages$Page", "row", "Ljava/util/ArrayList;", true)
  | 2 => ("GutterPages$Page", "tongue", "I", false)
  | 3 => ("GutterPages$Page", "rowCount", "I", false)
  | 4 => ("GutterPages$Page", "triedRowCount", "I", false)
  | _ => ("GutterPages$Page", "joined", "Z", false)
def tyX4 : Nat → FieldType := fun k => match k with
  | 0 => .int
  | 1 => .object "java/util/ArrayList"
  | 2 => .int
  | 3 => .int
  | 4 => .int
  | _ => .boolean
abbrev wsX40 : List Cond := u_ws RX4 TX4 6
theorem nmX4 : ∀ a, a < 6 → ∀ b, b < 6 → a ≠ b → (TX4 a).2.1 ≠ (TX4 b).2.1 := by decide +kernel
theorem tyX4_ok : ∀ k, k < 6 → parseFieldDescriptor (TX4 k).2.2.1 = some (tyX4 k) := by decide +kernel
abbrev cX4_init : ByteArray := prog_6_method_1_code
def yX4_init : MethodName := ⟨RX4, "<init>", "(I)V"⟩
abbrev cX4_isFromRight : ByteArray := prog_6_method_2_code
def yX4_isFromRight : MethodName := ⟨RX4, "isFromRight", "()Z"⟩
abbrev cX4_indexOf : ByteArray := prog_6_method_3_code
def yX4_indexOf : MethodName := ⟨RX4, "indexOf", "(LGutterPages$Panel;)I"⟩
abbrev cX4_takeOut : ByteArray := prog_6_method_4_code
def yX4_takeOut : MethodName := ⟨RX4, "takeOut", "(I)V"⟩
abbrev cX4_putIn : ByteArray := prog_6_method_5_code
def yX4_putIn : MethodName := ⟨RX4, "putIn", "(ILGutterPages$Panel;)V"⟩
abbrev cX4_keepTrial : ByteArray := prog_6_method_6_code
def yX4_keepTrial : MethodName := ⟨RX4, "keepTrial", "()I"⟩
def RX5 : String := "GutterPages$Panel"
def TX5 : u_T := fun k => match k with
  | 0 => ("GutterPages$Panel", "number", "I", true)
  | 1 => ("GutterPages$Panel", "home", "LGutterPages$Page;", true)
  | 2 => ("GutterPages$Panel", "weight", "I", true)
  | 3 => ("GutterPages$Panel", "leastWidth", "I", true)
  | 4 => ("GutterPages$Panel", "leastHeight", "I", true)
  | 5 => ("GutterPages$Panel", "faces", "Ljava/util/ArrayList;", true)
  | 6 => ("GutterPages$Panel", "row", "Ljava/util/ArrayList;", true)
  | 7 => ("GutterPages$Panel", "laid", "LGutterPages$Box;", true)
  | 8 => ("GutterPages$Panel", "tried", "LGutterPages$Box;", true)
  | 9 => ("GutterPages$Panel", "rowNumber", "I", false)
  | 10 => ("GutterPages$Panel", "triedRowNumber", "I", false)
  | _ => ("GutterPages$Panel", "gone", "Z", false)
def tyX5 : Nat → FieldType := fun k => match k with
  | 0 => .int
  | 1 => .object "GutterPages$Page"
  | 2 => .int
  | 3 => .int
  | 4 => .int
  | 5 => .object "java/util/ArrayList"
  | 6 => .object "java/util/ArrayList"
  | 7 => .object "GutterPages$Box"
  | 8 => .object "GutterPages$Box"
  | 9 => .int
  | 10 => .int
  | _ => .boolean
abbrev wsX50 : List Cond := u_ws RX5 TX5 12
theorem nmX5 : ∀ a, a < 12 → ∀ b, b < 12 → a ≠ b → (TX5 a).2.1 ≠ (TX5 b).2.1 := by decide +kernel
theorem tyX5_ok : ∀ k, k < 12 → parseFieldDescriptor (TX5 k).2.2.1 = some (tyX5 k) := by decide +kernel
abbrev cX5_init : ByteArray := prog_7_method_1_code
def yX5_init : MethodName := ⟨RX5, "<init>", "(ILGutterPages$Page;III)V"⟩
abbrev cX5_indexOf : ByteArray := prog_7_method_2_code
def yX5_indexOf : MethodName := ⟨RX5, "indexOf", "(LGutterPages$Balloon;)I"⟩
abbrev cX5_takeOut : ByteArray := prog_7_method_3_code
def yX5_takeOut : MethodName := ⟨RX5, "takeOut", "(I)V"⟩
abbrev cX5_putIn : ByteArray := prog_7_method_4_code
def yX5_putIn : MethodName := ⟨RX5, "putIn", "(ILGutterPages$Balloon;)V"⟩
abbrev cX5_dropLastFace : ByteArray := prog_7_method_5_code
def yX5_dropLastFace : MethodName := ⟨RX5, "dropLastFace", "()V"⟩
abbrev cX5_hasFaceAt : ByteArray := prog_7_method_6_code
def yX5_hasFaceAt : MethodName := ⟨RX5, "hasFaceAt", "(II)Z"⟩
abbrev cX5_keepTrial : ByteArray := prog_7_method_7_code
def yX5_keepTrial : MethodName := ⟨RX5, "keepTrial", "()V"⟩
abbrev cX5_leave : ByteArray := prog_7_method_8_code
def yX5_leave : MethodName := ⟨RX5, "leave", "()V"⟩
def RX6 : String := "GutterPages$Reader"
def TX6 : u_T := fun k => match k with
  | 0 => ("GutterPages$Reader", "kept", "[LGutterPages$Panel;", true)
  | 1 => ("GutterPages$Reader", "keptCount", "I", false)
  | _ => ("GutterPages$Reader", "at", "LGutterPages$Panel;", false)
def tyX6 : Nat → FieldType := fun k => match k with
  | 0 => .array (.object "GutterPages$Panel")
  | 1 => .int
  | _ => .object "GutterPages$Panel"
abbrev wsX60 : List Cond := u_ws RX6 TX6 3
theorem nmX6 : ∀ a, a < 3 → ∀ b, b < 3 → a ≠ b → (TX6 a).2.1 ≠ (TX6 b).2.1 := by decide +kernel
theorem tyX6_ok : ∀ k, k < 3 → parseFieldDescriptor (TX6 k).2.2.1 = some (tyX6 k) := by decide +kernel
abbrev cX6_init : ByteArray := prog_8_method_1_code
def yX6_init : MethodName := ⟨RX6, "<init>", "()V"⟩
abbrev cX6_beginAt : ByteArray := prog_8_method_2_code
def yX6_beginAt : MethodName := ⟨RX6, "beginAt", "(LGutterPages$Panel;)V"⟩
abbrev cX6_goTo : ByteArray := prog_8_method_3_code
def yX6_goTo : MethodName := ⟨RX6, "goTo", "(LGutterPages$Panel;)V"⟩
abbrev cX6_goBack : ByteArray := prog_8_method_4_code
def yX6_goBack : MethodName := ⟨RX6, "goBack", "()Z"⟩
abbrev cX6_forget : ByteArray := prog_8_method_5_code
def yX6_forget : MethodName := ⟨RX6, "forget", "(LGutterPages$Panel;LGutterPages$Panel;)V"⟩
def RX7 : String := "GutterPages"
def TX7 : u_T := fun k => match k with
  | 0 => ("GutterPages", "book", "Ljava/util/ArrayList;", true)
  | 1 => ("GutterPages", "everyPanel", "Ljava/util/ArrayList;", true)
  | 2 => ("GutterPages", "everyBalloon", "Ljava/util/ArrayList;", true)
  | 3 => ("GutterPages", "layout", "LGutterPages$Layout;", true)
  | _ => ("GutterPages", "reader", "LGutterPages$Reader;", true)
def tyX7 : Nat → FieldType := fun k => match k with
  | 0 => .object "java/util/ArrayList"
  | 1 => .object "java/util/ArrayList"
  | 2 => .object "java/util/ArrayList"
  | 3 => .object "GutterPages$Layout"
  | _ => .object "GutterPages$Reader"
abbrev wsX70 : List Cond := u_ws RX7 TX7 5
theorem nmX7 : ∀ a, a < 5 → ∀ b, b < 5 → a ≠ b → (TX7 a).2.1 ≠ (TX7 b).2.1 := by decide +kernel
theorem tyX7_ok : ∀ k, k < 5 → parseFieldDescriptor (TX7 k).2.2.1 = some (tyX7 k) := by decide +kernel
abbrev cX7_init : ByteArray := prog_1_method_1_code
def yX7_init : MethodName := ⟨RX7, "<init>", "()V"⟩
abbrev cX7_page : ByteArray := prog_1_method_2_code
def yX7_page : MethodName := ⟨RX7, "page", "()I"⟩
abbrev cX7_panel : ByteArray := prog_1_method_3_code
def yX7_panel : MethodName := ⟨RX7, "panel", "(IIIII)I"⟩
abbrev cX7_movePanel : ByteArray := prog_1_method_4_code
def yX7_movePanel : MethodName := ⟨RX7, "movePanel", "(II)I"⟩
abbrev cX7_cutPanel : ByteArray := prog_1_method_5_code
def yX7_cutPanel : MethodName := ⟨RX7, "cutPanel", "(I)I"⟩
abbrev cX7_face : ByteArray := prog_1_method_6_code
def yX7_face : MethodName := ⟨RX7, "face", "(IIII)I"⟩
abbrev cX7_balloon : ByteArray := prog_1_method_7_code
def yX7_balloon : MethodName := ⟨RX7, "balloon", "(III)I"⟩
abbrev cX7_moveBalloon : ByteArray := prog_1_method_8_code
def yX7_moveBalloon : MethodName := ⟨RX7, "moveBalloon", "(III)V"⟩
abbrev cX7_cutBalloon : ByteArray := prog_1_method_9_code
def yX7_cutBalloon : MethodName := ⟨RX7, "cutBalloon", "(I)I"⟩
abbrev cX7_answer : ByteArray := prog_1_method_10_code
def yX7_answer : MethodName := ⟨RX7, "answer", "(II)I"⟩
abbrev cX7_translate : ByteArray := prog_1_method_11_code
def yX7_translate : MethodName := ⟨RX7, "translate", "(II)I"⟩
abbrev cX7_setGrowth : ByteArray := prog_1_method_12_code
def yX7_setGrowth : MethodName := ⟨RX7, "setGrowth", "(II)I"⟩
abbrev cX7_pages : ByteArray := prog_1_method_13_code
def yX7_pages : MethodName := ⟨RX7, "pages", "()I"⟩
abbrev cX7_rows : ByteArray := prog_1_method_14_code
def yX7_rows : MethodName := ⟨RX7, "rows", "(I)I"⟩
abbrev cX7_panels : ByteArray := prog_1_method_15_code
def yX7_panels : MethodName := ⟨RX7, "panels", "(I)I"⟩
abbrev cX7_panelAt : ByteArray := prog_1_method_16_code
def yX7_panelAt : MethodName := ⟨RX7, "panelAt", "(II)I"⟩
abbrev cX7_lies : ByteArray := prog_1_method_17_code
def yX7_lies : MethodName := ⟨RX7, "lies", "(II)I"⟩
abbrev cX7_floats : ByteArray := prog_1_method_18_code
def yX7_floats : MethodName := ⟨RX7, "floats", "(II)I"⟩
abbrev cX7_cell : ByteArray := prog_1_method_19_code
def yX7_cell : MethodName := ⟨RX7, "cell", "(III)I"⟩
abbrev cX7_balloons : ByteArray := prog_1_method_20_code
def yX7_balloons : MethodName := ⟨RX7, "balloons", "()I"⟩
abbrev cX7_read : ByteArray := prog_1_method_21_code
def yX7_read : MethodName := ⟨RX7, "read", "(I)I"⟩
abbrev cX7_placeOf : ByteArray := prog_1_method_22_code
def yX7_placeOf : MethodName := ⟨RX7, "placeOf", "(I)I"⟩
abbrev cX7_placeByPairs : ByteArray := prog_1_method_23_code
def yX7_placeByPairs : MethodName := ⟨RX7, "placeByPairs", "(I)I"⟩
abbrev cX7_depth : ByteArray := prog_1_method_24_code
def yX7_depth : MethodName := ⟨RX7, "depth", "(I)I"⟩
abbrev cX7_open : ByteArray := prog_1_method_30_code
def yX7_open : MethodName := ⟨RX7, "open", "()I"⟩
abbrev cX7_forth : ByteArray := prog_1_method_31_code
def yX7_forth : MethodName := ⟨RX7, "forth", "()I"⟩
abbrev cX7_back : ByteArray := prog_1_method_33_code
def yX7_back : MethodName := ⟨RX7, "back", "()I"⟩
abbrev cX7_here : ByteArray := prog_1_method_34_code
def yX7_here : MethodName := ⟨RX7, "here", "()I"⟩
abbrev cX7_needPage : ByteArray := prog_1_method_35_code
def yX7_needPage : MethodName := ⟨RX7, "needPage", "(I)LGutterPages$Page;"⟩
abbrev cX7_needPanel : ByteArray := prog_1_method_36_code
def yX7_needPanel : MethodName := ⟨RX7, "needPanel", "(I)LGutterPages$Panel;"⟩
abbrev cX7_needBalloon : ByteArray := prog_1_method_37_code
def yX7_needBalloon : MethodName := ⟨RX7, "needBalloon", "(I)LGutterPages$Balloon;"⟩
abbrev cX7_needPlace : ByteArray := prog_1_method_38_code
def yX7_needPlace : MethodName := ⟨RX7, "needPlace", "(II)V"⟩
abbrev cX7_needWithin : ByteArray := prog_1_method_39_code
def yX7_needWithin : MethodName := ⟨RX7, "needWithin", "(III)V"⟩
abbrev cX7_balloonReadAt : ByteArray := prog_1_method_41_code
def yX7_balloonReadAt : MethodName := ⟨RX7, "balloonReadAt", "(I)LGutterPages$Balloon;"⟩
abbrev cX7_countReadBefore : ByteArray := prog_1_method_42_code
def yX7_countReadBefore : MethodName := ⟨RX7, "countReadBefore", "(LGutterPages$Balloon;)I"⟩
abbrev cX7_answersComeLater : ByteArray := prog_1_method_43_code
def yX7_answersComeLater : MethodName := ⟨RX7, "answersComeLater", "()Z"⟩
abbrev cX7_isAnswered : ByteArray := prog_1_method_44_code
def yX7_isAnswered : MethodName := ⟨RX7, "isAnswered", "(LGutterPages$Balloon;)Z"⟩
abbrev cX7_isAnsweredFromElsewhere : ByteArray := prog_1_method_45_code
def yX7_isAnsweredFromElsewhere : MethodName := ⟨RX7, "isAnsweredFromElsewhere", "(LGutterPages$Panel;)Z"⟩
abbrev cX7_readBehind : ByteArray := prog_1_method_46_code
def yX7_readBehind : MethodName := ⟨RX7, "readBehind", "(LGutterPages$Panel;)LGutterPages$Panel;"⟩
abbrev cX7_readAheadOf : ByteArray := prog_1_method_47_code
def yX7_readAheadOf : MethodName := ⟨RX7, "readAheadOf", "(LGutterPages$Panel;)LGutterPages$Panel;"⟩
abbrev cX7_numberOf : ByteArray := prog_1_method_48_code
def yX7_numberOf : MethodName := ⟨RX7, "numberOf", "(LGutterPages$Panel;)I"⟩
abbrev cX7_roundedUp : ByteArray := prog_1_method_52_code
def yX7_roundedUp : MethodName := ⟨RX7, "roundedUp", "(II)I"⟩
abbrev cX7_turned : ByteArray := prog_1_method_54_code
def yX7_turned : MethodName := ⟨RX7, "turned", "(IIIZ)I"⟩
def RX8 : String := "GutterPagesModel"
def TX8 : u_T := fun k => match k with
  | _ => ("", "", "", false)
def tyX8 : Nat → FieldType := fun k => match k with
  | _ => .int
abbrev wsX80 : List Cond := u_ws RX8 TX8 0
theorem nmX8 : ∀ a, a < 0 → ∀ b, b < 0 → a ≠ b → (TX8 a).2.1 ≠ (TX8 b).2.1 := by decide +kernel
theorem tyX8_ok : ∀ k, k < 0 → parseFieldDescriptor (TX8 k).2.2.1 = some (tyX8 k) := by decide +kernel
def RJx145de : String := "java/io/Serializable"
def TJx145de : u_T := fun k => match k with
  | _ => ("", "", "", false)
def tyJx145de : Nat → FieldType := fun k => match k with
  | _ => .int
abbrev wsJx145de0 : List Cond := u_ws RJx145de TJx145de 0
theorem nmJx145de : ∀ a, a < 0 → ∀ b, b < 0 → a ≠ b → (TJx145de a).2.1 ≠ (TJx145de b).2.1 := by decide +kernel
theorem tyJx145de_ok : ∀ k, k < 0 → parseFieldDescriptor (TJx145de k).2.2.1 = some (tyJx145de k) := by decide +kernel
def RJx8e188 : String := "java/lang/Cloneable"
def TJx8e188 : u_T := fun k => match k with
  | _ => ("", "", "", false)
def tyJx8e188 : Nat → FieldType := fun k => match k with
  | _ => .int
abbrev wsJx8e1880 : List Cond := u_ws RJx8e188 TJx8e188 0
theorem nmJx8e188 : ∀ a, a < 0 → ∀ b, b < 0 → a ≠ b → (TJx8e188 a).2.1 ≠ (TJx8e188 b).2.1 := by decide +kernel
theorem tyJx8e188_ok : ∀ k, k < 0 → parseFieldDescriptor (TJx8e188 k).2.2.1 = some (tyJx8e188 k) := by decide +kernel
def RJxab1ab : String := "java/lang/Iterable"
def TJxab1ab : u_T := fun k => match k with
  | _ => ("", "", "", false)
def tyJxab1ab : Nat → FieldType := fun k => match k with
  | _ => .int
abbrev wsJxab1ab0 : List Cond := u_ws RJxab1ab TJxab1ab 0
theorem nmJxab1ab : ∀ a, a < 0 → ∀ b, b < 0 → a ≠ b → (TJxab1ab a).2.1 ≠ (TJxab1ab b).2.1 := by decide +kernel
theorem tyJxab1ab_ok : ∀ k, k < 0 → parseFieldDescriptor (TJxab1ab k).2.2.1 = some (tyJxab1ab k) := by decide +kernel
def RJ9 : String := "java/lang/Math"
def TJ9 : u_T := fun k => match k with
  | _ => ("", "", "", false)
def tyJ9 : Nat → FieldType := fun k => match k with
  | _ => .int
abbrev wsJ90 : List Cond := u_ws RJ9 TJ9 0
theorem nmJ9 : ∀ a, a < 0 → ∀ b, b < 0 → a ≠ b → (TJ9 a).2.1 ≠ (TJ9 b).2.1 := by decide +kernel
theorem tyJ9_ok : ∀ k, k < 0 → parseFieldDescriptor (TJ9 k).2.2.1 = some (tyJ9 k) := by decide +kernel
abbrev cJ9_max_7cf53 : ByteArray := prog_18_method_65_code
def yJ9_max_7cf53 : MethodName := ⟨RJ9, "max", "(II)I"⟩
abbrev cJ9_min_7cf53 : ByteArray := prog_18_method_69_code
def yJ9_min_7cf53 : MethodName := ⟨RJ9, "min", "(II)I"⟩
def RJ0 : String := "java/lang/String"
def TJ0 : u_T := fun k => match k with
  | _ => ("", "", "", false)
def tyJ0 : Nat → FieldType := fun k => match k with
  | _ => .int
abbrev wsJ00 : List Cond := u_ws RJ0 TJ0 0
theorem nmJ0 : ∀ a, a < 0 → ∀ b, b < 0 → a ≠ b → (TJ0 a).2.1 ≠ (TJ0 b).2.1 := by decide +kernel
theorem tyJ0_ok : ∀ k, k < 0 → parseFieldDescriptor (TJ0 k).2.2.1 = some (tyJ0 k) := by decide +kernel
def RJ10 : String := "java/lang/System"
def TJ10 : u_T := fun k => match k with
  | _ => ("", "", "", false)
def tyJ10 : Nat → FieldType := fun k => match k with
  | _ => .int
abbrev wsJ100 : List Cond := u_ws RJ10 TJ10 0
theorem nmJ10 : ∀ a, a < 0 → ∀ b, b < 0 → a ≠ b → (TJ10 a).2.1 ≠ (TJ10 b).2.1 := by decide +kernel
theorem tyJ10_ok : ∀ k, k < 0 → parseFieldDescriptor (TJ10 k).2.2.1 = some (tyJ10 k) := by decide +kernel
def RJxa1e45 : String := "java/util/AbstractCollection"
def TJxa1e45 : u_T := fun k => match k with
  | _ => ("", "", "", false)
def tyJxa1e45 : Nat → FieldType := fun k => match k with
  | _ => .int
abbrev wsJxa1e450 : List Cond := u_ws RJxa1e45 TJxa1e45 0
theorem nmJxa1e45 : ∀ a, a < 0 → ∀ b, b < 0 → a ≠ b → (TJxa1e45 a).2.1 ≠ (TJxa1e45 b).2.1 := by decide +kernel
theorem tyJxa1e45_ok : ∀ k, k < 0 → parseFieldDescriptor (TJxa1e45 k).2.2.1 = some (tyJxa1e45 k) := by decide +kernel
abbrev cJxa1e45_init_da8c8 : ByteArray := prog_23_method_1_code
def yJxa1e45_init_da8c8 : MethodName := ⟨RJxa1e45, "<init>", "()V"⟩
def RJxc12de : String := "java/util/AbstractList"
def TJxc12de : u_T := fun k => match k with
  | _ => ("", "", "", false)
def tyJxc12de : Nat → FieldType := fun k => match k with
  | _ => .int
abbrev wsJxc12de0 : List Cond := u_ws RJxc12de TJxc12de 0
theorem nmJxc12de : ∀ a, a < 0 → ∀ b, b < 0 → a ≠ b → (TJxc12de a).2.1 ≠ (TJxc12de b).2.1 := by decide +kernel
theorem tyJxc12de_ok : ∀ k, k < 0 → parseFieldDescriptor (TJxc12de k).2.2.1 = some (tyJxc12de k) := by decide +kernel
abbrev cJxc12de_init_da8c8 : ByteArray := prog_24_method_1_code
def yJxc12de_init_da8c8 : MethodName := ⟨RJxc12de, "<init>", "()V"⟩
def RJx4a65c : String := "java/util/ArrayList"
def TJx4a65c : u_T := fun k => match k with
  | 0 => ("java/util/AbstractList", "modCount", "I", false)
  | 1 => ("java/util/ArrayList", "elementData", "[Ljava/lang/Object;", false)
  | _ => ("java/util/ArrayList", "size", "I", false)
def tyJx4a65c : Nat → FieldType := fun k => match k with
  | 0 => .int
  | 1 => .array (.object "java/lang/Object")
  | _ => .int
abbrev wsJx4a65c0 : List Cond := u_ws RJx4a65c TJx4a65c 3
theorem nmJx4a65c : ∀ a, a < 3 → ∀ b, b < 3 → a ≠ b → (TJx4a65c a).2.1 ≠ (TJx4a65c b).2.1 := by decide +kernel
theorem tyJx4a65c_ok : ∀ k, k < 3 → parseFieldDescriptor (TJx4a65c k).2.2.1 = some (tyJx4a65c k) := by decide +kernel
abbrev cJx4a65c_init_da8c8 : ByteArray := prog_25_method_2_code
def yJx4a65c_init_da8c8 : MethodName := ⟨RJx4a65c, "<init>", "()V"⟩
abbrev cJx4a65c_grow_92f84 : ByteArray := prog_25_method_6_code
def yJx4a65c_grow_92f84 : MethodName := ⟨RJx4a65c, "grow", "(I)[Ljava/lang/Object;"⟩
abbrev cJx4a65c_grow_d5877 : ByteArray := prog_25_method_7_code
def yJx4a65c_grow_d5877 : MethodName := ⟨RJx4a65c, "grow", "()[Ljava/lang/Object;"⟩
abbrev cJx4a65c_size_8abf5 : ByteArray := prog_25_method_8_code
def yJx4a65c_size_8abf5 : MethodName := ⟨RJx4a65c, "size", "()I"⟩
abbrev cJx4a65c_elementData_915e3 : ByteArray := prog_25_method_18_code
def yJx4a65c_elementData_915e3 : MethodName := ⟨RJx4a65c, "elementData", "(I)Ljava/lang/Object;"⟩
abbrev cJx4a65c_get_915e3 : ByteArray := prog_25_method_20_code
def yJx4a65c_get_915e3 : MethodName := ⟨RJx4a65c, "get", "(I)Ljava/lang/Object;"⟩
abbrev cJx4a65c_add_72be8 : ByteArray := prog_25_method_24_code
def yJx4a65c_add_72be8 : MethodName := ⟨RJx4a65c, "add", "(Ljava/lang/Object;[Ljava/lang/Object;I)V"⟩
abbrev cJx4a65c_add_9ea2d : ByteArray := prog_25_method_25_code
def yJx4a65c_add_9ea2d : MethodName := ⟨RJx4a65c, "add", "(Ljava/lang/Object;)Z"⟩
abbrev cJx4a65c_add_7a177 : ByteArray := prog_25_method_26_code
def yJx4a65c_add_7a177 : MethodName := ⟨RJx4a65c, "add", "(ILjava/lang/Object;)V"⟩
abbrev cJx4a65c_remove_915e3 : ByteArray := prog_25_method_29_code
def yJx4a65c_remove_915e3 : MethodName := ⟨RJx4a65c, "remove", "(I)Ljava/lang/Object;"⟩
abbrev cJx4a65c_fastRemove_b59b0 : ByteArray := prog_25_method_39_code
def yJx4a65c_fastRemove_b59b0 : MethodName := ⟨RJx4a65c, "fastRemove", "([Ljava/lang/Object;I)V"⟩
abbrev cJx4a65c_rangeCheckForAdd_d00df : ByteArray := prog_25_method_45_code
def yJx4a65c_rangeCheckForAdd_d00df : MethodName := ⟨RJx4a65c, "rangeCheckForAdd", "(I)V"⟩
def RJ7 : String := "java/util/Arrays"
def TJ7 : u_T := fun k => match k with
  | _ => ("", "", "", false)
def tyJ7 : Nat → FieldType := fun k => match k with
  | _ => .int
abbrev wsJ70 : List Cond := u_ws RJ7 TJ7 0
theorem nmJ7 : ∀ a, a < 0 → ∀ b, b < 0 → a ≠ b → (TJ7 a).2.1 ≠ (TJ7 b).2.1 := by decide +kernel
theorem tyJ7_ok : ∀ k, k < 0 → parseFieldDescriptor (TJ7 k).2.2.1 = some (tyJ7 k) := by decide +kernel
abbrev cJ7_copyOf_1904c : ByteArray := prog_26_method_119_code
def yJ7_copyOf_1904c : MethodName := ⟨RJ7, "copyOf", "([Ljava/lang/Object;I)[Ljava/lang/Object;"⟩
abbrev cJ7_copyOf_6403c : ByteArray := prog_26_method_120_code
def yJ7_copyOf_6403c : MethodName := ⟨RJ7, "copyOf", "([Ljava/lang/Object;ILjava/lang/Class;)[Ljava/lang/Object;"⟩
def RJx5ef63 : String := "java/util/Collection"
def TJx5ef63 : u_T := fun k => match k with
  | _ => ("", "", "", false)
def tyJx5ef63 : Nat → FieldType := fun k => match k with
  | _ => .int
abbrev wsJx5ef630 : List Cond := u_ws RJx5ef63 TJx5ef63 0
theorem nmJx5ef63 : ∀ a, a < 0 → ∀ b, b < 0 → a ≠ b → (TJx5ef63 a).2.1 ≠ (TJx5ef63 b).2.1 := by decide +kernel
theorem tyJx5ef63_ok : ∀ k, k < 0 → parseFieldDescriptor (TJx5ef63 k).2.2.1 = some (tyJx5ef63 k) := by decide +kernel
def RJxbd725 : String := "java/util/List"
def TJxbd725 : u_T := fun k => match k with
  | _ => ("", "", "", false)
def tyJxbd725 : Nat → FieldType := fun k => match k with
  | _ => .int
abbrev wsJxbd7250 : List Cond := u_ws RJxbd725 TJxbd725 0
theorem nmJxbd725 : ∀ a, a < 0 → ∀ b, b < 0 → a ≠ b → (TJxbd725 a).2.1 ≠ (TJxbd725 b).2.1 := by decide +kernel
theorem tyJxbd725_ok : ∀ k, k < 0 → parseFieldDescriptor (TJxbd725 k).2.2.1 = some (tyJxbd725 k) := by decide +kernel
def RJ15 : String := "java/util/Objects"
def TJ15 : u_T := fun k => match k with
  | _ => ("", "", "", false)
def tyJ15 : Nat → FieldType := fun k => match k with
  | _ => .int
abbrev wsJ150 : List Cond := u_ws RJ15 TJ15 0
theorem nmJ15 : ∀ a, a < 0 → ∀ b, b < 0 → a ≠ b → (TJ15 a).2.1 ≠ (TJ15 b).2.1 := by decide +kernel
theorem tyJ15_ok : ∀ k, k < 0 → parseFieldDescriptor (TJ15 k).2.2.1 = some (tyJ15 k) := by decide +kernel
abbrev cJ15_checkIndex_7cf53 : ByteArray := prog_29_method_17_code
def yJ15_checkIndex_7cf53 : MethodName := ⟨RJ15, "checkIndex", "(II)I"⟩
def RJxf0a74 : String := "java/util/RandomAccess"
def TJxf0a74 : u_T := fun k => match k with
  | _ => ("", "", "", false)
def tyJxf0a74 : Nat → FieldType := fun k => match k with
  | _ => .int
abbrev wsJxf0a740 : List Cond := u_ws RJxf0a74 TJxf0a74 0
theorem nmJxf0a74 : ∀ a, a < 0 → ∀ b, b < 0 → a ≠ b → (TJxf0a74 a).2.1 ≠ (TJxf0a74 b).2.1 := by decide +kernel
theorem tyJxf0a74_ok : ∀ k, k < 0 → parseFieldDescriptor (TJxf0a74 k).2.2.1 = some (tyJxf0a74 k) := by decide +kernel
def RJxa66e6 : String := "java/util/SequencedCollection"
def TJxa66e6 : u_T := fun k => match k with
  | _ => ("", "", "", false)
def tyJxa66e6 : Nat → FieldType := fun k => match k with
  | _ => .int
abbrev wsJxa66e60 : List Cond := u_ws RJxa66e6 TJxa66e6 0
theorem nmJxa66e6 : ∀ a, a < 0 → ∀ b, b < 0 → a ≠ b → (TJxa66e6 a).2.1 ≠ (TJxa66e6 b).2.1 := by decide +kernel
theorem tyJxa66e6_ok : ∀ k, k < 0 → parseFieldDescriptor (TJxa66e6 k).2.2.1 = some (tyJxa66e6 k) := by decide +kernel
def RJ8 : String := "jdk/internal/util/ArraysSupport"
def TJ8 : u_T := fun k => match k with
  | _ => ("", "", "", false)
def tyJ8 : Nat → FieldType := fun k => match k with
  | _ => .int
abbrev wsJ80 : List Cond := u_ws RJ8 TJ8 0
theorem nmJ8 : ∀ a, a < 0 → ∀ b, b < 0 → a ≠ b → (TJ8 a).2.1 ≠ (TJ8 b).2.1 := by decide +kernel
theorem tyJ8_ok : ∀ k, k < 0 → parseFieldDescriptor (TJ8 k).2.2.1 = some (tyJ8 k) := by decide +kernel
abbrev cJ8_newLength_cabcc : ByteArray := prog_32_method_27_code
def yJ8_newLength_cabcc : MethodName := ⟨RJ8, "newLength", "(III)I"⟩
abbrev cJ8_hugeLength_7cf53 : ByteArray := prog_32_method_28_code
def yJ8_hugeLength_7cf53 : MethodName := ⟨RJ8, "hugeLength", "(II)I"⟩
def RJ3 : String := "jdk/internal/util/Preconditions"
def TJ3 : u_T := fun k => match k with
  | _ => ("", "", "", false)
def tyJ3 : Nat → FieldType := fun k => match k with
  | _ => .int
abbrev wsJ30 : List Cond := u_ws RJ3 TJ3 0
theorem nmJ3 : ∀ a, a < 0 → ∀ b, b < 0 → a ≠ b → (TJ3 a).2.1 ≠ (TJ3 b).2.1 := by decide +kernel
theorem tyJ3_ok : ∀ k, k < 0 → parseFieldDescriptor (TJ3 k).2.2.1 = some (tyJ3 k) := by decide +kernel
abbrev cJ3_checkIndex_8e157 : ByteArray := prog_33_method_11_code
def yJ3_checkIndex_8e157 : MethodName := ⟨RJ3, "checkIndex", "(IILjava/util/function/BiFunction;)I"⟩
def RL : String := "GutterPagesLaw"
abbrev cL_cell : ByteArray := method_2_code
def yL_cell : MethodName := ⟨RL, "cell", "([II)I"⟩
abbrev cL_low : ByteArray := method_3_code
def yL_low : MethodName := ⟨RL, "low", "(II)I"⟩
abbrev cL_isPage : ByteArray := method_4_code
def yL_isPage : MethodName := ⟨RL, "isPage", "(LGutterPages;I)Z"⟩
abbrev cL_isBalloon : ByteArray := method_5_code
def yL_isBalloon : MethodName := ⟨RL, "isBalloon", "(LGutterPages;II)Z"⟩
abbrev cL_law : ByteArray := code
def yL_law : MethodName := ⟨RL, "law", "([I)Z"⟩
theorem q_inX0 : ∀ w ∈ wsX00, w ∈ lw_tbl := by decide +kernel
theorem q_inX1 : ∀ w ∈ wsX10, w ∈ lw_tbl := by decide +kernel
theorem q_inX2 : ∀ w ∈ wsX20, w ∈ lw_tbl := by decide +kernel
theorem q_inX3 : ∀ w ∈ wsX30, w ∈ lw_tbl := by decide +kernel
theorem q_inX4 : ∀ w ∈ wsX40, w ∈ lw_tbl := by decide +kernel
theorem q_inX5 : ∀ w ∈ wsX50, w ∈ lw_tbl := by decide +kernel
theorem q_inX6 : ∀ w ∈ wsX60, w ∈ lw_tbl := by decide +kernel
theorem q_inX7 : ∀ w ∈ wsX70, w ∈ lw_tbl := by decide +kernel
theorem q_inX8 : ∀ w ∈ wsX80, w ∈ lw_tbl := by decide +kernel
theorem q_inJL : ∀ w ∈ wsJx4a65c0, w ∈ lw_tbl := by decide +kernel
