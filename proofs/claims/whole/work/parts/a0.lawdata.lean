/-! printed: data of the law's wrappers -/
theorem wd_186 : (Cond.instanceMethod ({ cls := "GutterPages", name := "page", desc := "()I" } : MethodName)) ∈ lw_tbl := List.mem_of_getElem? (i := 237) (by decide +kernel)
theorem wd_187 : (Cond.selects "GutterPages" ({ cls := "GutterPages", name := "page", desc := "()I" } : MethodName) ({ cls := "GutterPages", name := "page", desc := "()I" } : MethodName)) ∈ lw_tbl := List.mem_of_getElem? (i := 238) (by decide +kernel)
theorem wd_359 : (Cond.instanceMethod ({ cls := "GutterPages", name := "panel", desc := "(IIIII)I" } : MethodName)) ∈ lw_tbl := List.mem_of_getElem? (i := 410) (by decide +kernel)
theorem wd_360 : (Cond.selects "GutterPages" ({ cls := "GutterPages", name := "panel", desc := "(IIIII)I" } : MethodName) ({ cls := "GutterPages", name := "panel", desc := "(IIIII)I" } : MethodName)) ∈ lw_tbl := List.mem_of_getElem? (i := 411) (by decide +kernel)
theorem wd_850 : (Cond.instanceMethod ({ cls := "GutterPages", name := "movePanel", desc := "(II)I" } : MethodName)) ∈ lw_tbl := List.mem_of_getElem? (i := 901) (by decide +kernel)
theorem wd_851 : (Cond.selects "GutterPages" ({ cls := "GutterPages", name := "movePanel", desc := "(II)I" } : MethodName) ({ cls := "GutterPages", name := "movePanel", desc := "(II)I" } : MethodName)) ∈ lw_tbl := List.mem_of_getElem? (i := 902) (by decide +kernel)
theorem wd_880 : (Cond.instanceMethod ({ cls := "GutterPages", name := "cutPanel", desc := "(I)I" } : MethodName)) ∈ lw_tbl := List.mem_of_getElem? (i := 931) (by decide +kernel)
theorem wd_881 : (Cond.selects "GutterPages" ({ cls := "GutterPages", name := "cutPanel", desc := "(I)I" } : MethodName) ({ cls := "GutterPages", name := "cutPanel", desc := "(I)I" } : MethodName)) ∈ lw_tbl := List.mem_of_getElem? (i := 932) (by decide +kernel)
theorem wd_904 : (Cond.instanceMethod ({ cls := "GutterPages", name := "face", desc := "(IIII)I" } : MethodName)) ∈ lw_tbl := List.mem_of_getElem? (i := 955) (by decide +kernel)
theorem wd_905 : (Cond.selects "GutterPages" ({ cls := "GutterPages", name := "face", desc := "(IIII)I" } : MethodName) ({ cls := "GutterPages", name := "face", desc := "(IIII)I" } : MethodName)) ∈ lw_tbl := List.mem_of_getElem? (i := 956) (by decide +kernel)
theorem wd_939 : (Cond.instanceMethod ({ cls := "GutterPages", name := "balloon", desc := "(III)I" } : MethodName)) ∈ lw_tbl := List.mem_of_getElem? (i := 990) (by decide +kernel)
theorem wd_940 : (Cond.selects "GutterPages" ({ cls := "GutterPages", name := "balloon", desc := "(III)I" } : MethodName) ({ cls := "GutterPages", name := "balloon", desc := "(III)I" } : MethodName)) ∈ lw_tbl := List.mem_of_getElem? (i := 991) (by decide +kernel)
theorem wd_993 : (Cond.instanceMethod ({ cls := "GutterPages", name := "moveBalloon", desc := "(III)V" } : MethodName)) ∈ lw_tbl := List.mem_of_getElem? (i := 1044) (by decide +kernel)
theorem wd_994 : (Cond.selects "GutterPages" ({ cls := "GutterPages", name := "moveBalloon", desc := "(III)V" } : MethodName) ({ cls := "GutterPages", name := "moveBalloon", desc := "(III)V" } : MethodName)) ∈ lw_tbl := List.mem_of_getElem? (i := 1045) (by decide +kernel)
theorem wd_1014 : (Cond.instanceMethod ({ cls := "GutterPages", name := "cutBalloon", desc := "(I)I" } : MethodName)) ∈ lw_tbl := List.mem_of_getElem? (i := 1065) (by decide +kernel)
theorem wd_1015 : (Cond.selects "GutterPages" ({ cls := "GutterPages", name := "cutBalloon", desc := "(I)I" } : MethodName) ({ cls := "GutterPages", name := "cutBalloon", desc := "(I)I" } : MethodName)) ∈ lw_tbl := List.mem_of_getElem? (i := 1066) (by decide +kernel)
theorem wd_1026 : (Cond.instanceMethod ({ cls := "GutterPages", name := "answer", desc := "(II)I" } : MethodName)) ∈ lw_tbl := List.mem_of_getElem? (i := 1077) (by decide +kernel)
theorem wd_1027 : (Cond.selects "GutterPages" ({ cls := "GutterPages", name := "answer", desc := "(II)I" } : MethodName) ({ cls := "GutterPages", name := "answer", desc := "(II)I" } : MethodName)) ∈ lw_tbl := List.mem_of_getElem? (i := 1078) (by decide +kernel)
theorem wd_1034 : (Cond.instanceMethod ({ cls := "GutterPages", name := "translate", desc := "(II)I" } : MethodName)) ∈ lw_tbl := List.mem_of_getElem? (i := 1085) (by decide +kernel)
theorem wd_1035 : (Cond.selects "GutterPages" ({ cls := "GutterPages", name := "translate", desc := "(II)I" } : MethodName) ({ cls := "GutterPages", name := "translate", desc := "(II)I" } : MethodName)) ∈ lw_tbl := List.mem_of_getElem? (i := 1086) (by decide +kernel)
theorem wd_1041 : (Cond.instanceMethod ({ cls := "GutterPages", name := "setGrowth", desc := "(II)I" } : MethodName)) ∈ lw_tbl := List.mem_of_getElem? (i := 1092) (by decide +kernel)
theorem wd_1042 : (Cond.selects "GutterPages" ({ cls := "GutterPages", name := "setGrowth", desc := "(II)I" } : MethodName) ({ cls := "GutterPages", name := "setGrowth", desc := "(II)I" } : MethodName)) ∈ lw_tbl := List.mem_of_getElem? (i := 1093) (by decide +kernel)
theorem wd_1049 : (Cond.instanceMethod ({ cls := "GutterPages", name := "rows", desc := "(I)I" } : MethodName)) ∈ lw_tbl := List.mem_of_getElem? (i := 1100) (by decide +kernel)
theorem wd_1050 : (Cond.selects "GutterPages" ({ cls := "GutterPages", name := "rows", desc := "(I)I" } : MethodName) ({ cls := "GutterPages", name := "rows", desc := "(I)I" } : MethodName)) ∈ lw_tbl := List.mem_of_getElem? (i := 1101) (by decide +kernel)
theorem wd_1056 : (Cond.instanceMethod ({ cls := "GutterPages", name := "panels", desc := "(I)I" } : MethodName)) ∈ lw_tbl := List.mem_of_getElem? (i := 1107) (by decide +kernel)
theorem wd_1057 : (Cond.selects "GutterPages" ({ cls := "GutterPages", name := "panels", desc := "(I)I" } : MethodName) ({ cls := "GutterPages", name := "panels", desc := "(I)I" } : MethodName)) ∈ lw_tbl := List.mem_of_getElem? (i := 1108) (by decide +kernel)
theorem wd_1063 : (Cond.instanceMethod ({ cls := "GutterPages", name := "panelAt", desc := "(II)I" } : MethodName)) ∈ lw_tbl := List.mem_of_getElem? (i := 1114) (by decide +kernel)
theorem wd_1064 : (Cond.selects "GutterPages" ({ cls := "GutterPages", name := "panelAt", desc := "(II)I" } : MethodName) ({ cls := "GutterPages", name := "panelAt", desc := "(II)I" } : MethodName)) ∈ lw_tbl := List.mem_of_getElem? (i := 1115) (by decide +kernel)
theorem wd_1070 : (Cond.instanceMethod ({ cls := "GutterPages", name := "lies", desc := "(II)I" } : MethodName)) ∈ lw_tbl := List.mem_of_getElem? (i := 1121) (by decide +kernel)
theorem wd_1071 : (Cond.selects "GutterPages" ({ cls := "GutterPages", name := "lies", desc := "(II)I" } : MethodName) ({ cls := "GutterPages", name := "lies", desc := "(II)I" } : MethodName)) ∈ lw_tbl := List.mem_of_getElem? (i := 1122) (by decide +kernel)
theorem wd_1081 : (Cond.instanceMethod ({ cls := "GutterPages", name := "floats", desc := "(II)I" } : MethodName)) ∈ lw_tbl := List.mem_of_getElem? (i := 1132) (by decide +kernel)
theorem wd_1082 : (Cond.selects "GutterPages" ({ cls := "GutterPages", name := "floats", desc := "(II)I" } : MethodName) ({ cls := "GutterPages", name := "floats", desc := "(II)I" } : MethodName)) ∈ lw_tbl := List.mem_of_getElem? (i := 1133) (by decide +kernel)
theorem wd_1088 : (Cond.instanceMethod ({ cls := "GutterPages", name := "cell", desc := "(III)I" } : MethodName)) ∈ lw_tbl := List.mem_of_getElem? (i := 1139) (by decide +kernel)
theorem wd_1089 : (Cond.selects "GutterPages" ({ cls := "GutterPages", name := "cell", desc := "(III)I" } : MethodName) ({ cls := "GutterPages", name := "cell", desc := "(III)I" } : MethodName)) ∈ lw_tbl := List.mem_of_getElem? (i := 1140) (by decide +kernel)
theorem wd_1104 : (Cond.instanceMethod ({ cls := "GutterPages", name := "read", desc := "(I)I" } : MethodName)) ∈ lw_tbl := List.mem_of_getElem? (i := 1155) (by decide +kernel)
theorem wd_1105 : (Cond.selects "GutterPages" ({ cls := "GutterPages", name := "read", desc := "(I)I" } : MethodName) ({ cls := "GutterPages", name := "read", desc := "(I)I" } : MethodName)) ∈ lw_tbl := List.mem_of_getElem? (i := 1156) (by decide +kernel)
theorem wd_1115 : (Cond.instanceMethod ({ cls := "GutterPages", name := "placeOf", desc := "(I)I" } : MethodName)) ∈ lw_tbl := List.mem_of_getElem? (i := 1166) (by decide +kernel)
theorem wd_1116 : (Cond.selects "GutterPages" ({ cls := "GutterPages", name := "placeOf", desc := "(I)I" } : MethodName) ({ cls := "GutterPages", name := "placeOf", desc := "(I)I" } : MethodName)) ∈ lw_tbl := List.mem_of_getElem? (i := 1167) (by decide +kernel)
theorem wd_1126 : (Cond.instanceMethod ({ cls := "GutterPages", name := "placeByPairs", desc := "(I)I" } : MethodName)) ∈ lw_tbl := List.mem_of_getElem? (i := 1177) (by decide +kernel)
theorem wd_1127 : (Cond.selects "GutterPages" ({ cls := "GutterPages", name := "placeByPairs", desc := "(I)I" } : MethodName) ({ cls := "GutterPages", name := "placeByPairs", desc := "(I)I" } : MethodName)) ∈ lw_tbl := List.mem_of_getElem? (i := 1178) (by decide +kernel)
theorem wd_1142 : (Cond.instanceMethod ({ cls := "GutterPages", name := "depth", desc := "(I)I" } : MethodName)) ∈ lw_tbl := List.mem_of_getElem? (i := 1193) (by decide +kernel)
theorem wd_1143 : (Cond.selects "GutterPages" ({ cls := "GutterPages", name := "depth", desc := "(I)I" } : MethodName) ({ cls := "GutterPages", name := "depth", desc := "(I)I" } : MethodName)) ∈ lw_tbl := List.mem_of_getElem? (i := 1194) (by decide +kernel)
theorem wd_1149 : (Cond.instanceMethod ({ cls := "GutterPages", name := "spread", desc := "(I)Z" } : MethodName)) ∈ lw_tbl := List.mem_of_getElem? (i := 1200) (by decide +kernel)
theorem wd_1150 : (Cond.selects "GutterPages" ({ cls := "GutterPages", name := "spread", desc := "(I)Z" } : MethodName) ({ cls := "GutterPages", name := "spread", desc := "(I)Z" } : MethodName)) ∈ lw_tbl := List.mem_of_getElem? (i := 1201) (by decide +kernel)
theorem wd_1161 : (Cond.instanceMethod ({ cls := "GutterPages", name := "leaves", desc := "(I)I" } : MethodName)) ∈ lw_tbl := List.mem_of_getElem? (i := 1212) (by decide +kernel)
theorem wd_1162 : (Cond.selects "GutterPages" ({ cls := "GutterPages", name := "leaves", desc := "(I)I" } : MethodName) ({ cls := "GutterPages", name := "leaves", desc := "(I)I" } : MethodName)) ∈ lw_tbl := List.mem_of_getElem? (i := 1213) (by decide +kernel)
theorem wd_1184 : (Cond.instanceMethod ({ cls := "GutterPages", name := "leaf", desc := "(II)I" } : MethodName)) ∈ lw_tbl := List.mem_of_getElem? (i := 1235) (by decide +kernel)
theorem wd_1185 : (Cond.selects "GutterPages" ({ cls := "GutterPages", name := "leaf", desc := "(II)I" } : MethodName) ({ cls := "GutterPages", name := "leaf", desc := "(II)I" } : MethodName)) ∈ lw_tbl := List.mem_of_getElem? (i := 1236) (by decide +kernel)
theorem wd_1191 : (Cond.instanceMethod ({ cls := "GutterPages", name := "beside", desc := "(II)I" } : MethodName)) ∈ lw_tbl := List.mem_of_getElem? (i := 1242) (by decide +kernel)
theorem wd_1192 : (Cond.selects "GutterPages" ({ cls := "GutterPages", name := "beside", desc := "(II)I" } : MethodName) ({ cls := "GutterPages", name := "beside", desc := "(II)I" } : MethodName)) ∈ lw_tbl := List.mem_of_getElem? (i := 1243) (by decide +kernel)
theorem wd_1198 : (Cond.instanceMethod ({ cls := "GutterPages", name := "sheet", desc := "(II)I" } : MethodName)) ∈ lw_tbl := List.mem_of_getElem? (i := 1249) (by decide +kernel)
theorem wd_1199 : (Cond.selects "GutterPages" ({ cls := "GutterPages", name := "sheet", desc := "(II)I" } : MethodName) ({ cls := "GutterPages", name := "sheet", desc := "(II)I" } : MethodName)) ∈ lw_tbl := List.mem_of_getElem? (i := 1250) (by decide +kernel)
theorem wd_1206 : (Cond.instanceMethod ({ cls := "GutterPages", name := "jump", desc := "(I)I" } : MethodName)) ∈ lw_tbl := List.mem_of_getElem? (i := 1257) (by decide +kernel)
theorem wd_1207 : (Cond.selects "GutterPages" ({ cls := "GutterPages", name := "jump", desc := "(I)I" } : MethodName) ({ cls := "GutterPages", name := "jump", desc := "(I)I" } : MethodName)) ∈ lw_tbl := List.mem_of_getElem? (i := 1258) (by decide +kernel)
def M_L_answer : qM := (yL_answer, cL_answer, 5, (some .int), { frames := 20, cells := 3, slots := 18, locals := 580 }, [(0, 10, 13, 19), (0, 10, 17, 13)])
theorem ceeX_L_answer : q_ceeX M_L_answer := ⟨by decide, wd_1024, wd_0, by decide, by decide⟩
theorem np_L_answer : q_np M_L_answer 4 := by unfold q_np; decide +kernel
def M_L_balloon : qM := (yL_balloon, cL_balloon, 6, (some .int), { frames := 26, cells := 12, slots := 845, locals := 760 }, [(0, 12, 15, 19), (0, 12, 19, 21), (0, 12, 23, 13)])
theorem ceeX_L_balloon : q_ceeX M_L_balloon := ⟨by decide, wd_937, wd_0, by decide, by decide⟩
theorem np_L_balloon : q_np M_L_balloon 5 := by unfold q_np; decide +kernel
def M_L_beside : qM := (yL_beside, cL_beside, 5, (some .int), { frames := 22, cells := 2, slots := 12, locals := 640 }, [(0, 10, 13, 19), (0, 10, 17, 21)])
theorem ceeX_L_beside : q_ceeX M_L_beside := ⟨by decide, wd_1189, wd_0, by decide, by decide⟩
theorem np_L_beside : q_np M_L_beside 4 := by unfold q_np; decide +kernel
def M_L_cell : qM := (yL_cell, cL_cell, 6, (some .int), { frames := 18, cells := 3, slots := 18, locals := 520 }, [(0, 12, 15, 19)])
theorem ceeX_L_cell : q_ceeX M_L_cell := ⟨by decide, wd_1086, wd_0, by decide, by decide⟩
theorem np_L_cell : q_np M_L_cell 5 := by unfold q_np; decide +kernel
def M_L_cutBalloon : qM := (yL_cutBalloon, cL_cutBalloon, 4, (some .int), { frames := 26, cells := 5, slots := 418, locals := 760 }, [(0, 9, 12, 19), (0, 9, 15, 13)])
theorem ceeX_L_cutBalloon : q_ceeX M_L_cutBalloon := ⟨by decide, wd_1012, wd_0, by decide, by decide⟩
theorem np_L_cutBalloon : q_np M_L_cutBalloon 3 := by unfold q_np; decide +kernel
def M_L_cutPanel : qM := (yL_cutPanel, cL_cutPanel, 4, (some .int), { frames := 26, cells := 5, slots := 418, locals := 760 }, [(0, 9, 12, 19), (0, 9, 15, 13)])
theorem ceeX_L_cutPanel : q_ceeX M_L_cutPanel := ⟨by decide, wd_878, wd_0, by decide, by decide⟩
theorem np_L_cutPanel : q_np M_L_cutPanel 3 := by unfold q_np; decide +kernel
def M_L_depth : qM := (yL_depth, cL_depth, 4, (some .int), { frames := 18, cells := 1, slots := 6, locals := 520 }, [(0, 9, 12, 19)])
theorem ceeX_L_depth : q_ceeX M_L_depth := ⟨by decide, wd_1140, wd_0, by decide, by decide⟩
theorem np_L_depth : q_np M_L_depth 3 := by unfold q_np; decide +kernel
def M_L_face : qM := (yL_face, cL_face, 7, (some .int), { frames := 26, cells := 9, slots := 439, locals := 760 }, [(0, 14, 17, 19), (0, 14, 21, 21), (0, 14, 25, 13)])
theorem ceeX_L_face : q_ceeX M_L_face := ⟨by decide, wd_902, wd_0, by decide, by decide⟩
theorem np_L_face : q_np M_L_face 6 := by unfold q_np; decide +kernel
def M_L_floats : qM := (yL_floats, cL_floats, 5, (some .int), { frames := 18, cells := 2, slots := 12, locals := 520 }, [(0, 10, 13, 19), (0, 10, 17, 21)])
theorem ceeX_L_floats : q_ceeX M_L_floats := ⟨by decide, wd_1079, wd_0, by decide, by decide⟩
theorem np_L_floats : q_np M_L_floats 4 := by unfold q_np; decide +kernel
def M_L_jump : qM := (yL_jump, cL_jump, 4, (some .int), { frames := 18, cells := 1, slots := 6, locals := 520 }, [(0, 9, 12, 19)])
theorem ceeX_L_jump : q_ceeX M_L_jump := ⟨by decide, wd_1204, wd_0, by decide, by decide⟩
theorem np_L_jump : q_np M_L_jump 3 := by unfold q_np; decide +kernel
def M_L_leaf : qM := (yL_leaf, cL_leaf, 5, (some .int), { frames := 22, cells := 2, slots := 12, locals := 640 }, [(0, 10, 13, 19), (0, 10, 17, 21)])
theorem ceeX_L_leaf : q_ceeX M_L_leaf := ⟨by decide, wd_1182, wd_0, by decide, by decide⟩
theorem np_L_leaf : q_np M_L_leaf 4 := by unfold q_np; decide +kernel
def M_L_leaves : qM := (yL_leaves, cL_leaves, 4, (some .int), { frames := 22, cells := 1, slots := 6, locals := 640 }, [(0, 9, 12, 21)])
theorem ceeX_L_leaves : q_ceeX M_L_leaves := ⟨by decide, wd_1159, wd_0, by decide, by decide⟩
theorem np_L_leaves : q_np M_L_leaves 3 := by unfold q_np; decide +kernel
def M_L_lies : qM := (yL_lies, cL_lies, 5, (some .int), { frames := 18, cells := 2, slots := 12, locals := 520 }, [(0, 10, 13, 19), (0, 10, 17, 21)])
theorem ceeX_L_lies : q_ceeX M_L_lies := ⟨by decide, wd_1068, wd_0, by decide, by decide⟩
theorem np_L_lies : q_np M_L_lies 4 := by unfold q_np; decide +kernel
def M_L_moveBalloon : qM := (yL_moveBalloon, cL_moveBalloon, 5, (some .int), { frames := 26, cells := 9, slots := 830, locals := 760 }, [(0, 7, 10, 19), (0, 7, 14, 13)])
theorem ceeX_L_moveBalloon : q_ceeX M_L_moveBalloon := ⟨by decide, wd_991, wd_0, by decide, by decide⟩
theorem np_L_moveBalloon : q_np M_L_moveBalloon 4 := by unfold q_np; decide +kernel
def M_L_movePanel : qM := (yL_movePanel, cL_movePanel, 5, (some .int), { frames := 26, cells := 7, slots := 818, locals := 760 }, [(0, 10, 13, 19), (0, 10, 17, 13)])
theorem ceeX_L_movePanel : q_ceeX M_L_movePanel := ⟨by decide, wd_848, wd_0, by decide, by decide⟩
theorem np_L_movePanel : q_np M_L_movePanel 4 := by unfold q_np; decide +kernel
def M_L_page : qM := (yL_page, cL_page, 3, (some .int), { frames := 24, cells := 5, slots := 415, locals := 700 }, [(0, 8, 11, 13)])
theorem ceeX_L_page : q_ceeX M_L_page := ⟨by decide, wd_183, wd_0, by decide, by decide⟩
theorem np_L_page : q_np M_L_page 2 := by unfold q_np; decide +kernel
def M_L_panel : qM := (yL_panel, cL_panel, 8, (some .int), { frames := 26, cells := 16, slots := 868, locals := 760 }, [(0, 16, 19, 19), (0, 16, 23, 21), (0, 16, 27, 13)])
theorem ceeX_L_panel : q_ceeX M_L_panel := ⟨by decide, wd_355, wd_0, by decide, by decide⟩
theorem np_L_panel : q_np M_L_panel 7 := by unfold q_np; decide +kernel
def M_L_panelAt : qM := (yL_panelAt, cL_panelAt, 5, (some .int), { frames := 18, cells := 2, slots := 12, locals := 520 }, [(0, 10, 13, 19)])
theorem ceeX_L_panelAt : q_ceeX M_L_panelAt := ⟨by decide, wd_1061, wd_0, by decide, by decide⟩
theorem np_L_panelAt : q_np M_L_panelAt 4 := by unfold q_np; decide +kernel
def M_L_panels : qM := (yL_panels, cL_panels, 4, (some .int), { frames := 18, cells := 1, slots := 6, locals := 520 }, [(0, 9, 12, 19)])
theorem ceeX_L_panels : q_ceeX M_L_panels := ⟨by decide, wd_1054, wd_0, by decide, by decide⟩
theorem np_L_panels : q_np M_L_panels 3 := by unfold q_np; decide +kernel
def M_L_placeByPairs : qM := (yL_placeByPairs, cL_placeByPairs, 4, (some .int), { frames := 18, cells := 1, slots := 6, locals := 520 }, [(0, 9, 12, 19)])
theorem ceeX_L_placeByPairs : q_ceeX M_L_placeByPairs := ⟨by decide, wd_1124, wd_0, by decide, by decide⟩
theorem np_L_placeByPairs : q_np M_L_placeByPairs 3 := by unfold q_np; decide +kernel
def M_L_placeOf : qM := (yL_placeOf, cL_placeOf, 4, (some .int), { frames := 22, cells := 1, slots := 6, locals := 640 }, [(0, 9, 12, 19)])
theorem ceeX_L_placeOf : q_ceeX M_L_placeOf := ⟨by decide, wd_1113, wd_0, by decide, by decide⟩
theorem np_L_placeOf : q_np M_L_placeOf 3 := by unfold q_np; decide +kernel
def M_L_read : qM := (yL_read, cL_read, 4, (some .int), { frames := 18, cells := 1, slots := 6, locals := 520 }, [(0, 9, 12, 19)])
theorem ceeX_L_read : q_ceeX M_L_read := ⟨by decide, wd_1102, wd_0, by decide, by decide⟩
theorem np_L_read : q_np M_L_read 3 := by unfold q_np; decide +kernel
def M_L_rows : qM := (yL_rows, cL_rows, 4, (some .int), { frames := 18, cells := 1, slots := 6, locals := 520 }, [(0, 9, 12, 19)])
theorem ceeX_L_rows : q_ceeX M_L_rows := ⟨by decide, wd_1047, wd_0, by decide, by decide⟩
theorem np_L_rows : q_np M_L_rows 3 := by unfold q_np; decide +kernel
def M_L_setGrowth : qM := (yL_setGrowth, cL_setGrowth, 5, (some .int), { frames := 26, cells := 3, slots := 18, locals := 760 }, [(0, 10, 13, 21), (0, 10, 17, 13)])
theorem ceeX_L_setGrowth : q_ceeX M_L_setGrowth := ⟨by decide, wd_1039, wd_0, by decide, by decide⟩
theorem np_L_setGrowth : q_np M_L_setGrowth 4 := by unfold q_np; decide +kernel
def M_L_sheet : qM := (yL_sheet, cL_sheet, 5, (some .int), { frames := 22, cells := 2, slots := 12, locals := 640 }, [(0, 10, 13, 19), (0, 10, 17, 21)])
theorem ceeX_L_sheet : q_ceeX M_L_sheet := ⟨by decide, wd_1196, wd_0, by decide, by decide⟩
theorem np_L_sheet : q_np M_L_sheet 4 := by unfold q_np; decide +kernel
def M_L_spread : qM := (yL_spread, cL_spread, 4, (some .int), { frames := 18, cells := 3, slots := 18, locals := 520 }, [(0, 16, 19, 19), (0, 16, 22, 13)])
theorem ceeX_L_spread : q_ceeX M_L_spread := ⟨by decide, wd_1147, wd_0, by decide, by decide⟩
theorem np_L_spread : q_np M_L_spread 3 := by unfold q_np; decide +kernel
def M_L_translate : qM := (yL_translate, cL_translate, 5, (some .int), { frames := 26, cells := 3, slots := 18, locals := 760 }, [(0, 10, 13, 19), (0, 10, 17, 21), (0, 10, 21, 13)])
theorem ceeX_L_translate : q_ceeX M_L_translate := ⟨by decide, wd_1032, wd_0, by decide, by decide⟩
theorem np_L_translate : q_np M_L_translate 4 := by unfold q_np; decide +kernel
theorem dL_answer_0 : decode cL_answer 0 = .ok (.aload_n 3, 1) := by decide +kernel
theorem dL_answer_1 : decode cL_answer 1 = .ok (.iconst 0, 1) := by decide +kernel
theorem dL_answer_2 : decode cL_answer 2 = .ok (.aload_n 0, 1) := by decide +kernel
theorem dL_answer_3 : decode cL_answer 3 = .ok (.iload_n 1, 1) := by decide +kernel
theorem dL_answer_4 : decode cL_answer 4 = .ok (.iload_n 2, 1) := by decide +kernel
theorem dL_answer_5 : decode cL_answer 5 = .ok (.invokevirtual 46, 3) := by decide +kernel
theorem dL_answer_8 : decode cL_answer 8 = .ok (.i2l, 1) := by decide +kernel
theorem dL_answer_9 : decode cL_answer 9 = .ok (.lastore, 1) := by decide +kernel
theorem dL_answer_10 : decode cL_answer 10 = .ok (.goto 11, 3) := by decide +kernel
theorem dL_answer_13 : decode cL_answer 13 = .ok (.astore 4, 2) := by decide +kernel
theorem dL_answer_15 : decode cL_answer 15 = .ok (.iconst 1, 1) := by decide +kernel
theorem dL_answer_16 : decode cL_answer 16 = .ok (.ireturn, 1) := by decide +kernel
theorem dL_answer_17 : decode cL_answer 17 = .ok (.astore 4, 2) := by decide +kernel
theorem dL_answer_19 : decode cL_answer 19 = .ok (.iconst 2, 1) := by decide +kernel
theorem dL_answer_20 : decode cL_answer 20 = .ok (.ireturn, 1) := by decide +kernel
theorem dL_answer_21 : decode cL_answer 21 = .ok (.iconst 0, 1) := by decide +kernel
theorem dL_answer_22 : decode cL_answer 22 = .ok (.ireturn, 1) := by decide +kernel
theorem dL_balloon_0 : decode cL_balloon 0 = .ok (.aload 4, 2) := by decide +kernel
theorem dL_balloon_2 : decode cL_balloon 2 = .ok (.iconst 0, 1) := by decide +kernel
theorem dL_balloon_3 : decode cL_balloon 3 = .ok (.aload_n 0, 1) := by decide +kernel
theorem dL_balloon_4 : decode cL_balloon 4 = .ok (.iload_n 1, 1) := by decide +kernel
theorem dL_balloon_5 : decode cL_balloon 5 = .ok (.iload_n 2, 1) := by decide +kernel
theorem dL_balloon_6 : decode cL_balloon 6 = .ok (.iload_n 3, 1) := by decide +kernel
theorem dL_balloon_7 : decode cL_balloon 7 = .ok (.invokevirtual 35, 3) := by decide +kernel
theorem dL_balloon_10 : decode cL_balloon 10 = .ok (.i2l, 1) := by decide +kernel
theorem dL_balloon_11 : decode cL_balloon 11 = .ok (.lastore, 1) := by decide +kernel
theorem dL_balloon_12 : decode cL_balloon 12 = .ok (.goto 15, 3) := by decide +kernel
theorem dL_balloon_15 : decode cL_balloon 15 = .ok (.astore 5, 2) := by decide +kernel
theorem dL_balloon_17 : decode cL_balloon 17 = .ok (.iconst 1, 1) := by decide +kernel
theorem dL_balloon_18 : decode cL_balloon 18 = .ok (.ireturn, 1) := by decide +kernel
theorem dL_balloon_19 : decode cL_balloon 19 = .ok (.astore 5, 2) := by decide +kernel
theorem dL_balloon_21 : decode cL_balloon 21 = .ok (.iconst 2, 1) := by decide +kernel
theorem dL_balloon_22 : decode cL_balloon 22 = .ok (.ireturn, 1) := by decide +kernel
theorem dL_balloon_23 : decode cL_balloon 23 = .ok (.astore 5, 2) := by decide +kernel
theorem dL_balloon_25 : decode cL_balloon 25 = .ok (.iconst 3, 1) := by decide +kernel
theorem dL_balloon_26 : decode cL_balloon 26 = .ok (.ireturn, 1) := by decide +kernel
theorem dL_balloon_27 : decode cL_balloon 27 = .ok (.iconst 0, 1) := by decide +kernel
theorem dL_balloon_28 : decode cL_balloon 28 = .ok (.ireturn, 1) := by decide +kernel
theorem dL_beside_0 : decode cL_beside 0 = .ok (.aload_n 3, 1) := by decide +kernel
theorem dL_beside_1 : decode cL_beside 1 = .ok (.iconst 0, 1) := by decide +kernel
theorem dL_beside_2 : decode cL_beside 2 = .ok (.aload_n 0, 1) := by decide +kernel
theorem dL_beside_3 : decode cL_beside 3 = .ok (.iload_n 1, 1) := by decide +kernel
theorem dL_beside_4 : decode cL_beside 4 = .ok (.iload_n 2, 1) := by decide +kernel
theorem dL_beside_5 : decode cL_beside 5 = .ok (.invokevirtual 95, 3) := by decide +kernel
theorem dL_beside_8 : decode cL_beside 8 = .ok (.i2l, 1) := by decide +kernel
theorem dL_beside_9 : decode cL_beside 9 = .ok (.lastore, 1) := by decide +kernel
theorem dL_beside_10 : decode cL_beside 10 = .ok (.goto 11, 3) := by decide +kernel
theorem dL_beside_13 : decode cL_beside 13 = .ok (.astore 4, 2) := by decide +kernel
theorem dL_beside_15 : decode cL_beside 15 = .ok (.iconst 1, 1) := by decide +kernel
theorem dL_beside_16 : decode cL_beside 16 = .ok (.ireturn, 1) := by decide +kernel
theorem dL_beside_17 : decode cL_beside 17 = .ok (.astore 4, 2) := by decide +kernel
theorem dL_beside_19 : decode cL_beside 19 = .ok (.iconst 2, 1) := by decide +kernel
theorem dL_beside_20 : decode cL_beside 20 = .ok (.ireturn, 1) := by decide +kernel
theorem dL_beside_21 : decode cL_beside 21 = .ok (.iconst 0, 1) := by decide +kernel
theorem dL_beside_22 : decode cL_beside 22 = .ok (.ireturn, 1) := by decide +kernel
theorem dL_cell_0 : decode cL_cell 0 = .ok (.aload 4, 2) := by decide +kernel
theorem dL_cell_2 : decode cL_cell 2 = .ok (.iconst 0, 1) := by decide +kernel
theorem dL_cell_3 : decode cL_cell 3 = .ok (.aload_n 0, 1) := by decide +kernel
theorem dL_cell_4 : decode cL_cell 4 = .ok (.iload_n 1, 1) := by decide +kernel
theorem dL_cell_5 : decode cL_cell 5 = .ok (.iload_n 2, 1) := by decide +kernel
theorem dL_cell_6 : decode cL_cell 6 = .ok (.iload_n 3, 1) := by decide +kernel
theorem dL_cell_7 : decode cL_cell 7 = .ok (.invokevirtual 70, 3) := by decide +kernel
theorem dL_cell_10 : decode cL_cell 10 = .ok (.i2l, 1) := by decide +kernel
theorem dL_cell_11 : decode cL_cell 11 = .ok (.lastore, 1) := by decide +kernel
theorem dL_cell_12 : decode cL_cell 12 = .ok (.goto 7, 3) := by decide +kernel
theorem dL_cell_15 : decode cL_cell 15 = .ok (.astore 5, 2) := by decide +kernel
theorem dL_cell_17 : decode cL_cell 17 = .ok (.iconst 1, 1) := by decide +kernel
theorem dL_cell_18 : decode cL_cell 18 = .ok (.ireturn, 1) := by decide +kernel
theorem dL_cell_19 : decode cL_cell 19 = .ok (.iconst 0, 1) := by decide +kernel
theorem dL_cell_20 : decode cL_cell 20 = .ok (.ireturn, 1) := by decide +kernel
theorem dL_cutBalloon_0 : decode cL_cutBalloon 0 = .ok (.aload_n 2, 1) := by decide +kernel
theorem dL_cutBalloon_1 : decode cL_cutBalloon 1 = .ok (.iconst 0, 1) := by decide +kernel
theorem dL_cutBalloon_2 : decode cL_cutBalloon 2 = .ok (.aload_n 0, 1) := by decide +kernel
theorem dL_cutBalloon_3 : decode cL_cutBalloon 3 = .ok (.iload_n 1, 1) := by decide +kernel
theorem dL_cutBalloon_4 : decode cL_cutBalloon 4 = .ok (.invokevirtual 43, 3) := by decide +kernel
theorem dL_cutBalloon_7 : decode cL_cutBalloon 7 = .ok (.i2l, 1) := by decide +kernel
theorem dL_cutBalloon_8 : decode cL_cutBalloon 8 = .ok (.lastore, 1) := by decide +kernel
theorem dL_cutBalloon_9 : decode cL_cutBalloon 9 = .ok (.goto 9, 3) := by decide +kernel
theorem dL_cutBalloon_12 : decode cL_cutBalloon 12 = .ok (.astore_n 3, 1) := by decide +kernel
theorem dL_cutBalloon_13 : decode cL_cutBalloon 13 = .ok (.iconst 1, 1) := by decide +kernel
theorem dL_cutBalloon_14 : decode cL_cutBalloon 14 = .ok (.ireturn, 1) := by decide +kernel
theorem dL_cutBalloon_15 : decode cL_cutBalloon 15 = .ok (.astore_n 3, 1) := by decide +kernel
theorem dL_cutBalloon_16 : decode cL_cutBalloon 16 = .ok (.iconst 2, 1) := by decide +kernel
theorem dL_cutBalloon_17 : decode cL_cutBalloon 17 = .ok (.ireturn, 1) := by decide +kernel
theorem dL_cutBalloon_18 : decode cL_cutBalloon 18 = .ok (.iconst 0, 1) := by decide +kernel
theorem dL_cutBalloon_19 : decode cL_cutBalloon 19 = .ok (.ireturn, 1) := by decide +kernel
theorem dL_cutPanel_0 : decode cL_cutPanel 0 = .ok (.aload_n 2, 1) := by decide +kernel
theorem dL_cutPanel_1 : decode cL_cutPanel 1 = .ok (.iconst 0, 1) := by decide +kernel
theorem dL_cutPanel_2 : decode cL_cutPanel 2 = .ok (.aload_n 0, 1) := by decide +kernel
theorem dL_cutPanel_3 : decode cL_cutPanel 3 = .ok (.iload_n 1, 1) := by decide +kernel
theorem dL_cutPanel_4 : decode cL_cutPanel 4 = .ok (.invokevirtual 27, 3) := by decide +kernel
theorem dL_cutPanel_7 : decode cL_cutPanel 7 = .ok (.i2l, 1) := by decide +kernel
theorem dL_cutPanel_8 : decode cL_cutPanel 8 = .ok (.lastore, 1) := by decide +kernel
theorem dL_cutPanel_9 : decode cL_cutPanel 9 = .ok (.goto 9, 3) := by decide +kernel
theorem dL_cutPanel_12 : decode cL_cutPanel 12 = .ok (.astore_n 3, 1) := by decide +kernel
theorem dL_cutPanel_13 : decode cL_cutPanel 13 = .ok (.iconst 1, 1) := by decide +kernel
theorem dL_cutPanel_14 : decode cL_cutPanel 14 = .ok (.ireturn, 1) := by decide +kernel
theorem dL_cutPanel_15 : decode cL_cutPanel 15 = .ok (.astore_n 3, 1) := by decide +kernel
theorem dL_cutPanel_16 : decode cL_cutPanel 16 = .ok (.iconst 2, 1) := by decide +kernel
theorem dL_cutPanel_17 : decode cL_cutPanel 17 = .ok (.ireturn, 1) := by decide +kernel
theorem dL_cutPanel_18 : decode cL_cutPanel 18 = .ok (.iconst 0, 1) := by decide +kernel
theorem dL_cutPanel_19 : decode cL_cutPanel 19 = .ok (.ireturn, 1) := by decide +kernel
theorem dL_depth_0 : decode cL_depth 0 = .ok (.aload_n 2, 1) := by decide +kernel
theorem dL_depth_1 : decode cL_depth 1 = .ok (.iconst 0, 1) := by decide +kernel
theorem dL_depth_2 : decode cL_depth 2 = .ok (.aload_n 0, 1) := by decide +kernel
theorem dL_depth_3 : decode cL_depth 3 = .ok (.iload_n 1, 1) := by decide +kernel
theorem dL_depth_4 : decode cL_depth 4 = .ok (.invokevirtual 82, 3) := by decide +kernel
theorem dL_depth_7 : decode cL_depth 7 = .ok (.i2l, 1) := by decide +kernel
theorem dL_depth_8 : decode cL_depth 8 = .ok (.lastore, 1) := by decide +kernel
theorem dL_depth_9 : decode cL_depth 9 = .ok (.goto 6, 3) := by decide +kernel
theorem dL_depth_12 : decode cL_depth 12 = .ok (.astore_n 3, 1) := by decide +kernel
theorem dL_depth_13 : decode cL_depth 13 = .ok (.iconst 1, 1) := by decide +kernel
theorem dL_depth_14 : decode cL_depth 14 = .ok (.ireturn, 1) := by decide +kernel
theorem dL_depth_15 : decode cL_depth 15 = .ok (.iconst 0, 1) := by decide +kernel
theorem dL_depth_16 : decode cL_depth 16 = .ok (.ireturn, 1) := by decide +kernel
theorem dL_face_0 : decode cL_face 0 = .ok (.aload 5, 2) := by decide +kernel
theorem dL_face_2 : decode cL_face 2 = .ok (.iconst 0, 1) := by decide +kernel
theorem dL_face_3 : decode cL_face 3 = .ok (.aload_n 0, 1) := by decide +kernel
theorem dL_face_4 : decode cL_face 4 = .ok (.iload_n 1, 1) := by decide +kernel
theorem dL_face_5 : decode cL_face 5 = .ok (.iload_n 2, 1) := by decide +kernel
theorem dL_face_6 : decode cL_face 6 = .ok (.iload_n 3, 1) := by decide +kernel
theorem dL_face_7 : decode cL_face 7 = .ok (.iload 4, 2) := by decide +kernel
theorem dL_face_9 : decode cL_face 9 = .ok (.invokevirtual 31, 3) := by decide +kernel
theorem dL_face_12 : decode cL_face 12 = .ok (.i2l, 1) := by decide +kernel
theorem dL_face_13 : decode cL_face 13 = .ok (.lastore, 1) := by decide +kernel
theorem dL_face_14 : decode cL_face 14 = .ok (.goto 15, 3) := by decide +kernel
theorem dL_face_17 : decode cL_face 17 = .ok (.astore 6, 2) := by decide +kernel
theorem dL_face_19 : decode cL_face 19 = .ok (.iconst 1, 1) := by decide +kernel
theorem dL_face_20 : decode cL_face 20 = .ok (.ireturn, 1) := by decide +kernel
theorem dL_face_21 : decode cL_face 21 = .ok (.astore 6, 2) := by decide +kernel
theorem dL_face_23 : decode cL_face 23 = .ok (.iconst 2, 1) := by decide +kernel
theorem dL_face_24 : decode cL_face 24 = .ok (.ireturn, 1) := by decide +kernel
theorem dL_face_25 : decode cL_face 25 = .ok (.astore 6, 2) := by decide +kernel
theorem dL_face_27 : decode cL_face 27 = .ok (.iconst 3, 1) := by decide +kernel
theorem dL_face_28 : decode cL_face 28 = .ok (.ireturn, 1) := by decide +kernel
theorem dL_face_29 : decode cL_face 29 = .ok (.iconst 0, 1) := by decide +kernel
theorem dL_face_30 : decode cL_face 30 = .ok (.ireturn, 1) := by decide +kernel
theorem dL_floats_0 : decode cL_floats 0 = .ok (.aload_n 3, 1) := by decide +kernel
theorem dL_floats_1 : decode cL_floats 1 = .ok (.iconst 0, 1) := by decide +kernel
theorem dL_floats_2 : decode cL_floats 2 = .ok (.aload_n 0, 1) := by decide +kernel
theorem dL_floats_3 : decode cL_floats 3 = .ok (.iload_n 1, 1) := by decide +kernel
theorem dL_floats_4 : decode cL_floats 4 = .ok (.iload_n 2, 1) := by decide +kernel
theorem dL_floats_5 : decode cL_floats 5 = .ok (.invokevirtual 67, 3) := by decide +kernel
theorem dL_floats_8 : decode cL_floats 8 = .ok (.i2l, 1) := by decide +kernel
theorem dL_floats_9 : decode cL_floats 9 = .ok (.lastore, 1) := by decide +kernel
theorem dL_floats_10 : decode cL_floats 10 = .ok (.goto 11, 3) := by decide +kernel
theorem dL_floats_13 : decode cL_floats 13 = .ok (.astore 4, 2) := by decide +kernel
theorem dL_floats_15 : decode cL_floats 15 = .ok (.iconst 1, 1) := by decide +kernel
theorem dL_floats_16 : decode cL_floats 16 = .ok (.ireturn, 1) := by decide +kernel
theorem dL_floats_17 : decode cL_floats 17 = .ok (.astore 4, 2) := by decide +kernel
theorem dL_floats_19 : decode cL_floats 19 = .ok (.iconst 2, 1) := by decide +kernel
theorem dL_floats_20 : decode cL_floats 20 = .ok (.ireturn, 1) := by decide +kernel
theorem dL_floats_21 : decode cL_floats 21 = .ok (.iconst 0, 1) := by decide +kernel
theorem dL_floats_22 : decode cL_floats 22 = .ok (.ireturn, 1) := by decide +kernel
theorem dL_jump_0 : decode cL_jump 0 = .ok (.aload_n 2, 1) := by decide +kernel
theorem dL_jump_1 : decode cL_jump 1 = .ok (.iconst 0, 1) := by decide +kernel
theorem dL_jump_2 : decode cL_jump 2 = .ok (.aload_n 0, 1) := by decide +kernel
theorem dL_jump_3 : decode cL_jump 3 = .ok (.iload_n 1, 1) := by decide +kernel
theorem dL_jump_4 : decode cL_jump 4 = .ok (.invokevirtual 101, 3) := by decide +kernel
theorem dL_jump_7 : decode cL_jump 7 = .ok (.i2l, 1) := by decide +kernel
theorem dL_jump_8 : decode cL_jump 8 = .ok (.lastore, 1) := by decide +kernel
theorem dL_jump_9 : decode cL_jump 9 = .ok (.goto 6, 3) := by decide +kernel
theorem dL_jump_12 : decode cL_jump 12 = .ok (.astore_n 3, 1) := by decide +kernel
theorem dL_jump_13 : decode cL_jump 13 = .ok (.iconst 1, 1) := by decide +kernel
theorem dL_jump_14 : decode cL_jump 14 = .ok (.ireturn, 1) := by decide +kernel
theorem dL_jump_15 : decode cL_jump 15 = .ok (.iconst 0, 1) := by decide +kernel
theorem dL_jump_16 : decode cL_jump 16 = .ok (.ireturn, 1) := by decide +kernel
theorem dL_leaf_0 : decode cL_leaf 0 = .ok (.aload_n 3, 1) := by decide +kernel
theorem dL_leaf_1 : decode cL_leaf 1 = .ok (.iconst 0, 1) := by decide +kernel
theorem dL_leaf_2 : decode cL_leaf 2 = .ok (.aload_n 0, 1) := by decide +kernel
theorem dL_leaf_3 : decode cL_leaf 3 = .ok (.iload_n 1, 1) := by decide +kernel
theorem dL_leaf_4 : decode cL_leaf 4 = .ok (.iload_n 2, 1) := by decide +kernel
theorem dL_leaf_5 : decode cL_leaf 5 = .ok (.invokevirtual 92, 3) := by decide +kernel
theorem dL_leaf_8 : decode cL_leaf 8 = .ok (.i2l, 1) := by decide +kernel
theorem dL_leaf_9 : decode cL_leaf 9 = .ok (.lastore, 1) := by decide +kernel
theorem dL_leaf_10 : decode cL_leaf 10 = .ok (.goto 11, 3) := by decide +kernel
theorem dL_leaf_13 : decode cL_leaf 13 = .ok (.astore 4, 2) := by decide +kernel
theorem dL_leaf_15 : decode cL_leaf 15 = .ok (.iconst 1, 1) := by decide +kernel
theorem dL_leaf_16 : decode cL_leaf 16 = .ok (.ireturn, 1) := by decide +kernel
theorem dL_leaf_17 : decode cL_leaf 17 = .ok (.astore 4, 2) := by decide +kernel
theorem dL_leaf_19 : decode cL_leaf 19 = .ok (.iconst 2, 1) := by decide +kernel
theorem dL_leaf_20 : decode cL_leaf 20 = .ok (.ireturn, 1) := by decide +kernel
theorem dL_leaf_21 : decode cL_leaf 21 = .ok (.iconst 0, 1) := by decide +kernel
theorem dL_leaf_22 : decode cL_leaf 22 = .ok (.ireturn, 1) := by decide +kernel
theorem dL_leaves_0 : decode cL_leaves 0 = .ok (.aload_n 2, 1) := by decide +kernel
theorem dL_leaves_1 : decode cL_leaves 1 = .ok (.iconst 0, 1) := by decide +kernel
theorem dL_leaves_2 : decode cL_leaves 2 = .ok (.aload_n 0, 1) := by decide +kernel
theorem dL_leaves_3 : decode cL_leaves 3 = .ok (.iload_n 1, 1) := by decide +kernel
theorem dL_leaves_4 : decode cL_leaves 4 = .ok (.invokevirtual 89, 3) := by decide +kernel
theorem dL_leaves_7 : decode cL_leaves 7 = .ok (.i2l, 1) := by decide +kernel
theorem dL_leaves_8 : decode cL_leaves 8 = .ok (.lastore, 1) := by decide +kernel
theorem dL_leaves_9 : decode cL_leaves 9 = .ok (.goto 6, 3) := by decide +kernel
theorem dL_leaves_12 : decode cL_leaves 12 = .ok (.astore_n 3, 1) := by decide +kernel
theorem dL_leaves_13 : decode cL_leaves 13 = .ok (.iconst 1, 1) := by decide +kernel
theorem dL_leaves_14 : decode cL_leaves 14 = .ok (.ireturn, 1) := by decide +kernel
theorem dL_leaves_15 : decode cL_leaves 15 = .ok (.iconst 0, 1) := by decide +kernel
theorem dL_leaves_16 : decode cL_leaves 16 = .ok (.ireturn, 1) := by decide +kernel
theorem dL_lies_0 : decode cL_lies 0 = .ok (.aload_n 3, 1) := by decide +kernel
theorem dL_lies_1 : decode cL_lies 1 = .ok (.iconst 0, 1) := by decide +kernel
theorem dL_lies_2 : decode cL_lies 2 = .ok (.aload_n 0, 1) := by decide +kernel
theorem dL_lies_3 : decode cL_lies 3 = .ok (.iload_n 1, 1) := by decide +kernel
theorem dL_lies_4 : decode cL_lies 4 = .ok (.iload_n 2, 1) := by decide +kernel
theorem dL_lies_5 : decode cL_lies 5 = .ok (.invokevirtual 64, 3) := by decide +kernel
theorem dL_lies_8 : decode cL_lies 8 = .ok (.i2l, 1) := by decide +kernel
theorem dL_lies_9 : decode cL_lies 9 = .ok (.lastore, 1) := by decide +kernel
theorem dL_lies_10 : decode cL_lies 10 = .ok (.goto 11, 3) := by decide +kernel
theorem dL_lies_13 : decode cL_lies 13 = .ok (.astore 4, 2) := by decide +kernel
theorem dL_lies_15 : decode cL_lies 15 = .ok (.iconst 1, 1) := by decide +kernel
theorem dL_lies_16 : decode cL_lies 16 = .ok (.ireturn, 1) := by decide +kernel
theorem dL_lies_17 : decode cL_lies 17 = .ok (.astore 4, 2) := by decide +kernel
theorem dL_lies_19 : decode cL_lies 19 = .ok (.iconst 2, 1) := by decide +kernel
theorem dL_lies_20 : decode cL_lies 20 = .ok (.ireturn, 1) := by decide +kernel
theorem dL_lies_21 : decode cL_lies 21 = .ok (.iconst 0, 1) := by decide +kernel
theorem dL_lies_22 : decode cL_lies 22 = .ok (.ireturn, 1) := by decide +kernel
theorem dL_moveBalloon_0 : decode cL_moveBalloon 0 = .ok (.aload_n 0, 1) := by decide +kernel
theorem dL_moveBalloon_1 : decode cL_moveBalloon 1 = .ok (.iload_n 1, 1) := by decide +kernel
theorem dL_moveBalloon_2 : decode cL_moveBalloon 2 = .ok (.iload_n 2, 1) := by decide +kernel
theorem dL_moveBalloon_3 : decode cL_moveBalloon 3 = .ok (.iload_n 3, 1) := by decide +kernel
theorem dL_moveBalloon_4 : decode cL_moveBalloon 4 = .ok (.invokevirtual 39, 3) := by decide +kernel
theorem dL_moveBalloon_7 : decode cL_moveBalloon 7 = .ok (.goto 11, 3) := by decide +kernel
theorem dL_moveBalloon_10 : decode cL_moveBalloon 10 = .ok (.astore 4, 2) := by decide +kernel
theorem dL_moveBalloon_12 : decode cL_moveBalloon 12 = .ok (.iconst 1, 1) := by decide +kernel
theorem dL_moveBalloon_13 : decode cL_moveBalloon 13 = .ok (.ireturn, 1) := by decide +kernel
theorem dL_moveBalloon_14 : decode cL_moveBalloon 14 = .ok (.astore 4, 2) := by decide +kernel
theorem dL_moveBalloon_16 : decode cL_moveBalloon 16 = .ok (.iconst 2, 1) := by decide +kernel
theorem dL_moveBalloon_17 : decode cL_moveBalloon 17 = .ok (.ireturn, 1) := by decide +kernel
theorem dL_moveBalloon_18 : decode cL_moveBalloon 18 = .ok (.iconst 0, 1) := by decide +kernel
theorem dL_moveBalloon_19 : decode cL_moveBalloon 19 = .ok (.ireturn, 1) := by decide +kernel
theorem dL_movePanel_0 : decode cL_movePanel 0 = .ok (.aload_n 3, 1) := by decide +kernel
theorem dL_movePanel_1 : decode cL_movePanel 1 = .ok (.iconst 0, 1) := by decide +kernel
theorem dL_movePanel_2 : decode cL_movePanel 2 = .ok (.aload_n 0, 1) := by decide +kernel
theorem dL_movePanel_3 : decode cL_movePanel 3 = .ok (.iload_n 1, 1) := by decide +kernel
theorem dL_movePanel_4 : decode cL_movePanel 4 = .ok (.iload_n 2, 1) := by decide +kernel
theorem dL_movePanel_5 : decode cL_movePanel 5 = .ok (.invokevirtual 23, 3) := by decide +kernel
theorem dL_movePanel_8 : decode cL_movePanel 8 = .ok (.i2l, 1) := by decide +kernel
theorem dL_movePanel_9 : decode cL_movePanel 9 = .ok (.lastore, 1) := by decide +kernel
theorem dL_movePanel_10 : decode cL_movePanel 10 = .ok (.goto 11, 3) := by decide +kernel
theorem dL_movePanel_13 : decode cL_movePanel 13 = .ok (.astore 4, 2) := by decide +kernel
theorem dL_movePanel_15 : decode cL_movePanel 15 = .ok (.iconst 1, 1) := by decide +kernel
theorem dL_movePanel_16 : decode cL_movePanel 16 = .ok (.ireturn, 1) := by decide +kernel
theorem dL_movePanel_17 : decode cL_movePanel 17 = .ok (.astore 4, 2) := by decide +kernel
theorem dL_movePanel_19 : decode cL_movePanel 19 = .ok (.iconst 2, 1) := by decide +kernel
theorem dL_movePanel_20 : decode cL_movePanel 20 = .ok (.ireturn, 1) := by decide +kernel
theorem dL_movePanel_21 : decode cL_movePanel 21 = .ok (.iconst 0, 1) := by decide +kernel
theorem dL_movePanel_22 : decode cL_movePanel 22 = .ok (.ireturn, 1) := by decide +kernel
theorem dL_page_0 : decode cL_page 0 = .ok (.aload_n 1, 1) := by decide +kernel
theorem dL_page_1 : decode cL_page 1 = .ok (.iconst 0, 1) := by decide +kernel
theorem dL_page_2 : decode cL_page 2 = .ok (.aload_n 0, 1) := by decide +kernel
theorem dL_page_3 : decode cL_page 3 = .ok (.invokevirtual 7, 3) := by decide +kernel
theorem dL_page_6 : decode cL_page 6 = .ok (.i2l, 1) := by decide +kernel
theorem dL_page_7 : decode cL_page 7 = .ok (.lastore, 1) := by decide +kernel
theorem dL_page_8 : decode cL_page 8 = .ok (.goto 6, 3) := by decide +kernel
theorem dL_page_11 : decode cL_page 11 = .ok (.astore_n 2, 1) := by decide +kernel
theorem dL_page_12 : decode cL_page 12 = .ok (.iconst 1, 1) := by decide +kernel
theorem dL_page_13 : decode cL_page 13 = .ok (.ireturn, 1) := by decide +kernel
theorem dL_page_14 : decode cL_page 14 = .ok (.iconst 0, 1) := by decide +kernel
theorem dL_page_15 : decode cL_page 15 = .ok (.ireturn, 1) := by decide +kernel
theorem dL_panel_0 : decode cL_panel 0 = .ok (.aload 6, 2) := by decide +kernel
theorem dL_panel_2 : decode cL_panel 2 = .ok (.iconst 0, 1) := by decide +kernel
theorem dL_panel_3 : decode cL_panel 3 = .ok (.aload_n 0, 1) := by decide +kernel
theorem dL_panel_4 : decode cL_panel 4 = .ok (.iload_n 1, 1) := by decide +kernel
theorem dL_panel_5 : decode cL_panel 5 = .ok (.iload_n 2, 1) := by decide +kernel
theorem dL_panel_6 : decode cL_panel 6 = .ok (.iload_n 3, 1) := by decide +kernel
theorem dL_panel_7 : decode cL_panel 7 = .ok (.iload 4, 2) := by decide +kernel
theorem dL_panel_9 : decode cL_panel 9 = .ok (.iload 5, 2) := by decide +kernel
theorem dL_panel_11 : decode cL_panel 11 = .ok (.invokevirtual 15, 3) := by decide +kernel
theorem dL_panel_14 : decode cL_panel 14 = .ok (.i2l, 1) := by decide +kernel
theorem dL_panel_15 : decode cL_panel 15 = .ok (.lastore, 1) := by decide +kernel
theorem dL_panel_16 : decode cL_panel 16 = .ok (.goto 15, 3) := by decide +kernel
theorem dL_panel_19 : decode cL_panel 19 = .ok (.astore 7, 2) := by decide +kernel
theorem dL_panel_21 : decode cL_panel 21 = .ok (.iconst 1, 1) := by decide +kernel
theorem dL_panel_22 : decode cL_panel 22 = .ok (.ireturn, 1) := by decide +kernel
theorem dL_panel_23 : decode cL_panel 23 = .ok (.astore 7, 2) := by decide +kernel
theorem dL_panel_25 : decode cL_panel 25 = .ok (.iconst 2, 1) := by decide +kernel
theorem dL_panel_26 : decode cL_panel 26 = .ok (.ireturn, 1) := by decide +kernel
theorem dL_panel_27 : decode cL_panel 27 = .ok (.astore 7, 2) := by decide +kernel
theorem dL_panel_29 : decode cL_panel 29 = .ok (.iconst 3, 1) := by decide +kernel
theorem dL_panel_30 : decode cL_panel 30 = .ok (.ireturn, 1) := by decide +kernel
theorem dL_panel_31 : decode cL_panel 31 = .ok (.iconst 0, 1) := by decide +kernel
theorem dL_panel_32 : decode cL_panel 32 = .ok (.ireturn, 1) := by decide +kernel
theorem dL_panelAt_0 : decode cL_panelAt 0 = .ok (.aload_n 3, 1) := by decide +kernel
theorem dL_panelAt_1 : decode cL_panelAt 1 = .ok (.iconst 0, 1) := by decide +kernel
theorem dL_panelAt_2 : decode cL_panelAt 2 = .ok (.aload_n 0, 1) := by decide +kernel
theorem dL_panelAt_3 : decode cL_panelAt 3 = .ok (.iload_n 1, 1) := by decide +kernel
theorem dL_panelAt_4 : decode cL_panelAt 4 = .ok (.iload_n 2, 1) := by decide +kernel
theorem dL_panelAt_5 : decode cL_panelAt 5 = .ok (.invokevirtual 61, 3) := by decide +kernel
theorem dL_panelAt_8 : decode cL_panelAt 8 = .ok (.i2l, 1) := by decide +kernel
theorem dL_panelAt_9 : decode cL_panelAt 9 = .ok (.lastore, 1) := by decide +kernel
theorem dL_panelAt_10 : decode cL_panelAt 10 = .ok (.goto 7, 3) := by decide +kernel
theorem dL_panelAt_13 : decode cL_panelAt 13 = .ok (.astore 4, 2) := by decide +kernel
theorem dL_panelAt_15 : decode cL_panelAt 15 = .ok (.iconst 1, 1) := by decide +kernel
theorem dL_panelAt_16 : decode cL_panelAt 16 = .ok (.ireturn, 1) := by decide +kernel
theorem dL_panelAt_17 : decode cL_panelAt 17 = .ok (.iconst 0, 1) := by decide +kernel
theorem dL_panelAt_18 : decode cL_panelAt 18 = .ok (.ireturn, 1) := by decide +kernel
theorem dL_panels_0 : decode cL_panels 0 = .ok (.aload_n 2, 1) := by decide +kernel
theorem dL_panels_1 : decode cL_panels 1 = .ok (.iconst 0, 1) := by decide +kernel
theorem dL_panels_2 : decode cL_panels 2 = .ok (.aload_n 0, 1) := by decide +kernel
theorem dL_panels_3 : decode cL_panels 3 = .ok (.iload_n 1, 1) := by decide +kernel
theorem dL_panels_4 : decode cL_panels 4 = .ok (.invokevirtual 58, 3) := by decide +kernel
theorem dL_panels_7 : decode cL_panels 7 = .ok (.i2l, 1) := by decide +kernel
theorem dL_panels_8 : decode cL_panels 8 = .ok (.lastore, 1) := by decide +kernel
theorem dL_panels_9 : decode cL_panels 9 = .ok (.goto 6, 3) := by decide +kernel
theorem dL_panels_12 : decode cL_panels 12 = .ok (.astore_n 3, 1) := by decide +kernel
theorem dL_panels_13 : decode cL_panels 13 = .ok (.iconst 1, 1) := by decide +kernel
theorem dL_panels_14 : decode cL_panels 14 = .ok (.ireturn, 1) := by decide +kernel
theorem dL_panels_15 : decode cL_panels 15 = .ok (.iconst 0, 1) := by decide +kernel
theorem dL_panels_16 : decode cL_panels 16 = .ok (.ireturn, 1) := by decide +kernel
theorem dL_placeByPairs_0 : decode cL_placeByPairs 0 = .ok (.aload_n 2, 1) := by decide +kernel
theorem dL_placeByPairs_1 : decode cL_placeByPairs 1 = .ok (.iconst 0, 1) := by decide +kernel
theorem dL_placeByPairs_2 : decode cL_placeByPairs 2 = .ok (.aload_n 0, 1) := by decide +kernel
theorem dL_placeByPairs_3 : decode cL_placeByPairs 3 = .ok (.iload_n 1, 1) := by decide +kernel
theorem dL_placeByPairs_4 : decode cL_placeByPairs 4 = .ok (.invokevirtual 79, 3) := by decide +kernel
theorem dL_placeByPairs_7 : decode cL_placeByPairs 7 = .ok (.i2l, 1) := by decide +kernel
theorem dL_placeByPairs_8 : decode cL_placeByPairs 8 = .ok (.lastore, 1) := by decide +kernel
theorem dL_placeByPairs_9 : decode cL_placeByPairs 9 = .ok (.goto 6, 3) := by decide +kernel
theorem dL_placeByPairs_12 : decode cL_placeByPairs 12 = .ok (.astore_n 3, 1) := by decide +kernel
theorem dL_placeByPairs_13 : decode cL_placeByPairs 13 = .ok (.iconst 1, 1) := by decide +kernel
theorem dL_placeByPairs_14 : decode cL_placeByPairs 14 = .ok (.ireturn, 1) := by decide +kernel
theorem dL_placeByPairs_15 : decode cL_placeByPairs 15 = .ok (.iconst 0, 1) := by decide +kernel
theorem dL_placeByPairs_16 : decode cL_placeByPairs 16 = .ok (.ireturn, 1) := by decide +kernel
theorem dL_placeOf_0 : decode cL_placeOf 0 = .ok (.aload_n 2, 1) := by decide +kernel
theorem dL_placeOf_1 : decode cL_placeOf 1 = .ok (.iconst 0, 1) := by decide +kernel
theorem dL_placeOf_2 : decode cL_placeOf 2 = .ok (.aload_n 0, 1) := by decide +kernel
theorem dL_placeOf_3 : decode cL_placeOf 3 = .ok (.iload_n 1, 1) := by decide +kernel
theorem dL_placeOf_4 : decode cL_placeOf 4 = .ok (.invokevirtual 76, 3) := by decide +kernel
theorem dL_placeOf_7 : decode cL_placeOf 7 = .ok (.i2l, 1) := by decide +kernel
theorem dL_placeOf_8 : decode cL_placeOf 8 = .ok (.lastore, 1) := by decide +kernel
theorem dL_placeOf_9 : decode cL_placeOf 9 = .ok (.goto 6, 3) := by decide +kernel
theorem dL_placeOf_12 : decode cL_placeOf 12 = .ok (.astore_n 3, 1) := by decide +kernel
theorem dL_placeOf_13 : decode cL_placeOf 13 = .ok (.iconst 1, 1) := by decide +kernel
theorem dL_placeOf_14 : decode cL_placeOf 14 = .ok (.ireturn, 1) := by decide +kernel
theorem dL_placeOf_15 : decode cL_placeOf 15 = .ok (.iconst 0, 1) := by decide +kernel
theorem dL_placeOf_16 : decode cL_placeOf 16 = .ok (.ireturn, 1) := by decide +kernel
theorem dL_read_0 : decode cL_read 0 = .ok (.aload_n 2, 1) := by decide +kernel
theorem dL_read_1 : decode cL_read 1 = .ok (.iconst 0, 1) := by decide +kernel
theorem dL_read_2 : decode cL_read 2 = .ok (.aload_n 0, 1) := by decide +kernel
theorem dL_read_3 : decode cL_read 3 = .ok (.iload_n 1, 1) := by decide +kernel
theorem dL_read_4 : decode cL_read 4 = .ok (.invokevirtual 73, 3) := by decide +kernel
theorem dL_read_7 : decode cL_read 7 = .ok (.i2l, 1) := by decide +kernel
theorem dL_read_8 : decode cL_read 8 = .ok (.lastore, 1) := by decide +kernel
theorem dL_read_9 : decode cL_read 9 = .ok (.goto 6, 3) := by decide +kernel
theorem dL_read_12 : decode cL_read 12 = .ok (.astore_n 3, 1) := by decide +kernel
theorem dL_read_13 : decode cL_read 13 = .ok (.iconst 1, 1) := by decide +kernel
theorem dL_read_14 : decode cL_read 14 = .ok (.ireturn, 1) := by decide +kernel
theorem dL_read_15 : decode cL_read 15 = .ok (.iconst 0, 1) := by decide +kernel
theorem dL_read_16 : decode cL_read 16 = .ok (.ireturn, 1) := by decide +kernel
theorem dL_rows_0 : decode cL_rows 0 = .ok (.aload_n 2, 1) := by decide +kernel
theorem dL_rows_1 : decode cL_rows 1 = .ok (.iconst 0, 1) := by decide +kernel
theorem dL_rows_2 : decode cL_rows 2 = .ok (.aload_n 0, 1) := by decide +kernel
theorem dL_rows_3 : decode cL_rows 3 = .ok (.iload_n 1, 1) := by decide +kernel
theorem dL_rows_4 : decode cL_rows 4 = .ok (.invokevirtual 55, 3) := by decide +kernel
theorem dL_rows_7 : decode cL_rows 7 = .ok (.i2l, 1) := by decide +kernel
theorem dL_rows_8 : decode cL_rows 8 = .ok (.lastore, 1) := by decide +kernel
theorem dL_rows_9 : decode cL_rows 9 = .ok (.goto 6, 3) := by decide +kernel
theorem dL_rows_12 : decode cL_rows 12 = .ok (.astore_n 3, 1) := by decide +kernel
theorem dL_rows_13 : decode cL_rows 13 = .ok (.iconst 1, 1) := by decide +kernel
theorem dL_rows_14 : decode cL_rows 14 = .ok (.ireturn, 1) := by decide +kernel
theorem dL_rows_15 : decode cL_rows 15 = .ok (.iconst 0, 1) := by decide +kernel
theorem dL_rows_16 : decode cL_rows 16 = .ok (.ireturn, 1) := by decide +kernel
theorem dL_setGrowth_0 : decode cL_setGrowth 0 = .ok (.aload_n 3, 1) := by decide +kernel
theorem dL_setGrowth_1 : decode cL_setGrowth 1 = .ok (.iconst 0, 1) := by decide +kernel
theorem dL_setGrowth_2 : decode cL_setGrowth 2 = .ok (.aload_n 0, 1) := by decide +kernel
theorem dL_setGrowth_3 : decode cL_setGrowth 3 = .ok (.iload_n 1, 1) := by decide +kernel
theorem dL_setGrowth_4 : decode cL_setGrowth 4 = .ok (.iload_n 2, 1) := by decide +kernel
theorem dL_setGrowth_5 : decode cL_setGrowth 5 = .ok (.invokevirtual 52, 3) := by decide +kernel
theorem dL_setGrowth_8 : decode cL_setGrowth 8 = .ok (.i2l, 1) := by decide +kernel
theorem dL_setGrowth_9 : decode cL_setGrowth 9 = .ok (.lastore, 1) := by decide +kernel
theorem dL_setGrowth_10 : decode cL_setGrowth 10 = .ok (.goto 11, 3) := by decide +kernel
theorem dL_setGrowth_13 : decode cL_setGrowth 13 = .ok (.astore 4, 2) := by decide +kernel
theorem dL_setGrowth_15 : decode cL_setGrowth 15 = .ok (.iconst 1, 1) := by decide +kernel
theorem dL_setGrowth_16 : decode cL_setGrowth 16 = .ok (.ireturn, 1) := by decide +kernel
theorem dL_setGrowth_17 : decode cL_setGrowth 17 = .ok (.astore 4, 2) := by decide +kernel
theorem dL_setGrowth_19 : decode cL_setGrowth 19 = .ok (.iconst 2, 1) := by decide +kernel
theorem dL_setGrowth_20 : decode cL_setGrowth 20 = .ok (.ireturn, 1) := by decide +kernel
theorem dL_setGrowth_21 : decode cL_setGrowth 21 = .ok (.iconst 0, 1) := by decide +kernel
theorem dL_setGrowth_22 : decode cL_setGrowth 22 = .ok (.ireturn, 1) := by decide +kernel
theorem dL_sheet_0 : decode cL_sheet 0 = .ok (.aload_n 3, 1) := by decide +kernel
theorem dL_sheet_1 : decode cL_sheet 1 = .ok (.iconst 0, 1) := by decide +kernel
theorem dL_sheet_2 : decode cL_sheet 2 = .ok (.aload_n 0, 1) := by decide +kernel
theorem dL_sheet_3 : decode cL_sheet 3 = .ok (.iload_n 1, 1) := by decide +kernel
theorem dL_sheet_4 : decode cL_sheet 4 = .ok (.iload_n 2, 1) := by decide +kernel
theorem dL_sheet_5 : decode cL_sheet 5 = .ok (.invokevirtual 98, 3) := by decide +kernel
theorem dL_sheet_8 : decode cL_sheet 8 = .ok (.i2l, 1) := by decide +kernel
theorem dL_sheet_9 : decode cL_sheet 9 = .ok (.lastore, 1) := by decide +kernel
theorem dL_sheet_10 : decode cL_sheet 10 = .ok (.goto 11, 3) := by decide +kernel
theorem dL_sheet_13 : decode cL_sheet 13 = .ok (.astore 4, 2) := by decide +kernel
theorem dL_sheet_15 : decode cL_sheet 15 = .ok (.iconst 1, 1) := by decide +kernel
theorem dL_sheet_16 : decode cL_sheet 16 = .ok (.ireturn, 1) := by decide +kernel
theorem dL_sheet_17 : decode cL_sheet 17 = .ok (.astore 4, 2) := by decide +kernel
theorem dL_sheet_19 : decode cL_sheet 19 = .ok (.iconst 2, 1) := by decide +kernel
theorem dL_sheet_20 : decode cL_sheet 20 = .ok (.ireturn, 1) := by decide +kernel
theorem dL_sheet_21 : decode cL_sheet 21 = .ok (.iconst 0, 1) := by decide +kernel
theorem dL_sheet_22 : decode cL_sheet 22 = .ok (.ireturn, 1) := by decide +kernel
theorem dL_spread_0 : decode cL_spread 0 = .ok (.aload_n 2, 1) := by decide +kernel
theorem dL_spread_1 : decode cL_spread 1 = .ok (.iconst 0, 1) := by decide +kernel
theorem dL_spread_2 : decode cL_spread 2 = .ok (.aload_n 0, 1) := by decide +kernel
theorem dL_spread_3 : decode cL_spread 3 = .ok (.iload_n 1, 1) := by decide +kernel
theorem dL_spread_4 : decode cL_spread 4 = .ok (.invokevirtual 85, 3) := by decide +kernel
theorem dL_spread_7 : decode cL_spread 7 = .ok (.ifCond .eq 7, 3) := by decide +kernel
theorem dL_spread_10 : decode cL_spread 10 = .ok (.lconst 1, 1) := by decide +kernel
theorem dL_spread_11 : decode cL_spread 11 = .ok (.goto 4, 3) := by decide +kernel
theorem dL_spread_14 : decode cL_spread 14 = .ok (.lconst 0, 1) := by decide +kernel
theorem dL_spread_15 : decode cL_spread 15 = .ok (.lastore, 1) := by decide +kernel
theorem dL_spread_16 : decode cL_spread 16 = .ok (.goto 9, 3) := by decide +kernel
theorem dL_spread_19 : decode cL_spread 19 = .ok (.astore_n 3, 1) := by decide +kernel
theorem dL_spread_20 : decode cL_spread 20 = .ok (.iconst 1, 1) := by decide +kernel
theorem dL_spread_21 : decode cL_spread 21 = .ok (.ireturn, 1) := by decide +kernel
theorem dL_spread_22 : decode cL_spread 22 = .ok (.astore_n 3, 1) := by decide +kernel
theorem dL_spread_23 : decode cL_spread 23 = .ok (.iconst 2, 1) := by decide +kernel
theorem dL_spread_24 : decode cL_spread 24 = .ok (.ireturn, 1) := by decide +kernel
theorem dL_spread_25 : decode cL_spread 25 = .ok (.iconst 0, 1) := by decide +kernel
theorem dL_spread_26 : decode cL_spread 26 = .ok (.ireturn, 1) := by decide +kernel
theorem dL_translate_0 : decode cL_translate 0 = .ok (.aload_n 3, 1) := by decide +kernel
theorem dL_translate_1 : decode cL_translate 1 = .ok (.iconst 0, 1) := by decide +kernel
theorem dL_translate_2 : decode cL_translate 2 = .ok (.aload_n 0, 1) := by decide +kernel
theorem dL_translate_3 : decode cL_translate 3 = .ok (.iload_n 1, 1) := by decide +kernel
theorem dL_translate_4 : decode cL_translate 4 = .ok (.iload_n 2, 1) := by decide +kernel
theorem dL_translate_5 : decode cL_translate 5 = .ok (.invokevirtual 49, 3) := by decide +kernel
theorem dL_translate_8 : decode cL_translate 8 = .ok (.i2l, 1) := by decide +kernel
theorem dL_translate_9 : decode cL_translate 9 = .ok (.lastore, 1) := by decide +kernel
theorem dL_translate_10 : decode cL_translate 10 = .ok (.goto 15, 3) := by decide +kernel
theorem dL_translate_13 : decode cL_translate 13 = .ok (.astore 4, 2) := by decide +kernel
theorem dL_translate_15 : decode cL_translate 15 = .ok (.iconst 1, 1) := by decide +kernel
theorem dL_translate_16 : decode cL_translate 16 = .ok (.ireturn, 1) := by decide +kernel
theorem dL_translate_17 : decode cL_translate 17 = .ok (.astore 4, 2) := by decide +kernel
theorem dL_translate_19 : decode cL_translate 19 = .ok (.iconst 2, 1) := by decide +kernel
theorem dL_translate_20 : decode cL_translate 20 = .ok (.ireturn, 1) := by decide +kernel
theorem dL_translate_21 : decode cL_translate 21 = .ok (.astore 4, 2) := by decide +kernel
theorem dL_translate_23 : decode cL_translate 23 = .ok (.iconst 3, 1) := by decide +kernel
theorem dL_translate_24 : decode cL_translate 24 = .ok (.ireturn, 1) := by decide +kernel
theorem dL_translate_25 : decode cL_translate 25 = .ok (.iconst 0, 1) := by decide +kernel
theorem dL_translate_26 : decode cL_translate 26 = .ok (.ireturn, 1) := by decide +kernel
