theorem fl_RJx4a65c_48 : q_fl "java/util/ArrayList" 48 9 2 false := ⟨_, "java/util/ArrayList", rfl, by decide, by decide +kernel, wd_55, (Or.inl rfl)⟩
theorem fl_RJx4a65c_63 : q_fl "java/util/ArrayList" 63 9 0 false := ⟨_, "java/util/ArrayList", rfl, by decide, by decide +kernel, wd_57, (Or.inr (List.mem_of_getElem? (i := 109) (by decide +kernel)))⟩
theorem fl_RJx4a65c_9 : q_fl "java/util/ArrayList" 9 9 1 true := ⟨_, "java/util/ArrayList", rfl, by decide, by decide +kernel, wd_54, (Or.inl rfl)⟩
theorem fl_RX0_12 : q_fl "GutterPages$Balloon" 12 0 2 true := ⟨_, "GutterPages$Balloon", rfl, by decide, by decide +kernel, wd_954, (Or.inl rfl)⟩
theorem fl_RX0_25 : q_fl "GutterPages$Balloon" 25 0 4 true := ⟨_, "GutterPages$Balloon", rfl, by decide, by decide +kernel, wd_960, (Or.inl rfl)⟩
theorem fl_RX0_46 : q_fl "GutterPages$Balloon" 46 5 1 true := ⟨_, "GutterPages$Panel", rfl, by decide, by decide +kernel, wd_445, (Or.inl rfl)⟩
theorem fl_RX0_49 : q_fl "GutterPages$Balloon" 49 4 0 false := ⟨_, "GutterPages$Page", rfl, by decide, by decide +kernel, wd_266, (Or.inl rfl)⟩
theorem fl_RX0_59 : q_fl "GutterPages$Balloon" 59 5 9 false := ⟨_, "GutterPages$Panel", rfl, by decide, by decide +kernel, wd_467, (Or.inl rfl)⟩
theorem fl_RX0_62 : q_fl "GutterPages$Balloon" 62 5 7 true := ⟨_, "GutterPages$Panel", rfl, by decide, by decide +kernel, wd_461, (Or.inl rfl)⟩
theorem fl_RX0_67 : q_fl "GutterPages$Balloon" 67 1 1 false := ⟨_, "GutterPages$Box", rfl, by decide, by decide +kernel, wd_423, (Or.inl rfl)⟩
theorem fl_RX0_70 : q_fl "GutterPages$Balloon" 70 1 2 false := ⟨_, "GutterPages$Box", rfl, by decide, by decide +kernel, wd_427, (Or.inl rfl)⟩
theorem fl_RX0_73 : q_fl "GutterPages$Balloon" 73 1 0 false := ⟨_, "GutterPages$Box", rfl, by decide, by decide +kernel, wd_420, (Or.inl rfl)⟩
theorem fl_RX1_13 : q_fl "GutterPages$Box" 13 1 1 false := ⟨_, "GutterPages$Box", rfl, by decide, by decide +kernel, wd_422, (Or.inl rfl)⟩
theorem fl_RX1_16 : q_fl "GutterPages$Box" 16 1 2 false := ⟨_, "GutterPages$Box", rfl, by decide, by decide +kernel, wd_425, (Or.inl rfl)⟩
theorem fl_RX1_19 : q_fl "GutterPages$Box" 19 1 3 false := ⟨_, "GutterPages$Box", rfl, by decide, by decide +kernel, wd_429, (Or.inl rfl)⟩
theorem fl_RX1_7 : q_fl "GutterPages$Box" 7 1 0 false := ⟨_, "GutterPages$Box", rfl, by decide, by decide +kernel, wd_419, (Or.inl rfl)⟩
theorem fl_RX3_100 : q_fl "GutterPages$Layout" 100 1 0 false := ⟨_, "GutterPages$Box", rfl, by decide, by decide +kernel, wd_421, (Or.inl rfl)⟩
theorem fl_RX3_103 : q_fl "GutterPages$Layout" 103 5 1 true := ⟨_, "GutterPages$Panel", rfl, by decide, by decide +kernel, wd_447, (Or.inl rfl)⟩
theorem fl_RX3_111 : q_fl "GutterPages$Layout" 111 5 6 true := ⟨_, "GutterPages$Panel", rfl, by decide, by decide +kernel, wd_459, (Or.inl rfl)⟩
theorem fl_RX3_114 : q_fl "GutterPages$Layout" 114 0 3 true := ⟨_, "GutterPages$Balloon", rfl, by decide, by decide +kernel, wd_958, (Or.inl rfl)⟩
theorem fl_RX3_115 : q_fl "GutterPages$Layout" 115 0 1 false := ⟨_, "GutterPages$Balloon", rfl, by decide, by decide +kernel, wd_953, (Or.inl rfl)⟩
theorem fl_RX3_136 : q_fl "GutterPages$Layout" 136 4 2 false := ⟨_, "GutterPages$Page", rfl, by decide, by decide +kernel, wd_271, (Or.inl rfl)⟩
theorem fl_RX3_139 : q_fl "GutterPages$Layout" 139 5 5 true := ⟨_, "GutterPages$Panel", rfl, by decide, by decide +kernel, wd_456, (Or.inl rfl)⟩
theorem fl_RX3_144 : q_fl "GutterPages$Layout" 144 2 0 false := ⟨_, "GutterPages$Face", rfl, by decide, by decide +kernel, wd_916, (Or.inl rfl)⟩
theorem fl_RX3_147 : q_fl "GutterPages$Layout" 147 2 1 false := ⟨_, "GutterPages$Face", rfl, by decide, by decide +kernel, wd_919, (Or.inl rfl)⟩
theorem fl_RX3_148 : q_fl "GutterPages$Layout" 148 2 2 false := ⟨_, "GutterPages$Face", rfl, by decide, by decide +kernel, wd_922, (Or.inl rfl)⟩
theorem fl_RX3_15 : q_fl "GutterPages$Layout" 15 3 1 true := ⟨_, "GutterPages$Layout", rfl, by decide, by decide +kernel, wd_74, (Or.inl rfl)⟩
theorem fl_RX3_18 : q_fl "GutterPages$Layout" 18 4 4 false := ⟨_, "GutterPages$Page", rfl, by decide, by decide +kernel, wd_275, (Or.inl rfl)⟩
theorem fl_RX3_24 : q_fl "GutterPages$Layout" 24 4 1 true := ⟨_, "GutterPages$Page", rfl, by decide, by decide +kernel, wd_268, (Or.inl rfl)⟩
theorem fl_RX3_40 : q_fl "GutterPages$Layout" 40 5 3 false := ⟨_, "GutterPages$Panel", rfl, by decide, by decide +kernel, wd_451, (Or.inl rfl)⟩
theorem fl_RX3_54 : q_fl "GutterPages$Layout" 54 5 2 false := ⟨_, "GutterPages$Panel", rfl, by decide, by decide +kernel, wd_449, (Or.inl rfl)⟩
theorem fl_RX3_57 : q_fl "GutterPages$Layout" 57 5 8 true := ⟨_, "GutterPages$Panel", rfl, by decide, by decide +kernel, wd_465, (Or.inl rfl)⟩
theorem fl_RX3_61 : q_fl "GutterPages$Layout" 61 1 2 false := ⟨_, "GutterPages$Box", rfl, by decide, by decide +kernel, wd_426, (Or.inl rfl)⟩
theorem fl_RX3_66 : q_fl "GutterPages$Layout" 66 5 4 false := ⟨_, "GutterPages$Panel", rfl, by decide, by decide +kernel, wd_453, (Or.inl rfl)⟩
theorem fl_RX3_79 : q_fl "GutterPages$Layout" 79 1 3 false := ⟨_, "GutterPages$Box", rfl, by decide, by decide +kernel, wd_430, (Or.inl rfl)⟩
theorem fl_RX3_89 : q_fl "GutterPages$Layout" 89 1 1 false := ⟨_, "GutterPages$Box", rfl, by decide, by decide +kernel, wd_424, (Or.inl rfl)⟩
theorem fl_RX3_9 : q_fl "GutterPages$Layout" 9 3 0 true := ⟨_, "GutterPages$Layout", rfl, by decide, by decide +kernel, wd_72, (Or.inl rfl)⟩
theorem fl_RX4_12 : q_fl "GutterPages$Page" 12 4 1 true := ⟨_, "GutterPages$Page", rfl, by decide, by decide +kernel, wd_267, (Or.inl rfl)⟩
theorem fl_RX4_22 : q_fl "GutterPages$Page" 22 4 2 false := ⟨_, "GutterPages$Page", rfl, by decide, by decide +kernel, wd_270, (Or.inl rfl)⟩
theorem fl_RX4_42 : q_fl "GutterPages$Page" 42 5 7 true := ⟨_, "GutterPages$Panel", rfl, by decide, by decide +kernel, wd_462, (Or.inl rfl)⟩
theorem fl_RX4_46 : q_fl "GutterPages$Page" 46 5 8 true := ⟨_, "GutterPages$Panel", rfl, by decide, by decide +kernel, wd_466, (Or.inl rfl)⟩
theorem fl_RX4_58 : q_fl "GutterPages$Page" 58 4 4 false := ⟨_, "GutterPages$Page", rfl, by decide, by decide +kernel, wd_276, (Or.inl rfl)⟩
theorem fl_RX5_10 : q_fl "GutterPages$Panel" 10 5 5 true := ⟨_, "GutterPages$Panel", rfl, by decide, by decide +kernel, wd_454, (Or.inl rfl)⟩
theorem fl_RX5_16 : q_fl "GutterPages$Panel" 16 5 6 true := ⟨_, "GutterPages$Panel", rfl, by decide, by decide +kernel, wd_457, (Or.inl rfl)⟩
theorem fl_RX5_22 : q_fl "GutterPages$Panel" 22 5 7 true := ⟨_, "GutterPages$Panel", rfl, by decide, by decide +kernel, wd_460, (Or.inl rfl)⟩
theorem fl_RX5_26 : q_fl "GutterPages$Panel" 26 5 8 true := ⟨_, "GutterPages$Panel", rfl, by decide, by decide +kernel, wd_464, (Or.inl rfl)⟩
theorem fl_RX5_63 : q_fl "GutterPages$Panel" 63 2 0 false := ⟨_, "GutterPages$Face", rfl, by decide, by decide +kernel, wd_915, (Or.inl rfl)⟩
theorem fl_RX5_66 : q_fl "GutterPages$Panel" 66 2 1 false := ⟨_, "GutterPages$Face", rfl, by decide, by decide +kernel, wd_918, (Or.inl rfl)⟩
theorem fl_RX5_69 : q_fl "GutterPages$Panel" 69 1 3 false := ⟨_, "GutterPages$Box", rfl, by decide, by decide +kernel, wd_431, (Or.inl rfl)⟩
theorem fl_RX5_72 : q_fl "GutterPages$Panel" 72 2 2 false := ⟨_, "GutterPages$Face", rfl, by decide, by decide +kernel, wd_921, (Or.inl rfl)⟩
theorem fl_RX5_77 : q_fl "GutterPages$Panel" 77 5 10 false := ⟨_, "GutterPages$Panel", rfl, by decide, by decide +kernel, wd_471, (Or.inl rfl)⟩
theorem fl_RX5_85 : q_fl "GutterPages$Panel" 85 0 2 true := ⟨_, "GutterPages$Balloon", rfl, by decide, by decide +kernel, wd_955, (Or.inl rfl)⟩
theorem fl_RX5_86 : q_fl "GutterPages$Panel" 86 0 3 true := ⟨_, "GutterPages$Balloon", rfl, by decide, by decide +kernel, wd_959, (Or.inl rfl)⟩
theorem fl_RX6_11 : q_fl "GutterPages$Reader" 11 6 0 true := ⟨_, "GutterPages$Reader", rfl, by decide, by decide +kernel, wd_89, (Or.inl rfl)⟩
theorem fl_RX6_17 : q_fl "GutterPages$Reader" 17 6 2 true := ⟨_, "GutterPages$Reader", rfl, by decide, by decide +kernel, wd_92, (Or.inl rfl)⟩
theorem fl_RX6_21 : q_fl "GutterPages$Reader" 21 6 1 false := ⟨_, "GutterPages$Reader", rfl, by decide, by decide +kernel, wd_90, (Or.inl rfl)⟩
theorem fl_RX7_10 : q_fl "GutterPages" 10 7 0 true := ⟨_, "GutterPages", rfl, by decide, by decide +kernel, wd_101, (Or.inl rfl)⟩
theorem fl_RX7_103 : q_fl "GutterPages" 103 5 1 true := ⟨_, "GutterPages$Panel", rfl, by decide, by decide +kernel, wd_446, (Or.inl rfl)⟩
theorem fl_RX7_137 : q_fl "GutterPages" 137 5 6 true := ⟨_, "GutterPages$Panel", rfl, by decide, by decide +kernel, wd_458, (Or.inl rfl)⟩
theorem fl_RX7_138 : q_fl "GutterPages" 138 5 5 true := ⟨_, "GutterPages$Panel", rfl, by decide, by decide +kernel, wd_455, (Or.inl rfl)⟩
theorem fl_RX7_150 : q_fl "GutterPages" 150 5 7 true := ⟨_, "GutterPages$Panel", rfl, by decide, by decide +kernel, wd_463, (Or.inl rfl)⟩
theorem fl_RX7_154 : q_fl "GutterPages" 154 1 3 false := ⟨_, "GutterPages$Box", rfl, by decide, by decide +kernel, wd_432, (Or.inl rfl)⟩
theorem fl_RX7_16 : q_fl "GutterPages" 16 7 1 true := ⟨_, "GutterPages", rfl, by decide, by decide +kernel, wd_102, (Or.inl rfl)⟩
theorem fl_RX7_170 : q_fl "GutterPages" 170 0 0 false := ⟨_, "GutterPages$Balloon", rfl, by decide, by decide +kernel, wd_951, (Or.inl rfl)⟩
theorem fl_RX7_175 : q_fl "GutterPages" 175 0 4 true := ⟨_, "GutterPages$Balloon", rfl, by decide, by decide +kernel, wd_961, (Or.inl rfl)⟩
theorem fl_RX7_19 : q_fl "GutterPages" 19 7 2 true := ⟨_, "GutterPages", rfl, by decide, by decide +kernel, wd_103, (Or.inl rfl)⟩
theorem fl_RX7_195 : q_fl "GutterPages" 195 0 6 false := ⟨_, "GutterPages$Balloon", rfl, by decide, by decide +kernel, wd_964, (Or.inl rfl)⟩
theorem fl_RX7_204 : q_fl "GutterPages" 204 0 5 true := ⟨_, "GutterPages$Balloon", rfl, by decide, by decide +kernel, wd_962, (Or.inl rfl)⟩
theorem fl_RX7_208 : q_fl "GutterPages" 208 4 2 false := ⟨_, "GutterPages$Page", rfl, by decide, by decide +kernel, wd_272, (Or.inl rfl)⟩
theorem fl_RX7_211 : q_fl "GutterPages" 211 3 0 true := ⟨_, "GutterPages$Layout", rfl, by decide, by decide +kernel, wd_73, (Or.inl rfl)⟩
theorem fl_RX7_221 : q_fl "GutterPages" 221 4 3 false := ⟨_, "GutterPages$Page", rfl, by decide, by decide +kernel, wd_274, (Or.inl rfl)⟩
theorem fl_RX7_224 : q_fl "GutterPages" 224 5 9 false := ⟨_, "GutterPages$Panel", rfl, by decide, by decide +kernel, wd_469, (Or.inl rfl)⟩
theorem fl_RX7_231 : q_fl "GutterPages" 231 0 2 true := ⟨_, "GutterPages$Balloon", rfl, by decide, by decide +kernel, wd_956, (Or.inl rfl)⟩
theorem fl_RX7_232 : q_fl "GutterPages" 232 1 2 false := ⟨_, "GutterPages$Box", rfl, by decide, by decide +kernel, wd_428, (Or.inl rfl)⟩
theorem fl_RX7_25 : q_fl "GutterPages" 25 7 3 true := ⟨_, "GutterPages", rfl, by decide, by decide +kernel, wd_104, (Or.inl rfl)⟩
theorem fl_RX7_262 : q_fl "GutterPages" 262 4 5 false := ⟨_, "GutterPages$Page", rfl, by decide, by decide +kernel, wd_277, (Or.inl rfl)⟩
theorem fl_RX7_287 : q_fl "GutterPages" 287 6 2 true := ⟨_, "GutterPages$Reader", rfl, by decide, by decide +kernel, wd_93, (Or.inl rfl)⟩
theorem fl_RX7_295 : q_fl "GutterPages" 295 6 1 false := ⟨_, "GutterPages$Reader", rfl, by decide, by decide +kernel, wd_91, (Or.inl rfl)⟩
theorem fl_RX7_303 : q_fl "GutterPages" 303 5 11 false := ⟨_, "GutterPages$Panel", rfl, by decide, by decide +kernel, wd_473, (Or.inl rfl)⟩
theorem fl_RX7_32 : q_fl "GutterPages" 32 7 4 true := ⟨_, "GutterPages", rfl, by decide, by decide +kernel, wd_105, (Or.inl rfl)⟩
theorem fl_RX7_56 : q_fl "GutterPages" 56 4 0 false := ⟨_, "GutterPages$Page", rfl, by decide, by decide +kernel, wd_265, (Or.inl rfl)⟩
theorem fl_RX7_64 : q_fl "GutterPages" 64 4 1 true := ⟨_, "GutterPages$Page", rfl, by decide, by decide +kernel, wd_269, (Or.inl rfl)⟩
theorem fl_RX7_98 : q_fl "GutterPages" 98 5 0 false := ⟨_, "GutterPages$Panel", rfl, by decide, by decide +kernel, wd_443, (Or.inl rfl)⟩
theorem fl_RX8_101 : q_fl "GutterPagesModel" 101 8 34 false := ⟨_, "GutterPagesModel", rfl, by decide, by decide +kernel, wd_1249, (Or.inl rfl)⟩
theorem fl_RX8_105 : q_fl "GutterPagesModel" 105 8 36 true := ⟨_, "GutterPagesModel", rfl, by decide, by decide +kernel, wd_1251, (Or.inl rfl)⟩
theorem fl_RX8_108 : q_fl "GutterPagesModel" 108 8 0 false := ⟨_, "GutterPagesModel", rfl, by decide, by decide +kernel, wd_1215, (Or.inl rfl)⟩
theorem fl_RX8_111 : q_fl "GutterPagesModel" 111 8 1 false := ⟨_, "GutterPagesModel", rfl, by decide, by decide +kernel, wd_1216, (Or.inl rfl)⟩
theorem fl_RX8_118 : q_fl "GutterPagesModel" 118 8 2 false := ⟨_, "GutterPagesModel", rfl, by decide, by decide +kernel, wd_1217, (Or.inl rfl)⟩
theorem fl_RX8_121 : q_fl "GutterPagesModel" 121 8 3 false := ⟨_, "GutterPagesModel", rfl, by decide, by decide +kernel, wd_1218, (Or.inl rfl)⟩
theorem fl_RX8_13 : q_fl "GutterPagesModel" 13 8 5 true := ⟨_, "GutterPagesModel", rfl, by decide, by decide +kernel, wd_1220, (Or.inl rfl)⟩
theorem fl_RX8_16 : q_fl "GutterPagesModel" 16 8 6 true := ⟨_, "GutterPagesModel", rfl, by decide, by decide +kernel, wd_1221, (Or.inl rfl)⟩
theorem fl_RX8_19 : q_fl "GutterPagesModel" 19 8 7 true := ⟨_, "GutterPagesModel", rfl, by decide, by decide +kernel, wd_1222, (Or.inl rfl)⟩
theorem fl_RX8_202 : q_fl "GutterPagesModel" 202 8 35 false := ⟨_, "GutterPagesModel", rfl, by decide, by decide +kernel, wd_1250, (Or.inl rfl)⟩
theorem fl_RX8_23 : q_fl "GutterPagesModel" 23 8 8 true := ⟨_, "GutterPagesModel", rfl, by decide, by decide +kernel, wd_1223, (Or.inl rfl)⟩
theorem fl_RX8_26 : q_fl "GutterPagesModel" 26 8 9 true := ⟨_, "GutterPagesModel", rfl, by decide, by decide +kernel, wd_1224, (Or.inl rfl)⟩
theorem fl_RX8_29 : q_fl "GutterPagesModel" 29 8 10 true := ⟨_, "GutterPagesModel", rfl, by decide, by decide +kernel, wd_1225, (Or.inl rfl)⟩
theorem fl_RX8_32 : q_fl "GutterPagesModel" 32 8 11 true := ⟨_, "GutterPagesModel", rfl, by decide, by decide +kernel, wd_1226, (Or.inl rfl)⟩
theorem fl_RX8_35 : q_fl "GutterPagesModel" 35 8 12 true := ⟨_, "GutterPagesModel", rfl, by decide, by decide +kernel, wd_1227, (Or.inl rfl)⟩
theorem fl_RX8_38 : q_fl "GutterPagesModel" 38 8 13 true := ⟨_, "GutterPagesModel", rfl, by decide, by decide +kernel, wd_1228, (Or.inl rfl)⟩
theorem fl_RX8_41 : q_fl "GutterPagesModel" 41 8 14 true := ⟨_, "GutterPagesModel", rfl, by decide, by decide +kernel, wd_1229, (Or.inl rfl)⟩
theorem fl_RX8_44 : q_fl "GutterPagesModel" 44 8 15 true := ⟨_, "GutterPagesModel", rfl, by decide, by decide +kernel, wd_1230, (Or.inl rfl)⟩
theorem fl_RX8_47 : q_fl "GutterPagesModel" 47 8 16 true := ⟨_, "GutterPagesModel", rfl, by decide, by decide +kernel, wd_1231, (Or.inl rfl)⟩
theorem fl_RX8_50 : q_fl "GutterPagesModel" 50 8 17 true := ⟨_, "GutterPagesModel", rfl, by decide, by decide +kernel, wd_1232, (Or.inl rfl)⟩
theorem fl_RX8_53 : q_fl "GutterPagesModel" 53 8 18 true := ⟨_, "GutterPagesModel", rfl, by decide, by decide +kernel, wd_1233, (Or.inl rfl)⟩
theorem fl_RX8_56 : q_fl "GutterPagesModel" 56 8 19 true := ⟨_, "GutterPagesModel", rfl, by decide, by decide +kernel, wd_1234, (Or.inl rfl)⟩
theorem fl_RX8_59 : q_fl "GutterPagesModel" 59 8 20 true := ⟨_, "GutterPagesModel", rfl, by decide, by decide +kernel, wd_1235, (Or.inl rfl)⟩
theorem fl_RX8_62 : q_fl "GutterPagesModel" 62 8 21 true := ⟨_, "GutterPagesModel", rfl, by decide, by decide +kernel, wd_1236, (Or.inl rfl)⟩
theorem fl_RX8_65 : q_fl "GutterPagesModel" 65 8 22 true := ⟨_, "GutterPagesModel", rfl, by decide, by decide +kernel, wd_1237, (Or.inl rfl)⟩
theorem fl_RX8_68 : q_fl "GutterPagesModel" 68 8 23 true := ⟨_, "GutterPagesModel", rfl, by decide, by decide +kernel, wd_1238, (Or.inl rfl)⟩
theorem fl_RX8_7 : q_fl "GutterPagesModel" 7 8 4 true := ⟨_, "GutterPagesModel", rfl, by decide, by decide +kernel, wd_1219, (Or.inl rfl)⟩
theorem fl_RX8_71 : q_fl "GutterPagesModel" 71 8 24 true := ⟨_, "GutterPagesModel", rfl, by decide, by decide +kernel, wd_1239, (Or.inl rfl)⟩
theorem fl_RX8_74 : q_fl "GutterPagesModel" 74 8 25 true := ⟨_, "GutterPagesModel", rfl, by decide, by decide +kernel, wd_1240, (Or.inl rfl)⟩
theorem fl_RX8_77 : q_fl "GutterPagesModel" 77 8 26 true := ⟨_, "GutterPagesModel", rfl, by decide, by decide +kernel, wd_1241, (Or.inl rfl)⟩
theorem fl_RX8_80 : q_fl "GutterPagesModel" 80 8 27 true := ⟨_, "GutterPagesModel", rfl, by decide, by decide +kernel, wd_1242, (Or.inl rfl)⟩
theorem fl_RX8_83 : q_fl "GutterPagesModel" 83 8 28 true := ⟨_, "GutterPagesModel", rfl, by decide, by decide +kernel, wd_1243, (Or.inl rfl)⟩
theorem fl_RX8_86 : q_fl "GutterPagesModel" 86 8 29 true := ⟨_, "GutterPagesModel", rfl, by decide, by decide +kernel, wd_1244, (Or.inl rfl)⟩
theorem fl_RX8_89 : q_fl "GutterPagesModel" 89 8 30 true := ⟨_, "GutterPagesModel", rfl, by decide, by decide +kernel, wd_1245, (Or.inl rfl)⟩
theorem fl_RX8_92 : q_fl "GutterPagesModel" 92 8 31 true := ⟨_, "GutterPagesModel", rfl, by decide, by decide +kernel, wd_1246, (Or.inl rfl)⟩
theorem fl_RX8_95 : q_fl "GutterPagesModel" 95 8 32 true := ⟨_, "GutterPagesModel", rfl, by decide, by decide +kernel, wd_1247, (Or.inl rfl)⟩
theorem fl_RX8_98 : q_fl "GutterPagesModel" 98 8 33 true := ⟨_, "GutterPagesModel", rfl, by decide, by decide +kernel, wd_1248, (Or.inl rfl)⟩
theorem fs_RJx4a65c_48 : q_fs "java/util/ArrayList" 48 9 2 0 false := ⟨_, "java/util/ArrayList", .int, rfl, by decide, by decide +kernel, wd_55, (Or.inl rfl), rfl, fun h => absurd h (by decide), by decide +kernel, (Or.inl ⟨rfl, rfl⟩)⟩
theorem fs_RJx4a65c_63 : q_fs "java/util/ArrayList" 63 9 0 0 false := ⟨_, "java/util/ArrayList", .int, rfl, by decide, by decide +kernel, wd_57, (Or.inr (List.mem_of_getElem? (i := 109) (by decide +kernel))), rfl, fun h => absurd h (by decide), by decide +kernel, (Or.inl ⟨rfl, rfl⟩)⟩
theorem fs_RJx4a65c_9 : q_fs "java/util/ArrayList" 9 9 1 2 false := ⟨_, "java/util/ArrayList", (.array (.object "java/lang/Object")), rfl, by decide, by decide +kernel, wd_54, (Or.inl rfl), rfl, fun h => absurd h (by decide), by decide +kernel, (Or.inr (Or.inr ⟨rfl, Or.inr ⟨_, rfl⟩⟩))⟩
theorem fs_RJxc12de_7 : q_fs "java/util/AbstractList" 7 9 0 0 false := ⟨_, "java/util/AbstractList", .int, rfl, by decide, by decide +kernel, wd_56, (Or.inl rfl), rfl, fun h => absurd h (by decide), by decide +kernel, (Or.inl ⟨rfl, rfl⟩)⟩
theorem fs_RX0_12 : q_fs "GutterPages$Balloon" 12 0 2 2 true := ⟨_, "GutterPages$Balloon", (.object "GutterPages$Box"), rfl, by decide, by decide +kernel, wd_954, (Or.inl rfl), rfl, fun _ => rfl, by decide +kernel, (Or.inr (Or.inr ⟨rfl, Or.inl ⟨_, rfl⟩⟩))⟩
theorem fs_RX0_18 : q_fs "GutterPages$Balloon" 18 0 3 2 true := ⟨_, "GutterPages$Balloon", (.object "GutterPages$Box"), rfl, by decide, by decide +kernel, wd_957, (Or.inl rfl), rfl, fun _ => rfl, by decide +kernel, (Or.inr (Or.inr ⟨rfl, Or.inl ⟨_, rfl⟩⟩))⟩
theorem fs_RX0_21 : q_fs "GutterPages$Balloon" 21 0 0 0 true := ⟨_, "GutterPages$Balloon", .int, rfl, by decide, by decide +kernel, wd_950, (Or.inl rfl), rfl, fun _ => rfl, by decide +kernel, (Or.inl ⟨rfl, rfl⟩)⟩
theorem fs_RX0_25 : q_fs "GutterPages$Balloon" 25 0 4 2 false := ⟨_, "GutterPages$Balloon", (.object "GutterPages$Panel"), rfl, by decide, by decide +kernel, wd_960, (Or.inl rfl), rfl, fun h => absurd h (by decide), by decide +kernel, (Or.inr (Or.inr ⟨rfl, Or.inl ⟨_, rfl⟩⟩))⟩
theorem fs_RX0_29 : q_fs "GutterPages$Balloon" 29 0 1 0 true := ⟨_, "GutterPages$Balloon", .int, rfl, by decide, by decide +kernel, wd_952, (Or.inl rfl), rfl, fun _ => rfl, by decide +kernel, (Or.inl ⟨rfl, rfl⟩)⟩
theorem fs_RX1_13 : q_fs "GutterPages$Box" 13 1 1 0 false := ⟨_, "GutterPages$Box", .int, rfl, by decide, by decide +kernel, wd_422, (Or.inl rfl), rfl, fun h => absurd h (by decide), by decide +kernel, (Or.inl ⟨rfl, rfl⟩)⟩
theorem fs_RX1_16 : q_fs "GutterPages$Box" 16 1 2 0 false := ⟨_, "GutterPages$Box", .int, rfl, by decide, by decide +kernel, wd_425, (Or.inl rfl), rfl, fun h => absurd h (by decide), by decide +kernel, (Or.inl ⟨rfl, rfl⟩)⟩
theorem fs_RX1_19 : q_fs "GutterPages$Box" 19 1 3 0 false := ⟨_, "GutterPages$Box", .int, rfl, by decide, by decide +kernel, wd_429, (Or.inl rfl), rfl, fun h => absurd h (by decide), by decide +kernel, (Or.inl ⟨rfl, rfl⟩)⟩
theorem fs_RX1_7 : q_fs "GutterPages$Box" 7 1 0 0 false := ⟨_, "GutterPages$Box", .int, rfl, by decide, by decide +kernel, wd_419, (Or.inl rfl), rfl, fun h => absurd h (by decide), by decide +kernel, (Or.inl ⟨rfl, rfl⟩)⟩
theorem fs_RX2_13 : q_fs "GutterPages$Face" 13 2 1 0 true := ⟨_, "GutterPages$Face", .int, rfl, by decide, by decide +kernel, wd_917, (Or.inl rfl), rfl, fun _ => rfl, by decide +kernel, (Or.inl ⟨rfl, rfl⟩)⟩
theorem fs_RX2_16 : q_fs "GutterPages$Face" 16 2 2 0 true := ⟨_, "GutterPages$Face", .int, rfl, by decide, by decide +kernel, wd_920, (Or.inl rfl), rfl, fun _ => rfl, by decide +kernel, (Or.inl ⟨rfl, rfl⟩)⟩
theorem fs_RX2_7 : q_fs "GutterPages$Face" 7 2 0 0 true := ⟨_, "GutterPages$Face", .int, rfl, by decide, by decide +kernel, wd_914, (Or.inl rfl), rfl, fun _ => rfl, by decide +kernel, (Or.inl ⟨rfl, rfl⟩)⟩
theorem fs_RX3_100 : q_fs "GutterPages$Layout" 100 1 0 0 false := ⟨_, "GutterPages$Box", .int, rfl, by decide, by decide +kernel, wd_421, (Or.inl rfl), rfl, fun h => absurd h (by decide), by decide +kernel, (Or.inl ⟨rfl, rfl⟩)⟩
theorem fs_RX3_15 : q_fs "GutterPages$Layout" 15 3 1 2 true := ⟨_, "GutterPages$Layout", (.array .int), rfl, by decide, by decide +kernel, wd_74, (Or.inl rfl), rfl, fun _ => rfl, by decide +kernel, (Or.inr (Or.inr ⟨rfl, Or.inr ⟨_, rfl⟩⟩))⟩
theorem fs_RX3_18 : q_fs "GutterPages$Layout" 18 4 4 0 false := ⟨_, "GutterPages$Page", .int, rfl, by decide, by decide +kernel, wd_275, (Or.inl rfl), rfl, fun h => absurd h (by decide), by decide +kernel, (Or.inl ⟨rfl, rfl⟩)⟩
theorem fs_RX3_61 : q_fs "GutterPages$Layout" 61 1 2 0 false := ⟨_, "GutterPages$Box", .int, rfl, by decide, by decide +kernel, wd_426, (Or.inl rfl), rfl, fun h => absurd h (by decide), by decide +kernel, (Or.inl ⟨rfl, rfl⟩)⟩
theorem fs_RX3_79 : q_fs "GutterPages$Layout" 79 1 3 0 false := ⟨_, "GutterPages$Box", .int, rfl, by decide, by decide +kernel, wd_430, (Or.inl rfl), rfl, fun h => absurd h (by decide), by decide +kernel, (Or.inl ⟨rfl, rfl⟩)⟩
theorem fs_RX3_86 : q_fs "GutterPages$Layout" 86 5 10 0 false := ⟨_, "GutterPages$Panel", .int, rfl, by decide, by decide +kernel, wd_470, (Or.inl rfl), rfl, fun h => absurd h (by decide), by decide +kernel, (Or.inl ⟨rfl, rfl⟩)⟩
theorem fs_RX3_89 : q_fs "GutterPages$Layout" 89 1 1 0 false := ⟨_, "GutterPages$Box", .int, rfl, by decide, by decide +kernel, wd_424, (Or.inl rfl), rfl, fun h => absurd h (by decide), by decide +kernel, (Or.inl ⟨rfl, rfl⟩)⟩
theorem fs_RX3_9 : q_fs "GutterPages$Layout" 9 3 0 2 true := ⟨_, "GutterPages$Layout", (.array .int), rfl, by decide, by decide +kernel, wd_72, (Or.inl rfl), rfl, fun _ => rfl, by decide +kernel, (Or.inr (Or.inr ⟨rfl, Or.inr ⟨_, rfl⟩⟩))⟩
theorem fs_RX4_12 : q_fs "GutterPages$Page" 12 4 1 2 true := ⟨_, "GutterPages$Page", (.object "java/util/ArrayList"), rfl, by decide, by decide +kernel, wd_267, (Or.inl rfl), rfl, fun _ => rfl, by decide +kernel, (Or.inr (Or.inr ⟨rfl, Or.inl ⟨_, rfl⟩⟩))⟩
theorem fs_RX4_18 : q_fs "GutterPages$Page" 18 4 0 0 true := ⟨_, "GutterPages$Page", .int, rfl, by decide, by decide +kernel, wd_264, (Or.inl rfl), rfl, fun _ => rfl, by decide +kernel, (Or.inl ⟨rfl, rfl⟩)⟩
theorem fs_RX4_61 : q_fs "GutterPages$Page" 61 4 3 0 false := ⟨_, "GutterPages$Page", .int, rfl, by decide, by decide +kernel, wd_273, (Or.inl rfl), rfl, fun h => absurd h (by decide), by decide +kernel, (Or.inl ⟨rfl, rfl⟩)⟩
theorem fs_RX5_10 : q_fs "GutterPages$Panel" 10 5 5 2 true := ⟨_, "GutterPages$Panel", (.object "java/util/ArrayList"), rfl, by decide, by decide +kernel, wd_454, (Or.inl rfl), rfl, fun _ => rfl, by decide +kernel, (Or.inr (Or.inr ⟨rfl, Or.inl ⟨_, rfl⟩⟩))⟩
theorem fs_RX5_16 : q_fs "GutterPages$Panel" 16 5 6 2 true := ⟨_, "GutterPages$Panel", (.object "java/util/ArrayList"), rfl, by decide, by decide +kernel, wd_457, (Or.inl rfl), rfl, fun _ => rfl, by decide +kernel, (Or.inr (Or.inr ⟨rfl, Or.inl ⟨_, rfl⟩⟩))⟩
theorem fs_RX5_22 : q_fs "GutterPages$Panel" 22 5 7 2 true := ⟨_, "GutterPages$Panel", (.object "GutterPages$Box"), rfl, by decide, by decide +kernel, wd_460, (Or.inl rfl), rfl, fun _ => rfl, by decide +kernel, (Or.inr (Or.inr ⟨rfl, Or.inl ⟨_, rfl⟩⟩))⟩
theorem fs_RX5_26 : q_fs "GutterPages$Panel" 26 5 8 2 true := ⟨_, "GutterPages$Panel", (.object "GutterPages$Box"), rfl, by decide, by decide +kernel, wd_464, (Or.inl rfl), rfl, fun _ => rfl, by decide +kernel, (Or.inr (Or.inr ⟨rfl, Or.inl ⟨_, rfl⟩⟩))⟩
theorem fs_RX5_29 : q_fs "GutterPages$Panel" 29 5 0 0 true := ⟨_, "GutterPages$Panel", .int, rfl, by decide, by decide +kernel, wd_442, (Or.inl rfl), rfl, fun _ => rfl, by decide +kernel, (Or.inl ⟨rfl, rfl⟩)⟩
theorem fs_RX5_33 : q_fs "GutterPages$Panel" 33 5 1 2 true := ⟨_, "GutterPages$Panel", (.object "GutterPages$Page"), rfl, by decide, by decide +kernel, wd_444, (Or.inl rfl), rfl, fun _ => rfl, by decide +kernel, (Or.inr (Or.inr ⟨rfl, Or.inl ⟨_, rfl⟩⟩))⟩
theorem fs_RX5_37 : q_fs "GutterPages$Panel" 37 5 2 0 true := ⟨_, "GutterPages$Panel", .int, rfl, by decide, by decide +kernel, wd_448, (Or.inl rfl), rfl, fun _ => rfl, by decide +kernel, (Or.inl ⟨rfl, rfl⟩)⟩
theorem fs_RX5_40 : q_fs "GutterPages$Panel" 40 5 3 0 true := ⟨_, "GutterPages$Panel", .int, rfl, by decide, by decide +kernel, wd_450, (Or.inl rfl), rfl, fun _ => rfl, by decide +kernel, (Or.inl ⟨rfl, rfl⟩)⟩
theorem fs_RX5_43 : q_fs "GutterPages$Panel" 43 5 4 0 true := ⟨_, "GutterPages$Panel", .int, rfl, by decide, by decide +kernel, wd_452, (Or.inl rfl), rfl, fun _ => rfl, by decide +kernel, (Or.inl ⟨rfl, rfl⟩)⟩
theorem fs_RX5_80 : q_fs "GutterPages$Panel" 80 5 9 0 false := ⟨_, "GutterPages$Panel", .int, rfl, by decide, by decide +kernel, wd_468, (Or.inl rfl), rfl, fun h => absurd h (by decide), by decide +kernel, (Or.inl ⟨rfl, rfl⟩)⟩
theorem fs_RX5_87 : q_fs "GutterPages$Panel" 87 5 11 1 false := ⟨_, "GutterPages$Panel", .boolean, rfl, by decide, by decide +kernel, wd_472, (Or.inl rfl), rfl, fun h => absurd h (by decide), by decide +kernel, (Or.inr (Or.inl ⟨rfl, rfl⟩))⟩
theorem fs_RX5_91 : q_fs "GutterPages$Panel" 91 0 6 1 false := ⟨_, "GutterPages$Balloon", .boolean, rfl, by decide, by decide +kernel, wd_963, (Or.inl rfl), rfl, fun h => absurd h (by decide), by decide +kernel, (Or.inr (Or.inl ⟨rfl, rfl⟩))⟩
theorem fs_RX6_11 : q_fs "GutterPages$Reader" 11 6 0 2 true := ⟨_, "GutterPages$Reader", (.array (.object "GutterPages$Panel")), rfl, by decide, by decide +kernel, wd_89, (Or.inl rfl), rfl, fun _ => rfl, by decide +kernel, (Or.inr (Or.inr ⟨rfl, Or.inr ⟨_, rfl⟩⟩))⟩
theorem fs_RX6_17 : q_fs "GutterPages$Reader" 17 6 2 2 false := ⟨_, "GutterPages$Reader", (.object "GutterPages$Panel"), rfl, by decide, by decide +kernel, wd_92, (Or.inl rfl), rfl, fun h => absurd h (by decide), by decide +kernel, (Or.inr (Or.inr ⟨rfl, Or.inl ⟨_, rfl⟩⟩))⟩
theorem fs_RX6_21 : q_fs "GutterPages$Reader" 21 6 1 0 false := ⟨_, "GutterPages$Reader", .int, rfl, by decide, by decide +kernel, wd_90, (Or.inl rfl), rfl, fun h => absurd h (by decide), by decide +kernel, (Or.inl ⟨rfl, rfl⟩)⟩
theorem fs_RX7_10 : q_fs "GutterPages" 10 7 0 2 true := ⟨_, "GutterPages", (.object "java/util/ArrayList"), rfl, by decide, by decide +kernel, wd_101, (Or.inl rfl), rfl, fun _ => rfl, by decide +kernel, (Or.inr (Or.inr ⟨rfl, Or.inl ⟨_, rfl⟩⟩))⟩
theorem fs_RX7_16 : q_fs "GutterPages" 16 7 1 2 true := ⟨_, "GutterPages", (.object "java/util/ArrayList"), rfl, by decide, by decide +kernel, wd_102, (Or.inl rfl), rfl, fun _ => rfl, by decide +kernel, (Or.inr (Or.inr ⟨rfl, Or.inl ⟨_, rfl⟩⟩))⟩
theorem fs_RX7_19 : q_fs "GutterPages" 19 7 2 2 true := ⟨_, "GutterPages", (.object "java/util/ArrayList"), rfl, by decide, by decide +kernel, wd_103, (Or.inl rfl), rfl, fun _ => rfl, by decide +kernel, (Or.inr (Or.inr ⟨rfl, Or.inl ⟨_, rfl⟩⟩))⟩
theorem fs_RX7_195 : q_fs "GutterPages" 195 0 6 1 false := ⟨_, "GutterPages$Balloon", .boolean, rfl, by decide, by decide +kernel, wd_964, (Or.inl rfl), rfl, fun h => absurd h (by decide), by decide +kernel, (Or.inr (Or.inl ⟨rfl, rfl⟩))⟩
theorem fs_RX7_204 : q_fs "GutterPages" 204 0 5 2 false := ⟨_, "GutterPages$Balloon", (.object "GutterPages$Balloon"), rfl, by decide, by decide +kernel, wd_962, (Or.inl rfl), rfl, fun h => absurd h (by decide), by decide +kernel, (Or.inr (Or.inr ⟨rfl, Or.inl ⟨_, rfl⟩⟩))⟩
theorem fs_RX7_208 : q_fs "GutterPages" 208 4 2 0 false := ⟨_, "GutterPages$Page", .int, rfl, by decide, by decide +kernel, wd_272, (Or.inl rfl), rfl, fun h => absurd h (by decide), by decide +kernel, (Or.inl ⟨rfl, rfl⟩)⟩
theorem fs_RX7_25 : q_fs "GutterPages" 25 7 3 2 true := ⟨_, "GutterPages", (.object "GutterPages$Layout"), rfl, by decide, by decide +kernel, wd_104, (Or.inl rfl), rfl, fun _ => rfl, by decide +kernel, (Or.inr (Or.inr ⟨rfl, Or.inl ⟨_, rfl⟩⟩))⟩
theorem fs_RX7_262 : q_fs "GutterPages" 262 4 5 1 false := ⟨_, "GutterPages$Page", .boolean, rfl, by decide, by decide +kernel, wd_277, (Or.inl rfl), rfl, fun h => absurd h (by decide), by decide +kernel, (Or.inr (Or.inl ⟨rfl, rfl⟩))⟩
theorem fs_RX7_32 : q_fs "GutterPages" 32 7 4 2 true := ⟨_, "GutterPages", (.object "GutterPages$Reader"), rfl, by decide, by decide +kernel, wd_105, (Or.inl rfl), rfl, fun _ => rfl, by decide +kernel, (Or.inr (Or.inr ⟨rfl, Or.inl ⟨_, rfl⟩⟩))⟩
theorem fs_RX8_101 : q_fs "GutterPagesModel" 101 8 34 0 false := ⟨_, "GutterPagesModel", .int, rfl, by decide, by decide +kernel, wd_1249, (Or.inl rfl), rfl, fun h => absurd h (by decide), by decide +kernel, (Or.inl ⟨rfl, rfl⟩)⟩
theorem fs_RX8_105 : q_fs "GutterPagesModel" 105 8 36 2 true := ⟨_, "GutterPagesModel", (.array .int), rfl, by decide, by decide +kernel, wd_1251, (Or.inl rfl), rfl, fun _ => rfl, by decide +kernel, (Or.inr (Or.inr ⟨rfl, Or.inr ⟨_, rfl⟩⟩))⟩
theorem fs_RX8_108 : q_fs "GutterPagesModel" 108 8 0 0 false := ⟨_, "GutterPagesModel", .int, rfl, by decide, by decide +kernel, wd_1215, (Or.inl rfl), rfl, fun h => absurd h (by decide), by decide +kernel, (Or.inl ⟨rfl, rfl⟩)⟩
theorem fs_RX8_111 : q_fs "GutterPagesModel" 111 8 1 0 false := ⟨_, "GutterPagesModel", .int, rfl, by decide, by decide +kernel, wd_1216, (Or.inl rfl), rfl, fun h => absurd h (by decide), by decide +kernel, (Or.inl ⟨rfl, rfl⟩)⟩
theorem fs_RX8_118 : q_fs "GutterPagesModel" 118 8 2 0 false := ⟨_, "GutterPagesModel", .int, rfl, by decide, by decide +kernel, wd_1217, (Or.inl rfl), rfl, fun h => absurd h (by decide), by decide +kernel, (Or.inl ⟨rfl, rfl⟩)⟩
theorem fs_RX8_121 : q_fs "GutterPagesModel" 121 8 3 0 false := ⟨_, "GutterPagesModel", .int, rfl, by decide, by decide +kernel, wd_1218, (Or.inl rfl), rfl, fun h => absurd h (by decide), by decide +kernel, (Or.inl ⟨rfl, rfl⟩)⟩
theorem fs_RX8_13 : q_fs "GutterPagesModel" 13 8 5 2 true := ⟨_, "GutterPagesModel", (.array .int), rfl, by decide, by decide +kernel, wd_1220, (Or.inl rfl), rfl, fun _ => rfl, by decide +kernel, (Or.inr (Or.inr ⟨rfl, Or.inr ⟨_, rfl⟩⟩))⟩
theorem fs_RX8_16 : q_fs "GutterPagesModel" 16 8 6 2 true := ⟨_, "GutterPagesModel", (.array .int), rfl, by decide, by decide +kernel, wd_1221, (Or.inl rfl), rfl, fun _ => rfl, by decide +kernel, (Or.inr (Or.inr ⟨rfl, Or.inr ⟨_, rfl⟩⟩))⟩
theorem fs_RX8_19 : q_fs "GutterPagesModel" 19 8 7 2 true := ⟨_, "GutterPagesModel", (.array .boolean), rfl, by decide, by decide +kernel, wd_1222, (Or.inl rfl), rfl, fun _ => rfl, by decide +kernel, (Or.inr (Or.inr ⟨rfl, Or.inr ⟨_, rfl⟩⟩))⟩
theorem fs_RX8_202 : q_fs "GutterPagesModel" 202 8 35 0 false := ⟨_, "GutterPagesModel", .int, rfl, by decide, by decide +kernel, wd_1250, (Or.inl rfl), rfl, fun h => absurd h (by decide), by decide +kernel, (Or.inl ⟨rfl, rfl⟩)⟩
theorem fs_RX8_23 : q_fs "GutterPagesModel" 23 8 8 2 true := ⟨_, "GutterPagesModel", (.array .int), rfl, by decide, by decide +kernel, wd_1223, (Or.inl rfl), rfl, fun _ => rfl, by decide +kernel, (Or.inr (Or.inr ⟨rfl, Or.inr ⟨_, rfl⟩⟩))⟩
theorem fs_RX8_26 : q_fs "GutterPagesModel" 26 8 9 2 true := ⟨_, "GutterPagesModel", (.array .int), rfl, by decide, by decide +kernel, wd_1224, (Or.inl rfl), rfl, fun _ => rfl, by decide +kernel, (Or.inr (Or.inr ⟨rfl, Or.inr ⟨_, rfl⟩⟩))⟩
theorem fs_RX8_29 : q_fs "GutterPagesModel" 29 8 10 2 true := ⟨_, "GutterPagesModel", (.array .int), rfl, by decide, by decide +kernel, wd_1225, (Or.inl rfl), rfl, fun _ => rfl, by decide +kernel, (Or.inr (Or.inr ⟨rfl, Or.inr ⟨_, rfl⟩⟩))⟩
theorem fs_RX8_32 : q_fs "GutterPagesModel" 32 8 11 2 true := ⟨_, "GutterPagesModel", (.array .int), rfl, by decide, by decide +kernel, wd_1226, (Or.inl rfl), rfl, fun _ => rfl, by decide +kernel, (Or.inr (Or.inr ⟨rfl, Or.inr ⟨_, rfl⟩⟩))⟩
theorem fs_RX8_35 : q_fs "GutterPagesModel" 35 8 12 2 true := ⟨_, "GutterPagesModel", (.array .int), rfl, by decide, by decide +kernel, wd_1227, (Or.inl rfl), rfl, fun _ => rfl, by decide +kernel, (Or.inr (Or.inr ⟨rfl, Or.inr ⟨_, rfl⟩⟩))⟩
theorem fs_RX8_38 : q_fs "GutterPagesModel" 38 8 13 2 true := ⟨_, "GutterPagesModel", (.array .int), rfl, by decide, by decide +kernel, wd_1228, (Or.inl rfl), rfl, fun _ => rfl, by decide +kernel, (Or.inr (Or.inr ⟨rfl, Or.inr ⟨_, rfl⟩⟩))⟩
theorem fs_RX8_41 : q_fs "GutterPagesModel" 41 8 14 2 true := ⟨_, "GutterPagesModel", (.array .int), rfl, by decide, by decide +kernel, wd_1229, (Or.inl rfl), rfl, fun _ => rfl, by decide +kernel, (Or.inr (Or.inr ⟨rfl, Or.inr ⟨_, rfl⟩⟩))⟩
theorem fs_RX8_44 : q_fs "GutterPagesModel" 44 8 15 2 true := ⟨_, "GutterPagesModel", (.array .int), rfl, by decide, by decide +kernel, wd_1230, (Or.inl rfl), rfl, fun _ => rfl, by decide +kernel, (Or.inr (Or.inr ⟨rfl, Or.inr ⟨_, rfl⟩⟩))⟩
theorem fs_RX8_47 : q_fs "GutterPagesModel" 47 8 16 2 true := ⟨_, "GutterPagesModel", (.array .int), rfl, by decide, by decide +kernel, wd_1231, (Or.inl rfl), rfl, fun _ => rfl, by decide +kernel, (Or.inr (Or.inr ⟨rfl, Or.inr ⟨_, rfl⟩⟩))⟩
theorem fs_RX8_50 : q_fs "GutterPagesModel" 50 8 17 2 true := ⟨_, "GutterPagesModel", (.array .int), rfl, by decide, by decide +kernel, wd_1232, (Or.inl rfl), rfl, fun _ => rfl, by decide +kernel, (Or.inr (Or.inr ⟨rfl, Or.inr ⟨_, rfl⟩⟩))⟩
theorem fs_RX8_53 : q_fs "GutterPagesModel" 53 8 18 2 true := ⟨_, "GutterPagesModel", (.array .int), rfl, by decide, by decide +kernel, wd_1233, (Or.inl rfl), rfl, fun _ => rfl, by decide +kernel, (Or.inr (Or.inr ⟨rfl, Or.inr ⟨_, rfl⟩⟩))⟩
theorem fs_RX8_56 : q_fs "GutterPagesModel" 56 8 19 2 true := ⟨_, "GutterPagesModel", (.array .int), rfl, by decide, by decide +kernel, wd_1234, (Or.inl rfl), rfl, fun _ => rfl, by decide +kernel, (Or.inr (Or.inr ⟨rfl, Or.inr ⟨_, rfl⟩⟩))⟩
theorem fs_RX8_59 : q_fs "GutterPagesModel" 59 8 20 2 true := ⟨_, "GutterPagesModel", (.array .int), rfl, by decide, by decide +kernel, wd_1235, (Or.inl rfl), rfl, fun _ => rfl, by decide +kernel, (Or.inr (Or.inr ⟨rfl, Or.inr ⟨_, rfl⟩⟩))⟩
theorem fs_RX8_62 : q_fs "GutterPagesModel" 62 8 21 2 true := ⟨_, "GutterPagesModel", (.array .int), rfl, by decide, by decide +kernel, wd_1236, (Or.inl rfl), rfl, fun _ => rfl, by decide +kernel, (Or.inr (Or.inr ⟨rfl, Or.inr ⟨_, rfl⟩⟩))⟩
theorem fs_RX8_65 : q_fs "GutterPagesModel" 65 8 22 2 true := ⟨_, "GutterPagesModel", (.array .int), rfl, by decide, by decide +kernel, wd_1237, (Or.inl rfl), rfl, fun _ => rfl, by decide +kernel, (Or.inr (Or.inr ⟨rfl, Or.inr ⟨_, rfl⟩⟩))⟩
theorem fs_RX8_68 : q_fs "GutterPagesModel" 68 8 23 2 true := ⟨_, "GutterPagesModel", (.array .int), rfl, by decide, by decide +kernel, wd_1238, (Or.inl rfl), rfl, fun _ => rfl, by decide +kernel, (Or.inr (Or.inr ⟨rfl, Or.inr ⟨_, rfl⟩⟩))⟩
theorem fs_RX8_7 : q_fs "GutterPagesModel" 7 8 4 2 true := ⟨_, "GutterPagesModel", (.array .int), rfl, by decide, by decide +kernel, wd_1219, (Or.inl rfl), rfl, fun _ => rfl, by decide +kernel, (Or.inr (Or.inr ⟨rfl, Or.inr ⟨_, rfl⟩⟩))⟩
theorem fs_RX8_71 : q_fs "GutterPagesModel" 71 8 24 2 true := ⟨_, "GutterPagesModel", (.array .int), rfl, by decide, by decide +kernel, wd_1239, (Or.inl rfl), rfl, fun _ => rfl, by decide +kernel, (Or.inr (Or.inr ⟨rfl, Or.inr ⟨_, rfl⟩⟩))⟩
theorem fs_RX8_74 : q_fs "GutterPagesModel" 74 8 25 2 true := ⟨_, "GutterPagesModel", (.array .int), rfl, by decide, by decide +kernel, wd_1240, (Or.inl rfl), rfl, fun _ => rfl, by decide +kernel, (Or.inr (Or.inr ⟨rfl, Or.inr ⟨_, rfl⟩⟩))⟩
theorem fs_RX8_77 : q_fs "GutterPagesModel" 77 8 26 2 true := ⟨_, "GutterPagesModel", (.array .int), rfl, by decide, by decide +kernel, wd_1241, (Or.inl rfl), rfl, fun _ => rfl, by decide +kernel, (Or.inr (Or.inr ⟨rfl, Or.inr ⟨_, rfl⟩⟩))⟩
theorem fs_RX8_80 : q_fs "GutterPagesModel" 80 8 27 2 true := ⟨_, "GutterPagesModel", (.array .int), rfl, by decide, by decide +kernel, wd_1242, (Or.inl rfl), rfl, fun _ => rfl, by decide +kernel, (Or.inr (Or.inr ⟨rfl, Or.inr ⟨_, rfl⟩⟩))⟩
theorem fs_RX8_83 : q_fs "GutterPagesModel" 83 8 28 2 true := ⟨_, "GutterPagesModel", (.array .int), rfl, by decide, by decide +kernel, wd_1243, (Or.inl rfl), rfl, fun _ => rfl, by decide +kernel, (Or.inr (Or.inr ⟨rfl, Or.inr ⟨_, rfl⟩⟩))⟩
theorem fs_RX8_86 : q_fs "GutterPagesModel" 86 8 29 2 true := ⟨_, "GutterPagesModel", (.array .int), rfl, by decide, by decide +kernel, wd_1244, (Or.inl rfl), rfl, fun _ => rfl, by decide +kernel, (Or.inr (Or.inr ⟨rfl, Or.inr ⟨_, rfl⟩⟩))⟩
theorem fs_RX8_89 : q_fs "GutterPagesModel" 89 8 30 2 true := ⟨_, "GutterPagesModel", (.array .int), rfl, by decide, by decide +kernel, wd_1245, (Or.inl rfl), rfl, fun _ => rfl, by decide +kernel, (Or.inr (Or.inr ⟨rfl, Or.inr ⟨_, rfl⟩⟩))⟩
theorem fs_RX8_92 : q_fs "GutterPagesModel" 92 8 31 2 true := ⟨_, "GutterPagesModel", (.array .int), rfl, by decide, by decide +kernel, wd_1246, (Or.inl rfl), rfl, fun _ => rfl, by decide +kernel, (Or.inr (Or.inr ⟨rfl, Or.inr ⟨_, rfl⟩⟩))⟩
theorem fs_RX8_95 : q_fs "GutterPagesModel" 95 8 32 2 true := ⟨_, "GutterPagesModel", (.array .int), rfl, by decide, by decide +kernel, wd_1247, (Or.inl rfl), rfl, fun _ => rfl, by decide +kernel, (Or.inr (Or.inr ⟨rfl, Or.inr ⟨_, rfl⟩⟩))⟩
theorem fs_RX8_98 : q_fs "GutterPagesModel" 98 8 33 2 true := ⟨_, "GutterPagesModel", (.array .int), rfl, by decide, by decide +kernel, wd_1248, (Or.inl rfl), rfl, fun _ => rfl, by decide +kernel, (Or.inr (Or.inr ⟨rfl, Or.inr ⟨_, rfl⟩⟩))⟩
theorem nw_RX0_9 : q_nw "GutterPages$Balloon" 9 1 := ⟨_, rfl, wd_948, wd_414, wd_22⟩
theorem nw_RX4_9 : q_nw "GutterPages$Page" 9 9 := ⟨_, rfl, wd_262, wd_41, wd_4⟩
theorem nw_RX5_19 : q_nw "GutterPages$Panel" 19 1 := ⟨_, rfl, wd_413, wd_414, wd_22⟩
theorem nw_RX5_7 : q_nw "GutterPages$Panel" 7 9 := ⟨_, rfl, wd_411, wd_41, wd_4⟩
theorem nw_RX7_143 : q_nw "GutterPages" 143 2 := ⟨_, rfl, wd_908, wd_909, wd_30⟩
theorem nw_RX7_161 : q_nw "GutterPages" 161 0 := ⟨_, rfl, wd_143, wd_943, wd_31⟩
theorem nw_RX7_22 : q_nw "GutterPages" 22 3 := ⟨_, rfl, wd_66, wd_67, wd_5⟩
theorem nw_RX7_29 : q_nw "GutterPages" 29 6 := ⟨_, rfl, wd_81, wd_82, wd_6⟩
theorem nw_RX7_47 : q_nw "GutterPages" 47 4 := ⟨_, rfl, wd_152, wd_257, wd_12⟩
theorem nw_RX7_7 : q_nw "GutterPages" 7 9 := ⟨_, rfl, wd_40, wd_41, wd_4⟩
theorem nw_RX7_77 : q_nw "GutterPages" 77 5 := ⟨_, rfl, wd_153, wd_406, wd_21⟩
theorem sel_X7_answersComeLater : Cond.selects "GutterPages" ⟨"GutterPages", "answersComeLater", "()Z"⟩ ⟨"GutterPages", "answersComeLater", "()Z"⟩ ∈ lw_tbl := List.mem_of_getElem? (i := 18) (by decide +kernel)
theorem sel_X7_balloonReadAt : Cond.selects "GutterPages" ⟨"GutterPages", "balloonReadAt", "(I)LGutterPages$Balloon;"⟩ ⟨"GutterPages", "balloonReadAt", "(I)LGutterPages$Balloon;"⟩ ∈ lw_tbl := List.mem_of_getElem? (i := 23) (by decide +kernel)
theorem sel_X7_countReadBefore : Cond.selects "GutterPages" ⟨"GutterPages", "countReadBefore", "(LGutterPages$Balloon;)I"⟩ ⟨"GutterPages", "countReadBefore", "(LGutterPages$Balloon;)I"⟩ ∈ lw_tbl := List.mem_of_getElem? (i := 24) (by decide +kernel)
theorem sel_X7_isAnswered : Cond.selects "GutterPages" ⟨"GutterPages", "isAnswered", "(LGutterPages$Balloon;)Z"⟩ ⟨"GutterPages", "isAnswered", "(LGutterPages$Balloon;)Z"⟩ ∈ lw_tbl := List.mem_of_getElem? (i := 22) (by decide +kernel)
theorem sel_X7_isAnsweredFromElsewhere : Cond.selects "GutterPages" ⟨"GutterPages", "isAnsweredFromElsewhere", "(LGutterPages$Panel;)Z"⟩ ⟨"GutterPages", "isAnsweredFromElsewhere", "(LGutterPages$Panel;)Z"⟩ ∈ lw_tbl := List.mem_of_getElem? (i := 19) (by decide +kernel)
theorem sel_X7_isSpread : Cond.selects "GutterPages" ⟨"GutterPages", "isSpread", "(I)Z"⟩ ⟨"GutterPages", "isSpread", "(I)Z"⟩ ∈ lw_tbl := List.mem_of_getElem? (i := 25) (by decide +kernel)
theorem sel_X7_leafOf : Cond.selects "GutterPages" ⟨"GutterPages", "leafOf", "(II)I"⟩ ⟨"GutterPages", "leafOf", "(II)I"⟩ ∈ lw_tbl := List.mem_of_getElem? (i := 26) (by decide +kernel)
theorem sel_X7_leafOfSpread : Cond.selects "GutterPages" ⟨"GutterPages", "leafOfSpread", "(III)I"⟩ ⟨"GutterPages", "leafOfSpread", "(III)I"⟩ ∈ lw_tbl := List.mem_of_getElem? (i := 27) (by decide +kernel)
theorem sel_X7_needBalloon : Cond.selects "GutterPages" ⟨"GutterPages", "needBalloon", "(I)LGutterPages$Balloon;"⟩ ⟨"GutterPages", "needBalloon", "(I)LGutterPages$Balloon;"⟩ ∈ lw_tbl := List.mem_of_getElem? (i := 21) (by decide +kernel)
theorem sel_X7_needPage : Cond.selects "GutterPages" ⟨"GutterPages", "needPage", "(I)LGutterPages$Page;"⟩ ⟨"GutterPages", "needPage", "(I)LGutterPages$Page;"⟩ ∈ lw_tbl := List.mem_of_getElem? (i := 5) (by decide +kernel)
theorem sel_X7_needPanel : Cond.selects "GutterPages" ⟨"GutterPages", "needPanel", "(I)LGutterPages$Panel;"⟩ ⟨"GutterPages", "needPanel", "(I)LGutterPages$Panel;"⟩ ∈ lw_tbl := List.mem_of_getElem? (i := 17) (by decide +kernel)
theorem sel_X7_readAheadOf : Cond.selects "GutterPages" ⟨"GutterPages", "readAheadOf", "(LGutterPages$Panel;)LGutterPages$Panel;"⟩ ⟨"GutterPages", "readAheadOf", "(LGutterPages$Panel;)LGutterPages$Panel;"⟩ ∈ lw_tbl := List.mem_of_getElem? (i := 20) (by decide +kernel)
theorem sel_X7_readBehind : Cond.selects "GutterPages" ⟨"GutterPages", "readBehind", "(LGutterPages$Panel;)LGutterPages$Panel;"⟩ ⟨"GutterPages", "readBehind", "(LGutterPages$Panel;)LGutterPages$Panel;"⟩ ∈ lw_tbl := List.mem_of_getElem? (i := 0) (by decide +kernel)
theorem sel_X3_findSpot : Cond.selects "GutterPages$Layout" ⟨"GutterPages$Layout", "findSpot", "(LGutterPages$Box;IILGutterPages$Box;Z)Z"⟩ ⟨"GutterPages$Layout", "findSpot", "(LGutterPages$Box;IILGutterPages$Box;Z)Z"⟩ ∈ lw_tbl := List.mem_of_getElem? (i := 14) (by decide +kernel)
theorem sel_X3_fitsInto : Cond.selects "GutterPages$Layout" ⟨"GutterPages$Layout", "fitsInto", "(ILGutterPages$Page;II)Z"⟩ ⟨"GutterPages$Layout", "fitsInto", "(ILGutterPages$Page;II)Z"⟩ ∈ lw_tbl := List.mem_of_getElem? (i := 9) (by decide +kernel)
theorem sel_X3_growthOf : Cond.selects "GutterPages$Layout" ⟨"GutterPages$Layout", "growthOf", "(LGutterPages$Page;)I"⟩ ⟨"GutterPages$Layout", "growthOf", "(LGutterPages$Page;)I"⟩ ∈ lw_tbl := List.mem_of_getElem? (i := 13) (by decide +kernel)
theorem sel_X3_heightOfRow : Cond.selects "GutterPages$Layout" ⟨"GutterPages$Layout", "heightOfRow", "(LGutterPages$Page;II)I"⟩ ⟨"GutterPages$Layout", "heightOfRow", "(LGutterPages$Page;II)I"⟩ ∈ lw_tbl := List.mem_of_getElem? (i := 8) (by decide +kernel)
theorem sel_X3_placeBalloons : Cond.selects "GutterPages$Layout" ⟨"GutterPages$Layout", "placeBalloons", "(LGutterPages$Panel;)Z"⟩ ⟨"GutterPages$Layout", "placeBalloons", "(LGutterPages$Panel;)Z"⟩ ∈ lw_tbl := List.mem_of_getElem? (i := 10) (by decide +kernel)
theorem sel_X3_take : Cond.selects "GutterPages$Layout" ⟨"GutterPages$Layout", "take", "(IIII)V"⟩ ⟨"GutterPages$Layout", "take", "(IIII)V"⟩ ∈ lw_tbl := List.mem_of_getElem? (i := 12) (by decide +kernel)
theorem sel_X3_takeFaces : Cond.selects "GutterPages$Layout" ⟨"GutterPages$Layout", "takeFaces", "(LGutterPages$Panel;)V"⟩ ⟨"GutterPages$Layout", "takeFaces", "(LGutterPages$Panel;)V"⟩ ∈ lw_tbl := List.mem_of_getElem? (i := 11) (by decide +kernel)
theorem sel_X3_takenBetween : Cond.selects "GutterPages$Layout" ⟨"GutterPages$Layout", "takenBetween", "(II)I"⟩ ⟨"GutterPages$Layout", "takenBetween", "(II)I"⟩ ∈ lw_tbl := List.mem_of_getElem? (i := 15) (by decide +kernel)
theorem sel_X8_areAnswered : Cond.selects "GutterPagesModel" ⟨"GutterPagesModel", "areAnswered", "()Z"⟩ ⟨"GutterPagesModel", "areAnswered", "()Z"⟩ ∈ lw_tbl := List.mem_of_getElem? (i := 40) (by decide +kernel)
theorem sel_X8_before : Cond.selects "GutterPagesModel" ⟨"GutterPagesModel", "before", "(I)I"⟩ ⟨"GutterPagesModel", "before", "(I)I"⟩ ∈ lw_tbl := List.mem_of_getElem? (i := 47) (by decide +kernel)
theorem sel_X8_changed : Cond.selects "GutterPagesModel" ⟨"GutterPagesModel", "changed", "(I)I"⟩ ⟨"GutterPagesModel", "changed", "(I)I"⟩ ∈ lw_tbl := List.mem_of_getElem? (i := 44) (by decide +kernel)
theorem sel_X8_fails : Cond.selects "GutterPagesModel" ⟨"GutterPagesModel", "fails", "(I)I"⟩ ⟨"GutterPagesModel", "fails", "(I)I"⟩ ∈ lw_tbl := List.mem_of_getElem? (i := 29) (by decide +kernel)
theorem sel_X8_goesTo : Cond.selects "GutterPagesModel" ⟨"GutterPagesModel", "goesTo", "(I)V"⟩ ⟨"GutterPagesModel", "goesTo", "(I)V"⟩ ∈ lw_tbl := List.mem_of_getElem? (i := 50) (by decide +kernel)
theorem sel_X8_grown : Cond.selects "GutterPagesModel" ⟨"GutterPagesModel", "grown", "(II)I"⟩ ⟨"GutterPagesModel", "grown", "(II)I"⟩ ∈ lw_tbl := List.mem_of_getElem? (i := 38) (by decide +kernel)
theorem sel_X8_isBalloon : Cond.selects "GutterPagesModel" ⟨"GutterPagesModel", "isBalloon", "(I)Z"⟩ ⟨"GutterPagesModel", "isBalloon", "(I)Z"⟩ ∈ lw_tbl := List.mem_of_getElem? (i := 46) (by decide +kernel)
theorem sel_X8_isBefore : Cond.selects "GutterPagesModel" ⟨"GutterPagesModel", "isBefore", "(II)Z"⟩ ⟨"GutterPagesModel", "isBefore", "(II)Z"⟩ ∈ lw_tbl := List.mem_of_getElem? (i := 41) (by decide +kernel)
theorem sel_X8_isFree : Cond.selects "GutterPagesModel" ⟨"GutterPagesModel", "isFree", "(IIIII)Z"⟩ ⟨"GutterPagesModel", "isFree", "(IIIII)Z"⟩ ∈ lw_tbl := List.mem_of_getElem? (i := 39) (by decide +kernel)
theorem sel_X8_isFromRight : Cond.selects "GutterPagesModel" ⟨"GutterPagesModel", "isFromRight", "(I)Z"⟩ ⟨"GutterPagesModel", "isFromRight", "(I)Z"⟩ ∈ lw_tbl := List.mem_of_getElem? (i := 35) (by decide +kernel)
theorem sel_X8_isPage : Cond.selects "GutterPagesModel" ⟨"GutterPagesModel", "isPage", "(I)Z"⟩ ⟨"GutterPagesModel", "isPage", "(I)Z"⟩ ∈ lw_tbl := List.mem_of_getElem? (i := 28) (by decide +kernel)
theorem sel_X8_isPanel : Cond.selects "GutterPagesModel" ⟨"GutterPagesModel", "isPanel", "(I)Z"⟩ ⟨"GutterPagesModel", "isPanel", "(I)Z"⟩ ∈ lw_tbl := List.mem_of_getElem? (i := 43) (by decide +kernel)
theorem sel_X8_keeps : Cond.selects "GutterPagesModel" ⟨"GutterPagesModel", "keeps", "()V"⟩ ⟨"GutterPagesModel", "keeps", "()V"⟩ ∈ lw_tbl := List.mem_of_getElem? (i := 30) (by decide +kernel)
theorem sel_X8_laysAll : Cond.selects "GutterPagesModel" ⟨"GutterPagesModel", "laysAll", "()Z"⟩ ⟨"GutterPagesModel", "laysAll", "()Z"⟩ ∈ lw_tbl := List.mem_of_getElem? (i := 32) (by decide +kernel)
theorem sel_X8_laysPage : Cond.selects "GutterPagesModel" ⟨"GutterPagesModel", "laysPage", "(I)Z"⟩ ⟨"GutterPagesModel", "laysPage", "(I)Z"⟩ ∈ lw_tbl := List.mem_of_getElem? (i := 33) (by decide +kernel)
theorem sel_X8_laysRow : Cond.selects "GutterPagesModel" ⟨"GutterPagesModel", "laysRow", "(IIIII)I"⟩ ⟨"GutterPagesModel", "laysRow", "(IIIII)I"⟩ ∈ lw_tbl := List.mem_of_getElem? (i := 34) (by decide +kernel)
theorem sel_X8_leafOf : Cond.selects "GutterPagesModel" ⟨"GutterPagesModel", "leafOf", "(II)I"⟩ ⟨"GutterPagesModel", "leafOf", "(II)I"⟩ ∈ lw_tbl := List.mem_of_getElem? (i := 48) (by decide +kernel)
theorem sel_X8_moved : Cond.selects "GutterPagesModel" ⟨"GutterPagesModel", "moved", "(III)I"⟩ ⟨"GutterPagesModel", "moved", "(III)I"⟩ ∈ lw_tbl := List.mem_of_getElem? (i := 49) (by decide +kernel)
theorem sel_X8_neighbour : Cond.selects "GutterPagesModel" ⟨"GutterPagesModel", "neighbour", "(II)I"⟩ ⟨"GutterPagesModel", "neighbour", "(II)I"⟩ ∈ lw_tbl := List.mem_of_getElem? (i := 45) (by decide +kernel)
theorem sel_X8_places : Cond.selects "GutterPagesModel" ⟨"GutterPagesModel", "places", "(III)Z"⟩ ⟨"GutterPagesModel", "places", "(III)Z"⟩ ∈ lw_tbl := List.mem_of_getElem? (i := 36) (by decide +kernel)
theorem sel_X8_rank : Cond.selects "GutterPagesModel" ⟨"GutterPagesModel", "rank", "(I)I"⟩ ⟨"GutterPagesModel", "rank", "(I)I"⟩ ∈ lw_tbl := List.mem_of_getElem? (i := 42) (by decide +kernel)
theorem sel_X8_stands : Cond.selects "GutterPagesModel" ⟨"GutterPagesModel", "stands", "(III)V"⟩ ⟨"GutterPagesModel", "stands", "(III)V"⟩ ∈ lw_tbl := List.mem_of_getElem? (i := 37) (by decide +kernel)
theorem sel_X8_stays : Cond.selects "GutterPagesModel" ⟨"GutterPagesModel", "stays", "()Z"⟩ ⟨"GutterPagesModel", "stays", "()Z"⟩ ∈ lw_tbl := List.mem_of_getElem? (i := 31) (by decide +kernel)
theorem sel_Jx4a65c_add_72be8 : Cond.selects "java/util/ArrayList" ⟨"java/util/ArrayList", "add", "(Ljava/lang/Object;[Ljava/lang/Object;I)V"⟩ ⟨"java/util/ArrayList", "add", "(Ljava/lang/Object;[Ljava/lang/Object;I)V"⟩ ∈ lw_tbl := List.mem_of_getElem? (i := 2) (by decide +kernel)
theorem sel_Jx4a65c_fastRemove_b59b0 : Cond.selects "java/util/ArrayList" ⟨"java/util/ArrayList", "fastRemove", "([Ljava/lang/Object;I)V"⟩ ⟨"java/util/ArrayList", "fastRemove", "([Ljava/lang/Object;I)V"⟩ ∈ lw_tbl := List.mem_of_getElem? (i := 16) (by decide +kernel)
theorem sel_Jx4a65c_grow_d5877 : Cond.selects "java/util/ArrayList" ⟨"java/util/ArrayList", "grow", "()[Ljava/lang/Object;"⟩ ⟨"java/util/ArrayList", "grow", "()[Ljava/lang/Object;"⟩ ∈ lw_tbl := List.mem_of_getElem? (i := 3) (by decide +kernel)
theorem sel_Jx4a65c_grow_92f84 : Cond.selects "java/util/ArrayList" ⟨"java/util/ArrayList", "grow", "(I)[Ljava/lang/Object;"⟩ ⟨"java/util/ArrayList", "grow", "(I)[Ljava/lang/Object;"⟩ ∈ lw_tbl := List.mem_of_getElem? (i := 4) (by decide +kernel)
theorem sel_Jx4a65c_rangeCheckForAdd_d00df : Cond.selects "java/util/ArrayList" ⟨"java/util/ArrayList", "rangeCheckForAdd", "(I)V"⟩ ⟨"java/util/ArrayList", "rangeCheckForAdd", "(I)V"⟩ ∈ lw_tbl := List.mem_of_getElem? (i := 6) (by decide +kernel)
def M_J15_checkIndex_7cf53 : qM := (yJ15_checkIndex_7cf53, cJ15_checkIndex_7cf53, 2, (some .int), { frames := 10, cells := 0, slots := 0, locals := 280 }, [])
theorem cee_J15_checkIndex_7cf53 : q_cee M_J15_checkIndex_7cf53 := ⟨rfl, wd_135, wd_18, by decide, by decide⟩
theorem np_J15_checkIndex_7cf53 : q_np M_J15_checkIndex_7cf53 2 := by unfold q_np; decide +kernel
def M_J3_checkIndex_8e157 : qM := (yJ3_checkIndex_8e157, cJ3_checkIndex_8e157, 3, (some .int), { frames := 8, cells := 0, slots := 0, locals := 220 }, [])
theorem cee_J3_checkIndex_8e157 : q_cee M_J3_checkIndex_8e157 := ⟨rfl, wd_138, wd_19, by decide, by decide⟩
theorem np_J3_checkIndex_8e157 : q_np M_J3_checkIndex_8e157 3 := by unfold q_np; decide +kernel
def M_J7_copyOf_1904c : qM := (yJ7_copyOf_1904c, cJ7_copyOf_1904c, 2, (some (.array (.object "java/lang/Object"))), { frames := 12, cells := 1, slots := 200, locals := 340 }, [])
theorem cee_J7_copyOf_1904c : q_cee M_J7_copyOf_1904c := ⟨rfl, wd_319, wd_15, by decide, by decide⟩
theorem np_J7_copyOf_1904c : q_np M_J7_copyOf_1904c 2 := by unfold q_np; decide +kernel
def M_J7_copyOf_6403c : qM := (yJ7_copyOf_6403c, cJ7_copyOf_6403c, 4, (some (.array (.object "java/lang/Object"))), { frames := 10, cells := 1, slots := 200, locals := 280 }, [])
theorem cee_J7_copyOf_6403c : q_cee M_J7_copyOf_6403c := ⟨rfl, wd_341, wd_15, by decide, by decide⟩
theorem np_J7_copyOf_6403c : q_np M_J7_copyOf_6403c 3 := by unfold q_np; decide +kernel
def M_J8_newLength_cabcc : qM := (yJ8_newLength_cabcc, cJ8_newLength_cabcc, 4, (some .int), { frames := 10, cells := 0, slots := 0, locals := 280 }, [])
theorem cee_J8_newLength_cabcc : q_cee M_J8_newLength_cabcc := ⟨rfl, wd_309, wd_13, by decide, by decide⟩
theorem np_J8_newLength_cabcc : q_np M_J8_newLength_cabcc 3 := by unfold q_np; decide +kernel
def M_J9_max_7cf53 : qM := (yJ9_max_7cf53, cJ9_max_7cf53, 2, (some .int), { frames := 8, cells := 0, slots := 0, locals := 220 }, [])
theorem cee_J9_max_7cf53 : q_cee M_J9_max_7cf53 := ⟨rfl, wd_312, wd_14, by decide, by decide⟩
theorem np_J9_max_7cf53 : q_np M_J9_max_7cf53 2 := by unfold q_np; decide +kernel
def M_J9_min_7cf53 : qM := (yJ9_min_7cf53, cJ9_min_7cf53, 2, (some .int), { frames := 8, cells := 0, slots := 0, locals := 220 }, [])
theorem cee_J9_min_7cf53 : q_cee M_J9_min_7cf53 := ⟨rfl, wd_347, wd_14, by decide, by decide⟩
theorem np_J9_min_7cf53 : q_np M_J9_min_7cf53 2 := by unfold q_np; decide +kernel
def M_Jx4a65c_add_72be8 : qM := (yJx4a65c_add_72be8, cJx4a65c_add_72be8, 4, (none), { frames := 18, cells := 2, slots := 400, locals := 520 }, [])
theorem cee_Jx4a65c_add_72be8 : q_cee M_Jx4a65c_add_72be8 := ⟨rfl, wd_298, wd_4, by decide, by decide⟩
theorem np_Jx4a65c_add_72be8 : q_np M_Jx4a65c_add_72be8 3 := by unfold q_np; decide +kernel
def M_Jx4a65c_add_7a177 : qM := (yJx4a65c_add_7a177, cJx4a65c_add_7a177, 5, (none), { frames := 18, cells := 2, slots := 400, locals := 520 }, [])
theorem cee_Jx4a65c_add_7a177 : q_cee M_Jx4a65c_add_7a177 := ⟨rfl, wd_507, wd_4, by decide, by decide⟩
theorem np_Jx4a65c_add_7a177 : q_np M_Jx4a65c_add_7a177 2 := by unfold q_np; decide +kernel
def M_Jx4a65c_add_9ea2d : qM := (yJx4a65c_add_9ea2d, cJx4a65c_add_9ea2d, 2, (some .boolean), { frames := 20, cells := 2, slots := 400, locals := 580 }, [])
theorem cee_Jx4a65c_add_9ea2d : q_cee M_Jx4a65c_add_9ea2d := ⟨rfl, wd_294, wd_4, by decide, by decide⟩
theorem np_Jx4a65c_add_9ea2d : q_np M_Jx4a65c_add_9ea2d 1 := by unfold q_np; decide +kernel
def M_Jx4a65c_elementData_915e3 : qM := (yJx4a65c_elementData_915e3, cJx4a65c_elementData_915e3, 2, (some (.object "java/lang/Object")), { frames := 8, cells := 0, slots := 0, locals := 220 }, [])
theorem cee_Jx4a65c_elementData_915e3 : q_cee M_Jx4a65c_elementData_915e3 := ⟨rfl, wd_142, wd_4, by decide, by decide⟩
theorem np_Jx4a65c_elementData_915e3 : q_np M_Jx4a65c_elementData_915e3 1 := by unfold q_np; decide +kernel
def M_Jx4a65c_fastRemove_b59b0 : qM := (yJx4a65c_fastRemove_b59b0, cJx4a65c_fastRemove_b59b0, 4, (none), { frames := 8, cells := 0, slots := 0, locals := 220 }, [])
theorem cee_Jx4a65c_fastRemove_b59b0 : q_cee M_Jx4a65c_fastRemove_b59b0 := ⟨rfl, wd_823, wd_4, by decide, by decide⟩
theorem np_Jx4a65c_fastRemove_b59b0 : q_np M_Jx4a65c_fastRemove_b59b0 2 := by unfold q_np; decide +kernel
def M_Jx4a65c_get_915e3 : qM := (yJx4a65c_get_915e3, cJx4a65c_get_915e3, 2, (some (.object "java/lang/Object")), { frames := 12, cells := 0, slots := 0, locals := 340 }, [])
theorem cee_Jx4a65c_get_915e3 : q_cee M_Jx4a65c_get_915e3 := ⟨rfl, wd_132, wd_4, by decide, by decide⟩
theorem np_Jx4a65c_get_915e3 : q_np M_Jx4a65c_get_915e3 1 := by unfold q_np; decide +kernel
def M_Jx4a65c_grow_92f84 : qM := (yJx4a65c_grow_92f84, cJx4a65c_grow_92f84, 4, (some (.array (.object "java/lang/Object"))), { frames := 14, cells := 1, slots := 200, locals := 400 }, [])
theorem cee_Jx4a65c_grow_92f84 : q_cee M_Jx4a65c_grow_92f84 := ⟨rfl, wd_306, wd_4, by decide, by decide⟩
theorem np_Jx4a65c_grow_92f84 : q_np M_Jx4a65c_grow_92f84 1 := by unfold q_np; decide +kernel
def M_Jx4a65c_grow_d5877 : qM := (yJx4a65c_grow_d5877, cJx4a65c_grow_d5877, 1, (some (.array (.object "java/lang/Object"))), { frames := 16, cells := 2, slots := 400, locals := 460 }, [])
theorem cee_Jx4a65c_grow_d5877 : q_cee M_Jx4a65c_grow_d5877 := ⟨rfl, wd_302, wd_4, by decide, by decide⟩
theorem np_Jx4a65c_grow_d5877 : q_np M_Jx4a65c_grow_d5877 0 := by unfold q_np; decide +kernel
def M_Jx4a65c_init_da8c8 : qM := (yJx4a65c_init_da8c8, cJx4a65c_init_da8c8, 1, (none), { frames := 12, cells := 0, slots := 0, locals := 340 }, [])
theorem cee_Jx4a65c_init_da8c8 : q_cee M_Jx4a65c_init_da8c8 := ⟨rfl, wd_44, wd_4, by decide, by decide⟩
theorem np_Jx4a65c_init_da8c8 : q_np M_Jx4a65c_init_da8c8 0 := by unfold q_np; decide +kernel
def M_Jx4a65c_rangeCheckForAdd_d00df : qM := (yJx4a65c_rangeCheckForAdd_d00df, cJx4a65c_rangeCheckForAdd_d00df, 2, (none), { frames := 8, cells := 0, slots := 0, locals := 220 }, [])
theorem cee_Jx4a65c_rangeCheckForAdd_d00df : q_cee M_Jx4a65c_rangeCheckForAdd_d00df := ⟨rfl, wd_511, wd_4, by decide, by decide⟩
theorem np_Jx4a65c_rangeCheckForAdd_d00df : q_np M_Jx4a65c_rangeCheckForAdd_d00df 1 := by unfold q_np; decide +kernel
def M_Jx4a65c_remove_915e3 : qM := (yJx4a65c_remove_915e3, cJx4a65c_remove_915e3, 4, (some (.object "java/lang/Object")), { frames := 12, cells := 0, slots := 0, locals := 340 }, [])
theorem cee_Jx4a65c_remove_915e3 : q_cee M_Jx4a65c_remove_915e3 := ⟨rfl, wd_819, wd_4, by decide, by decide⟩
theorem np_Jx4a65c_remove_915e3 : q_np M_Jx4a65c_remove_915e3 1 := by unfold q_np; decide +kernel
def M_Jx4a65c_size_8abf5 : qM := (yJx4a65c_size_8abf5, cJx4a65c_size_8abf5, 1, (some .int), { frames := 8, cells := 0, slots := 0, locals := 220 }, [])
theorem cee_Jx4a65c_size_8abf5 : q_cee M_Jx4a65c_size_8abf5 := ⟨rfl, wd_124, wd_4, by decide, by decide⟩
theorem np_Jx4a65c_size_8abf5 : q_np M_Jx4a65c_size_8abf5 0 := by unfold q_np; decide +kernel
def M_Jxa1e45_init_da8c8 : qM := (yJxa1e45_init_da8c8, cJxa1e45_init_da8c8, 1, (none), { frames := 8, cells := 0, slots := 0, locals := 220 }, [])
theorem cee_Jxa1e45_init_da8c8 : q_cee M_Jxa1e45_init_da8c8 := ⟨rfl, wd_50, wd_2, by decide, by decide⟩
theorem np_Jxa1e45_init_da8c8 : q_np M_Jxa1e45_init_da8c8 0 := by unfold q_np; decide +kernel
def M_Jxc12de_init_da8c8 : qM := (yJxc12de_init_da8c8, cJxc12de_init_da8c8, 1, (none), { frames := 10, cells := 0, slots := 0, locals := 280 }, [])
theorem cee_Jxc12de_init_da8c8 : q_cee M_Jxc12de_init_da8c8 := ⟨rfl, wd_47, wd_3, by decide, by decide⟩
theorem np_Jxc12de_init_da8c8 : q_np M_Jxc12de_init_da8c8 0 := by unfold q_np; decide +kernel
def M_X0_goTo : qM := (yX0_goTo, cX0_goTo, 3, (none), { frames := 22, cells := 2, slots := 400, locals := 640 }, [])
theorem cee_X0_goTo : q_cee M_X0_goTo := ⟨rfl, wd_1006, wd_31, by decide, by decide⟩
theorem np_X0_goTo : q_np M_X0_goTo 2 := by unfold q_np; decide +kernel
def M_X0_init : qM := (yX0_init, cX0_init, 4, (none), { frames := 10, cells := 2, slots := 8, locals := 280 }, [])
theorem cee_X0_init : q_cee M_X0_init := ⟨rfl, wd_946, wd_31, by decide, by decide⟩
theorem np_X0_init : q_np M_X0_init 3 := by unfold q_np; decide +kernel
def M_X0_isNearer : qM := (yX0_isNearer, cX0_isNearer, 4, (some .boolean), { frames := 10, cells := 0, slots := 0, locals := 280 }, [])
theorem cee_X0_isNearer : q_cee M_X0_isNearer := ⟨rfl, wd_1136, wd_31, by decide, by decide⟩
theorem np_X0_isNearer : q_np M_X0_isNearer 4 := by unfold q_np; decide +kernel
def M_X0_liesBefore : qM := (yX0_liesBefore, cX0_liesBefore, 5, (some .boolean), { frames := 12, cells := 0, slots := 0, locals := 340 }, [])
theorem cee_X0_liesBefore : q_cee M_X0_liesBefore := ⟨rfl, wd_1132, wd_31, by decide, by decide⟩
theorem np_X0_liesBefore : q_np M_X0_liesBefore 1 := by unfold q_np; decide +kernel
def M_X0_readingKey : qM := (yX0_readingKey, cX0_readingKey, 3, (some .int), { frames := 16, cells := 0, slots := 0, locals := 460 }, [])
theorem cee_X0_readingKey : q_cee M_X0_readingKey := ⟨rfl, wd_869, wd_31, by decide, by decide⟩
theorem np_X0_readingKey : q_np M_X0_readingKey 0 := by unfold q_np; decide +kernel
def M_X1_holds : qM := (yX1_holds, cX1_holds, 3, (some .boolean), { frames := 8, cells := 0, slots := 0, locals := 220 }, [])
theorem cee_X1_holds : q_cee M_X1_holds := ⟨rfl, wd_1094, wd_22, by decide, by decide⟩
theorem np_X1_holds : q_np M_X1_holds 2 := by unfold q_np; decide +kernel
def M_X1_init : qM := (yX1_init, cX1_init, 1, (none), { frames := 8, cells := 0, slots := 0, locals := 220 }, [])
theorem cee_X1_init : q_cee M_X1_init := ⟨rfl, wd_417, wd_22, by decide, by decide⟩
theorem np_X1_init : q_np M_X1_init 0 := by unfold q_np; decide +kernel
def M_X1_isLike : qM := (yX1_isLike, cX1_isLike, 2, (some .boolean), { frames := 8, cells := 0, slots := 0, locals := 220 }, [])
theorem cee_X1_isLike : q_cee M_X1_isLike := ⟨rfl, wd_834, wd_22, by decide, by decide⟩
theorem np_X1_isLike : q_np M_X1_isLike 1 := by unfold q_np; decide +kernel
def M_X1_measure : qM := (yX1_measure, cX1_measure, 2, (some .int), { frames := 8, cells := 0, slots := 0, locals := 220 }, [])
theorem cee_X1_measure : q_cee M_X1_measure := ⟨rfl, wd_1076, wd_22, by decide, by decide⟩
theorem np_X1_measure : q_np M_X1_measure 1 := by unfold q_np; decide +kernel
def M_X1_set : qM := (yX1_set, cX1_set, 2, (none), { frames := 8, cells := 0, slots := 0, locals := 220 }, [])
theorem cee_X1_set : q_cee M_X1_set := ⟨rfl, wd_842, wd_22, by decide, by decide⟩
theorem np_X1_set : q_np M_X1_set 1 := by unfold q_np; decide +kernel
def M_X2_init : qM := (yX2_init, cX2_init, 4, (none), { frames := 8, cells := 0, slots := 0, locals := 220 }, [])
theorem cee_X2_init : q_cee M_X2_init := ⟨rfl, wd_912, wd_30, by decide, by decide⟩
theorem np_X2_init : q_np M_X2_init 3 := by unfold q_np; decide +kernel
def M_X3_bitsOf : qM := (yX3_bitsOf, cX3_bitsOf, 2, (some .int), { frames := 8, cells := 0, slots := 0, locals := 220 }, [])
theorem cee_X3_bitsOf : q_cee M_X3_bitsOf := ⟨rfl, wd_788, wd_5, by decide, by decide⟩
theorem np_X3_bitsOf : q_np M_X3_bitsOf 2 := by unfold q_np; decide +kernel
def M_X3_findSpot : qM := (yX3_findSpot, cX3_findSpot, 10, (some .boolean), { frames := 12, cells := 0, slots := 0, locals := 340 }, [])
theorem cee_X3_findSpot : q_cee M_X3_findSpot := ⟨rfl, wd_801, wd_5, by decide, by decide⟩
theorem np_X3_findSpot : q_np M_X3_findSpot 5 := by unfold q_np; decide +kernel
def M_X3_fitsInto : qM := (yX3_fitsInto, cX3_fitsInto, 7, (some .boolean), { frames := 18, cells := 0, slots := 0, locals := 520 }, [])
theorem cee_X3_fitsInto : q_cee M_X3_fitsInto := ⟨rfl, wd_768, wd_5, by decide, by decide⟩
theorem np_X3_fitsInto : q_np M_X3_fitsInto 4 := by unfold q_np; decide +kernel
def M_X3_growthOf : qM := (yX3_growthOf, cX3_growthOf, 2, (some .int), { frames := 8, cells := 0, slots := 0, locals := 220 }, [])
theorem cee_X3_growthOf : q_cee M_X3_growthOf := ⟨rfl, wd_793, wd_5, by decide, by decide⟩
theorem np_X3_growthOf : q_np M_X3_growthOf 1 := by unfold q_np; decide +kernel
def M_X3_heightOfRow : qM := (yX3_heightOfRow, cX3_heightOfRow, 6, (some .int), { frames := 20, cells := 0, slots := 0, locals := 580 }, [])
theorem cee_X3_heightOfRow : q_cee M_X3_heightOfRow := ⟨rfl, wd_763, wd_5, by decide, by decide⟩
theorem np_X3_heightOfRow : q_np M_X3_heightOfRow 3 := by unfold q_np; decide +kernel
def M_X3_init : qM := (yX3_init, cX3_init, 2, (none), { frames := 8, cells := 2, slots := 19, locals := 220 }, [])
theorem cee_X3_init : q_cee M_X3_init := ⟨rfl, wd_70, wd_5, by decide, by decide⟩
theorem np_X3_init : q_np M_X3_init 0 := by unfold q_np; decide +kernel
def M_X3_placeBalloons : qM := (yX3_placeBalloons, cX3_placeBalloons, 10, (some .boolean), { frames := 16, cells := 0, slots := 0, locals := 460 }, [])
theorem cee_X3_placeBalloons : q_cee M_X3_placeBalloons := ⟨rfl, wd_772, wd_5, by decide, by decide⟩
theorem np_X3_placeBalloons : q_np M_X3_placeBalloons 1 := by unfold q_np; decide +kernel
def M_X3_putRow : qM := (yX3_putRow, cX3_putRow, 7, (none), { frames := 14, cells := 0, slots := 0, locals := 400 }, [])
theorem cee_X3_putRow : q_cee M_X3_putRow := ⟨rfl, wd_811, wd_5, by decide, by decide⟩
theorem np_X3_putRow : q_np M_X3_putRow 4 := by unfold q_np; decide +kernel
def M_X3_shareWidth : qM := (yX3_shareWidth, cX3_shareWidth, 9, (none), { frames := 14, cells := 0, slots := 0, locals := 400 }, [])
theorem cee_X3_shareWidth : q_cee M_X3_shareWidth := ⟨rfl, wd_759, wd_5, by decide, by decide⟩
theorem np_X3_shareWidth : q_np M_X3_shareWidth 4 := by unfold q_np; decide +kernel
def M_X3_take : qM := (yX3_take, cX3_take, 6, (none), { frames := 10, cells := 0, slots := 0, locals := 280 }, [])
theorem cee_X3_take : q_cee M_X3_take := ⟨rfl, wd_785, wd_5, by decide, by decide⟩
theorem np_X3_take : q_np M_X3_take 4 := by unfold q_np; decide +kernel
def M_X3_takeFaces : qM := (yX3_takeFaces, cX3_takeFaces, 5, (none), { frames := 14, cells := 0, slots := 0, locals := 400 }, [])
theorem cee_X3_takeFaces : q_cee M_X3_takeFaces := ⟨rfl, wd_780, wd_5, by decide, by decide⟩
theorem np_X3_takeFaces : q_np M_X3_takeFaces 1 := by unfold q_np; decide +kernel
def M_X3_takenBetween : qM := (yX3_takenBetween, cX3_takenBetween, 5, (some .int), { frames := 10, cells := 0, slots := 0, locals := 280 }, [])
theorem cee_X3_takenBetween : q_cee M_X3_takenBetween := ⟨rfl, wd_805, wd_5, by decide, by decide⟩
theorem np_X3_takenBetween : q_np M_X3_takenBetween 2 := by unfold q_np; decide +kernel
def M_X3_tryPage : qM := (yX3_tryPage, cX3_tryPage, 7, (some .boolean), { frames := 22, cells := 0, slots := 0, locals := 640 }, [])
theorem cee_X3_tryPage : q_cee M_X3_tryPage := ⟨rfl, wd_753, wd_5, by decide, by decide⟩
theorem np_X3_tryPage : q_np M_X3_tryPage 1 := by unfold q_np; decide +kernel
def M_X4_indexOf : qM := (yX4_indexOf, cX4_indexOf, 3, (some .int), { frames := 14, cells := 0, slots := 0, locals := 400 }, [])
theorem cee_X4_indexOf : q_cee M_X4_indexOf := ⟨rfl, wd_861, wd_12, by decide, by decide⟩
theorem np_X4_indexOf : q_np M_X4_indexOf 1 := by unfold q_np; decide +kernel
def M_X4_init : qM := (yX4_init, cX4_init, 2, (none), { frames := 14, cells := 1, slots := 3, locals := 400 }, [])
theorem cee_X4_init : q_cee M_X4_init := ⟨rfl, wd_260, wd_12, by decide, by decide⟩
theorem np_X4_init : q_np M_X4_init 1 := by unfold q_np; decide +kernel
def M_X4_isFromRight : qM := (yX4_isFromRight, cX4_isFromRight, 1, (some .boolean), { frames := 8, cells := 0, slots := 0, locals := 220 }, [])
theorem cee_X4_isFromRight : q_cee M_X4_isFromRight := ⟨rfl, wd_776, wd_12, by decide, by decide⟩
theorem np_X4_isFromRight : q_np M_X4_isFromRight 0 := by unfold q_np; decide +kernel
def M_X4_keepTrial : qM := (yX4_keepTrial, cX4_keepTrial, 4, (some .int), { frames := 16, cells := 0, slots := 0, locals := 460 }, [])
theorem cee_X4_keepTrial : q_cee M_X4_keepTrial := ⟨rfl, wd_828, wd_12, by decide, by decide⟩
theorem np_X4_keepTrial : q_np M_X4_keepTrial 0 := by unfold q_np; decide +kernel
def M_X4_putIn : qM := (yX4_putIn, cX4_putIn, 3, (none), { frames := 20, cells := 2, slots := 400, locals := 580 }, [])
theorem cee_X4_putIn : q_cee M_X4_putIn := ⟨rfl, wd_502, wd_12, by decide, by decide⟩
theorem np_X4_putIn : q_np M_X4_putIn 2 := by unfold q_np; decide +kernel
def M_X4_takeOut : qM := (yX4_takeOut, cX4_takeOut, 2, (none), { frames := 14, cells := 0, slots := 0, locals := 400 }, [])
theorem cee_X4_takeOut : q_cee M_X4_takeOut := ⟨rfl, wd_815, wd_12, by decide, by decide⟩
theorem np_X4_takeOut : q_np M_X4_takeOut 1 := by unfold q_np; decide +kernel
def M_X5_dropLastFace : qM := (yX5_dropLastFace, cX5_dropLastFace, 1, (none), { frames := 14, cells := 0, slots := 0, locals := 400 }, [])
theorem cee_X5_dropLastFace : q_cee M_X5_dropLastFace := ⟨rfl, wd_933, wd_21, by decide, by decide⟩
theorem np_X5_dropLastFace : q_np M_X5_dropLastFace 0 := by unfold q_np; decide +kernel
def M_X5_hasFaceAt : qM := (yX5_hasFaceAt, cX5_hasFaceAt, 5, (some .boolean), { frames := 14, cells := 0, slots := 0, locals := 400 }, [])
theorem cee_X5_hasFaceAt : q_cee M_X5_hasFaceAt := ⟨rfl, wd_1098, wd_21, by decide, by decide⟩
theorem np_X5_hasFaceAt : q_np M_X5_hasFaceAt 2 := by unfold q_np; decide +kernel
def M_X5_indexOf : qM := (yX5_indexOf, cX5_indexOf, 3, (some .int), { frames := 14, cells := 0, slots := 0, locals := 400 }, [])
theorem cee_X5_indexOf : q_cee M_X5_indexOf := ⟨rfl, wd_874, wd_21, by decide, by decide⟩
theorem np_X5_indexOf : q_np M_X5_indexOf 1 := by unfold q_np; decide +kernel
def M_X5_init : qM := (yX5_init, cX5_init, 6, (none), { frames := 14, cells := 4, slots := 14, locals := 400 }, [])
theorem cee_X5_init : q_cee M_X5_init := ⟨rfl, wd_409, wd_21, by decide, by decide⟩
theorem np_X5_init : q_np M_X5_init 5 := by unfold q_np; decide +kernel
def M_X5_keepTrial : qM := (yX5_keepTrial, cX5_keepTrial, 2, (none), { frames := 14, cells := 0, slots := 0, locals := 400 }, [])
theorem cee_X5_keepTrial : q_cee M_X5_keepTrial := ⟨rfl, wd_838, wd_21, by decide, by decide⟩
theorem np_X5_keepTrial : q_np M_X5_keepTrial 0 := by unfold q_np; decide +kernel
def M_X5_leave : qM := (yX5_leave, cX5_leave, 2, (none), { frames := 14, cells := 0, slots := 0, locals := 400 }, [])
theorem cee_X5_leave : q_cee M_X5_leave := ⟨rfl, wd_895, wd_21, by decide, by decide⟩
theorem np_X5_leave : q_np M_X5_leave 0 := by unfold q_np; decide +kernel
def M_X5_putIn : qM := (yX5_putIn, cX5_putIn, 3, (none), { frames := 20, cells := 2, slots := 400, locals := 580 }, [])
theorem cee_X5_putIn : q_cee M_X5_putIn := ⟨rfl, wd_983, wd_21, by decide, by decide⟩
theorem np_X5_putIn : q_np M_X5_putIn 2 := by unfold q_np; decide +kernel
def M_X5_takeOut : qM := (yX5_takeOut, cX5_takeOut, 2, (none), { frames := 14, cells := 0, slots := 0, locals := 400 }, [])
theorem cee_X5_takeOut : q_cee M_X5_takeOut := ⟨rfl, wd_988, wd_21, by decide, by decide⟩
theorem np_X5_takeOut : q_np M_X5_takeOut 1 := by unfold q_np; decide +kernel
def M_X6_beginAt : qM := (yX6_beginAt, cX6_beginAt, 2, (none), { frames := 8, cells := 0, slots := 0, locals := 220 }, [])
theorem cee_X6_beginAt : q_cee M_X6_beginAt := ⟨rfl, wd_157, wd_6, by decide, by decide⟩
theorem np_X6_beginAt : q_np M_X6_beginAt 1 := by unfold q_np; decide +kernel
def M_X6_forget : qM := (yX6_forget, cX6_forget, 5, (none), { frames := 8, cells := 0, slots := 0, locals := 220 }, [])
theorem cee_X6_forget : q_cee M_X6_forget := ⟨rfl, wd_899, wd_6, by decide, by decide⟩
theorem np_X6_forget : q_np M_X6_forget 2 := by unfold q_np; decide +kernel
def M_X6_goBack : qM := (yX6_goBack, cX6_goBack, 1, (some .boolean), { frames := 8, cells := 0, slots := 0, locals := 220 }, [])
theorem cee_X6_goBack : q_cee M_X6_goBack := ⟨rfl, wd_176, wd_6, by decide, by decide⟩
theorem np_X6_goBack : q_np M_X6_goBack 0 := by unfold q_np; decide +kernel
def M_X6_goTo : qM := (yX6_goTo, cX6_goTo, 2, (none), { frames := 8, cells := 0, slots := 0, locals := 220 }, [])
theorem cee_X6_goTo : q_cee M_X6_goTo := ⟨rfl, wd_168, wd_6, by decide, by decide⟩
theorem np_X6_goTo : q_np M_X6_goTo 1 := by unfold q_np; decide +kernel
def M_X6_init : qM := (yX6_init, cX6_init, 1, (none), { frames := 8, cells := 1, slots := 512, locals := 220 }, [])
theorem cee_X6_init : q_cee M_X6_init := ⟨rfl, wd_85, wd_6, by decide, by decide⟩
theorem np_X6_init : q_np M_X6_init 0 := by unfold q_np; decide +kernel
def M_X7_answer : qM := (yX7_answer, cX7_answer, 6, (some .int), { frames := 18, cells := 3, slots := 18, locals := 520 }, [])
theorem cee_X7_answer : q_cee M_X7_answer := ⟨rfl, wd_1028, wd_1, by decide, by decide⟩
theorem np_X7_answer : q_np M_X7_answer 2 := by unfold q_np; decide +kernel
def M_X7_answersComeLater : qM := (yX7_answersComeLater, cX7_answersComeLater, 3, (some .boolean), { frames := 18, cells := 0, slots := 0, locals := 520 }, [])
theorem cee_X7_answersComeLater : q_cee M_X7_answersComeLater := ⟨rfl, wd_865, wd_1, by decide, by decide⟩
theorem np_X7_answersComeLater : q_np M_X7_answersComeLater 0 := by unfold q_np; decide +kernel
def M_X7_back : qM := (yX7_back, cX7_back, 1, (some .int), { frames := 10, cells := 0, slots := 0, locals := 280 }, [])
theorem cee_X7_back : q_cee M_X7_back := ⟨rfl, wd_172, wd_1, by decide, by decide⟩
theorem np_X7_back : q_np M_X7_back 0 := by unfold q_np; decide +kernel
def M_X7_balloon : qM := (yX7_balloon, cX7_balloon, 6, (some .int), { frames := 24, cells := 12, slots := 845, locals := 700 }, [])
theorem cee_X7_balloon : q_cee M_X7_balloon := ⟨rfl, wd_941, wd_1, by decide, by decide⟩
theorem np_X7_balloon : q_np M_X7_balloon 3 := by unfold q_np; decide +kernel
def M_X7_balloonReadAt : qM := (yX7_balloonReadAt, cX7_balloonReadAt, 7, (some (.object "GutterPages$Balloon")), { frames := 14, cells := 0, slots := 0, locals := 400 }, [])
theorem cee_X7_balloonReadAt : q_cee M_X7_balloonReadAt := ⟨rfl, wd_1110, wd_1, by decide, by decide⟩
theorem np_X7_balloonReadAt : q_np M_X7_balloonReadAt 1 := by unfold q_np; decide +kernel
def M_X7_balloons : qM := (yX7_balloons, cX7_balloons, 3, (some .int), { frames := 14, cells := 0, slots := 0, locals := 400 }, [])
theorem cee_X7_balloons : q_cee M_X7_balloons := ⟨rfl, wd_128, wd_1, by decide, by decide⟩
theorem np_X7_balloons : q_np M_X7_balloons 0 := by unfold q_np; decide +kernel
def M_X7_beside : qM := (yX7_beside, cX7_beside, 7, (some .int), { frames := 20, cells := 2, slots := 12, locals := 580 }, [])
theorem cee_X7_beside : q_cee M_X7_beside := ⟨rfl, wd_1193, wd_1, by decide, by decide⟩
theorem np_X7_beside : q_np M_X7_beside 2 := by unfold q_np; decide +kernel
def M_X7_cell : qM := (yX7_cell, cX7_cell, 6, (some .int), { frames := 16, cells := 3, slots := 18, locals := 460 }, [])
theorem cee_X7_cell : q_cee M_X7_cell := ⟨rfl, wd_1090, wd_1, by decide, by decide⟩
theorem np_X7_cell : q_np M_X7_cell 3 := by unfold q_np; decide +kernel
def M_X7_countReadBefore : qM := (yX7_countReadBefore, cX7_countReadBefore, 6, (some .int), { frames := 18, cells := 0, slots := 0, locals := 520 }, [])
theorem cee_X7_countReadBefore : q_cee M_X7_countReadBefore := ⟨rfl, wd_1121, wd_1, by decide, by decide⟩
theorem np_X7_countReadBefore : q_np M_X7_countReadBefore 1 := by unfold q_np; decide +kernel
def M_X7_cutBalloon : qM := (yX7_cutBalloon, cX7_cutBalloon, 5, (some .int), { frames := 24, cells := 5, slots := 418, locals := 700 }, [])
theorem cee_X7_cutBalloon : q_cee M_X7_cutBalloon := ⟨rfl, wd_1016, wd_1, by decide, by decide⟩
theorem np_X7_cutBalloon : q_np M_X7_cutBalloon 1 := by unfold q_np; decide +kernel
def M_X7_cutPanel : qM := (yX7_cutPanel, cX7_cutPanel, 6, (some .int), { frames := 24, cells := 5, slots := 418, locals := 700 }, [])
theorem cee_X7_cutPanel : q_cee M_X7_cutPanel := ⟨rfl, wd_882, wd_1, by decide, by decide⟩
theorem np_X7_cutPanel : q_np M_X7_cutPanel 1 := by unfold q_np; decide +kernel
def M_X7_depth : qM := (yX7_depth, cX7_depth, 5, (some .int), { frames := 16, cells := 1, slots := 6, locals := 460 }, [])
theorem cee_X7_depth : q_cee M_X7_depth := ⟨rfl, wd_1144, wd_1, by decide, by decide⟩
theorem np_X7_depth : q_np M_X7_depth 1 := by unfold q_np; decide +kernel
def M_X7_face : qM := (yX7_face, cX7_face, 6, (some .int), { frames := 24, cells := 9, slots := 439, locals := 700 }, [])
theorem cee_X7_face : q_cee M_X7_face := ⟨rfl, wd_906, wd_1, by decide, by decide⟩
theorem np_X7_face : q_np M_X7_face 4 := by unfold q_np; decide +kernel
def M_X7_floats : qM := (yX7_floats, cX7_floats, 4, (some .int), { frames := 16, cells := 2, slots := 12, locals := 460 }, [])
theorem cee_X7_floats : q_cee M_X7_floats := ⟨rfl, wd_1083, wd_1, by decide, by decide⟩
theorem np_X7_floats : q_np M_X7_floats 2 := by unfold q_np; decide +kernel
def M_X7_forth : qM := (yX7_forth, cX7_forth, 2, (some .int), { frames := 16, cells := 0, slots := 0, locals := 460 }, [])
theorem cee_X7_forth : q_cee M_X7_forth := ⟨rfl, wd_164, wd_1, by decide, by decide⟩
theorem np_X7_forth : q_np M_X7_forth 0 := by unfold q_np; decide +kernel
def M_X7_here : qM := (yX7_here, cX7_here, 1, (some .int), { frames := 10, cells := 0, slots := 0, locals := 280 }, [])
theorem cee_X7_here : q_cee M_X7_here := ⟨rfl, wd_180, wd_1, by decide, by decide⟩
theorem np_X7_here : q_np M_X7_here 0 := by unfold q_np; decide +kernel
def M_X7_init : qM := (yX7_init, cX7_init, 1, (none), { frames := 14, cells := 8, slots := 545, locals := 400 }, [])
theorem cee_X7_init : q_cee M_X7_init := ⟨rfl, wd_36, wd_1, by decide, by decide⟩
theorem np_X7_init : q_np M_X7_init 0 := by unfold q_np; decide +kernel
def M_X7_isAnswered : qM := (yX7_isAnswered, cX7_isAnswered, 4, (some .boolean), { frames := 14, cells := 0, slots := 0, locals := 400 }, [])
theorem cee_X7_isAnswered : q_cee M_X7_isAnswered := ⟨rfl, wd_1020, wd_1, by decide, by decide⟩
theorem np_X7_isAnswered : q_np M_X7_isAnswered 1 := by unfold q_np; decide +kernel
def M_X7_isAnsweredFromElsewhere : qM := (yX7_isAnsweredFromElsewhere, cX7_isAnsweredFromElsewhere, 4, (some .boolean), { frames := 14, cells := 0, slots := 0, locals := 400 }, [])
theorem cee_X7_isAnsweredFromElsewhere : q_cee M_X7_isAnsweredFromElsewhere := ⟨rfl, wd_886, wd_1, by decide, by decide⟩
theorem np_X7_isAnsweredFromElsewhere : q_np M_X7_isAnsweredFromElsewhere 1 := by unfold q_np; decide +kernel
def M_X7_isSpread : qM := (yX7_isSpread, cX7_isSpread, 2, (some .boolean), { frames := 14, cells := 0, slots := 0, locals := 400 }, [])
theorem cee_X7_isSpread : q_cee M_X7_isSpread := ⟨rfl, wd_1155, wd_1, by decide, by decide⟩
theorem np_X7_isSpread : q_np M_X7_isSpread 1 := by unfold q_np; decide +kernel
def M_X7_jump : qM := (yX7_jump, cX7_jump, 2, (some .int), { frames := 16, cells := 1, slots := 6, locals := 460 }, [])
theorem cee_X7_jump : q_cee M_X7_jump := ⟨rfl, wd_1208, wd_1, by decide, by decide⟩
theorem np_X7_jump : q_np M_X7_jump 1 := by unfold q_np; decide +kernel
def M_X7_leaf : qM := (yX7_leaf, cX7_leaf, 3, (some .int), { frames := 20, cells := 2, slots := 12, locals := 580 }, [])
theorem cee_X7_leaf : q_cee M_X7_leaf := ⟨rfl, wd_1186, wd_1, by decide, by decide⟩
theorem np_X7_leaf : q_np M_X7_leaf 2 := by unfold q_np; decide +kernel
def M_X7_leafOf : qM := (yX7_leafOf, cX7_leafOf, 5, (some .int), { frames := 18, cells := 0, slots := 0, locals := 520 }, [])
theorem cee_X7_leafOf : q_cee M_X7_leafOf := ⟨rfl, wd_1171, wd_1, by decide, by decide⟩
theorem np_X7_leafOf : q_np M_X7_leafOf 2 := by unfold q_np; decide +kernel
def M_X7_leafOfSpread : qM := (yX7_leafOfSpread, cX7_leafOfSpread, 5, (some .int), { frames := 16, cells := 0, slots := 0, locals := 460 }, [])
theorem cee_X7_leafOfSpread : q_cee M_X7_leafOfSpread := ⟨rfl, wd_1175, wd_1, by decide, by decide⟩
theorem np_X7_leafOfSpread : q_np M_X7_leafOfSpread 3 := by unfold q_np; decide +kernel
def M_X7_leaves : qM := (yX7_leaves, cX7_leaves, 3, (some .int), { frames := 20, cells := 1, slots := 6, locals := 580 }, [])
theorem cee_X7_leaves : q_cee M_X7_leaves := ⟨rfl, wd_1163, wd_1, by decide, by decide⟩
theorem np_X7_leaves : q_np M_X7_leaves 1 := by unfold q_np; decide +kernel
def M_X7_lies : qM := (yX7_lies, cX7_lies, 4, (some .int), { frames := 16, cells := 2, slots := 12, locals := 460 }, [])
theorem cee_X7_lies : q_cee M_X7_lies := ⟨rfl, wd_1072, wd_1, by decide, by decide⟩
theorem np_X7_lies : q_np M_X7_lies 2 := by unfold q_np; decide +kernel
def M_X7_moveBalloon : qM := (yX7_moveBalloon, cX7_moveBalloon, 8, (none), { frames := 24, cells := 9, slots := 830, locals := 700 }, [])
theorem cee_X7_moveBalloon : q_cee M_X7_moveBalloon := ⟨rfl, wd_995, wd_1, by decide, by decide⟩
theorem np_X7_moveBalloon : q_np M_X7_moveBalloon 3 := by unfold q_np; decide +kernel
def M_X7_movePanel : qM := (yX7_movePanel, cX7_movePanel, 6, (some .int), { frames := 24, cells := 7, slots := 818, locals := 700 }, [])
theorem cee_X7_movePanel : q_cee M_X7_movePanel := ⟨rfl, wd_852, wd_1, by decide, by decide⟩
theorem np_X7_movePanel : q_np M_X7_movePanel 2 := by unfold q_np; decide +kernel
def M_X7_needBalloon : qM := (yX7_needBalloon, cX7_needBalloon, 2, (some (.object "GutterPages$Balloon")), { frames := 14, cells := 1, slots := 6, locals := 400 }, [])
theorem cee_X7_needBalloon : q_cee M_X7_needBalloon := ⟨rfl, wd_999, wd_1, by decide, by decide⟩
theorem np_X7_needBalloon : q_np M_X7_needBalloon 1 := by unfold q_np; decide +kernel
def M_X7_needPage : qM := (yX7_needPage, cX7_needPage, 2, (some (.object "GutterPages$Page")), { frames := 14, cells := 1, slots := 6, locals := 400 }, [])
theorem cee_X7_needPage : q_cee M_X7_needPage := ⟨rfl, wd_365, wd_1, by decide, by decide⟩
theorem np_X7_needPage : q_np M_X7_needPage 1 := by unfold q_np; decide +kernel
def M_X7_needPanel : qM := (yX7_needPanel, cX7_needPanel, 2, (some (.object "GutterPages$Panel")), { frames := 14, cells := 1, slots := 6, locals := 400 }, [])
theorem cee_X7_needPanel : q_cee M_X7_needPanel := ⟨rfl, wd_856, wd_1, by decide, by decide⟩
theorem np_X7_needPanel : q_np M_X7_needPanel 1 := by unfold q_np; decide +kernel
def M_X7_needPlace : qM := (yX7_needPlace, cX7_needPlace, 2, (none), { frames := 8, cells := 1, slots := 6, locals := 220 }, [])
theorem cee_X7_needPlace : q_cee M_X7_needPlace := ⟨rfl, wd_384, wd_1, by decide, by decide⟩
theorem np_X7_needPlace : q_np M_X7_needPlace 2 := by unfold q_np; decide +kernel
def M_X7_needSignature : qM := (yX7_needSignature, cX7_needSignature, 1, (none), { frames := 8, cells := 1, slots := 6, locals := 220 }, [])
theorem cee_X7_needSignature : q_cee M_X7_needSignature := ⟨rfl, wd_1166, wd_1, by decide, by decide⟩
theorem np_X7_needSignature : q_np M_X7_needSignature 1 := by unfold q_np; decide +kernel
def M_X7_needWithin : qM := (yX7_needWithin, cX7_needWithin, 3, (none), { frames := 8, cells := 1, slots := 6, locals := 220 }, [])
theorem cee_X7_needWithin : q_cee M_X7_needWithin := ⟨rfl, wd_388, wd_1, by decide, by decide⟩
theorem np_X7_needWithin : q_np M_X7_needWithin 3 := by unfold q_np; decide +kernel
def M_X7_numberOf : qM := (yX7_numberOf, cX7_numberOf, 1, (some .int), { frames := 8, cells := 0, slots := 0, locals := 220 }, [])
theorem cee_X7_numberOf : q_cee M_X7_numberOf := ⟨rfl, wd_160, wd_1, by decide, by decide⟩
theorem np_X7_numberOf : q_np M_X7_numberOf 1 := by unfold q_np; decide +kernel
def M_X7_open : qM := (yX7_open, cX7_open, 1, (some .int), { frames := 16, cells := 0, slots := 0, locals := 460 }, [])
theorem cee_X7_open : q_cee M_X7_open := ⟨rfl, wd_147, wd_1, by decide, by decide⟩
theorem np_X7_open : q_np M_X7_open 0 := by unfold q_np; decide +kernel
def M_X7_page : qM := (yX7_page, cX7_page, 2, (some .int), { frames := 22, cells := 5, slots := 415, locals := 640 }, [])
theorem cee_X7_page : q_cee M_X7_page := ⟨rfl, wd_188, wd_1, by decide, by decide⟩
theorem np_X7_page : q_np M_X7_page 0 := by unfold q_np; decide +kernel
def M_X7_pages : qM := (yX7_pages, cX7_pages, 1, (some .int), { frames := 10, cells := 0, slots := 0, locals := 280 }, [])
theorem cee_X7_pages : q_cee M_X7_pages := ⟨rfl, wd_120, wd_1, by decide, by decide⟩
theorem np_X7_pages : q_np M_X7_pages 0 := by unfold q_np; decide +kernel
def M_X7_panel : qM := (yX7_panel, cX7_panel, 8, (some .int), { frames := 24, cells := 16, slots := 868, locals := 700 }, [])
theorem cee_X7_panel : q_cee M_X7_panel := ⟨rfl, wd_361, wd_1, by decide, by decide⟩
theorem np_X7_panel : q_np M_X7_panel 5 := by unfold q_np; decide +kernel
def M_X7_panelAt : qM := (yX7_panelAt, cX7_panelAt, 4, (some .int), { frames := 16, cells := 2, slots := 12, locals := 460 }, [])
theorem cee_X7_panelAt : q_cee M_X7_panelAt := ⟨rfl, wd_1065, wd_1, by decide, by decide⟩
theorem np_X7_panelAt : q_np M_X7_panelAt 2 := by unfold q_np; decide +kernel
def M_X7_panels : qM := (yX7_panels, cX7_panels, 2, (some .int), { frames := 16, cells := 1, slots := 6, locals := 460 }, [])
theorem cee_X7_panels : q_cee M_X7_panels := ⟨rfl, wd_1058, wd_1, by decide, by decide⟩
theorem np_X7_panels : q_np M_X7_panels 1 := by unfold q_np; decide +kernel
def M_X7_placeByPairs : qM := (yX7_placeByPairs, cX7_placeByPairs, 6, (some .int), { frames := 16, cells := 1, slots := 6, locals := 460 }, [])
theorem cee_X7_placeByPairs : q_cee M_X7_placeByPairs := ⟨rfl, wd_1128, wd_1, by decide, by decide⟩
theorem np_X7_placeByPairs : q_np M_X7_placeByPairs 1 := by unfold q_np; decide +kernel
def M_X7_placeOf : qM := (yX7_placeOf, cX7_placeOf, 2, (some .int), { frames := 20, cells := 1, slots := 6, locals := 580 }, [])
theorem cee_X7_placeOf : q_cee M_X7_placeOf := ⟨rfl, wd_1117, wd_1, by decide, by decide⟩
theorem np_X7_placeOf : q_np M_X7_placeOf 1 := by unfold q_np; decide +kernel
def M_X7_read : qM := (yX7_read, cX7_read, 3, (some .int), { frames := 16, cells := 1, slots := 6, locals := 460 }, [])
theorem cee_X7_read : q_cee M_X7_read := ⟨rfl, wd_1106, wd_1, by decide, by decide⟩
theorem np_X7_read : q_np M_X7_read 1 := by unfold q_np; decide +kernel
def M_X7_readAheadOf : qM := (yX7_readAheadOf, cX7_readAheadOf, 6, (some (.object "GutterPages$Panel")), { frames := 14, cells := 0, slots := 0, locals := 400 }, [])
theorem cee_X7_readAheadOf : q_cee M_X7_readAheadOf := ⟨rfl, wd_891, wd_1, by decide, by decide⟩
theorem np_X7_readAheadOf : q_np M_X7_readAheadOf 1 := by unfold q_np; decide +kernel
def M_X7_readBehind : qM := (yX7_readBehind, cX7_readBehind, 6, (some (.object "GutterPages$Panel")), { frames := 14, cells := 0, slots := 0, locals := 400 }, [])
theorem cee_X7_readBehind : q_cee M_X7_readBehind := ⟨rfl, wd_151, wd_1, by decide, by decide⟩
theorem np_X7_readBehind : q_np M_X7_readBehind 1 := by unfold q_np; decide +kernel
def M_X7_remainder : qM := (yX7_remainder, cX7_remainder, 2, (some .int), { frames := 8, cells := 0, slots := 0, locals := 220 }, [])
theorem cee_X7_remainder : q_cee M_X7_remainder := ⟨rfl, wd_1178, wd_1, by decide, by decide⟩
theorem np_X7_remainder : q_np M_X7_remainder 2 := by unfold q_np; decide +kernel
def M_X7_roundedUp : qM := (yX7_roundedUp, cX7_roundedUp, 2, (some .int), { frames := 8, cells := 0, slots := 0, locals := 220 }, [])
theorem cee_X7_roundedUp : q_cee M_X7_roundedUp := ⟨rfl, wd_796, wd_1, by decide, by decide⟩
theorem np_X7_roundedUp : q_np M_X7_roundedUp 2 := by unfold q_np; decide +kernel
def M_X7_rows : qM := (yX7_rows, cX7_rows, 2, (some .int), { frames := 16, cells := 1, slots := 6, locals := 460 }, [])
theorem cee_X7_rows : q_cee M_X7_rows := ⟨rfl, wd_1051, wd_1, by decide, by decide⟩
theorem np_X7_rows : q_np M_X7_rows 1 := by unfold q_np; decide +kernel
def M_X7_setGrowth : qM := (yX7_setGrowth, cX7_setGrowth, 6, (some .int), { frames := 24, cells := 3, slots := 18, locals := 700 }, [])
theorem cee_X7_setGrowth : q_cee M_X7_setGrowth := ⟨rfl, wd_1043, wd_1, by decide, by decide⟩
theorem np_X7_setGrowth : q_np M_X7_setGrowth 2 := by unfold q_np; decide +kernel
def M_X7_sheet : qM := (yX7_sheet, cX7_sheet, 4, (some .int), { frames := 20, cells := 2, slots := 12, locals := 580 }, [])
theorem cee_X7_sheet : q_cee M_X7_sheet := ⟨rfl, wd_1200, wd_1, by decide, by decide⟩
theorem np_X7_sheet : q_np M_X7_sheet 2 := by unfold q_np; decide +kernel
def M_X7_spread : qM := (yX7_spread, cX7_spread, 3, (some .boolean), { frames := 16, cells := 3, slots := 18, locals := 460 }, [])
theorem cee_X7_spread : q_cee M_X7_spread := ⟨rfl, wd_1151, wd_1, by decide, by decide⟩
theorem np_X7_spread : q_np M_X7_spread 1 := by unfold q_np; decide +kernel
def M_X7_translate : qM := (yX7_translate, cX7_translate, 5, (some .int), { frames := 24, cells := 3, slots := 18, locals := 700 }, [])
theorem cee_X7_translate : q_cee M_X7_translate := ⟨rfl, wd_1036, wd_1, by decide, by decide⟩
theorem np_X7_translate : q_np M_X7_translate 2 := by unfold q_np; decide +kernel
def M_X7_turned : qM := (yX7_turned, cX7_turned, 4, (some .int), { frames := 8, cells := 0, slots := 0, locals := 220 }, [])
theorem cee_X7_turned : q_cee M_X7_turned := ⟨rfl, wd_808, wd_1, by decide, by decide⟩
theorem np_X7_turned : q_np M_X7_turned 4 := by unfold q_np; decide +kernel
def M_X8_answer : qM := (yX8_answer, cX8_answer, 4, (some .int), { frames := 14, cells := 0, slots := 0, locals := 400 }, [])
theorem cee_X8_answer : q_cee M_X8_answer := ⟨rfl, wd_1458, wd_7, by decide, by decide⟩
theorem np_X8_answer : q_np M_X8_answer 2 := by unfold q_np; decide +kernel
def M_X8_areAnswered : qM := (yX8_areAnswered, cX8_areAnswered, 3, (some .boolean), { frames := 14, cells := 0, slots := 0, locals := 400 }, [])
theorem cee_X8_areAnswered : q_cee M_X8_areAnswered := ⟨rfl, wd_1400, wd_7, by decide, by decide⟩
theorem np_X8_areAnswered : q_np M_X8_areAnswered 0 := by unfold q_np; decide +kernel
def M_X8_back : qM := (yX8_back, cX8_back, 1, (some .int), { frames := 8, cells := 0, slots := 0, locals := 220 }, [])
theorem cee_X8_back : q_cee M_X8_back := ⟨rfl, wd_1570, wd_7, by decide, by decide⟩
theorem np_X8_back : q_np M_X8_back 0 := by unfold q_np; decide +kernel
def M_X8_balloon : qM := (yX8_balloon, cX8_balloon, 4, (some .int), { frames := 20, cells := 0, slots := 0, locals := 580 }, [])
theorem cee_X8_balloon : q_cee M_X8_balloon := ⟨rfl, wd_1442, wd_7, by decide, by decide⟩
theorem np_X8_balloon : q_np M_X8_balloon 3 := by unfold q_np; decide +kernel
def M_X8_balloons : qM := (yX8_balloons, cX8_balloons, 3, (some .int), { frames := 8, cells := 0, slots := 0, locals := 220 }, [])
theorem cee_X8_balloons : q_cee M_X8_balloons := ⟨rfl, wd_1498, wd_7, by decide, by decide⟩
theorem np_X8_balloons : q_np M_X8_balloons 0 := by unfold q_np; decide +kernel
def M_X8_before : qM := (yX8_before, cX8_before, 4, (some .int), { frames := 14, cells := 0, slots := 0, locals := 400 }, [])
theorem cee_X8_before : q_cee M_X8_before := ⟨rfl, wd_1506, wd_7, by decide, by decide⟩
theorem np_X8_before : q_np M_X8_before 1 := by unfold q_np; decide +kernel
def M_X8_beside : qM := (yX8_beside, cX8_beside, 7, (some .int), { frames := 12, cells := 0, slots := 0, locals := 340 }, [])
theorem cee_X8_beside : q_cee M_X8_beside := ⟨rfl, wd_1546, wd_7, by decide, by decide⟩
theorem np_X8_beside : q_np M_X8_beside 2 := by unfold q_np; decide +kernel
def M_X8_cell : qM := (yX8_cell, cX8_cell, 4, (some .int), { frames := 12, cells := 0, slots := 0, locals := 340 }, [])
theorem cee_X8_cell : q_cee M_X8_cell := ⟨rfl, wd_1494, wd_7, by decide, by decide⟩
theorem np_X8_cell : q_np M_X8_cell 3 := by unfold q_np; decide +kernel
def M_X8_changed : qM := (yX8_changed, cX8_changed, 7, (some .int), { frames := 8, cells := 0, slots := 0, locals := 220 }, [])
theorem cee_X8_changed : q_cee M_X8_changed := ⟨rfl, wd_1426, wd_7, by decide, by decide⟩
theorem np_X8_changed : q_np M_X8_changed 1 := by unfold q_np; decide +kernel
def M_X8_copies : qM := (yX8_copies, cX8_copies, 3, (none), { frames := 8, cells := 0, slots := 0, locals := 220 }, [])
theorem cee_X8_copies : q_cee M_X8_copies := ⟨rfl, wd_1357, wd_7, by decide, by decide⟩
theorem np_X8_copies : q_np M_X8_copies 2 := by unfold q_np; decide +kernel
def M_X8_cutBalloon : qM := (yX8_cutBalloon, cX8_cutBalloon, 4, (some .int), { frames := 20, cells := 0, slots := 0, locals := 580 }, [])
theorem cee_X8_cutBalloon : q_cee M_X8_cutBalloon := ⟨rfl, wd_1454, wd_7, by decide, by decide⟩
theorem np_X8_cutBalloon : q_np M_X8_cutBalloon 1 := by unfold q_np; decide +kernel
def M_X8_cutPanel : qM := (yX8_cutPanel, cX8_cutPanel, 9, (some .int), { frames := 20, cells := 0, slots := 0, locals := 580 }, [])
theorem cee_X8_cutPanel : q_cee M_X8_cutPanel := ⟨rfl, wd_1430, wd_7, by decide, by decide⟩
theorem np_X8_cutPanel : q_np M_X8_cutPanel 1 := by unfold q_np; decide +kernel
def M_X8_depth : qM := (yX8_depth, cX8_depth, 4, (some .int), { frames := 12, cells := 0, slots := 0, locals := 340 }, [])
theorem cee_X8_depth : q_cee M_X8_depth := ⟨rfl, wd_1519, wd_7, by decide, by decide⟩
theorem np_X8_depth : q_np M_X8_depth 1 := by unfold q_np; decide +kernel
def M_X8_face : qM := (yX8_face, cX8_face, 6, (some .int), { frames := 20, cells := 0, slots := 0, locals := 580 }, [])
theorem cee_X8_face : q_cee M_X8_face := ⟨rfl, wd_1438, wd_7, by decide, by decide⟩
theorem np_X8_face : q_np M_X8_face 4 := by unfold q_np; decide +kernel
def M_X8_fails : qM := (yX8_fails, cX8_fails, 2, (some .int), { frames := 8, cells := 0, slots := 0, locals := 220 }, [])
theorem cee_X8_fails : q_cee M_X8_fails := ⟨rfl, wd_1350, wd_7, by decide, by decide⟩
theorem np_X8_fails : q_np M_X8_fails 1 := by unfold q_np; decide +kernel
def M_X8_find : qM := (yX8_find, cX8_find, 4, (some .int), { frames := 8, cells := 0, slots := 0, locals := 220 }, [])
theorem cee_X8_find : q_cee M_X8_find := ⟨rfl, wd_1407, wd_7, by decide, by decide⟩
theorem np_X8_find : q_np M_X8_find 3 := by unfold q_np; decide +kernel
def M_X8_floats : qM := (yX8_floats, cX8_floats, 3, (some .int), { frames := 12, cells := 0, slots := 0, locals := 340 }, [])
theorem cee_X8_floats : q_cee M_X8_floats := ⟨rfl, wd_1490, wd_7, by decide, by decide⟩
theorem np_X8_floats : q_np M_X8_floats 2 := by unfold q_np; decide +kernel
def M_X8_forth : qM := (yX8_forth, cX8_forth, 2, (some .int), { frames := 14, cells := 0, slots := 0, locals := 400 }, [])
theorem cee_X8_forth : q_cee M_X8_forth := ⟨rfl, wd_1558, wd_7, by decide, by decide⟩
theorem np_X8_forth : q_np M_X8_forth 0 := by unfold q_np; decide +kernel
def M_X8_goesTo : qM := (yX8_goesTo, cX8_goesTo, 2, (none), { frames := 8, cells := 0, slots := 0, locals := 220 }, [])
theorem cee_X8_goesTo : q_cee M_X8_goesTo := ⟨rfl, wd_1562, wd_7, by decide, by decide⟩
theorem np_X8_goesTo : q_np M_X8_goesTo 1 := by unfold q_np; decide +kernel
def M_X8_grown : qM := (yX8_grown, cX8_grown, 3, (some .int), { frames := 8, cells := 0, slots := 0, locals := 220 }, [])
theorem cee_X8_grown : q_cee M_X8_grown := ⟨rfl, wd_1392, wd_7, by decide, by decide⟩
theorem np_X8_grown : q_np M_X8_grown 2 := by unfold q_np; decide +kernel
def M_X8_here : qM := (yX8_here, cX8_here, 1, (some .int), { frames := 8, cells := 0, slots := 0, locals := 220 }, [])
theorem cee_X8_here : q_cee M_X8_here := ⟨rfl, wd_1574, wd_7, by decide, by decide⟩
theorem np_X8_here : q_np M_X8_here 0 := by unfold q_np; decide +kernel
def M_X8_in : qM := (yX8_in, cX8_in, 3, (some .boolean), { frames := 8, cells := 0, slots := 0, locals := 220 }, [])
theorem cee_X8_in : q_cee M_X8_in := ⟨rfl, wd_1346, wd_7, by decide, by decide⟩
theorem np_X8_in : q_np M_X8_in 3 := by unfold q_np; decide +kernel
def M_X8_init : qM := (yX8_init, cX8_init, 2, (none), { frames := 8, cells := 31, slots := 11092, locals := 220 }, [])
theorem cee_X8_init : q_cee M_X8_init := ⟨rfl, wd_1213, wd_7, by decide, by decide⟩
theorem np_X8_init : q_np M_X8_init 0 := by unfold q_np; decide +kernel
def M_X8_inserts : qM := (yX8_inserts, cX8_inserts, 6, (none), { frames := 8, cells := 0, slots := 0, locals := 220 }, [])
theorem cee_X8_inserts : q_cee M_X8_inserts := ⟨rfl, wd_1360, wd_7, by decide, by decide⟩
theorem np_X8_inserts : q_np M_X8_inserts 5 := by unfold q_np; decide +kernel
def M_X8_isBalloon : qM := (yX8_isBalloon, cX8_isBalloon, 2, (some .boolean), { frames := 10, cells := 0, slots := 0, locals := 280 }, [])
theorem cee_X8_isBalloon : q_cee M_X8_isBalloon := ⟨rfl, wd_1450, wd_7, by decide, by decide⟩
theorem np_X8_isBalloon : q_np M_X8_isBalloon 1 := by unfold q_np; decide +kernel
def M_X8_isBefore : qM := (yX8_isBefore, cX8_isBefore, 5, (some .boolean), { frames := 12, cells := 0, slots := 0, locals := 340 }, [])
theorem cee_X8_isBefore : q_cee M_X8_isBefore := ⟨rfl, wd_1404, wd_7, by decide, by decide⟩
theorem np_X8_isBefore : q_np M_X8_isBefore 2 := by unfold q_np; decide +kernel
def M_X8_isFree : qM := (yX8_isFree, cX8_isFree, 8, (some .boolean), { frames := 8, cells := 0, slots := 0, locals := 220 }, [])
theorem cee_X8_isFree : q_cee M_X8_isFree := ⟨rfl, wd_1396, wd_7, by decide, by decide⟩
theorem np_X8_isFree : q_np M_X8_isFree 5 := by unfold q_np; decide +kernel
def M_X8_isFromRight : qM := (yX8_isFromRight, cX8_isFromRight, 2, (some .boolean), { frames := 8, cells := 0, slots := 0, locals := 220 }, [])
theorem cee_X8_isFromRight : q_cee M_X8_isFromRight := ⟨rfl, wd_1380, wd_7, by decide, by decide⟩
theorem np_X8_isFromRight : q_np M_X8_isFromRight 1 := by unfold q_np; decide +kernel
def M_X8_isPage : qM := (yX8_isPage, cX8_isPage, 2, (some .boolean), { frames := 10, cells := 0, slots := 0, locals := 280 }, [])
theorem cee_X8_isPage : q_cee M_X8_isPage := ⟨rfl, wd_1343, wd_7, by decide, by decide⟩
theorem np_X8_isPage : q_np M_X8_isPage 1 := by unfold q_np; decide +kernel
def M_X8_isPanel : qM := (yX8_isPanel, cX8_isPanel, 2, (some .boolean), { frames := 10, cells := 0, slots := 0, locals := 280 }, [])
theorem cee_X8_isPanel : q_cee M_X8_isPanel := ⟨rfl, wd_1419, wd_7, by decide, by decide⟩
theorem np_X8_isPanel : q_np M_X8_isPanel 1 := by unfold q_np; decide +kernel
def M_X8_isSize : qM := (yX8_isSize, cX8_isSize, 1, (some .boolean), { frames := 8, cells := 0, slots := 0, locals := 220 }, [])
theorem cee_X8_isSize : q_cee M_X8_isSize := ⟨rfl, wd_1530, wd_7, by decide, by decide⟩
theorem np_X8_isSize : q_np M_X8_isSize 1 := by unfold q_np; decide +kernel
def M_X8_jump : qM := (yX8_jump, cX8_jump, 2, (some .int), { frames := 12, cells := 0, slots := 0, locals := 340 }, [])
theorem cee_X8_jump : q_cee M_X8_jump := ⟨rfl, wd_1566, wd_7, by decide, by decide⟩
theorem np_X8_jump : q_np M_X8_jump 1 := by unfold q_np; decide +kernel
def M_X8_keeps : qM := (yX8_keeps, cX8_keeps, 1, (none), { frames := 10, cells := 0, slots := 0, locals := 280 }, [])
theorem cee_X8_keeps : q_cee M_X8_keeps := ⟨rfl, wd_1354, wd_7, by decide, by decide⟩
theorem np_X8_keeps : q_np M_X8_keeps 0 := by unfold q_np; decide +kernel
def M_X8_laysAll : qM := (yX8_laysAll, cX8_laysAll, 3, (some .boolean), { frames := 16, cells := 0, slots := 0, locals := 460 }, [])
theorem cee_X8_laysAll : q_cee M_X8_laysAll := ⟨rfl, wd_1368, wd_7, by decide, by decide⟩
theorem np_X8_laysAll : q_np M_X8_laysAll 0 := by unfold q_np; decide +kernel
def M_X8_laysPage : qM := (yX8_laysPage, cX8_laysPage, 7, (some .boolean), { frames := 14, cells := 0, slots := 0, locals := 400 }, [])
theorem cee_X8_laysPage : q_cee M_X8_laysPage := ⟨rfl, wd_1372, wd_7, by decide, by decide⟩
theorem np_X8_laysPage : q_np M_X8_laysPage 1 := by unfold q_np; decide +kernel
def M_X8_laysRow : qM := (yX8_laysRow, cX8_laysRow, 14, (some .int), { frames := 12, cells := 0, slots := 0, locals := 340 }, [])
theorem cee_X8_laysRow : q_cee M_X8_laysRow := ⟨rfl, wd_1376, wd_7, by decide, by decide⟩
theorem np_X8_laysRow : q_np M_X8_laysRow 5 := by unfold q_np; decide +kernel
def M_X8_leaf : qM := (yX8_leaf, cX8_leaf, 3, (some .int), { frames := 12, cells := 0, slots := 0, locals := 340 }, [])
theorem cee_X8_leaf : q_cee M_X8_leaf := ⟨rfl, wd_1542, wd_7, by decide, by decide⟩
theorem np_X8_leaf : q_np M_X8_leaf 2 := by unfold q_np; decide +kernel
def M_X8_leafOf : qM := (yX8_leafOf, cX8_leafOf, 5, (some .int), { frames := 10, cells := 0, slots := 0, locals := 280 }, [])
theorem cee_X8_leafOf : q_cee M_X8_leafOf := ⟨rfl, wd_1534, wd_7, by decide, by decide⟩
theorem np_X8_leafOf : q_np M_X8_leafOf 2 := by unfold q_np; decide +kernel
def M_X8_leaves : qM := (yX8_leaves, cX8_leaves, 2, (some .int), { frames := 12, cells := 0, slots := 0, locals := 340 }, [])
theorem cee_X8_leaves : q_cee M_X8_leaves := ⟨rfl, wd_1527, wd_7, by decide, by decide⟩
theorem np_X8_leaves : q_np M_X8_leaves 1 := by unfold q_np; decide +kernel
def M_X8_lies : qM := (yX8_lies, cX8_lies, 3, (some .int), { frames := 12, cells := 0, slots := 0, locals := 340 }, [])
theorem cee_X8_lies : q_cee M_X8_lies := ⟨rfl, wd_1486, wd_7, by decide, by decide⟩
theorem np_X8_lies : q_np M_X8_lies 2 := by unfold q_np; decide +kernel
def M_X8_moveBalloon : qM := (yX8_moveBalloon, cX8_moveBalloon, 6, (none), { frames := 20, cells := 0, slots := 0, locals := 580 }, [])
theorem cee_X8_moveBalloon : q_cee M_X8_moveBalloon := ⟨rfl, wd_1446, wd_7, by decide, by decide⟩
theorem np_X8_moveBalloon : q_np M_X8_moveBalloon 3 := by unfold q_np; decide +kernel
def M_X8_movePanel : qM := (yX8_movePanel, cX8_movePanel, 4, (some .int), { frames := 20, cells := 0, slots := 0, locals := 580 }, [])
theorem cee_X8_movePanel : q_cee M_X8_movePanel := ⟨rfl, wd_1415, wd_7, by decide, by decide⟩
theorem np_X8_movePanel : q_np M_X8_movePanel 2 := by unfold q_np; decide +kernel
def M_X8_moved : qM := (yX8_moved, cX8_moved, 5, (some .int), { frames := 8, cells := 0, slots := 0, locals := 220 }, [])
theorem cee_X8_moved : q_cee M_X8_moved := ⟨rfl, wd_1538, wd_7, by decide, by decide⟩
theorem np_X8_moved : q_np M_X8_moved 3 := by unfold q_np; decide +kernel
def M_X8_neighbour : qM := (yX8_neighbour, cX8_neighbour, 7, (some .int), { frames := 12, cells := 0, slots := 0, locals := 340 }, [])
theorem cee_X8_neighbour : q_cee M_X8_neighbour := ⟨rfl, wd_1434, wd_7, by decide, by decide⟩
theorem np_X8_neighbour : q_np M_X8_neighbour 2 := by unfold q_np; decide +kernel
def M_X8_open : qM := (yX8_open, cX8_open, 2, (some .int), { frames := 12, cells := 0, slots := 0, locals := 340 }, [])
theorem cee_X8_open : q_cee M_X8_open := ⟨rfl, wd_1554, wd_7, by decide, by decide⟩
theorem np_X8_open : q_np M_X8_open 0 := by unfold q_np; decide +kernel
def M_X8_page : qM := (yX8_page, cX8_page, 1, (some .int), { frames := 8, cells := 0, slots := 0, locals := 220 }, [])
theorem cee_X8_page : q_cee M_X8_page := ⟨rfl, wd_1335, wd_7, by decide, by decide⟩
theorem np_X8_page : q_np M_X8_page 0 := by unfold q_np; decide +kernel
def M_X8_pages : qM := (yX8_pages, cX8_pages, 1, (some .int), { frames := 8, cells := 0, slots := 0, locals := 220 }, [])
theorem cee_X8_pages : q_cee M_X8_pages := ⟨rfl, wd_1470, wd_7, by decide, by decide⟩
theorem np_X8_pages : q_np M_X8_pages 0 := by unfold q_np; decide +kernel
def M_X8_panel : qM := (yX8_panel, cX8_panel, 6, (some .int), { frames := 20, cells := 0, slots := 0, locals := 580 }, [])
theorem cee_X8_panel : q_cee M_X8_panel := ⟨rfl, wd_1339, wd_7, by decide, by decide⟩
theorem np_X8_panel : q_np M_X8_panel 5 := by unfold q_np; decide +kernel
def M_X8_panelAt : qM := (yX8_panelAt, cX8_panelAt, 3, (some .int), { frames := 12, cells := 0, slots := 0, locals := 340 }, [])
theorem cee_X8_panelAt : q_cee M_X8_panelAt := ⟨rfl, wd_1482, wd_7, by decide, by decide⟩
theorem np_X8_panelAt : q_np M_X8_panelAt 2 := by unfold q_np; decide +kernel
def M_X8_panels : qM := (yX8_panels, cX8_panels, 2, (some .int), { frames := 12, cells := 0, slots := 0, locals := 340 }, [])
theorem cee_X8_panels : q_cee M_X8_panels := ⟨rfl, wd_1478, wd_7, by decide, by decide⟩
theorem np_X8_panels : q_np M_X8_panels 1 := by unfold q_np; decide +kernel
def M_X8_placeByPairs : qM := (yX8_placeByPairs, cX8_placeByPairs, 2, (some .int), { frames := 18, cells := 0, slots := 0, locals := 520 }, [])
theorem cee_X8_placeByPairs : q_cee M_X8_placeByPairs := ⟨rfl, wd_1514, wd_7, by decide, by decide⟩
theorem np_X8_placeByPairs : q_np M_X8_placeByPairs 1 := by unfold q_np; decide +kernel
def M_X8_placeOf : qM := (yX8_placeOf, cX8_placeOf, 2, (some .int), { frames := 16, cells := 0, slots := 0, locals := 460 }, [])
theorem cee_X8_placeOf : q_cee M_X8_placeOf := ⟨rfl, wd_1510, wd_7, by decide, by decide⟩
theorem np_X8_placeOf : q_np M_X8_placeOf 1 := by unfold q_np; decide +kernel
def M_X8_places : qM := (yX8_places, cX8_places, 15, (some .boolean), { frames := 10, cells := 0, slots := 0, locals := 280 }, [])
theorem cee_X8_places : q_cee M_X8_places := ⟨rfl, wd_1384, wd_7, by decide, by decide⟩
theorem np_X8_places : q_np M_X8_places 3 := by unfold q_np; decide +kernel
def M_X8_rank : qM := (yX8_rank, cX8_rank, 3, (some .int), { frames := 10, cells := 0, slots := 0, locals := 280 }, [])
theorem cee_X8_rank : q_cee M_X8_rank := ⟨rfl, wd_1411, wd_7, by decide, by decide⟩
theorem np_X8_rank : q_np M_X8_rank 1 := by unfold q_np; decide +kernel
def M_X8_read : qM := (yX8_read, cX8_read, 4, (some .int), { frames := 16, cells := 0, slots := 0, locals := 460 }, [])
theorem cee_X8_read : q_cee M_X8_read := ⟨rfl, wd_1502, wd_7, by decide, by decide⟩
theorem np_X8_read : q_np M_X8_read 1 := by unfold q_np; decide +kernel
def M_X8_removes : qM := (yX8_removes, cX8_removes, 5, (none), { frames := 8, cells := 0, slots := 0, locals := 220 }, [])
theorem cee_X8_removes : q_cee M_X8_removes := ⟨rfl, wd_1422, wd_7, by decide, by decide⟩
theorem np_X8_removes : q_np M_X8_removes 4 := by unfold q_np; decide +kernel
def M_X8_rows : qM := (yX8_rows, cX8_rows, 2, (some .int), { frames := 12, cells := 0, slots := 0, locals := 340 }, [])
theorem cee_X8_rows : q_cee M_X8_rows := ⟨rfl, wd_1474, wd_7, by decide, by decide⟩
theorem np_X8_rows : q_np M_X8_rows 1 := by unfold q_np; decide +kernel
def M_X8_setGrowth : qM := (yX8_setGrowth, cX8_setGrowth, 3, (some .int), { frames := 20, cells := 0, slots := 0, locals := 580 }, [])
theorem cee_X8_setGrowth : q_cee M_X8_setGrowth := ⟨rfl, wd_1466, wd_7, by decide, by decide⟩
theorem np_X8_setGrowth : q_np M_X8_setGrowth 2 := by unfold q_np; decide +kernel
def M_X8_sheet : qM := (yX8_sheet, cX8_sheet, 5, (some .int), { frames := 12, cells := 0, slots := 0, locals := 340 }, [])
theorem cee_X8_sheet : q_cee M_X8_sheet := ⟨rfl, wd_1550, wd_7, by decide, by decide⟩
theorem np_X8_sheet : q_np M_X8_sheet 2 := by unfold q_np; decide +kernel
def M_X8_spread : qM := (yX8_spread, cX8_spread, 3, (some .boolean), { frames := 12, cells := 0, slots := 0, locals := 340 }, [])
theorem cee_X8_spread : q_cee M_X8_spread := ⟨rfl, wd_1523, wd_7, by decide, by decide⟩
theorem np_X8_spread : q_np M_X8_spread 1 := by unfold q_np; decide +kernel
def M_X8_stands : qM := (yX8_stands, cX8_stands, 8, (none), { frames := 8, cells := 0, slots := 0, locals := 220 }, [])
theorem cee_X8_stands : q_cee M_X8_stands := ⟨rfl, wd_1388, wd_7, by decide, by decide⟩
theorem np_X8_stands : q_np M_X8_stands 3 := by unfold q_np; decide +kernel
def M_X8_stays : qM := (yX8_stays, cX8_stays, 1, (some .boolean), { frames := 18, cells := 0, slots := 0, locals := 520 }, [])
theorem cee_X8_stays : q_cee M_X8_stays := ⟨rfl, wd_1364, wd_7, by decide, by decide⟩
theorem np_X8_stays : q_np M_X8_stays 0 := by unfold q_np; decide +kernel
def M_X8_thrown : qM := (yX8_thrown, cX8_thrown, 1, (some .int), { frames := 8, cells := 0, slots := 0, locals := 220 }, [])
theorem cee_X8_thrown : q_cee M_X8_thrown := ⟨rfl, wd_1331, wd_7, by decide, by decide⟩
theorem np_X8_thrown : q_np M_X8_thrown 0 := by unfold q_np; decide +kernel
def M_X8_translate : qM := (yX8_translate, cX8_translate, 3, (some .int), { frames := 20, cells := 0, slots := 0, locals := 580 }, [])
theorem cee_X8_translate : q_cee M_X8_translate := ⟨rfl, wd_1462, wd_7, by decide, by decide⟩
theorem np_X8_translate : q_np M_X8_translate 2 := by unfold q_np; decide +kernel
